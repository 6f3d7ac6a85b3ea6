section
/-- a private method of a class that the tables say can be made, by its rows of tables_1 -/
def lw_okq (q : MethodName × Nat) : Prop := (q.1.cls ≠ "java/lang/invoke/MethodHandle" ∧ q.1.cls ≠ "java/lang/invoke/VarHandle") ∧ Cond.instantiable q.1.cls q.2 ∈ tables_1 ∧ Cond.privateMethod q.1 ∈ tables_1 ∧ Cond.instanceMethod q.1 ∈ tables_1
theorem lw_p0 : lw_okq (⟨"FloodBasins", "pitsAfterChange", "()I"⟩, 11) := ⟨⟨by decide +kernel, by decide +kernel⟩, List.mem_of_getElem? (i := 13) (by decide +kernel), List.mem_of_getElem? (i := 261) (by decide +kernel), List.mem_of_getElem? (i := 262) (by decide +kernel)⟩
theorem lw_p1 : lw_okq (⟨"FloodBasins", "nothingStands", "()V"⟩, 11) := ⟨⟨by decide +kernel, by decide +kernel⟩, List.mem_of_getElem? (i := 13) (by decide +kernel), List.mem_of_getElem? (i := 265) (by decide +kernel), List.mem_of_getElem? (i := 266) (by decide +kernel)⟩
theorem lw_p2 : lw_okq (⟨"FloodBasins", "findPits", "(Z)I"⟩, 11) := ⟨⟨by decide +kernel, by decide +kernel⟩, List.mem_of_getElem? (i := 13) (by decide +kernel), List.mem_of_getElem? (i := 269) (by decide +kernel), List.mem_of_getElem? (i := 270) (by decide +kernel)⟩
theorem lw_p3 : lw_okq (⟨"FloodBasins$Spread", "reach", "(LFloodBasins$Terrain;III)V"⟩, 3) := ⟨⟨by decide +kernel, by decide +kernel⟩, List.mem_of_getElem? (i := 63) (by decide +kernel), List.mem_of_getElem? (i := 286) (by decide +kernel), List.mem_of_getElem? (i := 287) (by decide +kernel)⟩
theorem lw_p4 : lw_okq (⟨"FloodBasins", "standingFlood", "()LFloodBasins$Flood;"⟩, 11) := ⟨⟨by decide +kernel, by decide +kernel⟩, List.mem_of_getElem? (i := 13) (by decide +kernel), List.mem_of_getElem? (i := 347) (by decide +kernel), List.mem_of_getElem? (i := 348) (by decide +kernel)⟩
theorem lw_p5 : lw_okq (⟨"FloodBasins$Flood", "startAtMarks", "(LFloodBasins$Terrain;)V"⟩, 5) := ⟨⟨by decide +kernel, by decide +kernel⟩, List.mem_of_getElem? (i := 80) (by decide +kernel), List.mem_of_getElem? (i := 360) (by decide +kernel), List.mem_of_getElem? (i := 361) (by decide +kernel)⟩
theorem lw_p6 : lw_okq (⟨"FloodBasins$Flood", "lineUpAround", "(LFloodBasins$Terrain;I)V"⟩, 5) := ⟨⟨by decide +kernel, by decide +kernel⟩, List.mem_of_getElem? (i := 80) (by decide +kernel), List.mem_of_getElem? (i := 364) (by decide +kernel), List.mem_of_getElem? (i := 365) (by decide +kernel)⟩
theorem lw_p7 : lw_okq (⟨"FloodBasins", "standingPour", "()LFloodBasins$Pour;"⟩, 11) := ⟨⟨by decide +kernel, by decide +kernel⟩, List.mem_of_getElem? (i := 13) (by decide +kernel), List.mem_of_getElem? (i := 386) (by decide +kernel), List.mem_of_getElem? (i := 387) (by decide +kernel)⟩
theorem lw_p8 : lw_okq (⟨"FloodBasins$Pour", "measure", "(LFloodBasins$Terrain;)V"⟩, 12) := ⟨⟨by decide +kernel, by decide +kernel⟩, List.mem_of_getElem? (i := 124) (by decide +kernel), List.mem_of_getElem? (i := 397) (by decide +kernel), List.mem_of_getElem? (i := 398) (by decide +kernel)⟩
theorem lw_p9 : lw_okq (⟨"FloodBasins$Pour", "passesOverDam", "(LFloodBasins$Terrain;I)V"⟩, 12) := ⟨⟨by decide +kernel, by decide +kernel⟩, List.mem_of_getElem? (i := 124) (by decide +kernel), List.mem_of_getElem? (i := 402) (by decide +kernel), List.mem_of_getElem? (i := 403) (by decide +kernel)⟩
theorem lw_p10 : lw_okq (⟨"FloodBasins$Pour", "notePass", "(III)V"⟩, 12) := ⟨⟨by decide +kernel, by decide +kernel⟩, List.mem_of_getElem? (i := 124) (by decide +kernel), List.mem_of_getElem? (i := 407) (by decide +kernel), List.mem_of_getElem? (i := 408) (by decide +kernel)⟩
theorem lw_p11 : lw_okq (⟨"FloodBasins$Pour", "noteWayOut", "(III)V"⟩, 12) := ⟨⟨by decide +kernel, by decide +kernel⟩, List.mem_of_getElem? (i := 124) (by decide +kernel), List.mem_of_getElem? (i := 411) (by decide +kernel), List.mem_of_getElem? (i := 412) (by decide +kernel)⟩
theorem lw_p12 : lw_okq (⟨"FloodBasins$Pour", "passesBeside", "(LFloodBasins$Terrain;I)V"⟩, 12) := ⟨⟨by decide +kernel, by decide +kernel⟩, List.mem_of_getElem? (i := 124) (by decide +kernel), List.mem_of_getElem? (i := 416) (by decide +kernel), List.mem_of_getElem? (i := 417) (by decide +kernel)⟩
theorem lw_p13 : lw_okq (⟨"FloodBasins$Pour", "fillWaters", "(LFloodBasins$Terrain;)V"⟩, 12) := ⟨⟨by decide +kernel, by decide +kernel⟩, List.mem_of_getElem? (i := 124) (by decide +kernel), List.mem_of_getElem? (i := 422) (by decide +kernel), List.mem_of_getElem? (i := 423) (by decide +kernel)⟩
theorem lw_p14 : lw_okq (⟨"FloodBasins$Pour", "nextToPour", "(II)I"⟩, 12) := ⟨⟨by decide +kernel, by decide +kernel⟩, List.mem_of_getElem? (i := 124) (by decide +kernel), List.mem_of_getElem? (i := 426) (by decide +kernel), List.mem_of_getElem? (i := 427) (by decide +kernel)⟩
theorem lw_p15 : lw_okq (⟨"FloodBasins$Pour", "pourOut", "(LFloodBasins$Terrain;I)V"⟩, 12) := ⟨⟨by decide +kernel, by decide +kernel⟩, List.mem_of_getElem? (i := 124) (by decide +kernel), List.mem_of_getElem? (i := 434) (by decide +kernel), List.mem_of_getElem? (i := 435) (by decide +kernel)⟩
def lw_privs_1 : List (MethodName × Nat) := [(⟨"FloodBasins", "pitsAfterChange", "()I"⟩, 11), (⟨"FloodBasins", "nothingStands", "()V"⟩, 11), (⟨"FloodBasins", "findPits", "(Z)I"⟩, 11), (⟨"FloodBasins$Spread", "reach", "(LFloodBasins$Terrain;III)V"⟩, 3), (⟨"FloodBasins", "standingFlood", "()LFloodBasins$Flood;"⟩, 11), (⟨"FloodBasins$Flood", "startAtMarks", "(LFloodBasins$Terrain;)V"⟩, 5), (⟨"FloodBasins$Flood", "lineUpAround", "(LFloodBasins$Terrain;I)V"⟩, 5), (⟨"FloodBasins", "standingPour", "()LFloodBasins$Pour;"⟩, 11), (⟨"FloodBasins$Pour", "measure", "(LFloodBasins$Terrain;)V"⟩, 12), (⟨"FloodBasins$Pour", "passesOverDam", "(LFloodBasins$Terrain;I)V"⟩, 12), (⟨"FloodBasins$Pour", "notePass", "(III)V"⟩, 12), (⟨"FloodBasins$Pour", "noteWayOut", "(III)V"⟩, 12), (⟨"FloodBasins$Pour", "passesBeside", "(LFloodBasins$Terrain;I)V"⟩, 12), (⟨"FloodBasins$Pour", "fillWaters", "(LFloodBasins$Terrain;)V"⟩, 12), (⟨"FloodBasins$Pour", "nextToPour", "(II)I"⟩, 12), (⟨"FloodBasins$Pour", "pourOut", "(LFloodBasins$Terrain;I)V"⟩, 12)]
theorem lw_r1 : ∀ q ∈ lw_privs_1, lw_okq q := List.forall_mem_cons.mpr ⟨lw_p0, List.forall_mem_cons.mpr ⟨lw_p1, List.forall_mem_cons.mpr ⟨lw_p2, List.forall_mem_cons.mpr ⟨lw_p3, List.forall_mem_cons.mpr ⟨lw_p4, List.forall_mem_cons.mpr ⟨lw_p5, List.forall_mem_cons.mpr ⟨lw_p6, List.forall_mem_cons.mpr ⟨lw_p7, List.forall_mem_cons.mpr ⟨lw_p8, List.forall_mem_cons.mpr ⟨lw_p9, List.forall_mem_cons.mpr ⟨lw_p10, List.forall_mem_cons.mpr ⟨lw_p11, List.forall_mem_cons.mpr ⟨lw_p12, List.forall_mem_cons.mpr ⟨lw_p13, List.forall_mem_cons.mpr ⟨lw_p14, List.forall_mem_cons.mpr ⟨lw_p15, fun _ h => absurd h List.not_mem_nil⟩⟩⟩⟩⟩⟩⟩⟩⟩⟩⟩⟩⟩⟩⟩⟩
theorem lw_p16 : lw_okq (⟨"FloodBasins$Pour", "breakDams", "(LFloodBasins$Terrain;)I"⟩, 12) := ⟨⟨by decide +kernel, by decide +kernel⟩, List.mem_of_getElem? (i := 124) (by decide +kernel), List.mem_of_getElem? (i := 438) (by decide +kernel), List.mem_of_getElem? (i := 439) (by decide +kernel)⟩
theorem lw_p17 : lw_okq (⟨"FloodBasins$Pour", "touches", "(LFloodBasins$Terrain;II)Z"⟩, 12) := ⟨⟨by decide +kernel, by decide +kernel⟩, List.mem_of_getElem? (i := 124) (by decide +kernel), List.mem_of_getElem? (i := 468) (by decide +kernel), List.mem_of_getElem? (i := 469) (by decide +kernel)⟩
theorem lw_p18 : lw_okq (⟨"FloodBasins", "standingTree", "()LFloodBasins$Pour;"⟩, 11) := ⟨⟨by decide +kernel, by decide +kernel⟩, List.mem_of_getElem? (i := 13) (by decide +kernel), List.mem_of_getElem? (i := 484) (by decide +kernel), List.mem_of_getElem? (i := 485) (by decide +kernel)⟩
theorem lw_p19 : lw_okq (⟨"FloodBasins", "leastLevelBetween", "(II)I"⟩, 11) := ⟨⟨by decide +kernel, by decide +kernel⟩, List.mem_of_getElem? (i := 13) (by decide +kernel), List.mem_of_getElem? (i := 492) (by decide +kernel), List.mem_of_getElem? (i := 493) (by decide +kernel)⟩
theorem lw_p20 : lw_okq (⟨"FloodBasinsModel", "layPits", "()I"⟩, 20) := ⟨⟨by decide +kernel, by decide +kernel⟩, List.mem_of_getElem? (i := 548) (by decide +kernel), List.mem_of_getElem? (i := 623) (by decide +kernel), List.mem_of_getElem? (i := 624) (by decide +kernel)⟩
theorem lw_p21 : lw_okq (⟨"FloodBasinsModel", "dots", "()I"⟩, 20) := ⟨⟨by decide +kernel, by decide +kernel⟩, List.mem_of_getElem? (i := 548) (by decide +kernel), List.mem_of_getElem? (i := 627) (by decide +kernel), List.mem_of_getElem? (i := 628) (by decide +kernel)⟩
theorem lw_p22 : lw_okq (⟨"FloodBasinsModel", "spread", "(IIZ)I"⟩, 20) := ⟨⟨by decide +kernel, by decide +kernel⟩, List.mem_of_getElem? (i := 548) (by decide +kernel), List.mem_of_getElem? (i := 631) (by decide +kernel), List.mem_of_getElem? (i := 632) (by decide +kernel)⟩
theorem lw_p23 : lw_okq (⟨"FloodBasinsModel", "beside", "(II)I"⟩, 20) := ⟨⟨by decide +kernel, by decide +kernel⟩, List.mem_of_getElem? (i := 548) (by decide +kernel), List.mem_of_getElem? (i := 635) (by decide +kernel), List.mem_of_getElem? (i := 636) (by decide +kernel)⟩
theorem lw_p24 : lw_okq (⟨"FloodBasinsModel", "isDot", "(II)Z"⟩, 20) := ⟨⟨by decide +kernel, by decide +kernel⟩, List.mem_of_getElem? (i := 548) (by decide +kernel), List.mem_of_getElem? (i := 639) (by decide +kernel), List.mem_of_getElem? (i := 640) (by decide +kernel)⟩
theorem lw_p25 : lw_okq (⟨"FloodBasinsModel", "at", "(II)I"⟩, 20) := ⟨⟨by decide +kernel, by decide +kernel⟩, List.mem_of_getElem? (i := 548) (by decide +kernel), List.mem_of_getElem? (i := 643) (by decide +kernel), List.mem_of_getElem? (i := 644) (by decide +kernel)⟩
theorem lw_p26 : lw_okq (⟨"FloodBasinsModel", "leastBeside", "(I)I"⟩, 20) := ⟨⟨by decide +kernel, by decide +kernel⟩, List.mem_of_getElem? (i := 548) (by decide +kernel), List.mem_of_getElem? (i := 647) (by decide +kernel), List.mem_of_getElem? (i := 648) (by decide +kernel)⟩
theorem lw_p27 : lw_okq (⟨"FloodBasinsModel", "pourAsTold", "()V"⟩, 20) := ⟨⟨by decide +kernel, by decide +kernel⟩, List.mem_of_getElem? (i := 548) (by decide +kernel), List.mem_of_getElem? (i := 681) (by decide +kernel), List.mem_of_getElem? (i := 682) (by decide +kernel)⟩
theorem lw_p28 : lw_okq (⟨"FloodBasinsModel", "pour", "(II)V"⟩, 20) := ⟨⟨by decide +kernel, by decide +kernel⟩, List.mem_of_getElem? (i := 548) (by decide +kernel), List.mem_of_getElem? (i := 685) (by decide +kernel), List.mem_of_getElem? (i := 686) (by decide +kernel)⟩
theorem lw_p29 : lw_okq (⟨"FloodBasinsModel", "flood", "()V"⟩, 20) := ⟨⟨by decide +kernel, by decide +kernel⟩, List.mem_of_getElem? (i := 548) (by decide +kernel), List.mem_of_getElem? (i := 689) (by decide +kernel), List.mem_of_getElem? (i := 690) (by decide +kernel)⟩
theorem lw_p30 : lw_okq (⟨"FloodBasinsModel", "spill", "(I)V"⟩, 20) := ⟨⟨by decide +kernel, by decide +kernel⟩, List.mem_of_getElem? (i := 548) (by decide +kernel), List.mem_of_getElem? (i := 693) (by decide +kernel), List.mem_of_getElem? (i := 694) (by decide +kernel)⟩
theorem lw_p31 : lw_okq (⟨"FloodBasinsModel", "first", "()I"⟩, 20) := ⟨⟨by decide +kernel, by decide +kernel⟩, List.mem_of_getElem? (i := 548) (by decide +kernel), List.mem_of_getElem? (i := 697) (by decide +kernel), List.mem_of_getElem? (i := 698) (by decide +kernel)⟩
def lw_privs_2 : List (MethodName × Nat) := [(⟨"FloodBasins$Pour", "breakDams", "(LFloodBasins$Terrain;)I"⟩, 12), (⟨"FloodBasins$Pour", "touches", "(LFloodBasins$Terrain;II)Z"⟩, 12), (⟨"FloodBasins", "standingTree", "()LFloodBasins$Pour;"⟩, 11), (⟨"FloodBasins", "leastLevelBetween", "(II)I"⟩, 11), (⟨"FloodBasinsModel", "layPits", "()I"⟩, 20), (⟨"FloodBasinsModel", "dots", "()I"⟩, 20), (⟨"FloodBasinsModel", "spread", "(IIZ)I"⟩, 20), (⟨"FloodBasinsModel", "beside", "(II)I"⟩, 20), (⟨"FloodBasinsModel", "isDot", "(II)Z"⟩, 20), (⟨"FloodBasinsModel", "at", "(II)I"⟩, 20), (⟨"FloodBasinsModel", "leastBeside", "(I)I"⟩, 20), (⟨"FloodBasinsModel", "pourAsTold", "()V"⟩, 20), (⟨"FloodBasinsModel", "pour", "(II)V"⟩, 20), (⟨"FloodBasinsModel", "flood", "()V"⟩, 20), (⟨"FloodBasinsModel", "spill", "(I)V"⟩, 20), (⟨"FloodBasinsModel", "first", "()I"⟩, 20)]
theorem lw_r2 : ∀ q ∈ lw_privs_2, lw_okq q := List.forall_mem_cons.mpr ⟨lw_p16, List.forall_mem_cons.mpr ⟨lw_p17, List.forall_mem_cons.mpr ⟨lw_p18, List.forall_mem_cons.mpr ⟨lw_p19, List.forall_mem_cons.mpr ⟨lw_p20, List.forall_mem_cons.mpr ⟨lw_p21, List.forall_mem_cons.mpr ⟨lw_p22, List.forall_mem_cons.mpr ⟨lw_p23, List.forall_mem_cons.mpr ⟨lw_p24, List.forall_mem_cons.mpr ⟨lw_p25, List.forall_mem_cons.mpr ⟨lw_p26, List.forall_mem_cons.mpr ⟨lw_p27, List.forall_mem_cons.mpr ⟨lw_p28, List.forall_mem_cons.mpr ⟨lw_p29, List.forall_mem_cons.mpr ⟨lw_p30, List.forall_mem_cons.mpr ⟨lw_p31, fun _ h => absurd h List.not_mem_nil⟩⟩⟩⟩⟩⟩⟩⟩⟩⟩⟩⟩⟩⟩⟩⟩
theorem lw_p32 : lw_okq (⟨"FloodBasinsModel", "basinBeside", "([II)I"⟩, 20) := ⟨⟨by decide +kernel, by decide +kernel⟩, List.mem_of_getElem? (i := 548) (by decide +kernel), List.mem_of_getElem? (i := 701) (by decide +kernel), List.mem_of_getElem? (i := 702) (by decide +kernel)⟩
theorem lw_p33 : lw_okq (⟨"FloodBasinsModel", "dotsOf", "([II)I"⟩, 20) := ⟨⟨by decide +kernel, by decide +kernel⟩, List.mem_of_getElem? (i := 548) (by decide +kernel), List.mem_of_getElem? (i := 705) (by decide +kernel), List.mem_of_getElem? (i := 706) (by decide +kernel)⟩
theorem lw_p34 : lw_okq (⟨"FloodBasinsModel", "wayOut", "(I)I"⟩, 20) := ⟨⟨by decide +kernel, by decide +kernel⟩, List.mem_of_getElem? (i := 548) (by decide +kernel), List.mem_of_getElem? (i := 709) (by decide +kernel), List.mem_of_getElem? (i := 710) (by decide +kernel)⟩
theorem lw_p35 : lw_okq (⟨"FloodBasinsModel", "layPasses", "(I)V"⟩, 20) := ⟨⟨by decide +kernel, by decide +kernel⟩, List.mem_of_getElem? (i := 548) (by decide +kernel), List.mem_of_getElem? (i := 713) (by decide +kernel), List.mem_of_getElem? (i := 714) (by decide +kernel)⟩
theorem lw_p36 : lw_okq (⟨"FloodBasinsModel", "hasBeside", "(II)Z"⟩, 20) := ⟨⟨by decide +kernel, by decide +kernel⟩, List.mem_of_getElem? (i := 548) (by decide +kernel), List.mem_of_getElem? (i := 717) (by decide +kernel), List.mem_of_getElem? (i := 718) (by decide +kernel)⟩
theorem lw_p37 : lw_okq (⟨"FloodBasinsModel", "sizeOf", "(III)I"⟩, 20) := ⟨⟨by decide +kernel, by decide +kernel⟩, List.mem_of_getElem? (i := 548) (by decide +kernel), List.mem_of_getElem? (i := 724) (by decide +kernel), List.mem_of_getElem? (i := 725) (by decide +kernel)⟩
theorem lw_p38 : lw_okq (⟨"FloodBasinsModel", "leastHeight", "(I)I"⟩, 20) := ⟨⟨by decide +kernel, by decide +kernel⟩, List.mem_of_getElem? (i := 548) (by decide +kernel), List.mem_of_getElem? (i := 728) (by decide +kernel), List.mem_of_getElem? (i := 729) (by decide +kernel)⟩
theorem lw_p39 : lw_okq (⟨"FloodBasinsModel", "pourOne", "(II)I"⟩, 20) := ⟨⟨by decide +kernel, by decide +kernel⟩, List.mem_of_getElem? (i := 548) (by decide +kernel), List.mem_of_getElem? (i := 732) (by decide +kernel), List.mem_of_getElem? (i := 733) (by decide +kernel)⟩
theorem lw_p40 : lw_okq (⟨"FloodBasinsModel", "isBasin", "(I)Z"⟩, 20) := ⟨⟨by decide +kernel, by decide +kernel⟩, List.mem_of_getElem? (i := 548) (by decide +kernel), List.mem_of_getElem? (i := 744) (by decide +kernel), List.mem_of_getElem? (i := 745) (by decide +kernel)⟩
theorem lw_p41 : lw_okq (⟨"FloodBasinsModel", "passOf", "(II)I"⟩, 20) := ⟨⟨by decide +kernel, by decide +kernel⟩, List.mem_of_getElem? (i := 548) (by decide +kernel), List.mem_of_getElem? (i := 752) (by decide +kernel), List.mem_of_getElem? (i := 753) (by decide +kernel)⟩
theorem lw_p42 : lw_okq (⟨"FloodBasinsModel", "told", "(II)I"⟩, 20) := ⟨⟨by decide +kernel, by decide +kernel⟩, List.mem_of_getElem? (i := 548) (by decide +kernel), List.mem_of_getElem? (i := 760) (by decide +kernel), List.mem_of_getElem? (i := 761) (by decide +kernel)⟩
theorem lw_p43 : lw_okq (⟨"FloodBasinsModel", "marked", "()I"⟩, 20) := ⟨⟨by decide +kernel, by decide +kernel⟩, List.mem_of_getElem? (i := 548) (by decide +kernel), List.mem_of_getElem? (i := 780) (by decide +kernel), List.mem_of_getElem? (i := 781) (by decide +kernel)⟩
theorem lw_p44 : lw_okq (⟨"FloodBasinsModel", "basins", "([I)I"⟩, 20) := ⟨⟨by decide +kernel, by decide +kernel⟩, List.mem_of_getElem? (i := 548) (by decide +kernel), List.mem_of_getElem? (i := 784) (by decide +kernel), List.mem_of_getElem? (i := 785) (by decide +kernel)⟩
theorem lw_p45 : lw_okq (⟨"FloodBasinsModel", "greatestLevel", "()I"⟩, 20) := ⟨⟨by decide +kernel, by decide +kernel⟩, List.mem_of_getElem? (i := 548) (by decide +kernel), List.mem_of_getElem? (i := 788) (by decide +kernel), List.mem_of_getElem? (i := 789) (by decide +kernel)⟩
theorem lw_p46 : lw_okq (⟨"FloodBasinsModel", "treeSize", "()I"⟩, 20) := ⟨⟨by decide +kernel, by decide +kernel⟩, List.mem_of_getElem? (i := 548) (by decide +kernel), List.mem_of_getElem? (i := 792) (by decide +kernel), List.mem_of_getElem? (i := 793) (by decide +kernel)⟩
def lw_privs_3 : List (MethodName × Nat) := [(⟨"FloodBasinsModel", "basinBeside", "([II)I"⟩, 20), (⟨"FloodBasinsModel", "dotsOf", "([II)I"⟩, 20), (⟨"FloodBasinsModel", "wayOut", "(I)I"⟩, 20), (⟨"FloodBasinsModel", "layPasses", "(I)V"⟩, 20), (⟨"FloodBasinsModel", "hasBeside", "(II)Z"⟩, 20), (⟨"FloodBasinsModel", "sizeOf", "(III)I"⟩, 20), (⟨"FloodBasinsModel", "leastHeight", "(I)I"⟩, 20), (⟨"FloodBasinsModel", "pourOne", "(II)I"⟩, 20), (⟨"FloodBasinsModel", "isBasin", "(I)Z"⟩, 20), (⟨"FloodBasinsModel", "passOf", "(II)I"⟩, 20), (⟨"FloodBasinsModel", "told", "(II)I"⟩, 20), (⟨"FloodBasinsModel", "marked", "()I"⟩, 20), (⟨"FloodBasinsModel", "basins", "([I)I"⟩, 20), (⟨"FloodBasinsModel", "greatestLevel", "()I"⟩, 20), (⟨"FloodBasinsModel", "treeSize", "()I"⟩, 20)]
theorem lw_r3 : ∀ q ∈ lw_privs_3, lw_okq q := List.forall_mem_cons.mpr ⟨lw_p32, List.forall_mem_cons.mpr ⟨lw_p33, List.forall_mem_cons.mpr ⟨lw_p34, List.forall_mem_cons.mpr ⟨lw_p35, List.forall_mem_cons.mpr ⟨lw_p36, List.forall_mem_cons.mpr ⟨lw_p37, List.forall_mem_cons.mpr ⟨lw_p38, List.forall_mem_cons.mpr ⟨lw_p39, List.forall_mem_cons.mpr ⟨lw_p40, List.forall_mem_cons.mpr ⟨lw_p41, List.forall_mem_cons.mpr ⟨lw_p42, List.forall_mem_cons.mpr ⟨lw_p43, List.forall_mem_cons.mpr ⟨lw_p44, List.forall_mem_cons.mpr ⟨lw_p45, List.forall_mem_cons.mpr ⟨lw_p46, fun _ h => absurd h List.not_mem_nil⟩⟩⟩⟩⟩⟩⟩⟩⟩⟩⟩⟩⟩⟩⟩
def lw_privs : List (MethodName × Nat) := lw_privs_1 ++ (lw_privs_2 ++ (lw_privs_3))
def lw_tbl : List Cond := k2_sels lw_privs ++ tables_1
theorem lw_privs_ok : ∀ q ∈ lw_privs, lw_okq q := by
  show ∀ q ∈ lw_privs_1 ++ (lw_privs_2 ++ (lw_privs_3)), lw_okq q
  exact List.forall_mem_append.mpr ⟨lw_r1, List.forall_mem_append.mpr ⟨lw_r2, lw_r3⟩⟩
def RX0 : String := "FloodBasins$Flood"
def TX0 : u_T := fun k => match k with
  | 0 => ("FloodBasins$Flood", "owners", "[I", true)
  | 1 => ("FloodBasins$Flood", "levels", "[I", true)
  | 2 => ("FloodBasins$Flood", "turns", "[I", true)
  | 3 => ("FloodBasins$Flood", "present", "[I", true)
  | _ => ("FloodBasins$Flood", "line", "LFloodBasins$Line;", true)
def tyX0 : Nat → FieldType := fun k => match k with
  | 0 => .array .int
  | 1 => .array .int
  | 2 => .array .int
  | 3 => .array .int
  | _ => .object "FloodBasins$Line"
abbrev wsX00 : List Cond := u_ws RX0 TX0 5
theorem nmX0 : ∀ a, a < 5 → ∀ b, b < 5 → a ≠ b → (TX0 a).2.1 ≠ (TX0 b).2.1 := by decide +kernel
theorem tyX0_ok : ∀ k, k < 5 → parseFieldDescriptor (TX0 k).2.2.1 = some (tyX0 k) := by decide +kernel
abbrev cX0_init : ByteArray := prog_2_method_1_code
def yX0_init : MethodName := ⟨RX0, "<init>", "()V"⟩
abbrev cX0_rise : ByteArray := prog_2_method_2_code
def yX0_rise : MethodName := ⟨RX0, "rise", "(LFloodBasins$Terrain;)V"⟩
abbrev cX0_startAtMarks : ByteArray := prog_2_method_3_code
def yX0_startAtMarks : MethodName := ⟨RX0, "startAtMarks", "(LFloodBasins$Terrain;)V"⟩
abbrev cX0_lineUpAround : ByteArray := prog_2_method_4_code
def yX0_lineUpAround : MethodName := ⟨RX0, "lineUpAround", "(LFloodBasins$Terrain;I)V"⟩
abbrev cX0_countBasins : ByteArray := prog_2_method_5_code
def yX0_countBasins : MethodName := ⟨RX0, "countBasins", "(LFloodBasins$Terrain;)I"⟩
abbrev cX0_greatestLevel : ByteArray := prog_2_method_6_code
def yX0_greatestLevel : MethodName := ⟨RX0, "greatestLevel", "(LFloodBasins$Terrain;)I"⟩
def RX1 : String := "FloodBasins$Image"
def TX1 : u_T := fun k => match k with
  | 0 => ("FloodBasins$Image", "kept", "Z", false)
  | 1 => ("FloodBasins$Image", "kind", "I", false)
  | 2 => ("FloodBasins$Image", "bound", "I", false)
  | 3 => ("FloodBasins$Image", "wide", "I", false)
  | 4 => ("FloodBasins$Image", "high", "I", false)
  | 5 => ("FloodBasins$Image", "heights", "[I", true)
  | _ => ("FloodBasins$Image", "marks", "[I", true)
def tyX1 : Nat → FieldType := fun k => match k with
  | 0 => .boolean
  | 1 => .int
  | 2 => .int
  | 3 => .int
  | 4 => .int
  | 5 => .array .int
  | _ => .array .int
abbrev wsX10 : List Cond := u_ws RX1 TX1 7
theorem nmX1 : ∀ a, a < 7 → ∀ b, b < 7 → a ≠ b → (TX1 a).2.1 ≠ (TX1 b).2.1 := by decide +kernel
theorem tyX1_ok : ∀ k, k < 7 → parseFieldDescriptor (TX1 k).2.2.1 = some (tyX1 k) := by decide +kernel
abbrev cX1_init : ByteArray := prog_3_method_1_code
def yX1_init : MethodName := ⟨RX1, "<init>", "()V"⟩
abbrev cX1_keep : ByteArray := prog_3_method_2_code
def yX1_keep : MethodName := ⟨RX1, "keep", "(LFloodBasins$Terrain;II)V"⟩
abbrev cX1_giveBack : ByteArray := prog_3_method_3_code
def yX1_giveBack : MethodName := ⟨RX1, "giveBack", "(LFloodBasins$Terrain;)V"⟩
def RX2 : String := "FloodBasins$Line"
def TX2 : u_T := fun k => match k with
  | 0 => ("FloodBasins$Line", "firsts", "[I", true)
  | 1 => ("FloodBasins$Line", "lasts", "[I", true)
  | 2 => ("FloodBasins$Line", "nexts", "[I", true)
  | _ => ("FloodBasins$Line", "least", "I", false)
def tyX2 : Nat → FieldType := fun k => match k with
  | 0 => .array .int
  | 1 => .array .int
  | 2 => .array .int
  | _ => .int
abbrev wsX20 : List Cond := u_ws RX2 TX2 4
theorem nmX2 : ∀ a, a < 4 → ∀ b, b < 4 → a ≠ b → (TX2 a).2.1 ≠ (TX2 b).2.1 := by decide +kernel
theorem tyX2_ok : ∀ k, k < 4 → parseFieldDescriptor (TX2 k).2.2.1 = some (tyX2 k) := by decide +kernel
abbrev cX2_init : ByteArray := prog_4_method_1_code
def yX2_init : MethodName := ⟨RX2, "<init>", "()V"⟩
abbrev cX2_empty : ByteArray := prog_4_method_2_code
def yX2_empty : MethodName := ⟨RX2, "empty", "()V"⟩
abbrev cX2_add : ByteArray := prog_4_method_3_code
def yX2_add : MethodName := ⟨RX2, "add", "(II)V"⟩
abbrev cX2_take : ByteArray := prog_4_method_4_code
def yX2_take : MethodName := ⟨RX2, "take", "()I"⟩
def RX3 : String := "FloodBasins$Pour"
def TX3 : u_T := fun k => match k with
  | 0 => ("FloodBasins$Pour", "events", "I", false)
  | 1 => ("FloodBasins$Pour", "owners", "[I", true)
  | 2 => ("FloodBasins$Pour", "leastHeights", "[I", true)
  | 3 => ("FloodBasins$Pour", "leastPasses", "[I", true)
  | 4 => ("FloodBasins$Pour", "waysOut", "[I", true)
  | 5 => ("FloodBasins$Pour", "dotCounts", "[I", true)
  | 6 => ("FloodBasins$Pour", "waters", "[I", true)
  | 7 => ("FloodBasins$Pour", "eventBasins", "[I", true)
  | 8 => ("FloodBasins$Pour", "eventTargets", "[I", true)
  | 9 => ("FloodBasins$Pour", "eventPasses", "[I", true)
  | 10 => ("FloodBasins$Pour", "eventDams", "[I", true)
  | _ => ("FloodBasins$Pour", "becoming", "[I", true)
def tyX3 : Nat → FieldType := fun k => match k with
  | 0 => .int
  | 1 => .array .int
  | 2 => .array .int
  | 3 => .array .int
  | 4 => .array .int
  | 5 => .array .int
  | 6 => .array .int
  | 7 => .array .int
  | 8 => .array .int
  | 9 => .array .int
  | 10 => .array .int
  | _ => .array .int
abbrev wsX30 : List Cond := u_ws RX3 TX3 12
theorem nmX3 : ∀ a, a < 12 → ∀ b, b < 12 → a ≠ b → (TX3 a).2.1 ≠ (TX3 b).2.1 := by decide +kernel
theorem tyX3_ok : ∀ k, k < 12 → parseFieldDescriptor (TX3 k).2.2.1 = some (tyX3 k) := by decide +kernel
abbrev cX3_init : ByteArray := prog_5_method_1_code
def yX3_init : MethodName := ⟨RX3, "<init>", "()V"⟩
abbrev cX3_run : ByteArray := prog_5_method_2_code
def yX3_run : MethodName := ⟨RX3, "run", "(LFloodBasins$Terrain;[III)V"⟩
abbrev cX3_hasBasin : ByteArray := prog_5_method_3_code
def yX3_hasBasin : MethodName := ⟨RX3, "hasBasin", "(I)Z"⟩
abbrev cX3_countBasins : ByteArray := prog_5_method_4_code
def yX3_countBasins : MethodName := ⟨RX3, "countBasins", "()I"⟩
abbrev cX3_sizeOf : ByteArray := prog_5_method_5_code
def yX3_sizeOf : MethodName := ⟨RX3, "sizeOf", "(II)I"⟩
abbrev cX3_told : ByteArray := prog_5_method_6_code
def yX3_told : MethodName := ⟨RX3, "told", "(II)I"⟩
abbrev cX3_passBetween : ByteArray := prog_5_method_7_code
def yX3_passBetween : MethodName := ⟨RX3, "passBetween", "(LFloodBasins$Terrain;II)I"⟩
abbrev cX3_touches : ByteArray := prog_5_method_8_code
def yX3_touches : MethodName := ⟨RX3, "touches", "(LFloodBasins$Terrain;II)Z"⟩
abbrev cX3_measure : ByteArray := prog_5_method_9_code
def yX3_measure : MethodName := ⟨RX3, "measure", "(LFloodBasins$Terrain;)V"⟩
abbrev cX3_passesOverDam : ByteArray := prog_5_method_10_code
def yX3_passesOverDam : MethodName := ⟨RX3, "passesOverDam", "(LFloodBasins$Terrain;I)V"⟩
abbrev cX3_passesBeside : ByteArray := prog_5_method_11_code
def yX3_passesBeside : MethodName := ⟨RX3, "passesBeside", "(LFloodBasins$Terrain;I)V"⟩
abbrev cX3_notePass : ByteArray := prog_5_method_12_code
def yX3_notePass : MethodName := ⟨RX3, "notePass", "(III)V"⟩
abbrev cX3_noteWayOut : ByteArray := prog_5_method_13_code
def yX3_noteWayOut : MethodName := ⟨RX3, "noteWayOut", "(III)V"⟩
abbrev cX3_fillWaters : ByteArray := prog_5_method_14_code
def yX3_fillWaters : MethodName := ⟨RX3, "fillWaters", "(LFloodBasins$Terrain;)V"⟩
abbrev cX3_nextToPour : ByteArray := prog_5_method_15_code
def yX3_nextToPour : MethodName := ⟨RX3, "nextToPour", "(II)I"⟩
abbrev cX3_pourOut : ByteArray := prog_5_method_16_code
def yX3_pourOut : MethodName := ⟨RX3, "pourOut", "(LFloodBasins$Terrain;I)V"⟩
abbrev cX3_breakDams : ByteArray := prog_5_method_17_code
def yX3_breakDams : MethodName := ⟨RX3, "breakDams", "(LFloodBasins$Terrain;)I"⟩
def RX4 : String := "FloodBasins$Spread"
def TX4 : u_T := fun k => match k with
  | 0 => ("FloodBasins$Spread", "size", "I", false)
  | 1 => ("FloodBasins$Spread", "reached", "[I", true)
  | _ => ("FloodBasins$Spread", "seen", "[I", true)
def tyX4 : Nat → FieldType := fun k => match k with
  | 0 => .int
  | 1 => .array .int
  | _ => .array .int
abbrev wsX40 : List Cond := u_ws RX4 TX4 3
theorem nmX4 : ∀ a, a < 3 → ∀ b, b < 3 → a ≠ b → (TX4 a).2.1 ≠ (TX4 b).2.1 := by decide +kernel
theorem tyX4_ok : ∀ k, k < 3 → parseFieldDescriptor (TX4 k).2.2.1 = some (tyX4 k) := by decide +kernel
abbrev cX4_init : ByteArray := prog_6_method_1_code
def yX4_init : MethodName := ⟨RX4, "<init>", "()V"⟩
abbrev cX4_forget : ByteArray := prog_6_method_2_code
def yX4_forget : MethodName := ⟨RX4, "forget", "()V"⟩
abbrev cX4_cameTo : ByteArray := prog_6_method_3_code
def yX4_cameTo : MethodName := ⟨RX4, "cameTo", "(I)Z"⟩
abbrev cX4_from : ByteArray := prog_6_method_4_code
def yX4_from : MethodName := ⟨RX4, "from", "(LFloodBasins$Terrain;III)V"⟩
abbrev cX4_reach : ByteArray := prog_6_method_5_code
def yX4_reach : MethodName := ⟨RX4, "reach", "(LFloodBasins$Terrain;III)V"⟩
abbrev cX4_markAll : ByteArray := prog_6_method_6_code
def yX4_markAll : MethodName := ⟨RX4, "markAll", "(LFloodBasins$Terrain;I)V"⟩
abbrev cX4_waterBelow : ByteArray := prog_6_method_7_code
def yX4_waterBelow : MethodName := ⟨RX4, "waterBelow", "(LFloodBasins$Terrain;I)I"⟩
abbrev cX4_lowestAround : ByteArray := prog_6_method_8_code
def yX4_lowestAround : MethodName := ⟨RX4, "lowestAround", "(LFloodBasins$Terrain;II)I"⟩
def RX5 : String := "FloodBasins$Terrain"
def TX5 : u_T := fun k => match k with
  | 0 => ("FloodBasins$Terrain", "wide", "I", false)
  | 1 => ("FloodBasins$Terrain", "high", "I", false)
  | 2 => ("FloodBasins$Terrain", "dots", "I", false)
  | 3 => ("FloodBasins$Terrain", "heights", "[I", true)
  | 4 => ("FloodBasins$Terrain", "marks", "[I", true)
  | _ => ("FloodBasins$Terrain", "besides", "[I", true)
def tyX5 : Nat → FieldType := fun k => match k with
  | 0 => .int
  | 1 => .int
  | 2 => .int
  | 3 => .array .int
  | 4 => .array .int
  | _ => .array .int
abbrev wsX50 : List Cond := u_ws RX5 TX5 6
theorem nmX5 : ∀ a, a < 6 → ∀ b, b < 6 → a ≠ b → (TX5 a).2.1 ≠ (TX5 b).2.1 := by decide +kernel
theorem tyX5_ok : ∀ k, k < 6 → parseFieldDescriptor (TX5 k).2.2.1 = some (tyX5 k) := by decide +kernel
abbrev cX5_init : ByteArray := prog_7_method_1_code
def yX5_init : MethodName := ⟨RX5, "<init>", "()V"⟩
abbrev cX5_shape : ByteArray := prog_7_method_2_code
def yX5_shape : MethodName := ⟨RX5, "shape", "(II)V"⟩
abbrev cX5_clear : ByteArray := prog_7_method_3_code
def yX5_clear : MethodName := ⟨RX5, "clear", "()V"⟩
abbrev cX5_dotAt : ByteArray := prog_7_method_4_code
def yX5_dotAt : MethodName := ⟨RX5, "dotAt", "(II)I"⟩
abbrev cX5_neighbour : ByteArray := prog_7_method_5_code
def yX5_neighbour : MethodName := ⟨RX5, "neighbour", "(II)I"⟩
abbrev cX5_ripple : ByteArray := prog_7_method_6_code
def yX5_ripple : MethodName := ⟨RX5, "ripple", "(IIII)V"⟩
abbrev cX5_raise : ByteArray := prog_7_method_7_code
def yX5_raise : MethodName := ⟨RX5, "raise", "(IIII)V"⟩
abbrev cX5_countMarks : ByteArray := prog_7_method_8_code
def yX5_countMarks : MethodName := ⟨RX5, "countMarks", "()I"⟩
abbrev cX5_countDams : ByteArray := prog_7_method_9_code
def yX5_countDams : MethodName := ⟨RX5, "countDams", "([I)I"⟩
abbrev cX5_onlyBasinAround : ByteArray := prog_7_method_10_code
def yX5_onlyBasinAround : MethodName := ⟨RX5, "onlyBasinAround", "(I[I)I"⟩
abbrev cX5_basinBeside : ByteArray := prog_7_method_11_code
def yX5_basinBeside : MethodName := ⟨RX5, "basinBeside", "(II[I)I"⟩
def RX6 : String := "FloodBasins"
def TX6 : u_T := fun k => match k with
  | 0 => ("FloodBasins", "terrain", "LFloodBasins$Terrain;", true)
  | 1 => ("FloodBasins", "spread", "LFloodBasins$Spread;", true)
  | 2 => ("FloodBasins", "flood", "LFloodBasins$Flood;", true)
  | 3 => ("FloodBasins", "chosenPour", "LFloodBasins$Pour;", true)
  | 4 => ("FloodBasins", "wholePour", "LFloodBasins$Pour;", true)
  | 5 => ("FloodBasins", "images", "[LFloodBasins$Image;", true)
  | 6 => ("FloodBasins", "kindOfPour", "I", false)
  | 7 => ("FloodBasins", "boundOfPour", "I", false)
  | 8 => ("FloodBasins", "floodStands", "Z", false)
  | 9 => ("FloodBasins", "pourStands", "Z", false)
  | _ => ("FloodBasins", "treeStands", "Z", false)
def tyX6 : Nat → FieldType := fun k => match k with
  | 0 => .object "FloodBasins$Terrain"
  | 1 => .object "FloodBasins$Spread"
  | 2 => .object "FloodBasins$Flood"
  | 3 => .object "FloodBasins$Pour"
  | 4 => .object "FloodBasins$Pour"
  | 5 => .array (.object "FloodBasins$Image")
  | 6 => .int
  | 7 => .int
  | 8 => .boolean
  | 9 => .boolean
  | _ => .boolean
abbrev wsX60 : List Cond := u_ws RX6 TX6 11
theorem nmX6 : ∀ a, a < 11 → ∀ b, b < 11 → a ≠ b → (TX6 a).2.1 ≠ (TX6 b).2.1 := by decide +kernel
theorem tyX6_ok : ∀ k, k < 11 → parseFieldDescriptor (TX6 k).2.2.1 = some (tyX6 k) := by decide +kernel
abbrev cX6_init : ByteArray := prog_1_method_1_code
def yX6_init : MethodName := ⟨RX6, "<init>", "()V"⟩
abbrev cX6_land : ByteArray := prog_1_method_2_code
def yX6_land : MethodName := ⟨RX6, "land", "(II)I"⟩
abbrev cX6_wave : ByteArray := prog_1_method_3_code
def yX6_wave : MethodName := ⟨RX6, "wave", "(IIII)I"⟩
abbrev cX6_heap : ByteArray := prog_1_method_4_code
def yX6_heap : MethodName := ⟨RX6, "heap", "(IIII)I"⟩
abbrev cX6_put : ByteArray := prog_1_method_5_code
def yX6_put : MethodName := ⟨RX6, "put", "(III)I"⟩
abbrev cX6_mark : ByteArray := prog_1_method_6_code
def yX6_mark : MethodName := ⟨RX6, "mark", "(III)I"⟩
abbrev cX6_pits : ByteArray := prog_1_method_7_code
def yX6_pits : MethodName := ⟨RX6, "pits", "()I"⟩
abbrev cX6_dot : ByteArray := prog_1_method_8_code
def yX6_dot : MethodName := ⟨RX6, "dot", "(III)I"⟩
abbrev cX6_bound : ByteArray := prog_1_method_9_code
def yX6_bound : MethodName := ⟨RX6, "bound", "(II)I"⟩
abbrev cX6_basin : ByteArray := prog_1_method_10_code
def yX6_basin : MethodName := ⟨RX6, "basin", "(II)I"⟩
abbrev cX6_pass : ByteArray := prog_1_method_11_code
def yX6_pass : MethodName := ⟨RX6, "pass", "(II)I"⟩
abbrev cX6_poured : ByteArray := prog_1_method_12_code
def yX6_poured : MethodName := ⟨RX6, "poured", "(II)I"⟩
abbrev cX6_tree : ByteArray := prog_1_method_13_code
def yX6_tree : MethodName := ⟨RX6, "tree", "(II)I"⟩
abbrev cX6_over : ByteArray := prog_1_method_14_code
def yX6_over : MethodName := ⟨RX6, "over", "(IIII)I"⟩
abbrev cX6_wet : ByteArray := prog_1_method_15_code
def yX6_wet : MethodName := ⟨RX6, "wet", "(IIII)I"⟩
abbrev cX6_count : ByteArray := prog_1_method_16_code
def yX6_count : MethodName := ⟨RX6, "count", "(I)I"⟩
abbrev cX6_image : ByteArray := prog_1_method_17_code
def yX6_image : MethodName := ⟨RX6, "image", "(I)I"⟩
abbrev cX6_restore : ByteArray := prog_1_method_18_code
def yX6_restore : MethodName := ⟨RX6, "restore", "(I)I"⟩
abbrev cX6_within : ByteArray := prog_1_method_19_code
def yX6_within : MethodName := ⟨RX6, "within", "(III)Z"⟩
abbrev cX6_heightOrNone : ByteArray := prog_1_method_20_code
def yX6_heightOrNone : MethodName := ⟨RX6, "heightOrNone", "(I)I"⟩
abbrev cX6_pitsAfterChange : ByteArray := prog_1_method_21_code
def yX6_pitsAfterChange : MethodName := ⟨RX6, "pitsAfterChange", "()I"⟩
abbrev cX6_nothingStands : ByteArray := prog_1_method_22_code
def yX6_nothingStands : MethodName := ⟨RX6, "nothingStands", "()V"⟩
abbrev cX6_standingFlood : ByteArray := prog_1_method_23_code
def yX6_standingFlood : MethodName := ⟨RX6, "standingFlood", "()LFloodBasins$Flood;"⟩
abbrev cX6_standingPour : ByteArray := prog_1_method_24_code
def yX6_standingPour : MethodName := ⟨RX6, "standingPour", "()LFloodBasins$Pour;"⟩
abbrev cX6_standingTree : ByteArray := prog_1_method_25_code
def yX6_standingTree : MethodName := ⟨RX6, "standingTree", "()LFloodBasins$Pour;"⟩
abbrev cX6_findPits : ByteArray := prog_1_method_26_code
def yX6_findPits : MethodName := ⟨RX6, "findPits", "(Z)I"⟩
abbrev cX6_leastLevelBetween : ByteArray := prog_1_method_27_code
def yX6_leastLevelBetween : MethodName := ⟨RX6, "leastLevelBetween", "(II)I"⟩
def RX7 : String := "FloodBasinsModel"
def TX7 : u_T := fun k => match k with
  | 0 => ("FloodBasinsModel", "state", "[I", true)
  | 1 => ("FloodBasinsModel", "images", "[I", true)
  | 2 => ("FloodBasinsModel", "isKept", "[Z", true)
  | 3 => ("FloodBasinsModel", "pit", "[I", true)
  | 4 => ("FloodBasinsModel", "still", "[I", true)
  | 5 => ("FloodBasinsModel", "isMet", "[Z", true)
  | 6 => ("FloodBasinsModel", "flooded", "[I", true)
  | 7 => ("FloodBasinsModel", "level", "[I", true)
  | 8 => ("FloodBasinsModel", "number", "[I", true)
  | 9 => ("FloodBasinsModel", "line", "[I", true)
  | 10 => ("FloodBasinsModel", "isTaken", "[Z", true)
  | 11 => ("FloodBasinsModel", "came", "I", false)
  | 12 => ("FloodBasinsModel", "whose", "[I", true)
  | 13 => ("FloodBasinsModel", "pouredOnes", "[I", true)
  | 14 => ("FloodBasinsModel", "pouredInto", "[I", true)
  | 15 => ("FloodBasinsModel", "pouredAt", "[I", true)
  | 16 => ("FloodBasinsModel", "pouredDams", "[I", true)
  | 17 => ("FloodBasinsModel", "poured", "I", false)
  | 18 => ("FloodBasinsModel", "passes", "[I", true)
  | _ => ("FloodBasinsModel", "after", "[I", true)
def tyX7 : Nat → FieldType := fun k => match k with
  | 0 => .array .int
  | 1 => .array .int
  | 2 => .array .boolean
  | 3 => .array .int
  | 4 => .array .int
  | 5 => .array .boolean
  | 6 => .array .int
  | 7 => .array .int
  | 8 => .array .int
  | 9 => .array .int
  | 10 => .array .boolean
  | 11 => .int
  | 12 => .array .int
  | 13 => .array .int
  | 14 => .array .int
  | 15 => .array .int
  | 16 => .array .int
  | 17 => .int
  | 18 => .array .int
  | _ => .array .int
abbrev wsX70 : List Cond := u_ws RX7 TX7 20
theorem nmX7 : ∀ a, a < 20 → ∀ b, b < 20 → a ≠ b → (TX7 a).2.1 ≠ (TX7 b).2.1 := by decide +kernel
theorem tyX7_ok : ∀ k, k < 20 → parseFieldDescriptor (TX7 k).2.2.1 = some (tyX7 k) := by decide +kernel
abbrev cX7_init : ByteArray := prog_9_method_1_code
def yX7_init : MethodName := ⟨RX7, "<init>", "()V"⟩
abbrev cX7_in : ByteArray := prog_9_method_2_code
def yX7_in : MethodName := ⟨RX7, "in", "(III)Z"⟩
abbrev cX7_isDot : ByteArray := prog_9_method_3_code
def yX7_isDot : MethodName := ⟨RX7, "isDot", "(II)Z"⟩
abbrev cX7_dots : ByteArray := prog_9_method_4_code
def yX7_dots : MethodName := ⟨RX7, "dots", "()I"⟩
abbrev cX7_at : ByteArray := prog_9_method_5_code
def yX7_at : MethodName := ⟨RX7, "at", "(II)I"⟩
abbrev cX7_beside : ByteArray := prog_9_method_6_code
def yX7_beside : MethodName := ⟨RX7, "beside", "(II)I"⟩
abbrev cX7_greater : ByteArray := prog_9_method_7_code
def yX7_greater : MethodName := ⟨RX7, "greater", "(II)I"⟩
abbrev cX7_size : ByteArray := prog_9_method_8_code
def yX7_size : MethodName := ⟨RX7, "size", "(I)I"⟩
abbrev cX7_spread : ByteArray := prog_9_method_9_code
def yX7_spread : MethodName := ⟨RX7, "spread", "(IIZ)I"⟩
abbrev cX7_leastBeside : ByteArray := prog_9_method_10_code
def yX7_leastBeside : MethodName := ⟨RX7, "leastBeside", "(I)I"⟩
abbrev cX7_layPits : ByteArray := prog_9_method_11_code
def yX7_layPits : MethodName := ⟨RX7, "layPits", "()I"⟩
abbrev cX7_land : ByteArray := prog_9_method_12_code
def yX7_land : MethodName := ⟨RX7, "land", "(II)I"⟩
abbrev cX7_wave : ByteArray := prog_9_method_13_code
def yX7_wave : MethodName := ⟨RX7, "wave", "(IIII)I"⟩
abbrev cX7_heap : ByteArray := prog_9_method_14_code
def yX7_heap : MethodName := ⟨RX7, "heap", "(IIII)I"⟩
abbrev cX7_put : ByteArray := prog_9_method_15_code
def yX7_put : MethodName := ⟨RX7, "put", "(III)I"⟩
abbrev cX7_mark : ByteArray := prog_9_method_16_code
def yX7_mark : MethodName := ⟨RX7, "mark", "(III)I"⟩
abbrev cX7_pits : ByteArray := prog_9_method_17_code
def yX7_pits : MethodName := ⟨RX7, "pits", "()I"⟩
abbrev cX7_spill : ByteArray := prog_9_method_18_code
def yX7_spill : MethodName := ⟨RX7, "spill", "(I)V"⟩
abbrev cX7_first : ByteArray := prog_9_method_19_code
def yX7_first : MethodName := ⟨RX7, "first", "()I"⟩
abbrev cX7_basinBeside : ByteArray := prog_9_method_20_code
def yX7_basinBeside : MethodName := ⟨RX7, "basinBeside", "([II)I"⟩
abbrev cX7_flood : ByteArray := prog_9_method_21_code
def yX7_flood : MethodName := ⟨RX7, "flood", "()V"⟩
abbrev cX7_dotsOf : ByteArray := prog_9_method_22_code
def yX7_dotsOf : MethodName := ⟨RX7, "dotsOf", "([II)I"⟩
abbrev cX7_hasBeside : ByteArray := prog_9_method_23_code
def yX7_hasBeside : MethodName := ⟨RX7, "hasBeside", "(II)Z"⟩
abbrev cX7_lesser : ByteArray := prog_9_method_24_code
def yX7_lesser : MethodName := ⟨RX7, "lesser", "(II)I"⟩
abbrev cX7_passOf : ByteArray := prog_9_method_25_code
def yX7_passOf : MethodName := ⟨RX7, "passOf", "(II)I"⟩
abbrev cX7_layPasses : ByteArray := prog_9_method_26_code
def yX7_layPasses : MethodName := ⟨RX7, "layPasses", "(I)V"⟩
abbrev cX7_wayOut : ByteArray := prog_9_method_27_code
def yX7_wayOut : MethodName := ⟨RX7, "wayOut", "(I)I"⟩
abbrev cX7_leastHeight : ByteArray := prog_9_method_28_code
def yX7_leastHeight : MethodName := ⟨RX7, "leastHeight", "(I)I"⟩
abbrev cX7_sizeOf : ByteArray := prog_9_method_29_code
def yX7_sizeOf : MethodName := ⟨RX7, "sizeOf", "(III)I"⟩
abbrev cX7_pourOne : ByteArray := prog_9_method_30_code
def yX7_pourOne : MethodName := ⟨RX7, "pourOne", "(II)I"⟩
abbrev cX7_pour : ByteArray := prog_9_method_31_code
def yX7_pour : MethodName := ⟨RX7, "pour", "(II)V"⟩
abbrev cX7_pourAsTold : ByteArray := prog_9_method_32_code
def yX7_pourAsTold : MethodName := ⟨RX7, "pourAsTold", "()V"⟩
abbrev cX7_dot : ByteArray := prog_9_method_33_code
def yX7_dot : MethodName := ⟨RX7, "dot", "(III)I"⟩
abbrev cX7_bound : ByteArray := prog_9_method_34_code
def yX7_bound : MethodName := ⟨RX7, "bound", "(II)I"⟩
abbrev cX7_isBasin : ByteArray := prog_9_method_35_code
def yX7_isBasin : MethodName := ⟨RX7, "isBasin", "(I)Z"⟩
abbrev cX7_basin : ByteArray := prog_9_method_36_code
def yX7_basin : MethodName := ⟨RX7, "basin", "(II)I"⟩
abbrev cX7_pass : ByteArray := prog_9_method_37_code
def yX7_pass : MethodName := ⟨RX7, "pass", "(II)I"⟩
abbrev cX7_told : ByteArray := prog_9_method_38_code
def yX7_told : MethodName := ⟨RX7, "told", "(II)I"⟩
abbrev cX7_poured : ByteArray := prog_9_method_39_code
def yX7_poured : MethodName := ⟨RX7, "poured", "(II)I"⟩
abbrev cX7_tree : ByteArray := prog_9_method_40_code
def yX7_tree : MethodName := ⟨RX7, "tree", "(II)I"⟩
abbrev cX7_over : ByteArray := prog_9_method_41_code
def yX7_over : MethodName := ⟨RX7, "over", "(IIII)I"⟩
abbrev cX7_wet : ByteArray := prog_9_method_42_code
def yX7_wet : MethodName := ⟨RX7, "wet", "(IIII)I"⟩
abbrev cX7_basins : ByteArray := prog_9_method_43_code
def yX7_basins : MethodName := ⟨RX7, "basins", "([I)I"⟩
abbrev cX7_greatestLevel : ByteArray := prog_9_method_44_code
def yX7_greatestLevel : MethodName := ⟨RX7, "greatestLevel", "()I"⟩
abbrev cX7_treeSize : ByteArray := prog_9_method_45_code
def yX7_treeSize : MethodName := ⟨RX7, "treeSize", "()I"⟩
abbrev cX7_marked : ByteArray := prog_9_method_46_code
def yX7_marked : MethodName := ⟨RX7, "marked", "()I"⟩
abbrev cX7_count : ByteArray := prog_9_method_47_code
def yX7_count : MethodName := ⟨RX7, "count", "(I)I"⟩
abbrev cX7_image : ByteArray := prog_9_method_48_code
def yX7_image : MethodName := ⟨RX7, "image", "(I)I"⟩
abbrev cX7_restore : ByteArray := prog_9_method_49_code
def yX7_restore : MethodName := ⟨RX7, "restore", "(I)I"⟩
def RJ9 : String := "java/lang/Math"
def TJ9 : u_T := fun k => match k with
  | _ => ("", "", "", false)
def tyJ9 : Nat → FieldType := fun k => match k with
  | _ => .int
abbrev wsJ90 : List Cond := u_ws RJ9 TJ9 0
theorem nmJ9 : ∀ a, a < 0 → ∀ b, b < 0 → a ≠ b → (TJ9 a).2.1 ≠ (TJ9 b).2.1 := by decide +kernel
theorem tyJ9_ok : ∀ k, k < 0 → parseFieldDescriptor (TJ9 k).2.2.1 = some (tyJ9 k) := by decide +kernel
abbrev cJ9_abs_0f7a4 : ByteArray := prog_10_method_59_code
def yJ9_abs_0f7a4 : MethodName := ⟨RJ9, "abs", "(I)I"⟩
abbrev cJ9_max_7cf53 : ByteArray := prog_10_method_65_code
def yJ9_max_7cf53 : MethodName := ⟨RJ9, "max", "(II)I"⟩
abbrev cJ9_min_7cf53 : ByteArray := prog_10_method_69_code
def yJ9_min_7cf53 : MethodName := ⟨RJ9, "min", "(II)I"⟩
def RJ10 : String := "java/lang/System"
def TJ10 : u_T := fun k => match k with
  | _ => ("", "", "", false)
def tyJ10 : Nat → FieldType := fun k => match k with
  | _ => .int
abbrev wsJ100 : List Cond := u_ws RJ10 TJ10 0
theorem nmJ10 : ∀ a, a < 0 → ∀ b, b < 0 → a ≠ b → (TJ10 a).2.1 ≠ (TJ10 b).2.1 := by decide +kernel
theorem tyJ10_ok : ∀ k, k < 0 → parseFieldDescriptor (TJ10 k).2.2.1 = some (tyJ10 k) := by decide +kernel
def RJ7 : String := "java/util/Arrays"
def TJ7 : u_T := fun k => match k with
  | _ => ("", "", "", false)
def tyJ7 : Nat → FieldType := fun k => match k with
  | _ => .int
abbrev wsJ70 : List Cond := u_ws RJ7 TJ7 0
theorem nmJ7 : ∀ a, a < 0 → ∀ b, b < 0 → a ≠ b → (TJ7 a).2.1 ≠ (TJ7 b).2.1 := by decide +kernel
theorem tyJ7_ok : ∀ k, k < 0 → parseFieldDescriptor (TJ7 k).2.2.1 = some (tyJ7 k) := by decide +kernel
abbrev cJ7_fill_53178 : ByteArray := prog_12_method_103_code
def yJ7_fill_53178 : MethodName := ⟨RJ7, "fill", "([II)V"⟩
def RL : String := "FloodBasinsLaw"
abbrev cL_law : ByteArray := code
def yL_law : MethodName := ⟨RL, "law", "([I)Z"⟩
abbrev vwCl : List vw_C := [(RX0, TX0, 5), (RX1, TX1, 7), (RX2, TX2, 4), (RX3, TX3, 12), (RX4, TX4, 3), (RX5, TX5, 6), (RX6, TX6, 11), (RX7, TX7, 20)]
end
section
theorem dX0_init_0 : decode cX0_init 0 = .ok (.aload_n 0, 1) := by decide +kernel
theorem dX0_init_1 : decode cX0_init 1 = .ok (.invokespecial 3, 3) := by decide +kernel
theorem dX0_init_4 : decode cX0_init 4 = .ok (.aload_n 0, 1) := by decide +kernel
theorem dX0_init_5 : decode cX0_init 5 = .ok (.sipush 144, 3) := by decide +kernel
theorem dX0_init_8 : decode cX0_init 8 = .ok (.newarray .int, 2) := by decide +kernel
theorem dX0_init_10 : decode cX0_init 10 = .ok (.putfield 9, 3) := by decide +kernel
theorem dX0_init_13 : decode cX0_init 13 = .ok (.aload_n 0, 1) := by decide +kernel
theorem dX0_init_14 : decode cX0_init 14 = .ok (.sipush 144, 3) := by decide +kernel
theorem dX0_init_17 : decode cX0_init 17 = .ok (.newarray .int, 2) := by decide +kernel
theorem dX0_init_19 : decode cX0_init 19 = .ok (.putfield 15, 3) := by decide +kernel
theorem dX0_init_22 : decode cX0_init 22 = .ok (.aload_n 0, 1) := by decide +kernel
theorem dX0_init_23 : decode cX0_init 23 = .ok (.sipush 144, 3) := by decide +kernel
theorem dX0_init_26 : decode cX0_init 26 = .ok (.newarray .int, 2) := by decide +kernel
theorem dX0_init_28 : decode cX0_init 28 = .ok (.putfield 18, 3) := by decide +kernel
theorem dX0_init_31 : decode cX0_init 31 = .ok (.aload_n 0, 1) := by decide +kernel
theorem dX0_init_32 : decode cX0_init 32 = .ok (.bipush 100, 2) := by decide +kernel
theorem dX0_init_34 : decode cX0_init 34 = .ok (.newarray .int, 2) := by decide +kernel
theorem dX0_init_36 : decode cX0_init 36 = .ok (.putfield 21, 3) := by decide +kernel
theorem dX0_init_39 : decode cX0_init 39 = .ok (.aload_n 0, 1) := by decide +kernel
theorem dX0_init_40 : decode cX0_init 40 = .ok (.new 24, 3) := by decide +kernel
theorem dX0_init_43 : decode cX0_init 43 = .ok (.dup, 1) := by decide +kernel
theorem dX0_init_44 : decode cX0_init 44 = .ok (.invokespecial 26, 3) := by decide +kernel
theorem dX0_init_47 : decode cX0_init 47 = .ok (.putfield 27, 3) := by decide +kernel
theorem dX0_init_50 : decode cX0_init 50 = .ok (.return_, 1) := by decide +kernel
theorem dX0_rise_0 : decode cX0_rise 0 = .ok (.aload_n 0, 1) := by decide +kernel
theorem dX0_rise_1 : decode cX0_rise 1 = .ok (.getfield 27, 3) := by decide +kernel
theorem dX0_rise_4 : decode cX0_rise 4 = .ok (.invokevirtual 31, 3) := by decide +kernel
theorem dX0_rise_7 : decode cX0_rise 7 = .ok (.aload_n 0, 1) := by decide +kernel
theorem dX0_rise_8 : decode cX0_rise 8 = .ok (.aload_n 1, 1) := by decide +kernel
theorem dX0_rise_9 : decode cX0_rise 9 = .ok (.invokevirtual 34, 3) := by decide +kernel
theorem dX0_rise_12 : decode cX0_rise 12 = .ok (.iconst 0, 1) := by decide +kernel
theorem dX0_rise_13 : decode cX0_rise 13 = .ok (.istore_n 2, 1) := by decide +kernel
theorem dX0_rise_14 : decode cX0_rise 14 = .ok (.iload_n 2, 1) := by decide +kernel
theorem dX0_rise_15 : decode cX0_rise 15 = .ok (.aload_n 1, 1) := by decide +kernel
theorem dX0_rise_16 : decode cX0_rise 16 = .ok (.getfield 38, 3) := by decide +kernel
theorem dX0_rise_19 : decode cX0_rise 19 = .ok (.if_icmp .ge 24, 3) := by decide +kernel
theorem dX0_rise_22 : decode cX0_rise 22 = .ok (.aload_n 1, 1) := by decide +kernel
theorem dX0_rise_23 : decode cX0_rise 23 = .ok (.getfield 44, 3) := by decide +kernel
theorem dX0_rise_26 : decode cX0_rise 26 = .ok (.iload_n 2, 1) := by decide +kernel
theorem dX0_rise_27 : decode cX0_rise 27 = .ok (.iaload, 1) := by decide +kernel
theorem dX0_rise_28 : decode cX0_rise 28 = .ok (.ifCond .le 9, 3) := by decide +kernel
theorem dX0_rise_31 : decode cX0_rise 31 = .ok (.aload_n 0, 1) := by decide +kernel
theorem dX0_rise_32 : decode cX0_rise 32 = .ok (.aload_n 1, 1) := by decide +kernel
theorem dX0_rise_33 : decode cX0_rise 33 = .ok (.iload_n 2, 1) := by decide +kernel
theorem dX0_rise_34 : decode cX0_rise 34 = .ok (.invokevirtual 47, 3) := by decide +kernel
theorem dX0_rise_37 : decode cX0_rise 37 = .ok (.iinc 2 1, 3) := by decide +kernel
theorem dX0_rise_40 : decode cX0_rise 40 = .ok (.goto (-26), 3) := by decide +kernel
theorem dX0_rise_43 : decode cX0_rise 43 = .ok (.iconst 1, 1) := by decide +kernel
theorem dX0_rise_44 : decode cX0_rise 44 = .ok (.istore_n 2, 1) := by decide +kernel
theorem dX0_rise_45 : decode cX0_rise 45 = .ok (.iload_n 2, 1) := by decide +kernel
theorem dX0_rise_46 : decode cX0_rise 46 = .ok (.aload_n 1, 1) := by decide +kernel
theorem dX0_rise_47 : decode cX0_rise 47 = .ok (.getfield 38, 3) := by decide +kernel
theorem dX0_rise_50 : decode cX0_rise 50 = .ok (.if_icmp .gt 60, 3) := by decide +kernel
theorem dX0_rise_53 : decode cX0_rise 53 = .ok (.aload_n 0, 1) := by decide +kernel
theorem dX0_rise_54 : decode cX0_rise 54 = .ok (.getfield 27, 3) := by decide +kernel
theorem dX0_rise_57 : decode cX0_rise 57 = .ok (.invokevirtual 51, 3) := by decide +kernel
theorem dX0_rise_60 : decode cX0_rise 60 = .ok (.istore_n 3, 1) := by decide +kernel
theorem dX0_rise_61 : decode cX0_rise 61 = .ok (.iload_n 3, 1) := by decide +kernel
theorem dX0_rise_62 : decode cX0_rise 62 = .ok (.iconst (-1), 1) := by decide +kernel
theorem dX0_rise_63 : decode cX0_rise 63 = .ok (.if_icmp .ne 4, 3) := by decide +kernel
theorem dX0_rise_66 : decode cX0_rise 66 = .ok (.return_, 1) := by decide +kernel
theorem dX0_rise_67 : decode cX0_rise 67 = .ok (.aload_n 0, 1) := by decide +kernel
theorem dX0_rise_68 : decode cX0_rise 68 = .ok (.getfield 18, 3) := by decide +kernel
theorem dX0_rise_71 : decode cX0_rise 71 = .ok (.iload_n 3, 1) := by decide +kernel
theorem dX0_rise_72 : decode cX0_rise 72 = .ok (.iload_n 2, 1) := by decide +kernel
theorem dX0_rise_73 : decode cX0_rise 73 = .ok (.iastore, 1) := by decide +kernel
theorem dX0_rise_74 : decode cX0_rise 74 = .ok (.aload_n 0, 1) := by decide +kernel
theorem dX0_rise_75 : decode cX0_rise 75 = .ok (.getfield 9, 3) := by decide +kernel
theorem dX0_rise_78 : decode cX0_rise 78 = .ok (.iload_n 3, 1) := by decide +kernel
theorem dX0_rise_79 : decode cX0_rise 79 = .ok (.aload_n 1, 1) := by decide +kernel
theorem dX0_rise_80 : decode cX0_rise 80 = .ok (.iload_n 3, 1) := by decide +kernel
theorem dX0_rise_81 : decode cX0_rise 81 = .ok (.aload_n 0, 1) := by decide +kernel
theorem dX0_rise_82 : decode cX0_rise 82 = .ok (.getfield 9, 3) := by decide +kernel
theorem dX0_rise_85 : decode cX0_rise 85 = .ok (.invokevirtual 55, 3) := by decide +kernel
theorem dX0_rise_88 : decode cX0_rise 88 = .ok (.iastore, 1) := by decide +kernel
theorem dX0_rise_89 : decode cX0_rise 89 = .ok (.aload_n 0, 1) := by decide +kernel
theorem dX0_rise_90 : decode cX0_rise 90 = .ok (.getfield 9, 3) := by decide +kernel
theorem dX0_rise_93 : decode cX0_rise 93 = .ok (.iload_n 3, 1) := by decide +kernel
theorem dX0_rise_94 : decode cX0_rise 94 = .ok (.iaload, 1) := by decide +kernel
theorem dX0_rise_95 : decode cX0_rise 95 = .ok (.ifCond .le 9, 3) := by decide +kernel
theorem dX0_rise_98 : decode cX0_rise 98 = .ok (.aload_n 0, 1) := by decide +kernel
theorem dX0_rise_99 : decode cX0_rise 99 = .ok (.aload_n 1, 1) := by decide +kernel
theorem dX0_rise_100 : decode cX0_rise 100 = .ok (.iload_n 3, 1) := by decide +kernel
theorem dX0_rise_101 : decode cX0_rise 101 = .ok (.invokevirtual 47, 3) := by decide +kernel
theorem dX0_rise_104 : decode cX0_rise 104 = .ok (.iinc 2 1, 3) := by decide +kernel
theorem dX0_rise_107 : decode cX0_rise 107 = .ok (.goto (-62), 3) := by decide +kernel
theorem dX0_rise_110 : decode cX0_rise 110 = .ok (.return_, 1) := by decide +kernel
theorem dX0_startAtMarks_0 : decode cX0_startAtMarks 0 = .ok (.iconst 0, 1) := by decide +kernel
theorem dX0_startAtMarks_1 : decode cX0_startAtMarks 1 = .ok (.istore_n 2, 1) := by decide +kernel
theorem dX0_startAtMarks_2 : decode cX0_startAtMarks 2 = .ok (.iload_n 2, 1) := by decide +kernel
theorem dX0_startAtMarks_3 : decode cX0_startAtMarks 3 = .ok (.aload_n 1, 1) := by decide +kernel
theorem dX0_startAtMarks_4 : decode cX0_startAtMarks 4 = .ok (.getfield 38, 3) := by decide +kernel
theorem dX0_startAtMarks_7 : decode cX0_startAtMarks 7 = .ok (.if_icmp .ge 82, 3) := by decide +kernel
theorem dX0_startAtMarks_10 : decode cX0_startAtMarks 10 = .ok (.aload_n 1, 1) := by decide +kernel
theorem dX0_startAtMarks_11 : decode cX0_startAtMarks 11 = .ok (.getfield 44, 3) := by decide +kernel
theorem dX0_startAtMarks_14 : decode cX0_startAtMarks 14 = .ok (.iload_n 2, 1) := by decide +kernel
theorem dX0_startAtMarks_15 : decode cX0_startAtMarks 15 = .ok (.iaload, 1) := by decide +kernel
theorem dX0_startAtMarks_16 : decode cX0_startAtMarks 16 = .ok (.ifCond .le 7, 3) := by decide +kernel
theorem dX0_startAtMarks_19 : decode cX0_startAtMarks 19 = .ok (.iconst 1, 1) := by decide +kernel
theorem dX0_startAtMarks_20 : decode cX0_startAtMarks 20 = .ok (.goto 4, 3) := by decide +kernel
theorem dX0_startAtMarks_23 : decode cX0_startAtMarks 23 = .ok (.iconst 0, 1) := by decide +kernel
theorem dX0_startAtMarks_24 : decode cX0_startAtMarks 24 = .ok (.istore_n 3, 1) := by decide +kernel
theorem dX0_startAtMarks_25 : decode cX0_startAtMarks 25 = .ok (.aload_n 0, 1) := by decide +kernel
theorem dX0_startAtMarks_26 : decode cX0_startAtMarks 26 = .ok (.getfield 9, 3) := by decide +kernel
theorem dX0_startAtMarks_29 : decode cX0_startAtMarks 29 = .ok (.iload_n 2, 1) := by decide +kernel
theorem dX0_startAtMarks_30 : decode cX0_startAtMarks 30 = .ok (.iload_n 3, 1) := by decide +kernel
theorem dX0_startAtMarks_31 : decode cX0_startAtMarks 31 = .ok (.ifCond .eq 12, 3) := by decide +kernel
theorem dX0_startAtMarks_34 : decode cX0_startAtMarks 34 = .ok (.aload_n 1, 1) := by decide +kernel
theorem dX0_startAtMarks_35 : decode cX0_startAtMarks 35 = .ok (.getfield 44, 3) := by decide +kernel
theorem dX0_startAtMarks_38 : decode cX0_startAtMarks 38 = .ok (.iload_n 2, 1) := by decide +kernel
theorem dX0_startAtMarks_39 : decode cX0_startAtMarks 39 = .ok (.iaload, 1) := by decide +kernel
theorem dX0_startAtMarks_40 : decode cX0_startAtMarks 40 = .ok (.goto 5, 3) := by decide +kernel
theorem dX0_startAtMarks_43 : decode cX0_startAtMarks 43 = .ok (.bipush (-6), 2) := by decide +kernel
theorem dX0_startAtMarks_45 : decode cX0_startAtMarks 45 = .ok (.iastore, 1) := by decide +kernel
theorem dX0_startAtMarks_46 : decode cX0_startAtMarks 46 = .ok (.aload_n 0, 1) := by decide +kernel
theorem dX0_startAtMarks_47 : decode cX0_startAtMarks 47 = .ok (.getfield 15, 3) := by decide +kernel
theorem dX0_startAtMarks_50 : decode cX0_startAtMarks 50 = .ok (.iload_n 2, 1) := by decide +kernel
theorem dX0_startAtMarks_51 : decode cX0_startAtMarks 51 = .ok (.iload_n 3, 1) := by decide +kernel
theorem dX0_startAtMarks_52 : decode cX0_startAtMarks 52 = .ok (.ifCond .eq 12, 3) := by decide +kernel
theorem dX0_startAtMarks_55 : decode cX0_startAtMarks 55 = .ok (.aload_n 1, 1) := by decide +kernel
theorem dX0_startAtMarks_56 : decode cX0_startAtMarks 56 = .ok (.getfield 59, 3) := by decide +kernel
theorem dX0_startAtMarks_59 : decode cX0_startAtMarks 59 = .ok (.iload_n 2, 1) := by decide +kernel
theorem dX0_startAtMarks_60 : decode cX0_startAtMarks 60 = .ok (.iaload, 1) := by decide +kernel
theorem dX0_startAtMarks_61 : decode cX0_startAtMarks 61 = .ok (.goto 5, 3) := by decide +kernel
theorem dX0_startAtMarks_64 : decode cX0_startAtMarks 64 = .ok (.bipush (-6), 2) := by decide +kernel
theorem dX0_startAtMarks_66 : decode cX0_startAtMarks 66 = .ok (.iastore, 1) := by decide +kernel
theorem dX0_startAtMarks_67 : decode cX0_startAtMarks 67 = .ok (.aload_n 0, 1) := by decide +kernel
theorem dX0_startAtMarks_68 : decode cX0_startAtMarks 68 = .ok (.getfield 18, 3) := by decide +kernel
theorem dX0_startAtMarks_71 : decode cX0_startAtMarks 71 = .ok (.iload_n 2, 1) := by decide +kernel
theorem dX0_startAtMarks_72 : decode cX0_startAtMarks 72 = .ok (.iload_n 3, 1) := by decide +kernel
theorem dX0_startAtMarks_73 : decode cX0_startAtMarks 73 = .ok (.ifCond .eq 7, 3) := by decide +kernel
theorem dX0_startAtMarks_76 : decode cX0_startAtMarks 76 = .ok (.iconst 0, 1) := by decide +kernel
theorem dX0_startAtMarks_77 : decode cX0_startAtMarks 77 = .ok (.goto 5, 3) := by decide +kernel
theorem dX0_startAtMarks_80 : decode cX0_startAtMarks 80 = .ok (.bipush (-6), 2) := by decide +kernel
theorem dX0_startAtMarks_82 : decode cX0_startAtMarks 82 = .ok (.iastore, 1) := by decide +kernel
theorem dX0_startAtMarks_83 : decode cX0_startAtMarks 83 = .ok (.iinc 2 1, 3) := by decide +kernel
theorem dX0_startAtMarks_86 : decode cX0_startAtMarks 86 = .ok (.goto (-84), 3) := by decide +kernel
theorem dX0_startAtMarks_89 : decode cX0_startAtMarks 89 = .ok (.return_, 1) := by decide +kernel
theorem dX0_lineUpAround_0 : decode cX0_lineUpAround 0 = .ok (.iconst 0, 1) := by decide +kernel
theorem dX0_lineUpAround_1 : decode cX0_lineUpAround 1 = .ok (.istore_n 3, 1) := by decide +kernel
theorem dX0_lineUpAround_2 : decode cX0_lineUpAround 2 = .ok (.iload_n 3, 1) := by decide +kernel
theorem dX0_lineUpAround_3 : decode cX0_lineUpAround 3 = .ok (.iconst 4, 1) := by decide +kernel
theorem dX0_lineUpAround_4 : decode cX0_lineUpAround 4 = .ok (.if_icmp .ge 74, 3) := by decide +kernel
theorem dX0_lineUpAround_7 : decode cX0_lineUpAround 7 = .ok (.aload_n 1, 1) := by decide +kernel
theorem dX0_lineUpAround_8 : decode cX0_lineUpAround 8 = .ok (.iload_n 2, 1) := by decide +kernel
theorem dX0_lineUpAround_9 : decode cX0_lineUpAround 9 = .ok (.iload_n 3, 1) := by decide +kernel
theorem dX0_lineUpAround_10 : decode cX0_lineUpAround 10 = .ok (.invokevirtual 62, 3) := by decide +kernel
theorem dX0_lineUpAround_13 : decode cX0_lineUpAround 13 = .ok (.istore 4, 2) := by decide +kernel
theorem dX0_lineUpAround_15 : decode cX0_lineUpAround 15 = .ok (.iload 4, 2) := by decide +kernel
theorem dX0_lineUpAround_17 : decode cX0_lineUpAround 17 = .ok (.iconst (-1), 1) := by decide +kernel
theorem dX0_lineUpAround_18 : decode cX0_lineUpAround 18 = .ok (.if_icmp .eq 54, 3) := by decide +kernel
theorem dX0_lineUpAround_21 : decode cX0_lineUpAround 21 = .ok (.aload_n 0, 1) := by decide +kernel
theorem dX0_lineUpAround_22 : decode cX0_lineUpAround 22 = .ok (.getfield 15, 3) := by decide +kernel
theorem dX0_lineUpAround_25 : decode cX0_lineUpAround 25 = .ok (.iload 4, 2) := by decide +kernel
theorem dX0_lineUpAround_27 : decode cX0_lineUpAround 27 = .ok (.iaload, 1) := by decide +kernel
theorem dX0_lineUpAround_28 : decode cX0_lineUpAround 28 = .ok (.bipush (-6), 2) := by decide +kernel
theorem dX0_lineUpAround_30 : decode cX0_lineUpAround 30 = .ok (.if_icmp .ne 42, 3) := by decide +kernel
theorem dX0_lineUpAround_33 : decode cX0_lineUpAround 33 = .ok (.aload_n 0, 1) := by decide +kernel
theorem dX0_lineUpAround_34 : decode cX0_lineUpAround 34 = .ok (.getfield 15, 3) := by decide +kernel
theorem dX0_lineUpAround_37 : decode cX0_lineUpAround 37 = .ok (.iload 4, 2) := by decide +kernel
theorem dX0_lineUpAround_39 : decode cX0_lineUpAround 39 = .ok (.aload_n 1, 1) := by decide +kernel
theorem dX0_lineUpAround_40 : decode cX0_lineUpAround 40 = .ok (.getfield 59, 3) := by decide +kernel
theorem dX0_lineUpAround_43 : decode cX0_lineUpAround 43 = .ok (.iload 4, 2) := by decide +kernel
theorem dX0_lineUpAround_45 : decode cX0_lineUpAround 45 = .ok (.iaload, 1) := by decide +kernel
theorem dX0_lineUpAround_46 : decode cX0_lineUpAround 46 = .ok (.aload_n 0, 1) := by decide +kernel
theorem dX0_lineUpAround_47 : decode cX0_lineUpAround 47 = .ok (.getfield 15, 3) := by decide +kernel
theorem dX0_lineUpAround_50 : decode cX0_lineUpAround 50 = .ok (.iload_n 2, 1) := by decide +kernel
theorem dX0_lineUpAround_51 : decode cX0_lineUpAround 51 = .ok (.iaload, 1) := by decide +kernel
theorem dX0_lineUpAround_52 : decode cX0_lineUpAround 52 = .ok (.invokestatic 66, 3) := by decide +kernel
theorem dX0_lineUpAround_55 : decode cX0_lineUpAround 55 = .ok (.iastore, 1) := by decide +kernel
theorem dX0_lineUpAround_56 : decode cX0_lineUpAround 56 = .ok (.aload_n 0, 1) := by decide +kernel
theorem dX0_lineUpAround_57 : decode cX0_lineUpAround 57 = .ok (.getfield 27, 3) := by decide +kernel
theorem dX0_lineUpAround_60 : decode cX0_lineUpAround 60 = .ok (.iload 4, 2) := by decide +kernel
theorem dX0_lineUpAround_62 : decode cX0_lineUpAround 62 = .ok (.aload_n 0, 1) := by decide +kernel
theorem dX0_lineUpAround_63 : decode cX0_lineUpAround 63 = .ok (.getfield 15, 3) := by decide +kernel
theorem dX0_lineUpAround_66 : decode cX0_lineUpAround 66 = .ok (.iload 4, 2) := by decide +kernel
theorem dX0_lineUpAround_68 : decode cX0_lineUpAround 68 = .ok (.iaload, 1) := by decide +kernel
theorem dX0_lineUpAround_69 : decode cX0_lineUpAround 69 = .ok (.invokevirtual 71, 3) := by decide +kernel
theorem dX0_lineUpAround_72 : decode cX0_lineUpAround 72 = .ok (.iinc 3 1, 3) := by decide +kernel
theorem dX0_lineUpAround_75 : decode cX0_lineUpAround 75 = .ok (.goto (-73), 3) := by decide +kernel
theorem dX0_lineUpAround_78 : decode cX0_lineUpAround 78 = .ok (.return_, 1) := by decide +kernel
theorem dX0_countBasins_0 : decode cX0_countBasins 0 = .ok (.iconst 0, 1) := by decide +kernel
theorem dX0_countBasins_1 : decode cX0_countBasins 1 = .ok (.istore_n 2, 1) := by decide +kernel
theorem dX0_countBasins_2 : decode cX0_countBasins 2 = .ok (.aload_n 0, 1) := by decide +kernel
theorem dX0_countBasins_3 : decode cX0_countBasins 3 = .ok (.getfield 21, 3) := by decide +kernel
theorem dX0_countBasins_6 : decode cX0_countBasins 6 = .ok (.iconst 0, 1) := by decide +kernel
theorem dX0_countBasins_7 : decode cX0_countBasins 7 = .ok (.invokestatic 75, 3) := by decide +kernel
theorem dX0_countBasins_10 : decode cX0_countBasins 10 = .ok (.iconst 0, 1) := by decide +kernel
theorem dX0_countBasins_11 : decode cX0_countBasins 11 = .ok (.istore_n 3, 1) := by decide +kernel
theorem dX0_countBasins_12 : decode cX0_countBasins 12 = .ok (.iload_n 3, 1) := by decide +kernel
theorem dX0_countBasins_13 : decode cX0_countBasins 13 = .ok (.aload_n 1, 1) := by decide +kernel
theorem dX0_countBasins_14 : decode cX0_countBasins 14 = .ok (.getfield 38, 3) := by decide +kernel
theorem dX0_countBasins_17 : decode cX0_countBasins 17 = .ok (.if_icmp .ge 43, 3) := by decide +kernel
theorem dX0_countBasins_20 : decode cX0_countBasins 20 = .ok (.aload_n 1, 1) := by decide +kernel
theorem dX0_countBasins_21 : decode cX0_countBasins 21 = .ok (.getfield 44, 3) := by decide +kernel
theorem dX0_countBasins_24 : decode cX0_countBasins 24 = .ok (.iload_n 3, 1) := by decide +kernel
theorem dX0_countBasins_25 : decode cX0_countBasins 25 = .ok (.iaload, 1) := by decide +kernel
theorem dX0_countBasins_26 : decode cX0_countBasins 26 = .ok (.istore 4, 2) := by decide +kernel
theorem dX0_countBasins_28 : decode cX0_countBasins 28 = .ok (.iload 4, 2) := by decide +kernel
theorem dX0_countBasins_30 : decode cX0_countBasins 30 = .ok (.ifCond .le 24, 3) := by decide +kernel
theorem dX0_countBasins_33 : decode cX0_countBasins 33 = .ok (.aload_n 0, 1) := by decide +kernel
theorem dX0_countBasins_34 : decode cX0_countBasins 34 = .ok (.getfield 21, 3) := by decide +kernel
theorem dX0_countBasins_37 : decode cX0_countBasins 37 = .ok (.iload 4, 2) := by decide +kernel
theorem dX0_countBasins_39 : decode cX0_countBasins 39 = .ok (.iaload, 1) := by decide +kernel
theorem dX0_countBasins_40 : decode cX0_countBasins 40 = .ok (.ifCond .ne 14, 3) := by decide +kernel
theorem dX0_countBasins_43 : decode cX0_countBasins 43 = .ok (.aload_n 0, 1) := by decide +kernel
theorem dX0_countBasins_44 : decode cX0_countBasins 44 = .ok (.getfield 21, 3) := by decide +kernel
theorem dX0_countBasins_47 : decode cX0_countBasins 47 = .ok (.iload 4, 2) := by decide +kernel
theorem dX0_countBasins_49 : decode cX0_countBasins 49 = .ok (.iconst 1, 1) := by decide +kernel
theorem dX0_countBasins_50 : decode cX0_countBasins 50 = .ok (.iastore, 1) := by decide +kernel
theorem dX0_countBasins_51 : decode cX0_countBasins 51 = .ok (.iinc 2 1, 3) := by decide +kernel
theorem dX0_countBasins_54 : decode cX0_countBasins 54 = .ok (.iinc 3 1, 3) := by decide +kernel
theorem dX0_countBasins_57 : decode cX0_countBasins 57 = .ok (.goto (-45), 3) := by decide +kernel
theorem dX0_countBasins_60 : decode cX0_countBasins 60 = .ok (.iload_n 2, 1) := by decide +kernel
theorem dX0_countBasins_61 : decode cX0_countBasins 61 = .ok (.ireturn, 1) := by decide +kernel
theorem dX0_greatestLevel_0 : decode cX0_greatestLevel 0 = .ok (.bipush (-6), 2) := by decide +kernel
theorem dX0_greatestLevel_2 : decode cX0_greatestLevel 2 = .ok (.istore_n 2, 1) := by decide +kernel
theorem dX0_greatestLevel_3 : decode cX0_greatestLevel 3 = .ok (.iconst 0, 1) := by decide +kernel
theorem dX0_greatestLevel_4 : decode cX0_greatestLevel 4 = .ok (.istore_n 3, 1) := by decide +kernel
theorem dX0_greatestLevel_5 : decode cX0_greatestLevel 5 = .ok (.iload_n 3, 1) := by decide +kernel
theorem dX0_greatestLevel_6 : decode cX0_greatestLevel 6 = .ok (.aload_n 1, 1) := by decide +kernel
theorem dX0_greatestLevel_7 : decode cX0_greatestLevel 7 = .ok (.getfield 38, 3) := by decide +kernel
theorem dX0_greatestLevel_10 : decode cX0_greatestLevel 10 = .ok (.if_icmp .ge 20, 3) := by decide +kernel
theorem dX0_greatestLevel_13 : decode cX0_greatestLevel 13 = .ok (.iload_n 2, 1) := by decide +kernel
theorem dX0_greatestLevel_14 : decode cX0_greatestLevel 14 = .ok (.aload_n 0, 1) := by decide +kernel
theorem dX0_greatestLevel_15 : decode cX0_greatestLevel 15 = .ok (.getfield 15, 3) := by decide +kernel
theorem dX0_greatestLevel_18 : decode cX0_greatestLevel 18 = .ok (.iload_n 3, 1) := by decide +kernel
theorem dX0_greatestLevel_19 : decode cX0_greatestLevel 19 = .ok (.iaload, 1) := by decide +kernel
theorem dX0_greatestLevel_20 : decode cX0_greatestLevel 20 = .ok (.invokestatic 66, 3) := by decide +kernel
theorem dX0_greatestLevel_23 : decode cX0_greatestLevel 23 = .ok (.istore_n 2, 1) := by decide +kernel
theorem dX0_greatestLevel_24 : decode cX0_greatestLevel 24 = .ok (.iinc 3 1, 3) := by decide +kernel
theorem dX0_greatestLevel_27 : decode cX0_greatestLevel 27 = .ok (.goto (-22), 3) := by decide +kernel
theorem dX0_greatestLevel_30 : decode cX0_greatestLevel 30 = .ok (.iload_n 2, 1) := by decide +kernel
theorem dX0_greatestLevel_31 : decode cX0_greatestLevel 31 = .ok (.ireturn, 1) := by decide +kernel
theorem dX1_init_0 : decode cX1_init 0 = .ok (.aload_n 0, 1) := by decide +kernel
theorem dX1_init_1 : decode cX1_init 1 = .ok (.invokespecial 3, 3) := by decide +kernel
theorem dX1_init_4 : decode cX1_init 4 = .ok (.aload_n 0, 1) := by decide +kernel
theorem dX1_init_5 : decode cX1_init 5 = .ok (.iconst 0, 1) := by decide +kernel
theorem dX1_init_6 : decode cX1_init 6 = .ok (.putfield 9, 3) := by decide +kernel
theorem dX1_init_9 : decode cX1_init 9 = .ok (.aload_n 0, 1) := by decide +kernel
theorem dX1_init_10 : decode cX1_init 10 = .ok (.iconst 0, 1) := by decide +kernel
theorem dX1_init_11 : decode cX1_init 11 = .ok (.putfield 15, 3) := by decide +kernel
theorem dX1_init_14 : decode cX1_init 14 = .ok (.aload_n 0, 1) := by decide +kernel
theorem dX1_init_15 : decode cX1_init 15 = .ok (.iconst 0, 1) := by decide +kernel
theorem dX1_init_16 : decode cX1_init 16 = .ok (.putfield 19, 3) := by decide +kernel
theorem dX1_init_19 : decode cX1_init 19 = .ok (.aload_n 0, 1) := by decide +kernel
theorem dX1_init_20 : decode cX1_init 20 = .ok (.iconst 0, 1) := by decide +kernel
theorem dX1_init_21 : decode cX1_init 21 = .ok (.putfield 22, 3) := by decide +kernel
theorem dX1_init_24 : decode cX1_init 24 = .ok (.aload_n 0, 1) := by decide +kernel
theorem dX1_init_25 : decode cX1_init 25 = .ok (.iconst 0, 1) := by decide +kernel
theorem dX1_init_26 : decode cX1_init 26 = .ok (.putfield 25, 3) := by decide +kernel
theorem dX1_init_29 : decode cX1_init 29 = .ok (.aload_n 0, 1) := by decide +kernel
theorem dX1_init_30 : decode cX1_init 30 = .ok (.sipush 144, 3) := by decide +kernel
theorem dX1_init_33 : decode cX1_init 33 = .ok (.newarray .int, 2) := by decide +kernel
theorem dX1_init_35 : decode cX1_init 35 = .ok (.putfield 28, 3) := by decide +kernel
theorem dX1_init_38 : decode cX1_init 38 = .ok (.aload_n 0, 1) := by decide +kernel
theorem dX1_init_39 : decode cX1_init 39 = .ok (.sipush 144, 3) := by decide +kernel
theorem dX1_init_42 : decode cX1_init 42 = .ok (.newarray .int, 2) := by decide +kernel
theorem dX1_init_44 : decode cX1_init 44 = .ok (.putfield 32, 3) := by decide +kernel
theorem dX1_init_47 : decode cX1_init 47 = .ok (.return_, 1) := by decide +kernel
theorem dX1_keep_0 : decode cX1_keep 0 = .ok (.aload_n 0, 1) := by decide +kernel
theorem dX1_keep_1 : decode cX1_keep 1 = .ok (.iconst 1, 1) := by decide +kernel
theorem dX1_keep_2 : decode cX1_keep 2 = .ok (.putfield 9, 3) := by decide +kernel
theorem dX1_keep_5 : decode cX1_keep 5 = .ok (.aload_n 0, 1) := by decide +kernel
theorem dX1_keep_6 : decode cX1_keep 6 = .ok (.iload_n 2, 1) := by decide +kernel
theorem dX1_keep_7 : decode cX1_keep 7 = .ok (.putfield 15, 3) := by decide +kernel
theorem dX1_keep_10 : decode cX1_keep 10 = .ok (.aload_n 0, 1) := by decide +kernel
theorem dX1_keep_11 : decode cX1_keep 11 = .ok (.iload_n 3, 1) := by decide +kernel
theorem dX1_keep_12 : decode cX1_keep 12 = .ok (.putfield 19, 3) := by decide +kernel
theorem dX1_keep_15 : decode cX1_keep 15 = .ok (.aload_n 0, 1) := by decide +kernel
theorem dX1_keep_16 : decode cX1_keep 16 = .ok (.aload_n 1, 1) := by decide +kernel
theorem dX1_keep_17 : decode cX1_keep 17 = .ok (.getfield 35, 3) := by decide +kernel
theorem dX1_keep_20 : decode cX1_keep 20 = .ok (.putfield 22, 3) := by decide +kernel
theorem dX1_keep_23 : decode cX1_keep 23 = .ok (.aload_n 0, 1) := by decide +kernel
theorem dX1_keep_24 : decode cX1_keep 24 = .ok (.aload_n 1, 1) := by decide +kernel
theorem dX1_keep_25 : decode cX1_keep 25 = .ok (.getfield 38, 3) := by decide +kernel
theorem dX1_keep_28 : decode cX1_keep 28 = .ok (.putfield 25, 3) := by decide +kernel
theorem dX1_keep_31 : decode cX1_keep 31 = .ok (.aload_n 1, 1) := by decide +kernel
theorem dX1_keep_32 : decode cX1_keep 32 = .ok (.getfield 39, 3) := by decide +kernel
theorem dX1_keep_35 : decode cX1_keep 35 = .ok (.iconst 0, 1) := by decide +kernel
theorem dX1_keep_36 : decode cX1_keep 36 = .ok (.aload_n 0, 1) := by decide +kernel
theorem dX1_keep_37 : decode cX1_keep 37 = .ok (.getfield 28, 3) := by decide +kernel
theorem dX1_keep_40 : decode cX1_keep 40 = .ok (.iconst 0, 1) := by decide +kernel
theorem dX1_keep_41 : decode cX1_keep 41 = .ok (.sipush 144, 3) := by decide +kernel
theorem dX1_keep_44 : decode cX1_keep 44 = .ok (.invokestatic 40, 3) := by decide +kernel
theorem dX1_keep_47 : decode cX1_keep 47 = .ok (.aload_n 1, 1) := by decide +kernel
theorem dX1_keep_48 : decode cX1_keep 48 = .ok (.getfield 46, 3) := by decide +kernel
theorem dX1_keep_51 : decode cX1_keep 51 = .ok (.iconst 0, 1) := by decide +kernel
theorem dX1_keep_52 : decode cX1_keep 52 = .ok (.aload_n 0, 1) := by decide +kernel
theorem dX1_keep_53 : decode cX1_keep 53 = .ok (.getfield 32, 3) := by decide +kernel
theorem dX1_keep_56 : decode cX1_keep 56 = .ok (.iconst 0, 1) := by decide +kernel
theorem dX1_keep_57 : decode cX1_keep 57 = .ok (.sipush 144, 3) := by decide +kernel
theorem dX1_keep_60 : decode cX1_keep 60 = .ok (.invokestatic 40, 3) := by decide +kernel
theorem dX1_keep_63 : decode cX1_keep 63 = .ok (.return_, 1) := by decide +kernel
theorem dX1_giveBack_0 : decode cX1_giveBack 0 = .ok (.aload_n 1, 1) := by decide +kernel
theorem dX1_giveBack_1 : decode cX1_giveBack 1 = .ok (.aload_n 0, 1) := by decide +kernel
theorem dX1_giveBack_2 : decode cX1_giveBack 2 = .ok (.getfield 22, 3) := by decide +kernel
theorem dX1_giveBack_5 : decode cX1_giveBack 5 = .ok (.aload_n 0, 1) := by decide +kernel
theorem dX1_giveBack_6 : decode cX1_giveBack 6 = .ok (.getfield 25, 3) := by decide +kernel
theorem dX1_giveBack_9 : decode cX1_giveBack 9 = .ok (.invokevirtual 47, 3) := by decide +kernel
theorem dX1_giveBack_12 : decode cX1_giveBack 12 = .ok (.aload_n 0, 1) := by decide +kernel
theorem dX1_giveBack_13 : decode cX1_giveBack 13 = .ok (.getfield 28, 3) := by decide +kernel
theorem dX1_giveBack_16 : decode cX1_giveBack 16 = .ok (.iconst 0, 1) := by decide +kernel
theorem dX1_giveBack_17 : decode cX1_giveBack 17 = .ok (.aload_n 1, 1) := by decide +kernel
theorem dX1_giveBack_18 : decode cX1_giveBack 18 = .ok (.getfield 39, 3) := by decide +kernel
theorem dX1_giveBack_21 : decode cX1_giveBack 21 = .ok (.iconst 0, 1) := by decide +kernel
theorem dX1_giveBack_22 : decode cX1_giveBack 22 = .ok (.sipush 144, 3) := by decide +kernel
theorem dX1_giveBack_25 : decode cX1_giveBack 25 = .ok (.invokestatic 40, 3) := by decide +kernel
theorem dX1_giveBack_28 : decode cX1_giveBack 28 = .ok (.aload_n 0, 1) := by decide +kernel
theorem dX1_giveBack_29 : decode cX1_giveBack 29 = .ok (.getfield 32, 3) := by decide +kernel
theorem dX1_giveBack_32 : decode cX1_giveBack 32 = .ok (.iconst 0, 1) := by decide +kernel
theorem dX1_giveBack_33 : decode cX1_giveBack 33 = .ok (.aload_n 1, 1) := by decide +kernel
theorem dX1_giveBack_34 : decode cX1_giveBack 34 = .ok (.getfield 46, 3) := by decide +kernel
theorem dX1_giveBack_37 : decode cX1_giveBack 37 = .ok (.iconst 0, 1) := by decide +kernel
theorem dX1_giveBack_38 : decode cX1_giveBack 38 = .ok (.sipush 144, 3) := by decide +kernel
theorem dX1_giveBack_41 : decode cX1_giveBack 41 = .ok (.invokestatic 40, 3) := by decide +kernel
theorem dX1_giveBack_44 : decode cX1_giveBack 44 = .ok (.return_, 1) := by decide +kernel
theorem dX2_init_0 : decode cX2_init 0 = .ok (.aload_n 0, 1) := by decide +kernel
theorem dX2_init_1 : decode cX2_init 1 = .ok (.invokespecial 3, 3) := by decide +kernel
theorem dX2_init_4 : decode cX2_init 4 = .ok (.aload_n 0, 1) := by decide +kernel
theorem dX2_init_5 : decode cX2_init 5 = .ok (.bipush 100, 2) := by decide +kernel
theorem dX2_init_7 : decode cX2_init 7 = .ok (.newarray .int, 2) := by decide +kernel
theorem dX2_init_9 : decode cX2_init 9 = .ok (.putfield 9, 3) := by decide +kernel
theorem dX2_init_12 : decode cX2_init 12 = .ok (.aload_n 0, 1) := by decide +kernel
theorem dX2_init_13 : decode cX2_init 13 = .ok (.bipush 100, 2) := by decide +kernel
theorem dX2_init_15 : decode cX2_init 15 = .ok (.newarray .int, 2) := by decide +kernel
theorem dX2_init_17 : decode cX2_init 17 = .ok (.putfield 15, 3) := by decide +kernel
theorem dX2_init_20 : decode cX2_init 20 = .ok (.aload_n 0, 1) := by decide +kernel
theorem dX2_init_21 : decode cX2_init 21 = .ok (.sipush 144, 3) := by decide +kernel
theorem dX2_init_24 : decode cX2_init 24 = .ok (.newarray .int, 2) := by decide +kernel
theorem dX2_init_26 : decode cX2_init 26 = .ok (.putfield 18, 3) := by decide +kernel
theorem dX2_init_29 : decode cX2_init 29 = .ok (.aload_n 0, 1) := by decide +kernel
theorem dX2_init_30 : decode cX2_init 30 = .ok (.iconst 0, 1) := by decide +kernel
theorem dX2_init_31 : decode cX2_init 31 = .ok (.putfield 21, 3) := by decide +kernel
theorem dX2_init_34 : decode cX2_init 34 = .ok (.return_, 1) := by decide +kernel
theorem dX2_empty_0 : decode cX2_empty 0 = .ok (.aload_n 0, 1) := by decide +kernel
theorem dX2_empty_1 : decode cX2_empty 1 = .ok (.getfield 9, 3) := by decide +kernel
theorem dX2_empty_4 : decode cX2_empty 4 = .ok (.iconst (-1), 1) := by decide +kernel
theorem dX2_empty_5 : decode cX2_empty 5 = .ok (.invokestatic 25, 3) := by decide +kernel
theorem dX2_empty_8 : decode cX2_empty 8 = .ok (.aload_n 0, 1) := by decide +kernel
theorem dX2_empty_9 : decode cX2_empty 9 = .ok (.getfield 15, 3) := by decide +kernel
theorem dX2_empty_12 : decode cX2_empty 12 = .ok (.iconst (-1), 1) := by decide +kernel
theorem dX2_empty_13 : decode cX2_empty 13 = .ok (.invokestatic 25, 3) := by decide +kernel
theorem dX2_empty_16 : decode cX2_empty 16 = .ok (.aload_n 0, 1) := by decide +kernel
theorem dX2_empty_17 : decode cX2_empty 17 = .ok (.iconst 0, 1) := by decide +kernel
theorem dX2_empty_18 : decode cX2_empty 18 = .ok (.putfield 21, 3) := by decide +kernel
theorem dX2_empty_21 : decode cX2_empty 21 = .ok (.return_, 1) := by decide +kernel
theorem dX2_add_0 : decode cX2_add 0 = .ok (.aload_n 0, 1) := by decide +kernel
theorem dX2_add_1 : decode cX2_add 1 = .ok (.getfield 18, 3) := by decide +kernel
theorem dX2_add_4 : decode cX2_add 4 = .ok (.iload_n 1, 1) := by decide +kernel
theorem dX2_add_5 : decode cX2_add 5 = .ok (.iconst (-1), 1) := by decide +kernel
theorem dX2_add_6 : decode cX2_add 6 = .ok (.iastore, 1) := by decide +kernel
theorem dX2_add_7 : decode cX2_add 7 = .ok (.aload_n 0, 1) := by decide +kernel
theorem dX2_add_8 : decode cX2_add 8 = .ok (.getfield 9, 3) := by decide +kernel
theorem dX2_add_11 : decode cX2_add 11 = .ok (.iload_n 2, 1) := by decide +kernel
theorem dX2_add_12 : decode cX2_add 12 = .ok (.iaload, 1) := by decide +kernel
theorem dX2_add_13 : decode cX2_add 13 = .ok (.iconst (-1), 1) := by decide +kernel
theorem dX2_add_14 : decode cX2_add 14 = .ok (.if_icmp .ne 13, 3) := by decide +kernel
theorem dX2_add_17 : decode cX2_add 17 = .ok (.aload_n 0, 1) := by decide +kernel
theorem dX2_add_18 : decode cX2_add 18 = .ok (.getfield 9, 3) := by decide +kernel
theorem dX2_add_21 : decode cX2_add 21 = .ok (.iload_n 2, 1) := by decide +kernel
theorem dX2_add_22 : decode cX2_add 22 = .ok (.iload_n 1, 1) := by decide +kernel
theorem dX2_add_23 : decode cX2_add 23 = .ok (.iastore, 1) := by decide +kernel
theorem dX2_add_24 : decode cX2_add 24 = .ok (.goto 15, 3) := by decide +kernel
theorem dX2_add_27 : decode cX2_add 27 = .ok (.aload_n 0, 1) := by decide +kernel
theorem dX2_add_28 : decode cX2_add 28 = .ok (.getfield 18, 3) := by decide +kernel
theorem dX2_add_31 : decode cX2_add 31 = .ok (.aload_n 0, 1) := by decide +kernel
theorem dX2_add_32 : decode cX2_add 32 = .ok (.getfield 15, 3) := by decide +kernel
theorem dX2_add_35 : decode cX2_add 35 = .ok (.iload_n 2, 1) := by decide +kernel
theorem dX2_add_36 : decode cX2_add 36 = .ok (.iaload, 1) := by decide +kernel
theorem dX2_add_37 : decode cX2_add 37 = .ok (.iload_n 1, 1) := by decide +kernel
theorem dX2_add_38 : decode cX2_add 38 = .ok (.iastore, 1) := by decide +kernel
theorem dX2_add_39 : decode cX2_add 39 = .ok (.aload_n 0, 1) := by decide +kernel
theorem dX2_add_40 : decode cX2_add 40 = .ok (.getfield 15, 3) := by decide +kernel
theorem dX2_add_43 : decode cX2_add 43 = .ok (.iload_n 2, 1) := by decide +kernel
theorem dX2_add_44 : decode cX2_add 44 = .ok (.iload_n 1, 1) := by decide +kernel
theorem dX2_add_45 : decode cX2_add 45 = .ok (.iastore, 1) := by decide +kernel
theorem dX2_add_46 : decode cX2_add 46 = .ok (.return_, 1) := by decide +kernel
theorem dX2_take_0 : decode cX2_take 0 = .ok (.aload_n 0, 1) := by decide +kernel
theorem dX2_take_1 : decode cX2_take 1 = .ok (.getfield 21, 3) := by decide +kernel
theorem dX2_take_4 : decode cX2_take 4 = .ok (.bipush 99, 2) := by decide +kernel
theorem dX2_take_6 : decode cX2_take 6 = .ok (.if_icmp .ge 29, 3) := by decide +kernel
theorem dX2_take_9 : decode cX2_take 9 = .ok (.aload_n 0, 1) := by decide +kernel
theorem dX2_take_10 : decode cX2_take 10 = .ok (.getfield 9, 3) := by decide +kernel
theorem dX2_take_13 : decode cX2_take 13 = .ok (.aload_n 0, 1) := by decide +kernel
theorem dX2_take_14 : decode cX2_take 14 = .ok (.getfield 21, 3) := by decide +kernel
theorem dX2_take_17 : decode cX2_take 17 = .ok (.iaload, 1) := by decide +kernel
theorem dX2_take_18 : decode cX2_take 18 = .ok (.iconst (-1), 1) := by decide +kernel
theorem dX2_take_19 : decode cX2_take 19 = .ok (.if_icmp .ne 16, 3) := by decide +kernel
theorem dX2_take_22 : decode cX2_take 22 = .ok (.aload_n 0, 1) := by decide +kernel
theorem dX2_take_23 : decode cX2_take 23 = .ok (.dup, 1) := by decide +kernel
theorem dX2_take_24 : decode cX2_take 24 = .ok (.getfield 21, 3) := by decide +kernel
theorem dX2_take_27 : decode cX2_take 27 = .ok (.iconst 1, 1) := by decide +kernel
theorem dX2_take_28 : decode cX2_take 28 = .ok (.iadd, 1) := by decide +kernel
theorem dX2_take_29 : decode cX2_take 29 = .ok (.putfield 21, 3) := by decide +kernel
theorem dX2_take_32 : decode cX2_take 32 = .ok (.goto (-32), 3) := by decide +kernel
theorem dX2_take_35 : decode cX2_take 35 = .ok (.aload_n 0, 1) := by decide +kernel
theorem dX2_take_36 : decode cX2_take 36 = .ok (.getfield 9, 3) := by decide +kernel
theorem dX2_take_39 : decode cX2_take 39 = .ok (.aload_n 0, 1) := by decide +kernel
theorem dX2_take_40 : decode cX2_take 40 = .ok (.getfield 21, 3) := by decide +kernel
theorem dX2_take_43 : decode cX2_take 43 = .ok (.iaload, 1) := by decide +kernel
theorem dX2_take_44 : decode cX2_take 44 = .ok (.istore_n 1, 1) := by decide +kernel
theorem dX2_take_45 : decode cX2_take 45 = .ok (.iload_n 1, 1) := by decide +kernel
theorem dX2_take_46 : decode cX2_take 46 = .ok (.iconst (-1), 1) := by decide +kernel
theorem dX2_take_47 : decode cX2_take 47 = .ok (.if_icmp .eq 18, 3) := by decide +kernel
theorem dX2_take_50 : decode cX2_take 50 = .ok (.aload_n 0, 1) := by decide +kernel
theorem dX2_take_51 : decode cX2_take 51 = .ok (.getfield 9, 3) := by decide +kernel
theorem dX2_take_54 : decode cX2_take 54 = .ok (.aload_n 0, 1) := by decide +kernel
theorem dX2_take_55 : decode cX2_take 55 = .ok (.getfield 21, 3) := by decide +kernel
theorem dX2_take_58 : decode cX2_take 58 = .ok (.aload_n 0, 1) := by decide +kernel
theorem dX2_take_59 : decode cX2_take 59 = .ok (.getfield 18, 3) := by decide +kernel
theorem dX2_take_62 : decode cX2_take 62 = .ok (.iload_n 1, 1) := by decide +kernel
theorem dX2_take_63 : decode cX2_take 63 = .ok (.iaload, 1) := by decide +kernel
theorem dX2_take_64 : decode cX2_take 64 = .ok (.iastore, 1) := by decide +kernel
theorem dX2_take_65 : decode cX2_take 65 = .ok (.iload_n 1, 1) := by decide +kernel
theorem dX2_take_66 : decode cX2_take 66 = .ok (.ireturn, 1) := by decide +kernel
theorem dX3_init_0 : decode cX3_init 0 = .ok (.aload_n 0, 1) := by decide +kernel
theorem dX3_init_1 : decode cX3_init 1 = .ok (.invokespecial 3, 3) := by decide +kernel
theorem dX3_init_4 : decode cX3_init 4 = .ok (.aload_n 0, 1) := by decide +kernel
theorem dX3_init_5 : decode cX3_init 5 = .ok (.iconst 0, 1) := by decide +kernel
theorem dX3_init_6 : decode cX3_init 6 = .ok (.putfield 9, 3) := by decide +kernel
theorem dX3_init_9 : decode cX3_init 9 = .ok (.aload_n 0, 1) := by decide +kernel
theorem dX3_init_10 : decode cX3_init 10 = .ok (.sipush 144, 3) := by decide +kernel
theorem dX3_init_13 : decode cX3_init 13 = .ok (.newarray .int, 2) := by decide +kernel
theorem dX3_init_15 : decode cX3_init 15 = .ok (.putfield 15, 3) := by decide +kernel
theorem dX3_init_18 : decode cX3_init 18 = .ok (.aload_n 0, 1) := by decide +kernel
theorem dX3_init_19 : decode cX3_init 19 = .ok (.bipush 100, 2) := by decide +kernel
theorem dX3_init_21 : decode cX3_init 21 = .ok (.newarray .int, 2) := by decide +kernel
theorem dX3_init_23 : decode cX3_init 23 = .ok (.putfield 19, 3) := by decide +kernel
theorem dX3_init_26 : decode cX3_init 26 = .ok (.aload_n 0, 1) := by decide +kernel
theorem dX3_init_27 : decode cX3_init 27 = .ok (.bipush 100, 2) := by decide +kernel
theorem dX3_init_29 : decode cX3_init 29 = .ok (.newarray .int, 2) := by decide +kernel
theorem dX3_init_31 : decode cX3_init 31 = .ok (.putfield 22, 3) := by decide +kernel
theorem dX3_init_34 : decode cX3_init 34 = .ok (.aload_n 0, 1) := by decide +kernel
theorem dX3_init_35 : decode cX3_init 35 = .ok (.bipush 100, 2) := by decide +kernel
theorem dX3_init_37 : decode cX3_init 37 = .ok (.newarray .int, 2) := by decide +kernel
theorem dX3_init_39 : decode cX3_init 39 = .ok (.putfield 25, 3) := by decide +kernel
theorem dX3_init_42 : decode cX3_init 42 = .ok (.aload_n 0, 1) := by decide +kernel
theorem dX3_init_43 : decode cX3_init 43 = .ok (.bipush 100, 2) := by decide +kernel
theorem dX3_init_45 : decode cX3_init 45 = .ok (.newarray .int, 2) := by decide +kernel
theorem dX3_init_47 : decode cX3_init 47 = .ok (.putfield 28, 3) := by decide +kernel
theorem dX3_init_50 : decode cX3_init 50 = .ok (.aload_n 0, 1) := by decide +kernel
theorem dX3_init_51 : decode cX3_init 51 = .ok (.bipush 100, 2) := by decide +kernel
theorem dX3_init_53 : decode cX3_init 53 = .ok (.newarray .int, 2) := by decide +kernel
theorem dX3_init_55 : decode cX3_init 55 = .ok (.putfield 31, 3) := by decide +kernel
theorem dX3_init_58 : decode cX3_init 58 = .ok (.aload_n 0, 1) := by decide +kernel
theorem dX3_init_59 : decode cX3_init 59 = .ok (.bipush 99, 2) := by decide +kernel
theorem dX3_init_61 : decode cX3_init 61 = .ok (.newarray .int, 2) := by decide +kernel
theorem dX3_init_63 : decode cX3_init 63 = .ok (.putfield 34, 3) := by decide +kernel
theorem dX3_init_66 : decode cX3_init 66 = .ok (.aload_n 0, 1) := by decide +kernel
theorem dX3_init_67 : decode cX3_init 67 = .ok (.bipush 99, 2) := by decide +kernel
theorem dX3_init_69 : decode cX3_init 69 = .ok (.newarray .int, 2) := by decide +kernel
theorem dX3_init_71 : decode cX3_init 71 = .ok (.putfield 37, 3) := by decide +kernel
theorem dX3_init_74 : decode cX3_init 74 = .ok (.aload_n 0, 1) := by decide +kernel
theorem dX3_init_75 : decode cX3_init 75 = .ok (.bipush 99, 2) := by decide +kernel
theorem dX3_init_77 : decode cX3_init 77 = .ok (.newarray .int, 2) := by decide +kernel
theorem dX3_init_79 : decode cX3_init 79 = .ok (.putfield 40, 3) := by decide +kernel
theorem dX3_init_82 : decode cX3_init 82 = .ok (.aload_n 0, 1) := by decide +kernel
theorem dX3_init_83 : decode cX3_init 83 = .ok (.bipush 99, 2) := by decide +kernel
theorem dX3_init_85 : decode cX3_init 85 = .ok (.newarray .int, 2) := by decide +kernel
theorem dX3_init_87 : decode cX3_init 87 = .ok (.putfield 43, 3) := by decide +kernel
theorem dX3_init_90 : decode cX3_init 90 = .ok (.aload_n 0, 1) := by decide +kernel
theorem dX3_init_91 : decode cX3_init 91 = .ok (.sipush 144, 3) := by decide +kernel
theorem dX3_init_94 : decode cX3_init 94 = .ok (.newarray .int, 2) := by decide +kernel
theorem dX3_init_96 : decode cX3_init 96 = .ok (.putfield 46, 3) := by decide +kernel
theorem dX3_init_99 : decode cX3_init 99 = .ok (.return_, 1) := by decide +kernel
theorem dX3_run_0 : decode cX3_run 0 = .ok (.aload_n 2, 1) := by decide +kernel
theorem dX3_run_1 : decode cX3_run 1 = .ok (.iconst 0, 1) := by decide +kernel
theorem dX3_run_2 : decode cX3_run 2 = .ok (.aload_n 0, 1) := by decide +kernel
theorem dX3_run_3 : decode cX3_run 3 = .ok (.getfield 15, 3) := by decide +kernel
theorem dX3_run_6 : decode cX3_run 6 = .ok (.iconst 0, 1) := by decide +kernel
theorem dX3_run_7 : decode cX3_run 7 = .ok (.sipush 144, 3) := by decide +kernel
theorem dX3_run_10 : decode cX3_run 10 = .ok (.invokestatic 49, 3) := by decide +kernel
theorem dX3_run_13 : decode cX3_run 13 = .ok (.aload_n 0, 1) := by decide +kernel
theorem dX3_run_14 : decode cX3_run 14 = .ok (.iconst 0, 1) := by decide +kernel
theorem dX3_run_15 : decode cX3_run 15 = .ok (.putfield 9, 3) := by decide +kernel
theorem dX3_run_18 : decode cX3_run 18 = .ok (.iconst 0, 1) := by decide +kernel
theorem dX3_run_19 : decode cX3_run 19 = .ok (.istore 5, 2) := by decide +kernel
theorem dX3_run_21 : decode cX3_run 21 = .ok (.iload 5, 2) := by decide +kernel
theorem dX3_run_23 : decode cX3_run 23 = .ok (.bipush 99, 2) := by decide +kernel
theorem dX3_run_25 : decode cX3_run 25 = .ok (.if_icmp .ge 62, 3) := by decide +kernel
theorem dX3_run_28 : decode cX3_run 28 = .ok (.aload_n 0, 1) := by decide +kernel
theorem dX3_run_29 : decode cX3_run 29 = .ok (.aload_n 1, 1) := by decide +kernel
theorem dX3_run_30 : decode cX3_run 30 = .ok (.invokevirtual 55, 3) := by decide +kernel
theorem dX3_run_33 : decode cX3_run 33 = .ok (.aload_n 0, 1) := by decide +kernel
theorem dX3_run_34 : decode cX3_run 34 = .ok (.iload_n 3, 1) := by decide +kernel
theorem dX3_run_35 : decode cX3_run 35 = .ok (.iload 4, 2) := by decide +kernel
theorem dX3_run_37 : decode cX3_run 37 = .ok (.invokevirtual 59, 3) := by decide +kernel
theorem dX3_run_40 : decode cX3_run 40 = .ok (.istore 6, 2) := by decide +kernel
theorem dX3_run_42 : decode cX3_run 42 = .ok (.iload 6, 2) := by decide +kernel
theorem dX3_run_44 : decode cX3_run 44 = .ok (.bipush (-6), 2) := by decide +kernel
theorem dX3_run_46 : decode cX3_run 46 = .ok (.if_icmp .ne 4, 3) := by decide +kernel
theorem dX3_run_49 : decode cX3_run 49 = .ok (.return_, 1) := by decide +kernel
theorem dX3_run_50 : decode cX3_run 50 = .ok (.aload_n 0, 1) := by decide +kernel
theorem dX3_run_51 : decode cX3_run 51 = .ok (.aload_n 1, 1) := by decide +kernel
theorem dX3_run_52 : decode cX3_run 52 = .ok (.iload 6, 2) := by decide +kernel
theorem dX3_run_54 : decode cX3_run 54 = .ok (.invokevirtual 63, 3) := by decide +kernel
theorem dX3_run_57 : decode cX3_run 57 = .ok (.aload_n 0, 1) := by decide +kernel
theorem dX3_run_58 : decode cX3_run 58 = .ok (.getfield 43, 3) := by decide +kernel
theorem dX3_run_61 : decode cX3_run 61 = .ok (.aload_n 0, 1) := by decide +kernel
theorem dX3_run_62 : decode cX3_run 62 = .ok (.getfield 9, 3) := by decide +kernel
theorem dX3_run_65 : decode cX3_run 65 = .ok (.aload_n 0, 1) := by decide +kernel
theorem dX3_run_66 : decode cX3_run 66 = .ok (.aload_n 1, 1) := by decide +kernel
theorem dX3_run_67 : decode cX3_run 67 = .ok (.invokevirtual 67, 3) := by decide +kernel
theorem dX3_run_70 : decode cX3_run 70 = .ok (.iastore, 1) := by decide +kernel
theorem dX3_run_71 : decode cX3_run 71 = .ok (.aload_n 0, 1) := by decide +kernel
theorem dX3_run_72 : decode cX3_run 72 = .ok (.dup, 1) := by decide +kernel
theorem dX3_run_73 : decode cX3_run 73 = .ok (.getfield 9, 3) := by decide +kernel
theorem dX3_run_76 : decode cX3_run 76 = .ok (.iconst 1, 1) := by decide +kernel
theorem dX3_run_77 : decode cX3_run 77 = .ok (.iadd, 1) := by decide +kernel
theorem dX3_run_78 : decode cX3_run 78 = .ok (.putfield 9, 3) := by decide +kernel
theorem dX3_run_81 : decode cX3_run 81 = .ok (.iinc 5 1, 3) := by decide +kernel
theorem dX3_run_84 : decode cX3_run 84 = .ok (.goto (-63), 3) := by decide +kernel
theorem dX3_run_87 : decode cX3_run 87 = .ok (.return_, 1) := by decide +kernel
theorem dX3_hasBasin_0 : decode cX3_hasBasin 0 = .ok (.iload_n 1, 1) := by decide +kernel
theorem dX3_hasBasin_1 : decode cX3_hasBasin 1 = .ok (.iconst 1, 1) := by decide +kernel
theorem dX3_hasBasin_2 : decode cX3_hasBasin 2 = .ok (.bipush 99, 2) := by decide +kernel
theorem dX3_hasBasin_4 : decode cX3_hasBasin 4 = .ok (.invokestatic 71, 3) := by decide +kernel
theorem dX3_hasBasin_7 : decode cX3_hasBasin 7 = .ok (.ifCond .eq 16, 3) := by decide +kernel
theorem dX3_hasBasin_10 : decode cX3_hasBasin 10 = .ok (.aload_n 0, 1) := by decide +kernel
theorem dX3_hasBasin_11 : decode cX3_hasBasin 11 = .ok (.getfield 28, 3) := by decide +kernel
theorem dX3_hasBasin_14 : decode cX3_hasBasin 14 = .ok (.iload_n 1, 1) := by decide +kernel
theorem dX3_hasBasin_15 : decode cX3_hasBasin 15 = .ok (.iaload, 1) := by decide +kernel
theorem dX3_hasBasin_16 : decode cX3_hasBasin 16 = .ok (.ifCond .le 7, 3) := by decide +kernel
theorem dX3_hasBasin_19 : decode cX3_hasBasin 19 = .ok (.iconst 1, 1) := by decide +kernel
theorem dX3_hasBasin_20 : decode cX3_hasBasin 20 = .ok (.goto 4, 3) := by decide +kernel
theorem dX3_hasBasin_23 : decode cX3_hasBasin 23 = .ok (.iconst 0, 1) := by decide +kernel
theorem dX3_hasBasin_24 : decode cX3_hasBasin 24 = .ok (.ireturn, 1) := by decide +kernel
theorem dX3_countBasins_0 : decode cX3_countBasins 0 = .ok (.iconst 0, 1) := by decide +kernel
theorem dX3_countBasins_1 : decode cX3_countBasins 1 = .ok (.istore_n 1, 1) := by decide +kernel
theorem dX3_countBasins_2 : decode cX3_countBasins 2 = .ok (.iconst 1, 1) := by decide +kernel
theorem dX3_countBasins_3 : decode cX3_countBasins 3 = .ok (.istore_n 2, 1) := by decide +kernel
theorem dX3_countBasins_4 : decode cX3_countBasins 4 = .ok (.iload_n 2, 1) := by decide +kernel
theorem dX3_countBasins_5 : decode cX3_countBasins 5 = .ok (.bipush 99, 2) := by decide +kernel
theorem dX3_countBasins_7 : decode cX3_countBasins 7 = .ok (.if_icmp .gt 21, 3) := by decide +kernel
theorem dX3_countBasins_10 : decode cX3_countBasins 10 = .ok (.aload_n 0, 1) := by decide +kernel
theorem dX3_countBasins_11 : decode cX3_countBasins 11 = .ok (.getfield 28, 3) := by decide +kernel
theorem dX3_countBasins_14 : decode cX3_countBasins 14 = .ok (.iload_n 2, 1) := by decide +kernel
theorem dX3_countBasins_15 : decode cX3_countBasins 15 = .ok (.iaload, 1) := by decide +kernel
theorem dX3_countBasins_16 : decode cX3_countBasins 16 = .ok (.ifCond .le 6, 3) := by decide +kernel
theorem dX3_countBasins_19 : decode cX3_countBasins 19 = .ok (.iinc 1 1, 3) := by decide +kernel
theorem dX3_countBasins_22 : decode cX3_countBasins 22 = .ok (.iinc 2 1, 3) := by decide +kernel
theorem dX3_countBasins_25 : decode cX3_countBasins 25 = .ok (.goto (-21), 3) := by decide +kernel
theorem dX3_countBasins_28 : decode cX3_countBasins 28 = .ok (.iload_n 1, 1) := by decide +kernel
theorem dX3_countBasins_29 : decode cX3_countBasins 29 = .ok (.ireturn, 1) := by decide +kernel
theorem dX3_sizeOf_0 : decode cX3_sizeOf 0 = .ok (.iload_n 2, 1) := by decide +kernel
theorem dX3_sizeOf_1 : decode cX3_sizeOf 1 = .ok (.ifCond .ne 10, 3) := by decide +kernel
theorem dX3_sizeOf_4 : decode cX3_sizeOf 4 = .ok (.aload_n 0, 1) := by decide +kernel
theorem dX3_sizeOf_5 : decode cX3_sizeOf 5 = .ok (.getfield 28, 3) := by decide +kernel
theorem dX3_sizeOf_8 : decode cX3_sizeOf 8 = .ok (.iload_n 1, 1) := by decide +kernel
theorem dX3_sizeOf_9 : decode cX3_sizeOf 9 = .ok (.iaload, 1) := by decide +kernel
theorem dX3_sizeOf_10 : decode cX3_sizeOf 10 = .ok (.ireturn, 1) := by decide +kernel
theorem dX3_sizeOf_11 : decode cX3_sizeOf 11 = .ok (.aload_n 0, 1) := by decide +kernel
theorem dX3_sizeOf_12 : decode cX3_sizeOf 12 = .ok (.getfield 22, 3) := by decide +kernel
theorem dX3_sizeOf_15 : decode cX3_sizeOf 15 = .ok (.iload_n 1, 1) := by decide +kernel
theorem dX3_sizeOf_16 : decode cX3_sizeOf 16 = .ok (.iaload, 1) := by decide +kernel
theorem dX3_sizeOf_17 : decode cX3_sizeOf 17 = .ok (.bipush 100, 2) := by decide +kernel
theorem dX3_sizeOf_19 : decode cX3_sizeOf 19 = .ok (.if_icmp .ne 5, 3) := by decide +kernel
theorem dX3_sizeOf_22 : decode cX3_sizeOf 22 = .ok (.iconst 0, 1) := by decide +kernel
theorem dX3_sizeOf_23 : decode cX3_sizeOf 23 = .ok (.ireturn, 1) := by decide +kernel
theorem dX3_sizeOf_24 : decode cX3_sizeOf 24 = .ok (.iload_n 2, 1) := by decide +kernel
theorem dX3_sizeOf_25 : decode cX3_sizeOf 25 = .ok (.iconst 1, 1) := by decide +kernel
theorem dX3_sizeOf_26 : decode cX3_sizeOf 26 = .ok (.if_icmp .ne 23, 3) := by decide +kernel
theorem dX3_sizeOf_29 : decode cX3_sizeOf 29 = .ok (.aload_n 0, 1) := by decide +kernel
theorem dX3_sizeOf_30 : decode cX3_sizeOf 30 = .ok (.getfield 22, 3) := by decide +kernel
theorem dX3_sizeOf_33 : decode cX3_sizeOf 33 = .ok (.iload_n 1, 1) := by decide +kernel
theorem dX3_sizeOf_34 : decode cX3_sizeOf 34 = .ok (.iaload, 1) := by decide +kernel
theorem dX3_sizeOf_35 : decode cX3_sizeOf 35 = .ok (.aload_n 0, 1) := by decide +kernel
theorem dX3_sizeOf_36 : decode cX3_sizeOf 36 = .ok (.getfield 19, 3) := by decide +kernel
theorem dX3_sizeOf_39 : decode cX3_sizeOf 39 = .ok (.iload_n 1, 1) := by decide +kernel
theorem dX3_sizeOf_40 : decode cX3_sizeOf 40 = .ok (.iaload, 1) := by decide +kernel
theorem dX3_sizeOf_41 : decode cX3_sizeOf 41 = .ok (.isub, 1) := by decide +kernel
theorem dX3_sizeOf_42 : decode cX3_sizeOf 42 = .ok (.iconst 0, 1) := by decide +kernel
theorem dX3_sizeOf_43 : decode cX3_sizeOf 43 = .ok (.invokestatic 75, 3) := by decide +kernel
theorem dX3_sizeOf_46 : decode cX3_sizeOf 46 = .ok (.goto 9, 3) := by decide +kernel
theorem dX3_sizeOf_49 : decode cX3_sizeOf 49 = .ok (.aload_n 0, 1) := by decide +kernel
theorem dX3_sizeOf_50 : decode cX3_sizeOf 50 = .ok (.getfield 31, 3) := by decide +kernel
theorem dX3_sizeOf_53 : decode cX3_sizeOf 53 = .ok (.iload_n 1, 1) := by decide +kernel
theorem dX3_sizeOf_54 : decode cX3_sizeOf 54 = .ok (.iaload, 1) := by decide +kernel
theorem dX3_sizeOf_55 : decode cX3_sizeOf 55 = .ok (.ireturn, 1) := by decide +kernel
theorem dX3_told_0 : decode cX3_told 0 = .ok (.iload_n 2, 1) := by decide +kernel
theorem dX3_told_1 : decode cX3_told 1 = .ok (.iconst 0, 1) := by decide +kernel
theorem dX3_told_2 : decode cX3_told 2 = .ok (.iconst 3, 1) := by decide +kernel
theorem dX3_told_3 : decode cX3_told 3 = .ok (.invokestatic 71, 3) := by decide +kernel
theorem dX3_told_6 : decode cX3_told 6 = .ok (.ifCond .ne 6, 3) := by decide +kernel
theorem dX3_told_9 : decode cX3_told 9 = .ok (.bipush (-2), 2) := by decide +kernel
theorem dX3_told_11 : decode cX3_told 11 = .ok (.ireturn, 1) := by decide +kernel
theorem dX3_told_12 : decode cX3_told 12 = .ok (.iload_n 1, 1) := by decide +kernel
theorem dX3_told_13 : decode cX3_told 13 = .ok (.iconst 0, 1) := by decide +kernel
theorem dX3_told_14 : decode cX3_told 14 = .ok (.aload_n 0, 1) := by decide +kernel
theorem dX3_told_15 : decode cX3_told 15 = .ok (.getfield 9, 3) := by decide +kernel
theorem dX3_told_18 : decode cX3_told 18 = .ok (.iconst 1, 1) := by decide +kernel
theorem dX3_told_19 : decode cX3_told 19 = .ok (.isub, 1) := by decide +kernel
theorem dX3_told_20 : decode cX3_told 20 = .ok (.invokestatic 71, 3) := by decide +kernel
theorem dX3_told_23 : decode cX3_told 23 = .ok (.ifCond .ne 6, 3) := by decide +kernel
theorem dX3_told_26 : decode cX3_told 26 = .ok (.bipush (-6), 2) := by decide +kernel
theorem dX3_told_28 : decode cX3_told 28 = .ok (.ireturn, 1) := by decide +kernel
theorem dX3_told_29 : decode cX3_told 29 = .ok (.iload_n 2, 1) := by decide +kernel
theorem dX3_told_30 : decode cX3_told 30 = .ok (.tableswitch 47 0 2 #[26, 33, 40], 26) := by decide +kernel
theorem dX3_told_56 : decode cX3_told 56 = .ok (.aload_n 0, 1) := by decide +kernel
theorem dX3_told_57 : decode cX3_told 57 = .ok (.getfield 34, 3) := by decide +kernel
theorem dX3_told_60 : decode cX3_told 60 = .ok (.iload_n 1, 1) := by decide +kernel
theorem dX3_told_61 : decode cX3_told 61 = .ok (.iaload, 1) := by decide +kernel
theorem dX3_told_62 : decode cX3_told 62 = .ok (.ireturn, 1) := by decide +kernel
theorem dX3_told_63 : decode cX3_told 63 = .ok (.aload_n 0, 1) := by decide +kernel
theorem dX3_told_64 : decode cX3_told 64 = .ok (.getfield 37, 3) := by decide +kernel
theorem dX3_told_67 : decode cX3_told 67 = .ok (.iload_n 1, 1) := by decide +kernel
theorem dX3_told_68 : decode cX3_told 68 = .ok (.iaload, 1) := by decide +kernel
theorem dX3_told_69 : decode cX3_told 69 = .ok (.ireturn, 1) := by decide +kernel
theorem dX3_told_70 : decode cX3_told 70 = .ok (.aload_n 0, 1) := by decide +kernel
theorem dX3_told_71 : decode cX3_told 71 = .ok (.getfield 40, 3) := by decide +kernel
theorem dX3_told_74 : decode cX3_told 74 = .ok (.iload_n 1, 1) := by decide +kernel
theorem dX3_told_75 : decode cX3_told 75 = .ok (.iaload, 1) := by decide +kernel
theorem dX3_told_76 : decode cX3_told 76 = .ok (.ireturn, 1) := by decide +kernel
theorem dX3_told_77 : decode cX3_told 77 = .ok (.aload_n 0, 1) := by decide +kernel
theorem dX3_told_78 : decode cX3_told 78 = .ok (.getfield 43, 3) := by decide +kernel
theorem dX3_told_81 : decode cX3_told 81 = .ok (.iload_n 1, 1) := by decide +kernel
theorem dX3_told_82 : decode cX3_told 82 = .ok (.iaload, 1) := by decide +kernel
theorem dX3_told_83 : decode cX3_told 83 = .ok (.ireturn, 1) := by decide +kernel
theorem dX3_passBetween_0 : decode cX3_passBetween 0 = .ok (.bipush 100, 2) := by decide +kernel
theorem dX3_passBetween_2 : decode cX3_passBetween 2 = .ok (.istore 4, 2) := by decide +kernel
theorem dX3_passBetween_4 : decode cX3_passBetween 4 = .ok (.iconst 0, 1) := by decide +kernel
theorem dX3_passBetween_5 : decode cX3_passBetween 5 = .ok (.istore 5, 2) := by decide +kernel
theorem dX3_passBetween_7 : decode cX3_passBetween 7 = .ok (.iload 5, 2) := by decide +kernel
theorem dX3_passBetween_9 : decode cX3_passBetween 9 = .ok (.aload_n 1, 1) := by decide +kernel
theorem dX3_passBetween_10 : decode cX3_passBetween 10 = .ok (.getfield 80, 3) := by decide +kernel
theorem dX3_passBetween_13 : decode cX3_passBetween 13 = .ok (.if_icmp .ge 134, 3) := by decide +kernel
theorem dX3_passBetween_16 : decode cX3_passBetween 16 = .ok (.aload_n 1, 1) := by decide +kernel
theorem dX3_passBetween_17 : decode cX3_passBetween 17 = .ok (.getfield 85, 3) := by decide +kernel
theorem dX3_passBetween_20 : decode cX3_passBetween 20 = .ok (.iload 5, 2) := by decide +kernel
theorem dX3_passBetween_22 : decode cX3_passBetween 22 = .ok (.iaload, 1) := by decide +kernel
theorem dX3_passBetween_23 : decode cX3_passBetween 23 = .ok (.istore 6, 2) := by decide +kernel
theorem dX3_passBetween_25 : decode cX3_passBetween 25 = .ok (.aload_n 0, 1) := by decide +kernel
theorem dX3_passBetween_26 : decode cX3_passBetween 26 = .ok (.getfield 15, 3) := by decide +kernel
theorem dX3_passBetween_29 : decode cX3_passBetween 29 = .ok (.iload 5, 2) := by decide +kernel
theorem dX3_passBetween_31 : decode cX3_passBetween 31 = .ok (.iaload, 1) := by decide +kernel
theorem dX3_passBetween_32 : decode cX3_passBetween 32 = .ok (.ifCond .ne 37, 3) := by decide +kernel
theorem dX3_passBetween_35 : decode cX3_passBetween 35 = .ok (.aload_n 0, 1) := by decide +kernel
theorem dX3_passBetween_36 : decode cX3_passBetween 36 = .ok (.aload_n 1, 1) := by decide +kernel
theorem dX3_passBetween_37 : decode cX3_passBetween 37 = .ok (.iload 5, 2) := by decide +kernel
theorem dX3_passBetween_39 : decode cX3_passBetween 39 = .ok (.iload_n 2, 1) := by decide +kernel
theorem dX3_passBetween_40 : decode cX3_passBetween 40 = .ok (.invokevirtual 88, 3) := by decide +kernel
theorem dX3_passBetween_43 : decode cX3_passBetween 43 = .ok (.ifCond .eq 98, 3) := by decide +kernel
theorem dX3_passBetween_46 : decode cX3_passBetween 46 = .ok (.aload_n 0, 1) := by decide +kernel
theorem dX3_passBetween_47 : decode cX3_passBetween 47 = .ok (.aload_n 1, 1) := by decide +kernel
theorem dX3_passBetween_48 : decode cX3_passBetween 48 = .ok (.iload 5, 2) := by decide +kernel
theorem dX3_passBetween_50 : decode cX3_passBetween 50 = .ok (.iload_n 3, 1) := by decide +kernel
theorem dX3_passBetween_51 : decode cX3_passBetween 51 = .ok (.invokevirtual 88, 3) := by decide +kernel
theorem dX3_passBetween_54 : decode cX3_passBetween 54 = .ok (.ifCond .eq 87, 3) := by decide +kernel
theorem dX3_passBetween_57 : decode cX3_passBetween 57 = .ok (.iload 4, 2) := by decide +kernel
theorem dX3_passBetween_59 : decode cX3_passBetween 59 = .ok (.iload 6, 2) := by decide +kernel
theorem dX3_passBetween_61 : decode cX3_passBetween 61 = .ok (.invokestatic 92, 3) := by decide +kernel
theorem dX3_passBetween_64 : decode cX3_passBetween 64 = .ok (.istore 4, 2) := by decide +kernel
theorem dX3_passBetween_66 : decode cX3_passBetween 66 = .ok (.goto 75, 3) := by decide +kernel
theorem dX3_passBetween_69 : decode cX3_passBetween 69 = .ok (.aload_n 0, 1) := by decide +kernel
theorem dX3_passBetween_70 : decode cX3_passBetween 70 = .ok (.getfield 15, 3) := by decide +kernel
theorem dX3_passBetween_73 : decode cX3_passBetween 73 = .ok (.iload 5, 2) := by decide +kernel
theorem dX3_passBetween_75 : decode cX3_passBetween 75 = .ok (.iaload, 1) := by decide +kernel
theorem dX3_passBetween_76 : decode cX3_passBetween 76 = .ok (.iload_n 2, 1) := by decide +kernel
theorem dX3_passBetween_77 : decode cX3_passBetween 77 = .ok (.if_icmp .ne 64, 3) := by decide +kernel
theorem dX3_passBetween_80 : decode cX3_passBetween 80 = .ok (.iconst 0, 1) := by decide +kernel
theorem dX3_passBetween_81 : decode cX3_passBetween 81 = .ok (.istore 7, 2) := by decide +kernel
theorem dX3_passBetween_83 : decode cX3_passBetween 83 = .ok (.iload 7, 2) := by decide +kernel
theorem dX3_passBetween_85 : decode cX3_passBetween 85 = .ok (.iconst 4, 1) := by decide +kernel
theorem dX3_passBetween_86 : decode cX3_passBetween 86 = .ok (.if_icmp .ge 55, 3) := by decide +kernel
theorem dX3_passBetween_89 : decode cX3_passBetween 89 = .ok (.aload_n 1, 1) := by decide +kernel
theorem dX3_passBetween_90 : decode cX3_passBetween 90 = .ok (.iload 5, 2) := by decide +kernel
theorem dX3_passBetween_92 : decode cX3_passBetween 92 = .ok (.iload 7, 2) := by decide +kernel
theorem dX3_passBetween_94 : decode cX3_passBetween 94 = .ok (.invokevirtual 95, 3) := by decide +kernel
theorem dX3_passBetween_97 : decode cX3_passBetween 97 = .ok (.istore 8, 2) := by decide +kernel
theorem dX3_passBetween_99 : decode cX3_passBetween 99 = .ok (.iload 8, 2) := by decide +kernel
theorem dX3_passBetween_101 : decode cX3_passBetween 101 = .ok (.iconst (-1), 1) := by decide +kernel
theorem dX3_passBetween_102 : decode cX3_passBetween 102 = .ok (.if_icmp .eq 33, 3) := by decide +kernel
theorem dX3_passBetween_105 : decode cX3_passBetween 105 = .ok (.aload_n 0, 1) := by decide +kernel
theorem dX3_passBetween_106 : decode cX3_passBetween 106 = .ok (.getfield 15, 3) := by decide +kernel
theorem dX3_passBetween_109 : decode cX3_passBetween 109 = .ok (.iload 8, 2) := by decide +kernel
theorem dX3_passBetween_111 : decode cX3_passBetween 111 = .ok (.iaload, 1) := by decide +kernel
theorem dX3_passBetween_112 : decode cX3_passBetween 112 = .ok (.iload_n 3, 1) := by decide +kernel
theorem dX3_passBetween_113 : decode cX3_passBetween 113 = .ok (.if_icmp .ne 22, 3) := by decide +kernel
theorem dX3_passBetween_116 : decode cX3_passBetween 116 = .ok (.iload 4, 2) := by decide +kernel
theorem dX3_passBetween_118 : decode cX3_passBetween 118 = .ok (.iload 6, 2) := by decide +kernel
theorem dX3_passBetween_120 : decode cX3_passBetween 120 = .ok (.aload_n 1, 1) := by decide +kernel
theorem dX3_passBetween_121 : decode cX3_passBetween 121 = .ok (.getfield 85, 3) := by decide +kernel
theorem dX3_passBetween_124 : decode cX3_passBetween 124 = .ok (.iload 8, 2) := by decide +kernel
theorem dX3_passBetween_126 : decode cX3_passBetween 126 = .ok (.iaload, 1) := by decide +kernel
theorem dX3_passBetween_127 : decode cX3_passBetween 127 = .ok (.invokestatic 75, 3) := by decide +kernel
theorem dX3_passBetween_130 : decode cX3_passBetween 130 = .ok (.invokestatic 92, 3) := by decide +kernel
theorem dX3_passBetween_133 : decode cX3_passBetween 133 = .ok (.istore 4, 2) := by decide +kernel
theorem dX3_passBetween_135 : decode cX3_passBetween 135 = .ok (.iinc 7 1, 3) := by decide +kernel
theorem dX3_passBetween_138 : decode cX3_passBetween 138 = .ok (.goto (-55), 3) := by decide +kernel
theorem dX3_passBetween_141 : decode cX3_passBetween 141 = .ok (.iinc 5 1, 3) := by decide +kernel
theorem dX3_passBetween_144 : decode cX3_passBetween 144 = .ok (.goto (-137), 3) := by decide +kernel
theorem dX3_passBetween_147 : decode cX3_passBetween 147 = .ok (.iload 4, 2) := by decide +kernel
theorem dX3_passBetween_149 : decode cX3_passBetween 149 = .ok (.ireturn, 1) := by decide +kernel
theorem dX3_touches_0 : decode cX3_touches 0 = .ok (.iconst 0, 1) := by decide +kernel
theorem dX3_touches_1 : decode cX3_touches 1 = .ok (.istore 4, 2) := by decide +kernel
theorem dX3_touches_3 : decode cX3_touches 3 = .ok (.iload 4, 2) := by decide +kernel
theorem dX3_touches_5 : decode cX3_touches 5 = .ok (.iconst 4, 1) := by decide +kernel
theorem dX3_touches_6 : decode cX3_touches 6 = .ok (.if_icmp .ge 26, 3) := by decide +kernel
theorem dX3_touches_9 : decode cX3_touches 9 = .ok (.aload_n 1, 1) := by decide +kernel
theorem dX3_touches_10 : decode cX3_touches 10 = .ok (.iload_n 2, 1) := by decide +kernel
theorem dX3_touches_11 : decode cX3_touches 11 = .ok (.iload 4, 2) := by decide +kernel
theorem dX3_touches_13 : decode cX3_touches 13 = .ok (.aload_n 0, 1) := by decide +kernel
theorem dX3_touches_14 : decode cX3_touches 14 = .ok (.getfield 15, 3) := by decide +kernel
theorem dX3_touches_17 : decode cX3_touches 17 = .ok (.invokevirtual 98, 3) := by decide +kernel
theorem dX3_touches_20 : decode cX3_touches 20 = .ok (.iload_n 3, 1) := by decide +kernel
theorem dX3_touches_21 : decode cX3_touches 21 = .ok (.if_icmp .ne 5, 3) := by decide +kernel
theorem dX3_touches_24 : decode cX3_touches 24 = .ok (.iconst 1, 1) := by decide +kernel
theorem dX3_touches_25 : decode cX3_touches 25 = .ok (.ireturn, 1) := by decide +kernel
theorem dX3_touches_26 : decode cX3_touches 26 = .ok (.iinc 4 1, 3) := by decide +kernel
theorem dX3_touches_29 : decode cX3_touches 29 = .ok (.goto (-26), 3) := by decide +kernel
theorem dX3_touches_32 : decode cX3_touches 32 = .ok (.iconst 0, 1) := by decide +kernel
theorem dX3_touches_33 : decode cX3_touches 33 = .ok (.ireturn, 1) := by decide +kernel
theorem dX3_measure_0 : decode cX3_measure 0 = .ok (.aload_n 0, 1) := by decide +kernel
theorem dX3_measure_1 : decode cX3_measure 1 = .ok (.getfield 28, 3) := by decide +kernel
theorem dX3_measure_4 : decode cX3_measure 4 = .ok (.iconst 0, 1) := by decide +kernel
theorem dX3_measure_5 : decode cX3_measure 5 = .ok (.invokestatic 102, 3) := by decide +kernel
theorem dX3_measure_8 : decode cX3_measure 8 = .ok (.aload_n 0, 1) := by decide +kernel
theorem dX3_measure_9 : decode cX3_measure 9 = .ok (.getfield 31, 3) := by decide +kernel
theorem dX3_measure_12 : decode cX3_measure 12 = .ok (.iconst 0, 1) := by decide +kernel
theorem dX3_measure_13 : decode cX3_measure 13 = .ok (.invokestatic 102, 3) := by decide +kernel
theorem dX3_measure_16 : decode cX3_measure 16 = .ok (.aload_n 0, 1) := by decide +kernel
theorem dX3_measure_17 : decode cX3_measure 17 = .ok (.getfield 19, 3) := by decide +kernel
theorem dX3_measure_20 : decode cX3_measure 20 = .ok (.bipush 100, 2) := by decide +kernel
theorem dX3_measure_22 : decode cX3_measure 22 = .ok (.invokestatic 102, 3) := by decide +kernel
theorem dX3_measure_25 : decode cX3_measure 25 = .ok (.aload_n 0, 1) := by decide +kernel
theorem dX3_measure_26 : decode cX3_measure 26 = .ok (.getfield 22, 3) := by decide +kernel
theorem dX3_measure_29 : decode cX3_measure 29 = .ok (.bipush 100, 2) := by decide +kernel
theorem dX3_measure_31 : decode cX3_measure 31 = .ok (.invokestatic 102, 3) := by decide +kernel
theorem dX3_measure_34 : decode cX3_measure 34 = .ok (.aload_n 0, 1) := by decide +kernel
theorem dX3_measure_35 : decode cX3_measure 35 = .ok (.getfield 25, 3) := by decide +kernel
theorem dX3_measure_38 : decode cX3_measure 38 = .ok (.bipush (-6), 2) := by decide +kernel
theorem dX3_measure_40 : decode cX3_measure 40 = .ok (.invokestatic 102, 3) := by decide +kernel
theorem dX3_measure_43 : decode cX3_measure 43 = .ok (.iconst 0, 1) := by decide +kernel
theorem dX3_measure_44 : decode cX3_measure 44 = .ok (.istore_n 2, 1) := by decide +kernel
theorem dX3_measure_45 : decode cX3_measure 45 = .ok (.iload_n 2, 1) := by decide +kernel
theorem dX3_measure_46 : decode cX3_measure 46 = .ok (.aload_n 1, 1) := by decide +kernel
theorem dX3_measure_47 : decode cX3_measure 47 = .ok (.getfield 80, 3) := by decide +kernel
theorem dX3_measure_50 : decode cX3_measure 50 = .ok (.if_icmp .ge 70, 3) := by decide +kernel
theorem dX3_measure_53 : decode cX3_measure 53 = .ok (.aload_n 0, 1) := by decide +kernel
theorem dX3_measure_54 : decode cX3_measure 54 = .ok (.getfield 15, 3) := by decide +kernel
theorem dX3_measure_57 : decode cX3_measure 57 = .ok (.iload_n 2, 1) := by decide +kernel
theorem dX3_measure_58 : decode cX3_measure 58 = .ok (.iaload, 1) := by decide +kernel
theorem dX3_measure_59 : decode cX3_measure 59 = .ok (.istore_n 3, 1) := by decide +kernel
theorem dX3_measure_60 : decode cX3_measure 60 = .ok (.iload_n 3, 1) := by decide +kernel
theorem dX3_measure_61 : decode cX3_measure 61 = .ok (.ifCond .ne 12, 3) := by decide +kernel
theorem dX3_measure_64 : decode cX3_measure 64 = .ok (.aload_n 0, 1) := by decide +kernel
theorem dX3_measure_65 : decode cX3_measure 65 = .ok (.aload_n 1, 1) := by decide +kernel
theorem dX3_measure_66 : decode cX3_measure 66 = .ok (.iload_n 2, 1) := by decide +kernel
theorem dX3_measure_67 : decode cX3_measure 67 = .ok (.invokevirtual 108, 3) := by decide +kernel
theorem dX3_measure_70 : decode cX3_measure 70 = .ok (.goto 44, 3) := by decide +kernel
theorem dX3_measure_73 : decode cX3_measure 73 = .ok (.iload_n 3, 1) := by decide +kernel
theorem dX3_measure_74 : decode cX3_measure 74 = .ok (.ifCond .le 40, 3) := by decide +kernel
theorem dX3_measure_77 : decode cX3_measure 77 = .ok (.aload_n 0, 1) := by decide +kernel
theorem dX3_measure_78 : decode cX3_measure 78 = .ok (.getfield 28, 3) := by decide +kernel
theorem dX3_measure_81 : decode cX3_measure 81 = .ok (.iload_n 3, 1) := by decide +kernel
theorem dX3_measure_82 : decode cX3_measure 82 = .ok (.dup2, 1) := by decide +kernel
theorem dX3_measure_83 : decode cX3_measure 83 = .ok (.iaload, 1) := by decide +kernel
theorem dX3_measure_84 : decode cX3_measure 84 = .ok (.iconst 1, 1) := by decide +kernel
theorem dX3_measure_85 : decode cX3_measure 85 = .ok (.iadd, 1) := by decide +kernel
theorem dX3_measure_86 : decode cX3_measure 86 = .ok (.iastore, 1) := by decide +kernel
theorem dX3_measure_87 : decode cX3_measure 87 = .ok (.aload_n 0, 1) := by decide +kernel
theorem dX3_measure_88 : decode cX3_measure 88 = .ok (.getfield 19, 3) := by decide +kernel
theorem dX3_measure_91 : decode cX3_measure 91 = .ok (.iload_n 3, 1) := by decide +kernel
theorem dX3_measure_92 : decode cX3_measure 92 = .ok (.aload_n 0, 1) := by decide +kernel
theorem dX3_measure_93 : decode cX3_measure 93 = .ok (.getfield 19, 3) := by decide +kernel
theorem dX3_measure_96 : decode cX3_measure 96 = .ok (.iload_n 3, 1) := by decide +kernel
theorem dX3_measure_97 : decode cX3_measure 97 = .ok (.iaload, 1) := by decide +kernel
theorem dX3_measure_98 : decode cX3_measure 98 = .ok (.aload_n 1, 1) := by decide +kernel
theorem dX3_measure_99 : decode cX3_measure 99 = .ok (.getfield 85, 3) := by decide +kernel
theorem dX3_measure_102 : decode cX3_measure 102 = .ok (.iload_n 2, 1) := by decide +kernel
theorem dX3_measure_103 : decode cX3_measure 103 = .ok (.iaload, 1) := by decide +kernel
theorem dX3_measure_104 : decode cX3_measure 104 = .ok (.invokestatic 92, 3) := by decide +kernel
theorem dX3_measure_107 : decode cX3_measure 107 = .ok (.iastore, 1) := by decide +kernel
theorem dX3_measure_108 : decode cX3_measure 108 = .ok (.aload_n 0, 1) := by decide +kernel
theorem dX3_measure_109 : decode cX3_measure 109 = .ok (.aload_n 1, 1) := by decide +kernel
theorem dX3_measure_110 : decode cX3_measure 110 = .ok (.iload_n 2, 1) := by decide +kernel
theorem dX3_measure_111 : decode cX3_measure 111 = .ok (.invokevirtual 111, 3) := by decide +kernel
theorem dX3_measure_114 : decode cX3_measure 114 = .ok (.iinc 2 1, 3) := by decide +kernel
theorem dX3_measure_117 : decode cX3_measure 117 = .ok (.goto (-72), 3) := by decide +kernel
theorem dX3_measure_120 : decode cX3_measure 120 = .ok (.aload_n 0, 1) := by decide +kernel
theorem dX3_measure_121 : decode cX3_measure 121 = .ok (.aload_n 1, 1) := by decide +kernel
theorem dX3_measure_122 : decode cX3_measure 122 = .ok (.invokevirtual 114, 3) := by decide +kernel
theorem dX3_measure_125 : decode cX3_measure 125 = .ok (.return_, 1) := by decide +kernel
theorem dX3_passesOverDam_0 : decode cX3_passesOverDam 0 = .ok (.aload_n 1, 1) := by decide +kernel
theorem dX3_passesOverDam_1 : decode cX3_passesOverDam 1 = .ok (.getfield 85, 3) := by decide +kernel
theorem dX3_passesOverDam_4 : decode cX3_passesOverDam 4 = .ok (.iload_n 2, 1) := by decide +kernel
theorem dX3_passesOverDam_5 : decode cX3_passesOverDam 5 = .ok (.iaload, 1) := by decide +kernel
theorem dX3_passesOverDam_6 : decode cX3_passesOverDam 6 = .ok (.istore_n 3, 1) := by decide +kernel
theorem dX3_passesOverDam_7 : decode cX3_passesOverDam 7 = .ok (.iconst 0, 1) := by decide +kernel
theorem dX3_passesOverDam_8 : decode cX3_passesOverDam 8 = .ok (.istore 4, 2) := by decide +kernel
theorem dX3_passesOverDam_10 : decode cX3_passesOverDam 10 = .ok (.iload 4, 2) := by decide +kernel
theorem dX3_passesOverDam_12 : decode cX3_passesOverDam 12 = .ok (.iconst 4, 1) := by decide +kernel
theorem dX3_passesOverDam_13 : decode cX3_passesOverDam 13 = .ok (.if_icmp .ge 65, 3) := by decide +kernel
theorem dX3_passesOverDam_16 : decode cX3_passesOverDam 16 = .ok (.aload_n 1, 1) := by decide +kernel
theorem dX3_passesOverDam_17 : decode cX3_passesOverDam 17 = .ok (.iload_n 2, 1) := by decide +kernel
theorem dX3_passesOverDam_18 : decode cX3_passesOverDam 18 = .ok (.iload 4, 2) := by decide +kernel
theorem dX3_passesOverDam_20 : decode cX3_passesOverDam 20 = .ok (.aload_n 0, 1) := by decide +kernel
theorem dX3_passesOverDam_21 : decode cX3_passesOverDam 21 = .ok (.getfield 15, 3) := by decide +kernel
theorem dX3_passesOverDam_24 : decode cX3_passesOverDam 24 = .ok (.invokevirtual 98, 3) := by decide +kernel
theorem dX3_passesOverDam_27 : decode cX3_passesOverDam 27 = .ok (.istore 5, 2) := by decide +kernel
theorem dX3_passesOverDam_29 : decode cX3_passesOverDam 29 = .ok (.iload 4, 2) := by decide +kernel
theorem dX3_passesOverDam_31 : decode cX3_passesOverDam 31 = .ok (.iconst 1, 1) := by decide +kernel
theorem dX3_passesOverDam_32 : decode cX3_passesOverDam 32 = .ok (.iadd, 1) := by decide +kernel
theorem dX3_passesOverDam_33 : decode cX3_passesOverDam 33 = .ok (.istore 6, 2) := by decide +kernel
theorem dX3_passesOverDam_35 : decode cX3_passesOverDam 35 = .ok (.iload 5, 2) := by decide +kernel
theorem dX3_passesOverDam_37 : decode cX3_passesOverDam 37 = .ok (.bipush (-6), 2) := by decide +kernel
theorem dX3_passesOverDam_39 : decode cX3_passesOverDam 39 = .ok (.if_icmp .eq 33, 3) := by decide +kernel
theorem dX3_passesOverDam_42 : decode cX3_passesOverDam 42 = .ok (.iload 6, 2) := by decide +kernel
theorem dX3_passesOverDam_44 : decode cX3_passesOverDam 44 = .ok (.iconst 4, 1) := by decide +kernel
theorem dX3_passesOverDam_45 : decode cX3_passesOverDam 45 = .ok (.if_icmp .ge 27, 3) := by decide +kernel
theorem dX3_passesOverDam_48 : decode cX3_passesOverDam 48 = .ok (.aload_n 0, 1) := by decide +kernel
theorem dX3_passesOverDam_49 : decode cX3_passesOverDam 49 = .ok (.iload 5, 2) := by decide +kernel
theorem dX3_passesOverDam_51 : decode cX3_passesOverDam 51 = .ok (.aload_n 1, 1) := by decide +kernel
theorem dX3_passesOverDam_52 : decode cX3_passesOverDam 52 = .ok (.iload_n 2, 1) := by decide +kernel
theorem dX3_passesOverDam_53 : decode cX3_passesOverDam 53 = .ok (.iload 6, 2) := by decide +kernel
theorem dX3_passesOverDam_55 : decode cX3_passesOverDam 55 = .ok (.aload_n 0, 1) := by decide +kernel
theorem dX3_passesOverDam_56 : decode cX3_passesOverDam 56 = .ok (.getfield 15, 3) := by decide +kernel
theorem dX3_passesOverDam_59 : decode cX3_passesOverDam 59 = .ok (.invokevirtual 98, 3) := by decide +kernel
theorem dX3_passesOverDam_62 : decode cX3_passesOverDam 62 = .ok (.iload_n 3, 1) := by decide +kernel
theorem dX3_passesOverDam_63 : decode cX3_passesOverDam 63 = .ok (.invokevirtual 117, 3) := by decide +kernel
theorem dX3_passesOverDam_66 : decode cX3_passesOverDam 66 = .ok (.iinc 6 1, 3) := by decide +kernel
theorem dX3_passesOverDam_69 : decode cX3_passesOverDam 69 = .ok (.goto (-34), 3) := by decide +kernel
theorem dX3_passesOverDam_72 : decode cX3_passesOverDam 72 = .ok (.iinc 4 1, 3) := by decide +kernel
theorem dX3_passesOverDam_75 : decode cX3_passesOverDam 75 = .ok (.goto (-65), 3) := by decide +kernel
theorem dX3_passesOverDam_78 : decode cX3_passesOverDam 78 = .ok (.return_, 1) := by decide +kernel
theorem dX3_passesBeside_0 : decode cX3_passesBeside 0 = .ok (.iconst 0, 1) := by decide +kernel
theorem dX3_passesBeside_1 : decode cX3_passesBeside 1 = .ok (.istore_n 3, 1) := by decide +kernel
theorem dX3_passesBeside_2 : decode cX3_passesBeside 2 = .ok (.iload_n 3, 1) := by decide +kernel
theorem dX3_passesBeside_3 : decode cX3_passesBeside 3 = .ok (.iconst 2, 1) := by decide +kernel
theorem dX3_passesBeside_4 : decode cX3_passesBeside 4 = .ok (.if_icmp .ge 60, 3) := by decide +kernel
theorem dX3_passesBeside_7 : decode cX3_passesBeside 7 = .ok (.aload_n 1, 1) := by decide +kernel
theorem dX3_passesBeside_8 : decode cX3_passesBeside 8 = .ok (.iload_n 2, 1) := by decide +kernel
theorem dX3_passesBeside_9 : decode cX3_passesBeside 9 = .ok (.iload_n 3, 1) := by decide +kernel
theorem dX3_passesBeside_10 : decode cX3_passesBeside 10 = .ok (.invokevirtual 95, 3) := by decide +kernel
theorem dX3_passesBeside_13 : decode cX3_passesBeside 13 = .ok (.istore 4, 2) := by decide +kernel
theorem dX3_passesBeside_15 : decode cX3_passesBeside 15 = .ok (.iload 4, 2) := by decide +kernel
theorem dX3_passesBeside_17 : decode cX3_passesBeside 17 = .ok (.iconst (-1), 1) := by decide +kernel
theorem dX3_passesBeside_18 : decode cX3_passesBeside 18 = .ok (.if_icmp .eq 40, 3) := by decide +kernel
theorem dX3_passesBeside_21 : decode cX3_passesBeside 21 = .ok (.aload_n 1, 1) := by decide +kernel
theorem dX3_passesBeside_22 : decode cX3_passesBeside 22 = .ok (.getfield 85, 3) := by decide +kernel
theorem dX3_passesBeside_25 : decode cX3_passesBeside 25 = .ok (.iload_n 2, 1) := by decide +kernel
theorem dX3_passesBeside_26 : decode cX3_passesBeside 26 = .ok (.iaload, 1) := by decide +kernel
theorem dX3_passesBeside_27 : decode cX3_passesBeside 27 = .ok (.aload_n 1, 1) := by decide +kernel
theorem dX3_passesBeside_28 : decode cX3_passesBeside 28 = .ok (.getfield 85, 3) := by decide +kernel
theorem dX3_passesBeside_31 : decode cX3_passesBeside 31 = .ok (.iload 4, 2) := by decide +kernel
theorem dX3_passesBeside_33 : decode cX3_passesBeside 33 = .ok (.iaload, 1) := by decide +kernel
theorem dX3_passesBeside_34 : decode cX3_passesBeside 34 = .ok (.invokestatic 75, 3) := by decide +kernel
theorem dX3_passesBeside_37 : decode cX3_passesBeside 37 = .ok (.istore 5, 2) := by decide +kernel
theorem dX3_passesBeside_39 : decode cX3_passesBeside 39 = .ok (.aload_n 0, 1) := by decide +kernel
theorem dX3_passesBeside_40 : decode cX3_passesBeside 40 = .ok (.aload_n 0, 1) := by decide +kernel
theorem dX3_passesBeside_41 : decode cX3_passesBeside 41 = .ok (.getfield 15, 3) := by decide +kernel
theorem dX3_passesBeside_44 : decode cX3_passesBeside 44 = .ok (.iload_n 2, 1) := by decide +kernel
theorem dX3_passesBeside_45 : decode cX3_passesBeside 45 = .ok (.iaload, 1) := by decide +kernel
theorem dX3_passesBeside_46 : decode cX3_passesBeside 46 = .ok (.aload_n 0, 1) := by decide +kernel
theorem dX3_passesBeside_47 : decode cX3_passesBeside 47 = .ok (.getfield 15, 3) := by decide +kernel
theorem dX3_passesBeside_50 : decode cX3_passesBeside 50 = .ok (.iload 4, 2) := by decide +kernel
theorem dX3_passesBeside_52 : decode cX3_passesBeside 52 = .ok (.iaload, 1) := by decide +kernel
theorem dX3_passesBeside_53 : decode cX3_passesBeside 53 = .ok (.iload 5, 2) := by decide +kernel
theorem dX3_passesBeside_55 : decode cX3_passesBeside 55 = .ok (.invokevirtual 117, 3) := by decide +kernel
theorem dX3_passesBeside_58 : decode cX3_passesBeside 58 = .ok (.iinc 3 1, 3) := by decide +kernel
theorem dX3_passesBeside_61 : decode cX3_passesBeside 61 = .ok (.goto (-59), 3) := by decide +kernel
theorem dX3_passesBeside_64 : decode cX3_passesBeside 64 = .ok (.return_, 1) := by decide +kernel
theorem dX3_notePass_0 : decode cX3_notePass 0 = .ok (.iload_n 1, 1) := by decide +kernel
theorem dX3_notePass_1 : decode cX3_notePass 1 = .ok (.ifCond .le 26, 3) := by decide +kernel
theorem dX3_notePass_4 : decode cX3_notePass 4 = .ok (.iload_n 2, 1) := by decide +kernel
theorem dX3_notePass_5 : decode cX3_notePass 5 = .ok (.ifCond .le 22, 3) := by decide +kernel
theorem dX3_notePass_8 : decode cX3_notePass 8 = .ok (.iload_n 1, 1) := by decide +kernel
theorem dX3_notePass_9 : decode cX3_notePass 9 = .ok (.iload_n 2, 1) := by decide +kernel
theorem dX3_notePass_10 : decode cX3_notePass 10 = .ok (.if_icmp .eq 17, 3) := by decide +kernel
theorem dX3_notePass_13 : decode cX3_notePass 13 = .ok (.aload_n 0, 1) := by decide +kernel
theorem dX3_notePass_14 : decode cX3_notePass 14 = .ok (.iload_n 1, 1) := by decide +kernel
theorem dX3_notePass_15 : decode cX3_notePass 15 = .ok (.iload_n 2, 1) := by decide +kernel
theorem dX3_notePass_16 : decode cX3_notePass 16 = .ok (.iload_n 3, 1) := by decide +kernel
theorem dX3_notePass_17 : decode cX3_notePass 17 = .ok (.invokevirtual 121, 3) := by decide +kernel
theorem dX3_notePass_20 : decode cX3_notePass 20 = .ok (.aload_n 0, 1) := by decide +kernel
theorem dX3_notePass_21 : decode cX3_notePass 21 = .ok (.iload_n 2, 1) := by decide +kernel
theorem dX3_notePass_22 : decode cX3_notePass 22 = .ok (.iload_n 1, 1) := by decide +kernel
theorem dX3_notePass_23 : decode cX3_notePass 23 = .ok (.iload_n 3, 1) := by decide +kernel
theorem dX3_notePass_24 : decode cX3_notePass 24 = .ok (.invokevirtual 121, 3) := by decide +kernel
theorem dX3_notePass_27 : decode cX3_notePass 27 = .ok (.return_, 1) := by decide +kernel
theorem dX3_noteWayOut_0 : decode cX3_noteWayOut 0 = .ok (.iload_n 3, 1) := by decide +kernel
theorem dX3_noteWayOut_1 : decode cX3_noteWayOut 1 = .ok (.aload_n 0, 1) := by decide +kernel
theorem dX3_noteWayOut_2 : decode cX3_noteWayOut 2 = .ok (.getfield 22, 3) := by decide +kernel
theorem dX3_noteWayOut_5 : decode cX3_noteWayOut 5 = .ok (.iload_n 1, 1) := by decide +kernel
theorem dX3_noteWayOut_6 : decode cX3_noteWayOut 6 = .ok (.iaload, 1) := by decide +kernel
theorem dX3_noteWayOut_7 : decode cX3_noteWayOut 7 = .ok (.if_icmp .ge 7, 3) := by decide +kernel
theorem dX3_noteWayOut_10 : decode cX3_noteWayOut 10 = .ok (.iconst 1, 1) := by decide +kernel
theorem dX3_noteWayOut_11 : decode cX3_noteWayOut 11 = .ok (.goto 4, 3) := by decide +kernel
theorem dX3_noteWayOut_14 : decode cX3_noteWayOut 14 = .ok (.iconst 0, 1) := by decide +kernel
theorem dX3_noteWayOut_15 : decode cX3_noteWayOut 15 = .ok (.istore 4, 2) := by decide +kernel
theorem dX3_noteWayOut_17 : decode cX3_noteWayOut 17 = .ok (.iload 4, 2) := by decide +kernel
theorem dX3_noteWayOut_19 : decode cX3_noteWayOut 19 = .ok (.ifCond .ne 23, 3) := by decide +kernel
theorem dX3_noteWayOut_22 : decode cX3_noteWayOut 22 = .ok (.iload_n 3, 1) := by decide +kernel
theorem dX3_noteWayOut_23 : decode cX3_noteWayOut 23 = .ok (.aload_n 0, 1) := by decide +kernel
theorem dX3_noteWayOut_24 : decode cX3_noteWayOut 24 = .ok (.getfield 22, 3) := by decide +kernel
theorem dX3_noteWayOut_27 : decode cX3_noteWayOut 27 = .ok (.iload_n 1, 1) := by decide +kernel
theorem dX3_noteWayOut_28 : decode cX3_noteWayOut 28 = .ok (.iaload, 1) := by decide +kernel
theorem dX3_noteWayOut_29 : decode cX3_noteWayOut 29 = .ok (.if_icmp .ne 27, 3) := by decide +kernel
theorem dX3_noteWayOut_32 : decode cX3_noteWayOut 32 = .ok (.iload_n 2, 1) := by decide +kernel
theorem dX3_noteWayOut_33 : decode cX3_noteWayOut 33 = .ok (.aload_n 0, 1) := by decide +kernel
theorem dX3_noteWayOut_34 : decode cX3_noteWayOut 34 = .ok (.getfield 25, 3) := by decide +kernel
theorem dX3_noteWayOut_37 : decode cX3_noteWayOut 37 = .ok (.iload_n 1, 1) := by decide +kernel
theorem dX3_noteWayOut_38 : decode cX3_noteWayOut 38 = .ok (.iaload, 1) := by decide +kernel
theorem dX3_noteWayOut_39 : decode cX3_noteWayOut 39 = .ok (.if_icmp .ge 17, 3) := by decide +kernel
theorem dX3_noteWayOut_42 : decode cX3_noteWayOut 42 = .ok (.aload_n 0, 1) := by decide +kernel
theorem dX3_noteWayOut_43 : decode cX3_noteWayOut 43 = .ok (.getfield 22, 3) := by decide +kernel
theorem dX3_noteWayOut_46 : decode cX3_noteWayOut 46 = .ok (.iload_n 1, 1) := by decide +kernel
theorem dX3_noteWayOut_47 : decode cX3_noteWayOut 47 = .ok (.iload_n 3, 1) := by decide +kernel
theorem dX3_noteWayOut_48 : decode cX3_noteWayOut 48 = .ok (.iastore, 1) := by decide +kernel
theorem dX3_noteWayOut_49 : decode cX3_noteWayOut 49 = .ok (.aload_n 0, 1) := by decide +kernel
theorem dX3_noteWayOut_50 : decode cX3_noteWayOut 50 = .ok (.getfield 25, 3) := by decide +kernel
theorem dX3_noteWayOut_53 : decode cX3_noteWayOut 53 = .ok (.iload_n 1, 1) := by decide +kernel
theorem dX3_noteWayOut_54 : decode cX3_noteWayOut 54 = .ok (.iload_n 2, 1) := by decide +kernel
theorem dX3_noteWayOut_55 : decode cX3_noteWayOut 55 = .ok (.iastore, 1) := by decide +kernel
theorem dX3_noteWayOut_56 : decode cX3_noteWayOut 56 = .ok (.return_, 1) := by decide +kernel
theorem dX3_fillWaters_0 : decode cX3_fillWaters 0 = .ok (.iconst 0, 1) := by decide +kernel
theorem dX3_fillWaters_1 : decode cX3_fillWaters 1 = .ok (.istore_n 2, 1) := by decide +kernel
theorem dX3_fillWaters_2 : decode cX3_fillWaters 2 = .ok (.iload_n 2, 1) := by decide +kernel
theorem dX3_fillWaters_3 : decode cX3_fillWaters 3 = .ok (.aload_n 1, 1) := by decide +kernel
theorem dX3_fillWaters_4 : decode cX3_fillWaters 4 = .ok (.getfield 80, 3) := by decide +kernel
theorem dX3_fillWaters_7 : decode cX3_fillWaters 7 = .ok (.if_icmp .ge 57, 3) := by decide +kernel
theorem dX3_fillWaters_10 : decode cX3_fillWaters 10 = .ok (.aload_n 0, 1) := by decide +kernel
theorem dX3_fillWaters_11 : decode cX3_fillWaters 11 = .ok (.getfield 15, 3) := by decide +kernel
theorem dX3_fillWaters_14 : decode cX3_fillWaters 14 = .ok (.iload_n 2, 1) := by decide +kernel
theorem dX3_fillWaters_15 : decode cX3_fillWaters 15 = .ok (.iaload, 1) := by decide +kernel
theorem dX3_fillWaters_16 : decode cX3_fillWaters 16 = .ok (.istore_n 3, 1) := by decide +kernel
theorem dX3_fillWaters_17 : decode cX3_fillWaters 17 = .ok (.iload_n 3, 1) := by decide +kernel
theorem dX3_fillWaters_18 : decode cX3_fillWaters 18 = .ok (.ifCond .le 40, 3) := by decide +kernel
theorem dX3_fillWaters_21 : decode cX3_fillWaters 21 = .ok (.aload_n 0, 1) := by decide +kernel
theorem dX3_fillWaters_22 : decode cX3_fillWaters 22 = .ok (.getfield 22, 3) := by decide +kernel
theorem dX3_fillWaters_25 : decode cX3_fillWaters 25 = .ok (.iload_n 3, 1) := by decide +kernel
theorem dX3_fillWaters_26 : decode cX3_fillWaters 26 = .ok (.iaload, 1) := by decide +kernel
theorem dX3_fillWaters_27 : decode cX3_fillWaters 27 = .ok (.bipush 100, 2) := by decide +kernel
theorem dX3_fillWaters_29 : decode cX3_fillWaters 29 = .ok (.if_icmp .eq 29, 3) := by decide +kernel
theorem dX3_fillWaters_32 : decode cX3_fillWaters 32 = .ok (.aload_n 0, 1) := by decide +kernel
theorem dX3_fillWaters_33 : decode cX3_fillWaters 33 = .ok (.getfield 31, 3) := by decide +kernel
theorem dX3_fillWaters_36 : decode cX3_fillWaters 36 = .ok (.iload_n 3, 1) := by decide +kernel
theorem dX3_fillWaters_37 : decode cX3_fillWaters 37 = .ok (.dup2, 1) := by decide +kernel
theorem dX3_fillWaters_38 : decode cX3_fillWaters 38 = .ok (.iaload, 1) := by decide +kernel
theorem dX3_fillWaters_39 : decode cX3_fillWaters 39 = .ok (.aload_n 0, 1) := by decide +kernel
theorem dX3_fillWaters_40 : decode cX3_fillWaters 40 = .ok (.getfield 22, 3) := by decide +kernel
theorem dX3_fillWaters_43 : decode cX3_fillWaters 43 = .ok (.iload_n 3, 1) := by decide +kernel
theorem dX3_fillWaters_44 : decode cX3_fillWaters 44 = .ok (.iaload, 1) := by decide +kernel
theorem dX3_fillWaters_45 : decode cX3_fillWaters 45 = .ok (.aload_n 1, 1) := by decide +kernel
theorem dX3_fillWaters_46 : decode cX3_fillWaters 46 = .ok (.getfield 85, 3) := by decide +kernel
theorem dX3_fillWaters_49 : decode cX3_fillWaters 49 = .ok (.iload_n 2, 1) := by decide +kernel
theorem dX3_fillWaters_50 : decode cX3_fillWaters 50 = .ok (.iaload, 1) := by decide +kernel
theorem dX3_fillWaters_51 : decode cX3_fillWaters 51 = .ok (.isub, 1) := by decide +kernel
theorem dX3_fillWaters_52 : decode cX3_fillWaters 52 = .ok (.iconst 0, 1) := by decide +kernel
theorem dX3_fillWaters_53 : decode cX3_fillWaters 53 = .ok (.invokestatic 75, 3) := by decide +kernel
theorem dX3_fillWaters_56 : decode cX3_fillWaters 56 = .ok (.iadd, 1) := by decide +kernel
theorem dX3_fillWaters_57 : decode cX3_fillWaters 57 = .ok (.iastore, 1) := by decide +kernel
theorem dX3_fillWaters_58 : decode cX3_fillWaters 58 = .ok (.iinc 2 1, 3) := by decide +kernel
theorem dX3_fillWaters_61 : decode cX3_fillWaters 61 = .ok (.goto (-59), 3) := by decide +kernel
theorem dX3_fillWaters_64 : decode cX3_fillWaters 64 = .ok (.return_, 1) := by decide +kernel
theorem dX3_nextToPour_0 : decode cX3_nextToPour 0 = .ok (.bipush (-6), 2) := by decide +kernel
theorem dX3_nextToPour_2 : decode cX3_nextToPour 2 = .ok (.istore_n 3, 1) := by decide +kernel
theorem dX3_nextToPour_3 : decode cX3_nextToPour 3 = .ok (.bipush 100, 2) := by decide +kernel
theorem dX3_nextToPour_5 : decode cX3_nextToPour 5 = .ok (.istore 4, 2) := by decide +kernel
theorem dX3_nextToPour_7 : decode cX3_nextToPour 7 = .ok (.iconst 1, 1) := by decide +kernel
theorem dX3_nextToPour_8 : decode cX3_nextToPour 8 = .ok (.istore 5, 2) := by decide +kernel
theorem dX3_nextToPour_10 : decode cX3_nextToPour 10 = .ok (.iload 5, 2) := by decide +kernel
theorem dX3_nextToPour_12 : decode cX3_nextToPour 12 = .ok (.bipush 99, 2) := by decide +kernel
theorem dX3_nextToPour_14 : decode cX3_nextToPour 14 = .ok (.if_icmp .gt 44, 3) := by decide +kernel
theorem dX3_nextToPour_17 : decode cX3_nextToPour 17 = .ok (.aload_n 0, 1) := by decide +kernel
theorem dX3_nextToPour_18 : decode cX3_nextToPour 18 = .ok (.getfield 22, 3) := by decide +kernel
theorem dX3_nextToPour_21 : decode cX3_nextToPour 21 = .ok (.iload 5, 2) := by decide +kernel
theorem dX3_nextToPour_23 : decode cX3_nextToPour 23 = .ok (.iaload, 1) := by decide +kernel
theorem dX3_nextToPour_24 : decode cX3_nextToPour 24 = .ok (.iload 4, 2) := by decide +kernel
theorem dX3_nextToPour_26 : decode cX3_nextToPour 26 = .ok (.if_icmp .ge 26, 3) := by decide +kernel
theorem dX3_nextToPour_29 : decode cX3_nextToPour 29 = .ok (.aload_n 0, 1) := by decide +kernel
theorem dX3_nextToPour_30 : decode cX3_nextToPour 30 = .ok (.iload 5, 2) := by decide +kernel
theorem dX3_nextToPour_32 : decode cX3_nextToPour 32 = .ok (.iload_n 1, 1) := by decide +kernel
theorem dX3_nextToPour_33 : decode cX3_nextToPour 33 = .ok (.invokevirtual 124, 3) := by decide +kernel
theorem dX3_nextToPour_36 : decode cX3_nextToPour 36 = .ok (.iload_n 2, 1) := by decide +kernel
theorem dX3_nextToPour_37 : decode cX3_nextToPour 37 = .ok (.if_icmp .ge 15, 3) := by decide +kernel
theorem dX3_nextToPour_40 : decode cX3_nextToPour 40 = .ok (.aload_n 0, 1) := by decide +kernel
theorem dX3_nextToPour_41 : decode cX3_nextToPour 41 = .ok (.getfield 22, 3) := by decide +kernel
theorem dX3_nextToPour_44 : decode cX3_nextToPour 44 = .ok (.iload 5, 2) := by decide +kernel
theorem dX3_nextToPour_46 : decode cX3_nextToPour 46 = .ok (.iaload, 1) := by decide +kernel
theorem dX3_nextToPour_47 : decode cX3_nextToPour 47 = .ok (.istore 4, 2) := by decide +kernel
theorem dX3_nextToPour_49 : decode cX3_nextToPour 49 = .ok (.iload 5, 2) := by decide +kernel
theorem dX3_nextToPour_51 : decode cX3_nextToPour 51 = .ok (.istore_n 3, 1) := by decide +kernel
theorem dX3_nextToPour_52 : decode cX3_nextToPour 52 = .ok (.iinc 5 1, 3) := by decide +kernel
theorem dX3_nextToPour_55 : decode cX3_nextToPour 55 = .ok (.goto (-45), 3) := by decide +kernel
theorem dX3_nextToPour_58 : decode cX3_nextToPour 58 = .ok (.iload_n 3, 1) := by decide +kernel
theorem dX3_nextToPour_59 : decode cX3_nextToPour 59 = .ok (.ireturn, 1) := by decide +kernel
theorem dX3_pourOut_0 : decode cX3_pourOut 0 = .ok (.aload_n 0, 1) := by decide +kernel
theorem dX3_pourOut_1 : decode cX3_pourOut 1 = .ok (.getfield 25, 3) := by decide +kernel
theorem dX3_pourOut_4 : decode cX3_pourOut 4 = .ok (.iload_n 2, 1) := by decide +kernel
theorem dX3_pourOut_5 : decode cX3_pourOut 5 = .ok (.iaload, 1) := by decide +kernel
theorem dX3_pourOut_6 : decode cX3_pourOut 6 = .ok (.istore_n 3, 1) := by decide +kernel
theorem dX3_pourOut_7 : decode cX3_pourOut 7 = .ok (.iconst 0, 1) := by decide +kernel
theorem dX3_pourOut_8 : decode cX3_pourOut 8 = .ok (.istore 4, 2) := by decide +kernel
theorem dX3_pourOut_10 : decode cX3_pourOut 10 = .ok (.iload 4, 2) := by decide +kernel
theorem dX3_pourOut_12 : decode cX3_pourOut 12 = .ok (.aload_n 1, 1) := by decide +kernel
theorem dX3_pourOut_13 : decode cX3_pourOut 13 = .ok (.getfield 80, 3) := by decide +kernel
theorem dX3_pourOut_16 : decode cX3_pourOut 16 = .ok (.if_icmp .ge 28, 3) := by decide +kernel
theorem dX3_pourOut_19 : decode cX3_pourOut 19 = .ok (.aload_n 0, 1) := by decide +kernel
theorem dX3_pourOut_20 : decode cX3_pourOut 20 = .ok (.getfield 15, 3) := by decide +kernel
theorem dX3_pourOut_23 : decode cX3_pourOut 23 = .ok (.iload 4, 2) := by decide +kernel
theorem dX3_pourOut_25 : decode cX3_pourOut 25 = .ok (.iaload, 1) := by decide +kernel
theorem dX3_pourOut_26 : decode cX3_pourOut 26 = .ok (.iload_n 2, 1) := by decide +kernel
theorem dX3_pourOut_27 : decode cX3_pourOut 27 = .ok (.if_icmp .ne 11, 3) := by decide +kernel
theorem dX3_pourOut_30 : decode cX3_pourOut 30 = .ok (.aload_n 0, 1) := by decide +kernel
theorem dX3_pourOut_31 : decode cX3_pourOut 31 = .ok (.getfield 15, 3) := by decide +kernel
theorem dX3_pourOut_34 : decode cX3_pourOut 34 = .ok (.iload 4, 2) := by decide +kernel
theorem dX3_pourOut_36 : decode cX3_pourOut 36 = .ok (.iload_n 3, 1) := by decide +kernel
theorem dX3_pourOut_37 : decode cX3_pourOut 37 = .ok (.iastore, 1) := by decide +kernel
theorem dX3_pourOut_38 : decode cX3_pourOut 38 = .ok (.iinc 4 1, 3) := by decide +kernel
theorem dX3_pourOut_41 : decode cX3_pourOut 41 = .ok (.goto (-31), 3) := by decide +kernel
theorem dX3_pourOut_44 : decode cX3_pourOut 44 = .ok (.aload_n 0, 1) := by decide +kernel
theorem dX3_pourOut_45 : decode cX3_pourOut 45 = .ok (.getfield 34, 3) := by decide +kernel
theorem dX3_pourOut_48 : decode cX3_pourOut 48 = .ok (.aload_n 0, 1) := by decide +kernel
theorem dX3_pourOut_49 : decode cX3_pourOut 49 = .ok (.getfield 9, 3) := by decide +kernel
theorem dX3_pourOut_52 : decode cX3_pourOut 52 = .ok (.iload_n 2, 1) := by decide +kernel
theorem dX3_pourOut_53 : decode cX3_pourOut 53 = .ok (.iastore, 1) := by decide +kernel
theorem dX3_pourOut_54 : decode cX3_pourOut 54 = .ok (.aload_n 0, 1) := by decide +kernel
theorem dX3_pourOut_55 : decode cX3_pourOut 55 = .ok (.getfield 37, 3) := by decide +kernel
theorem dX3_pourOut_58 : decode cX3_pourOut 58 = .ok (.aload_n 0, 1) := by decide +kernel
theorem dX3_pourOut_59 : decode cX3_pourOut 59 = .ok (.getfield 9, 3) := by decide +kernel
theorem dX3_pourOut_62 : decode cX3_pourOut 62 = .ok (.iload_n 3, 1) := by decide +kernel
theorem dX3_pourOut_63 : decode cX3_pourOut 63 = .ok (.iastore, 1) := by decide +kernel
theorem dX3_pourOut_64 : decode cX3_pourOut 64 = .ok (.aload_n 0, 1) := by decide +kernel
theorem dX3_pourOut_65 : decode cX3_pourOut 65 = .ok (.getfield 40, 3) := by decide +kernel
theorem dX3_pourOut_68 : decode cX3_pourOut 68 = .ok (.aload_n 0, 1) := by decide +kernel
theorem dX3_pourOut_69 : decode cX3_pourOut 69 = .ok (.getfield 9, 3) := by decide +kernel
theorem dX3_pourOut_72 : decode cX3_pourOut 72 = .ok (.aload_n 0, 1) := by decide +kernel
theorem dX3_pourOut_73 : decode cX3_pourOut 73 = .ok (.getfield 22, 3) := by decide +kernel
theorem dX3_pourOut_76 : decode cX3_pourOut 76 = .ok (.iload_n 2, 1) := by decide +kernel
theorem dX3_pourOut_77 : decode cX3_pourOut 77 = .ok (.iaload, 1) := by decide +kernel
theorem dX3_pourOut_78 : decode cX3_pourOut 78 = .ok (.iastore, 1) := by decide +kernel
theorem dX3_pourOut_79 : decode cX3_pourOut 79 = .ok (.return_, 1) := by decide +kernel
theorem dX3_breakDams_0 : decode cX3_breakDams 0 = .ok (.iconst 0, 1) := by decide +kernel
theorem dX3_breakDams_1 : decode cX3_breakDams 1 = .ok (.istore_n 2, 1) := by decide +kernel
theorem dX3_breakDams_2 : decode cX3_breakDams 2 = .ok (.iconst 0, 1) := by decide +kernel
theorem dX3_breakDams_3 : decode cX3_breakDams 3 = .ok (.istore_n 3, 1) := by decide +kernel
theorem dX3_breakDams_4 : decode cX3_breakDams 4 = .ok (.iload_n 3, 1) := by decide +kernel
theorem dX3_breakDams_5 : decode cX3_breakDams 5 = .ok (.aload_n 1, 1) := by decide +kernel
theorem dX3_breakDams_6 : decode cX3_breakDams 6 = .ok (.getfield 80, 3) := by decide +kernel
theorem dX3_breakDams_9 : decode cX3_breakDams 9 = .ok (.if_icmp .ge 57, 3) := by decide +kernel
theorem dX3_breakDams_12 : decode cX3_breakDams 12 = .ok (.aload_n 0, 1) := by decide +kernel
theorem dX3_breakDams_13 : decode cX3_breakDams 13 = .ok (.getfield 46, 3) := by decide +kernel
theorem dX3_breakDams_16 : decode cX3_breakDams 16 = .ok (.iload_n 3, 1) := by decide +kernel
theorem dX3_breakDams_17 : decode cX3_breakDams 17 = .ok (.aload_n 0, 1) := by decide +kernel
theorem dX3_breakDams_18 : decode cX3_breakDams 18 = .ok (.getfield 15, 3) := by decide +kernel
theorem dX3_breakDams_21 : decode cX3_breakDams 21 = .ok (.iload_n 3, 1) := by decide +kernel
theorem dX3_breakDams_22 : decode cX3_breakDams 22 = .ok (.iaload, 1) := by decide +kernel
theorem dX3_breakDams_23 : decode cX3_breakDams 23 = .ok (.iastore, 1) := by decide +kernel
theorem dX3_breakDams_24 : decode cX3_breakDams 24 = .ok (.aload_n 0, 1) := by decide +kernel
theorem dX3_breakDams_25 : decode cX3_breakDams 25 = .ok (.getfield 15, 3) := by decide +kernel
theorem dX3_breakDams_28 : decode cX3_breakDams 28 = .ok (.iload_n 3, 1) := by decide +kernel
theorem dX3_breakDams_29 : decode cX3_breakDams 29 = .ok (.iaload, 1) := by decide +kernel
theorem dX3_breakDams_30 : decode cX3_breakDams 30 = .ok (.ifCond .ne 30, 3) := by decide +kernel
theorem dX3_breakDams_33 : decode cX3_breakDams 33 = .ok (.aload_n 1, 1) := by decide +kernel
theorem dX3_breakDams_34 : decode cX3_breakDams 34 = .ok (.iload_n 3, 1) := by decide +kernel
theorem dX3_breakDams_35 : decode cX3_breakDams 35 = .ok (.aload_n 0, 1) := by decide +kernel
theorem dX3_breakDams_36 : decode cX3_breakDams 36 = .ok (.getfield 15, 3) := by decide +kernel
theorem dX3_breakDams_39 : decode cX3_breakDams 39 = .ok (.invokevirtual 127, 3) := by decide +kernel
theorem dX3_breakDams_42 : decode cX3_breakDams 42 = .ok (.istore 4, 2) := by decide +kernel
theorem dX3_breakDams_44 : decode cX3_breakDams 44 = .ok (.iload 4, 2) := by decide +kernel
theorem dX3_breakDams_46 : decode cX3_breakDams 46 = .ok (.ifCond .le 14, 3) := by decide +kernel
theorem dX3_breakDams_49 : decode cX3_breakDams 49 = .ok (.aload_n 0, 1) := by decide +kernel
theorem dX3_breakDams_50 : decode cX3_breakDams 50 = .ok (.getfield 46, 3) := by decide +kernel
theorem dX3_breakDams_53 : decode cX3_breakDams 53 = .ok (.iload_n 3, 1) := by decide +kernel
theorem dX3_breakDams_54 : decode cX3_breakDams 54 = .ok (.iload 4, 2) := by decide +kernel
theorem dX3_breakDams_56 : decode cX3_breakDams 56 = .ok (.iastore, 1) := by decide +kernel
theorem dX3_breakDams_57 : decode cX3_breakDams 57 = .ok (.iinc 2 1, 3) := by decide +kernel
theorem dX3_breakDams_60 : decode cX3_breakDams 60 = .ok (.iinc 3 1, 3) := by decide +kernel
theorem dX3_breakDams_63 : decode cX3_breakDams 63 = .ok (.goto (-59), 3) := by decide +kernel
theorem dX3_breakDams_66 : decode cX3_breakDams 66 = .ok (.aload_n 0, 1) := by decide +kernel
theorem dX3_breakDams_67 : decode cX3_breakDams 67 = .ok (.getfield 46, 3) := by decide +kernel
theorem dX3_breakDams_70 : decode cX3_breakDams 70 = .ok (.iconst 0, 1) := by decide +kernel
theorem dX3_breakDams_71 : decode cX3_breakDams 71 = .ok (.aload_n 0, 1) := by decide +kernel
theorem dX3_breakDams_72 : decode cX3_breakDams 72 = .ok (.getfield 15, 3) := by decide +kernel
theorem dX3_breakDams_75 : decode cX3_breakDams 75 = .ok (.iconst 0, 1) := by decide +kernel
theorem dX3_breakDams_76 : decode cX3_breakDams 76 = .ok (.aload_n 1, 1) := by decide +kernel
theorem dX3_breakDams_77 : decode cX3_breakDams 77 = .ok (.getfield 80, 3) := by decide +kernel
theorem dX3_breakDams_80 : decode cX3_breakDams 80 = .ok (.invokestatic 49, 3) := by decide +kernel
theorem dX3_breakDams_83 : decode cX3_breakDams 83 = .ok (.iload_n 2, 1) := by decide +kernel
theorem dX3_breakDams_84 : decode cX3_breakDams 84 = .ok (.ireturn, 1) := by decide +kernel
theorem dX4_init_0 : decode cX4_init 0 = .ok (.aload_n 0, 1) := by decide +kernel
theorem dX4_init_1 : decode cX4_init 1 = .ok (.invokespecial 3, 3) := by decide +kernel
theorem dX4_init_4 : decode cX4_init 4 = .ok (.aload_n 0, 1) := by decide +kernel
theorem dX4_init_5 : decode cX4_init 5 = .ok (.iconst 0, 1) := by decide +kernel
theorem dX4_init_6 : decode cX4_init 6 = .ok (.putfield 9, 3) := by decide +kernel
theorem dX4_init_9 : decode cX4_init 9 = .ok (.aload_n 0, 1) := by decide +kernel
theorem dX4_init_10 : decode cX4_init 10 = .ok (.sipush 144, 3) := by decide +kernel
theorem dX4_init_13 : decode cX4_init 13 = .ok (.newarray .int, 2) := by decide +kernel
theorem dX4_init_15 : decode cX4_init 15 = .ok (.putfield 15, 3) := by decide +kernel
theorem dX4_init_18 : decode cX4_init 18 = .ok (.aload_n 0, 1) := by decide +kernel
theorem dX4_init_19 : decode cX4_init 19 = .ok (.sipush 144, 3) := by decide +kernel
theorem dX4_init_22 : decode cX4_init 22 = .ok (.newarray .int, 2) := by decide +kernel
theorem dX4_init_24 : decode cX4_init 24 = .ok (.putfield 19, 3) := by decide +kernel
theorem dX4_init_27 : decode cX4_init 27 = .ok (.return_, 1) := by decide +kernel
theorem dX4_forget_0 : decode cX4_forget 0 = .ok (.aload_n 0, 1) := by decide +kernel
theorem dX4_forget_1 : decode cX4_forget 1 = .ok (.getfield 19, 3) := by decide +kernel
theorem dX4_forget_4 : decode cX4_forget 4 = .ok (.iconst 0, 1) := by decide +kernel
theorem dX4_forget_5 : decode cX4_forget 5 = .ok (.invokestatic 22, 3) := by decide +kernel
theorem dX4_forget_8 : decode cX4_forget 8 = .ok (.return_, 1) := by decide +kernel
theorem dX4_cameTo_0 : decode cX4_cameTo 0 = .ok (.aload_n 0, 1) := by decide +kernel
theorem dX4_cameTo_1 : decode cX4_cameTo 1 = .ok (.getfield 19, 3) := by decide +kernel
theorem dX4_cameTo_4 : decode cX4_cameTo 4 = .ok (.iload_n 1, 1) := by decide +kernel
theorem dX4_cameTo_5 : decode cX4_cameTo 5 = .ok (.iaload, 1) := by decide +kernel
theorem dX4_cameTo_6 : decode cX4_cameTo 6 = .ok (.ifCond .eq 7, 3) := by decide +kernel
theorem dX4_cameTo_9 : decode cX4_cameTo 9 = .ok (.iconst 1, 1) := by decide +kernel
theorem dX4_cameTo_10 : decode cX4_cameTo 10 = .ok (.goto 4, 3) := by decide +kernel
theorem dX4_cameTo_13 : decode cX4_cameTo 13 = .ok (.iconst 0, 1) := by decide +kernel
theorem dX4_cameTo_14 : decode cX4_cameTo 14 = .ok (.ireturn, 1) := by decide +kernel
theorem dX4_from_0 : decode cX4_from 0 = .ok (.aload_n 0, 1) := by decide +kernel
theorem dX4_from_1 : decode cX4_from 1 = .ok (.iconst 0, 1) := by decide +kernel
theorem dX4_from_2 : decode cX4_from 2 = .ok (.putfield 9, 3) := by decide +kernel
theorem dX4_from_5 : decode cX4_from 5 = .ok (.aload_n 0, 1) := by decide +kernel
theorem dX4_from_6 : decode cX4_from 6 = .ok (.aload_n 1, 1) := by decide +kernel
theorem dX4_from_7 : decode cX4_from 7 = .ok (.iload_n 2, 1) := by decide +kernel
theorem dX4_from_8 : decode cX4_from 8 = .ok (.iload_n 3, 1) := by decide +kernel
theorem dX4_from_9 : decode cX4_from 9 = .ok (.iload 4, 2) := by decide +kernel
theorem dX4_from_11 : decode cX4_from 11 = .ok (.invokevirtual 28, 3) := by decide +kernel
theorem dX4_from_14 : decode cX4_from 14 = .ok (.iconst 0, 1) := by decide +kernel
theorem dX4_from_15 : decode cX4_from 15 = .ok (.istore 5, 2) := by decide +kernel
theorem dX4_from_17 : decode cX4_from 17 = .ok (.iload 5, 2) := by decide +kernel
theorem dX4_from_19 : decode cX4_from 19 = .ok (.aload_n 0, 1) := by decide +kernel
theorem dX4_from_20 : decode cX4_from 20 = .ok (.getfield 9, 3) := by decide +kernel
theorem dX4_from_23 : decode cX4_from 23 = .ok (.if_icmp .ge 53, 3) := by decide +kernel
theorem dX4_from_26 : decode cX4_from 26 = .ok (.iload 5, 2) := by decide +kernel
theorem dX4_from_28 : decode cX4_from 28 = .ok (.sipush 144, 3) := by decide +kernel
theorem dX4_from_31 : decode cX4_from 31 = .ok (.if_icmp .ge 45, 3) := by decide +kernel
theorem dX4_from_34 : decode cX4_from 34 = .ok (.iconst 0, 1) := by decide +kernel
theorem dX4_from_35 : decode cX4_from 35 = .ok (.istore 6, 2) := by decide +kernel
theorem dX4_from_37 : decode cX4_from 37 = .ok (.iload 6, 2) := by decide +kernel
theorem dX4_from_39 : decode cX4_from 39 = .ok (.iconst 4, 1) := by decide +kernel
theorem dX4_from_40 : decode cX4_from 40 = .ok (.if_icmp .ge 30, 3) := by decide +kernel
theorem dX4_from_43 : decode cX4_from 43 = .ok (.aload_n 0, 1) := by decide +kernel
theorem dX4_from_44 : decode cX4_from 44 = .ok (.aload_n 1, 1) := by decide +kernel
theorem dX4_from_45 : decode cX4_from 45 = .ok (.aload_n 1, 1) := by decide +kernel
theorem dX4_from_46 : decode cX4_from 46 = .ok (.aload_n 0, 1) := by decide +kernel
theorem dX4_from_47 : decode cX4_from 47 = .ok (.getfield 15, 3) := by decide +kernel
theorem dX4_from_50 : decode cX4_from 50 = .ok (.iload 5, 2) := by decide +kernel
theorem dX4_from_52 : decode cX4_from 52 = .ok (.iaload, 1) := by decide +kernel
theorem dX4_from_53 : decode cX4_from 53 = .ok (.iload 6, 2) := by decide +kernel
theorem dX4_from_55 : decode cX4_from 55 = .ok (.invokevirtual 32, 3) := by decide +kernel
theorem dX4_from_58 : decode cX4_from 58 = .ok (.iload_n 3, 1) := by decide +kernel
theorem dX4_from_59 : decode cX4_from 59 = .ok (.iload 4, 2) := by decide +kernel
theorem dX4_from_61 : decode cX4_from 61 = .ok (.invokevirtual 28, 3) := by decide +kernel
theorem dX4_from_64 : decode cX4_from 64 = .ok (.iinc 6 1, 3) := by decide +kernel
theorem dX4_from_67 : decode cX4_from 67 = .ok (.goto (-30), 3) := by decide +kernel
theorem dX4_from_70 : decode cX4_from 70 = .ok (.iinc 5 1, 3) := by decide +kernel
theorem dX4_from_73 : decode cX4_from 73 = .ok (.goto (-56), 3) := by decide +kernel
theorem dX4_from_76 : decode cX4_from 76 = .ok (.return_, 1) := by decide +kernel
theorem dX4_reach_0 : decode cX4_reach 0 = .ok (.iload_n 2, 1) := by decide +kernel
theorem dX4_reach_1 : decode cX4_reach 1 = .ok (.iconst (-1), 1) := by decide +kernel
theorem dX4_reach_2 : decode cX4_reach 2 = .ok (.if_icmp .eq 22, 3) := by decide +kernel
theorem dX4_reach_5 : decode cX4_reach 5 = .ok (.aload_n 0, 1) := by decide +kernel
theorem dX4_reach_6 : decode cX4_reach 6 = .ok (.getfield 19, 3) := by decide +kernel
theorem dX4_reach_9 : decode cX4_reach 9 = .ok (.iload_n 2, 1) := by decide +kernel
theorem dX4_reach_10 : decode cX4_reach 10 = .ok (.iaload, 1) := by decide +kernel
theorem dX4_reach_11 : decode cX4_reach 11 = .ok (.ifCond .ne 13, 3) := by decide +kernel
theorem dX4_reach_14 : decode cX4_reach 14 = .ok (.aload_n 0, 1) := by decide +kernel
theorem dX4_reach_15 : decode cX4_reach 15 = .ok (.getfield 9, 3) := by decide +kernel
theorem dX4_reach_18 : decode cX4_reach 18 = .ok (.sipush 144, 3) := by decide +kernel
theorem dX4_reach_21 : decode cX4_reach 21 = .ok (.if_icmp .lt 4, 3) := by decide +kernel
theorem dX4_reach_24 : decode cX4_reach 24 = .ok (.return_, 1) := by decide +kernel
theorem dX4_reach_25 : decode cX4_reach 25 = .ok (.aload_n 1, 1) := by decide +kernel
theorem dX4_reach_26 : decode cX4_reach 26 = .ok (.getfield 38, 3) := by decide +kernel
theorem dX4_reach_29 : decode cX4_reach 29 = .ok (.iload_n 2, 1) := by decide +kernel
theorem dX4_reach_30 : decode cX4_reach 30 = .ok (.iaload, 1) := by decide +kernel
theorem dX4_reach_31 : decode cX4_reach 31 = .ok (.iload_n 3, 1) := by decide +kernel
theorem dX4_reach_32 : decode cX4_reach 32 = .ok (.iload 4, 2) := by decide +kernel
theorem dX4_reach_34 : decode cX4_reach 34 = .ok (.invokestatic 41, 3) := by decide +kernel
theorem dX4_reach_37 : decode cX4_reach 37 = .ok (.ifCond .eq 30, 3) := by decide +kernel
theorem dX4_reach_40 : decode cX4_reach 40 = .ok (.aload_n 0, 1) := by decide +kernel
theorem dX4_reach_41 : decode cX4_reach 41 = .ok (.getfield 19, 3) := by decide +kernel
theorem dX4_reach_44 : decode cX4_reach 44 = .ok (.iload_n 2, 1) := by decide +kernel
theorem dX4_reach_45 : decode cX4_reach 45 = .ok (.iconst 1, 1) := by decide +kernel
theorem dX4_reach_46 : decode cX4_reach 46 = .ok (.iastore, 1) := by decide +kernel
theorem dX4_reach_47 : decode cX4_reach 47 = .ok (.aload_n 0, 1) := by decide +kernel
theorem dX4_reach_48 : decode cX4_reach 48 = .ok (.getfield 15, 3) := by decide +kernel
theorem dX4_reach_51 : decode cX4_reach 51 = .ok (.aload_n 0, 1) := by decide +kernel
theorem dX4_reach_52 : decode cX4_reach 52 = .ok (.getfield 9, 3) := by decide +kernel
theorem dX4_reach_55 : decode cX4_reach 55 = .ok (.iload_n 2, 1) := by decide +kernel
theorem dX4_reach_56 : decode cX4_reach 56 = .ok (.iastore, 1) := by decide +kernel
theorem dX4_reach_57 : decode cX4_reach 57 = .ok (.aload_n 0, 1) := by decide +kernel
theorem dX4_reach_58 : decode cX4_reach 58 = .ok (.dup, 1) := by decide +kernel
theorem dX4_reach_59 : decode cX4_reach 59 = .ok (.getfield 9, 3) := by decide +kernel
theorem dX4_reach_62 : decode cX4_reach 62 = .ok (.iconst 1, 1) := by decide +kernel
theorem dX4_reach_63 : decode cX4_reach 63 = .ok (.iadd, 1) := by decide +kernel
theorem dX4_reach_64 : decode cX4_reach 64 = .ok (.putfield 9, 3) := by decide +kernel
theorem dX4_reach_67 : decode cX4_reach 67 = .ok (.return_, 1) := by decide +kernel
theorem dX4_markAll_0 : decode cX4_markAll 0 = .ok (.iconst 0, 1) := by decide +kernel
theorem dX4_markAll_1 : decode cX4_markAll 1 = .ok (.istore_n 3, 1) := by decide +kernel
theorem dX4_markAll_2 : decode cX4_markAll 2 = .ok (.iload_n 3, 1) := by decide +kernel
theorem dX4_markAll_3 : decode cX4_markAll 3 = .ok (.aload_n 0, 1) := by decide +kernel
theorem dX4_markAll_4 : decode cX4_markAll 4 = .ok (.getfield 9, 3) := by decide +kernel
theorem dX4_markAll_7 : decode cX4_markAll 7 = .ok (.if_icmp .ge 21, 3) := by decide +kernel
theorem dX4_markAll_10 : decode cX4_markAll 10 = .ok (.aload_n 1, 1) := by decide +kernel
theorem dX4_markAll_11 : decode cX4_markAll 11 = .ok (.getfield 45, 3) := by decide +kernel
theorem dX4_markAll_14 : decode cX4_markAll 14 = .ok (.aload_n 0, 1) := by decide +kernel
theorem dX4_markAll_15 : decode cX4_markAll 15 = .ok (.getfield 15, 3) := by decide +kernel
theorem dX4_markAll_18 : decode cX4_markAll 18 = .ok (.iload_n 3, 1) := by decide +kernel
theorem dX4_markAll_19 : decode cX4_markAll 19 = .ok (.iaload, 1) := by decide +kernel
theorem dX4_markAll_20 : decode cX4_markAll 20 = .ok (.iload_n 2, 1) := by decide +kernel
theorem dX4_markAll_21 : decode cX4_markAll 21 = .ok (.iastore, 1) := by decide +kernel
theorem dX4_markAll_22 : decode cX4_markAll 22 = .ok (.iinc 3 1, 3) := by decide +kernel
theorem dX4_markAll_25 : decode cX4_markAll 25 = .ok (.goto (-23), 3) := by decide +kernel
theorem dX4_markAll_28 : decode cX4_markAll 28 = .ok (.return_, 1) := by decide +kernel
theorem dX4_waterBelow_0 : decode cX4_waterBelow 0 = .ok (.iconst 0, 1) := by decide +kernel
theorem dX4_waterBelow_1 : decode cX4_waterBelow 1 = .ok (.istore_n 3, 1) := by decide +kernel
theorem dX4_waterBelow_2 : decode cX4_waterBelow 2 = .ok (.iconst 0, 1) := by decide +kernel
theorem dX4_waterBelow_3 : decode cX4_waterBelow 3 = .ok (.istore 4, 2) := by decide +kernel
theorem dX4_waterBelow_5 : decode cX4_waterBelow 5 = .ok (.iload 4, 2) := by decide +kernel
theorem dX4_waterBelow_7 : decode cX4_waterBelow 7 = .ok (.aload_n 0, 1) := by decide +kernel
theorem dX4_waterBelow_8 : decode cX4_waterBelow 8 = .ok (.getfield 9, 3) := by decide +kernel
theorem dX4_waterBelow_11 : decode cX4_waterBelow 11 = .ok (.if_icmp .ge 26, 3) := by decide +kernel
theorem dX4_waterBelow_14 : decode cX4_waterBelow 14 = .ok (.iload_n 3, 1) := by decide +kernel
theorem dX4_waterBelow_15 : decode cX4_waterBelow 15 = .ok (.iload_n 2, 1) := by decide +kernel
theorem dX4_waterBelow_16 : decode cX4_waterBelow 16 = .ok (.aload_n 1, 1) := by decide +kernel
theorem dX4_waterBelow_17 : decode cX4_waterBelow 17 = .ok (.getfield 38, 3) := by decide +kernel
theorem dX4_waterBelow_20 : decode cX4_waterBelow 20 = .ok (.aload_n 0, 1) := by decide +kernel
theorem dX4_waterBelow_21 : decode cX4_waterBelow 21 = .ok (.getfield 15, 3) := by decide +kernel
theorem dX4_waterBelow_24 : decode cX4_waterBelow 24 = .ok (.iload 4, 2) := by decide +kernel
theorem dX4_waterBelow_26 : decode cX4_waterBelow 26 = .ok (.iaload, 1) := by decide +kernel
theorem dX4_waterBelow_27 : decode cX4_waterBelow 27 = .ok (.iaload, 1) := by decide +kernel
theorem dX4_waterBelow_28 : decode cX4_waterBelow 28 = .ok (.isub, 1) := by decide +kernel
theorem dX4_waterBelow_29 : decode cX4_waterBelow 29 = .ok (.iadd, 1) := by decide +kernel
theorem dX4_waterBelow_30 : decode cX4_waterBelow 30 = .ok (.istore_n 3, 1) := by decide +kernel
theorem dX4_waterBelow_31 : decode cX4_waterBelow 31 = .ok (.iinc 4 1, 3) := by decide +kernel
theorem dX4_waterBelow_34 : decode cX4_waterBelow 34 = .ok (.goto (-29), 3) := by decide +kernel
theorem dX4_waterBelow_37 : decode cX4_waterBelow 37 = .ok (.iload_n 3, 1) := by decide +kernel
theorem dX4_waterBelow_38 : decode cX4_waterBelow 38 = .ok (.ireturn, 1) := by decide +kernel
theorem dX4_lowestAround_0 : decode cX4_lowestAround 0 = .ok (.bipush 100, 2) := by decide +kernel
theorem dX4_lowestAround_2 : decode cX4_lowestAround 2 = .ok (.istore 4, 2) := by decide +kernel
theorem dX4_lowestAround_4 : decode cX4_lowestAround 4 = .ok (.iconst 0, 1) := by decide +kernel
theorem dX4_lowestAround_5 : decode cX4_lowestAround 5 = .ok (.istore 5, 2) := by decide +kernel
theorem dX4_lowestAround_7 : decode cX4_lowestAround 7 = .ok (.iload 5, 2) := by decide +kernel
theorem dX4_lowestAround_9 : decode cX4_lowestAround 9 = .ok (.aload_n 0, 1) := by decide +kernel
theorem dX4_lowestAround_10 : decode cX4_lowestAround 10 = .ok (.getfield 9, 3) := by decide +kernel
theorem dX4_lowestAround_13 : decode cX4_lowestAround 13 = .ok (.if_icmp .ge 74, 3) := by decide +kernel
theorem dX4_lowestAround_16 : decode cX4_lowestAround 16 = .ok (.iconst 0, 1) := by decide +kernel
theorem dX4_lowestAround_17 : decode cX4_lowestAround 17 = .ok (.istore 6, 2) := by decide +kernel
theorem dX4_lowestAround_19 : decode cX4_lowestAround 19 = .ok (.iload 6, 2) := by decide +kernel
theorem dX4_lowestAround_21 : decode cX4_lowestAround 21 = .ok (.iconst 4, 1) := by decide +kernel
theorem dX4_lowestAround_22 : decode cX4_lowestAround 22 = .ok (.if_icmp .ge 59, 3) := by decide +kernel
theorem dX4_lowestAround_25 : decode cX4_lowestAround 25 = .ok (.aload_n 1, 1) := by decide +kernel
theorem dX4_lowestAround_26 : decode cX4_lowestAround 26 = .ok (.aload_n 0, 1) := by decide +kernel
theorem dX4_lowestAround_27 : decode cX4_lowestAround 27 = .ok (.getfield 15, 3) := by decide +kernel
theorem dX4_lowestAround_30 : decode cX4_lowestAround 30 = .ok (.iload 5, 2) := by decide +kernel
theorem dX4_lowestAround_32 : decode cX4_lowestAround 32 = .ok (.iaload, 1) := by decide +kernel
theorem dX4_lowestAround_33 : decode cX4_lowestAround 33 = .ok (.iload 6, 2) := by decide +kernel
theorem dX4_lowestAround_35 : decode cX4_lowestAround 35 = .ok (.invokevirtual 32, 3) := by decide +kernel
theorem dX4_lowestAround_38 : decode cX4_lowestAround 38 = .ok (.istore 7, 2) := by decide +kernel
theorem dX4_lowestAround_40 : decode cX4_lowestAround 40 = .ok (.iload 7, 2) := by decide +kernel
theorem dX4_lowestAround_42 : decode cX4_lowestAround 42 = .ok (.iconst (-1), 1) := by decide +kernel
theorem dX4_lowestAround_43 : decode cX4_lowestAround 43 = .ok (.if_icmp .eq 32, 3) := by decide +kernel
theorem dX4_lowestAround_46 : decode cX4_lowestAround 46 = .ok (.aload_n 1, 1) := by decide +kernel
theorem dX4_lowestAround_47 : decode cX4_lowestAround 47 = .ok (.getfield 38, 3) := by decide +kernel
theorem dX4_lowestAround_50 : decode cX4_lowestAround 50 = .ok (.iload 7, 2) := by decide +kernel
theorem dX4_lowestAround_52 : decode cX4_lowestAround 52 = .ok (.iaload, 1) := by decide +kernel
theorem dX4_lowestAround_53 : decode cX4_lowestAround 53 = .ok (.iload_n 2, 1) := by decide +kernel
theorem dX4_lowestAround_54 : decode cX4_lowestAround 54 = .ok (.iload_n 3, 1) := by decide +kernel
theorem dX4_lowestAround_55 : decode cX4_lowestAround 55 = .ok (.invokestatic 41, 3) := by decide +kernel
theorem dX4_lowestAround_58 : decode cX4_lowestAround 58 = .ok (.ifCond .ne 17, 3) := by decide +kernel
theorem dX4_lowestAround_61 : decode cX4_lowestAround 61 = .ok (.iload 4, 2) := by decide +kernel
theorem dX4_lowestAround_63 : decode cX4_lowestAround 63 = .ok (.aload_n 1, 1) := by decide +kernel
theorem dX4_lowestAround_64 : decode cX4_lowestAround 64 = .ok (.getfield 38, 3) := by decide +kernel
theorem dX4_lowestAround_67 : decode cX4_lowestAround 67 = .ok (.iload 7, 2) := by decide +kernel
theorem dX4_lowestAround_69 : decode cX4_lowestAround 69 = .ok (.iaload, 1) := by decide +kernel
theorem dX4_lowestAround_70 : decode cX4_lowestAround 70 = .ok (.invokestatic 48, 3) := by decide +kernel
theorem dX4_lowestAround_73 : decode cX4_lowestAround 73 = .ok (.istore 4, 2) := by decide +kernel
theorem dX4_lowestAround_75 : decode cX4_lowestAround 75 = .ok (.iinc 6 1, 3) := by decide +kernel
theorem dX4_lowestAround_78 : decode cX4_lowestAround 78 = .ok (.goto (-59), 3) := by decide +kernel
theorem dX4_lowestAround_81 : decode cX4_lowestAround 81 = .ok (.iinc 5 1, 3) := by decide +kernel
theorem dX4_lowestAround_84 : decode cX4_lowestAround 84 = .ok (.goto (-77), 3) := by decide +kernel
theorem dX4_lowestAround_87 : decode cX4_lowestAround 87 = .ok (.iload 4, 2) := by decide +kernel
theorem dX4_lowestAround_89 : decode cX4_lowestAround 89 = .ok (.ireturn, 1) := by decide +kernel
theorem dX5_init_0 : decode cX5_init 0 = .ok (.aload_n 0, 1) := by decide +kernel
theorem dX5_init_1 : decode cX5_init 1 = .ok (.invokespecial 3, 3) := by decide +kernel
theorem dX5_init_4 : decode cX5_init 4 = .ok (.aload_n 0, 1) := by decide +kernel
theorem dX5_init_5 : decode cX5_init 5 = .ok (.iconst 0, 1) := by decide +kernel
theorem dX5_init_6 : decode cX5_init 6 = .ok (.putfield 9, 3) := by decide +kernel
theorem dX5_init_9 : decode cX5_init 9 = .ok (.aload_n 0, 1) := by decide +kernel
theorem dX5_init_10 : decode cX5_init 10 = .ok (.iconst 0, 1) := by decide +kernel
theorem dX5_init_11 : decode cX5_init 11 = .ok (.putfield 15, 3) := by decide +kernel
theorem dX5_init_14 : decode cX5_init 14 = .ok (.aload_n 0, 1) := by decide +kernel
theorem dX5_init_15 : decode cX5_init 15 = .ok (.iconst 0, 1) := by decide +kernel
theorem dX5_init_16 : decode cX5_init 16 = .ok (.putfield 18, 3) := by decide +kernel
theorem dX5_init_19 : decode cX5_init 19 = .ok (.aload_n 0, 1) := by decide +kernel
theorem dX5_init_20 : decode cX5_init 20 = .ok (.sipush 144, 3) := by decide +kernel
theorem dX5_init_23 : decode cX5_init 23 = .ok (.newarray .int, 2) := by decide +kernel
theorem dX5_init_25 : decode cX5_init 25 = .ok (.putfield 21, 3) := by decide +kernel
theorem dX5_init_28 : decode cX5_init 28 = .ok (.aload_n 0, 1) := by decide +kernel
theorem dX5_init_29 : decode cX5_init 29 = .ok (.sipush 144, 3) := by decide +kernel
theorem dX5_init_32 : decode cX5_init 32 = .ok (.newarray .int, 2) := by decide +kernel
theorem dX5_init_34 : decode cX5_init 34 = .ok (.putfield 25, 3) := by decide +kernel
theorem dX5_init_37 : decode cX5_init 37 = .ok (.aload_n 0, 1) := by decide +kernel
theorem dX5_init_38 : decode cX5_init 38 = .ok (.sipush 576, 3) := by decide +kernel
theorem dX5_init_41 : decode cX5_init 41 = .ok (.newarray .int, 2) := by decide +kernel
theorem dX5_init_43 : decode cX5_init 43 = .ok (.putfield 28, 3) := by decide +kernel
theorem dX5_init_46 : decode cX5_init 46 = .ok (.return_, 1) := by decide +kernel
theorem dX5_shape_0 : decode cX5_shape 0 = .ok (.aload_n 0, 1) := by decide +kernel
theorem dX5_shape_1 : decode cX5_shape 1 = .ok (.iload_n 1, 1) := by decide +kernel
theorem dX5_shape_2 : decode cX5_shape 2 = .ok (.putfield 9, 3) := by decide +kernel
theorem dX5_shape_5 : decode cX5_shape 5 = .ok (.aload_n 0, 1) := by decide +kernel
theorem dX5_shape_6 : decode cX5_shape 6 = .ok (.iload_n 2, 1) := by decide +kernel
theorem dX5_shape_7 : decode cX5_shape 7 = .ok (.putfield 15, 3) := by decide +kernel
theorem dX5_shape_10 : decode cX5_shape 10 = .ok (.aload_n 0, 1) := by decide +kernel
theorem dX5_shape_11 : decode cX5_shape 11 = .ok (.iload_n 1, 1) := by decide +kernel
theorem dX5_shape_12 : decode cX5_shape 12 = .ok (.iload_n 2, 1) := by decide +kernel
theorem dX5_shape_13 : decode cX5_shape 13 = .ok (.imul, 1) := by decide +kernel
theorem dX5_shape_14 : decode cX5_shape 14 = .ok (.putfield 18, 3) := by decide +kernel
theorem dX5_shape_17 : decode cX5_shape 17 = .ok (.iconst 0, 1) := by decide +kernel
theorem dX5_shape_18 : decode cX5_shape 18 = .ok (.istore_n 3, 1) := by decide +kernel
theorem dX5_shape_19 : decode cX5_shape 19 = .ok (.iload_n 3, 1) := by decide +kernel
theorem dX5_shape_20 : decode cX5_shape 20 = .ok (.aload_n 0, 1) := by decide +kernel
theorem dX5_shape_21 : decode cX5_shape 21 = .ok (.getfield 15, 3) := by decide +kernel
theorem dX5_shape_24 : decode cX5_shape 24 = .ok (.if_icmp .ge 110, 3) := by decide +kernel
theorem dX5_shape_27 : decode cX5_shape 27 = .ok (.iconst 0, 1) := by decide +kernel
theorem dX5_shape_28 : decode cX5_shape 28 = .ok (.istore 4, 2) := by decide +kernel
theorem dX5_shape_30 : decode cX5_shape 30 = .ok (.iload 4, 2) := by decide +kernel
theorem dX5_shape_32 : decode cX5_shape 32 = .ok (.aload_n 0, 1) := by decide +kernel
theorem dX5_shape_33 : decode cX5_shape 33 = .ok (.getfield 9, 3) := by decide +kernel
theorem dX5_shape_36 : decode cX5_shape 36 = .ok (.if_icmp .ge 92, 3) := by decide +kernel
theorem dX5_shape_39 : decode cX5_shape 39 = .ok (.iload_n 3, 1) := by decide +kernel
theorem dX5_shape_40 : decode cX5_shape 40 = .ok (.aload_n 0, 1) := by decide +kernel
theorem dX5_shape_41 : decode cX5_shape 41 = .ok (.getfield 9, 3) := by decide +kernel
theorem dX5_shape_44 : decode cX5_shape 44 = .ok (.imul, 1) := by decide +kernel
theorem dX5_shape_45 : decode cX5_shape 45 = .ok (.iload 4, 2) := by decide +kernel
theorem dX5_shape_47 : decode cX5_shape 47 = .ok (.iadd, 1) := by decide +kernel
theorem dX5_shape_48 : decode cX5_shape 48 = .ok (.iconst 4, 1) := by decide +kernel
theorem dX5_shape_49 : decode cX5_shape 49 = .ok (.imul, 1) := by decide +kernel
theorem dX5_shape_50 : decode cX5_shape 50 = .ok (.istore 5, 2) := by decide +kernel
theorem dX5_shape_52 : decode cX5_shape 52 = .ok (.aload_n 0, 1) := by decide +kernel
theorem dX5_shape_53 : decode cX5_shape 53 = .ok (.getfield 28, 3) := by decide +kernel
theorem dX5_shape_56 : decode cX5_shape 56 = .ok (.iload 5, 2) := by decide +kernel
theorem dX5_shape_58 : decode cX5_shape 58 = .ok (.aload_n 0, 1) := by decide +kernel
theorem dX5_shape_59 : decode cX5_shape 59 = .ok (.iload 4, 2) := by decide +kernel
theorem dX5_shape_61 : decode cX5_shape 61 = .ok (.iconst 1, 1) := by decide +kernel
theorem dX5_shape_62 : decode cX5_shape 62 = .ok (.iadd, 1) := by decide +kernel
theorem dX5_shape_63 : decode cX5_shape 63 = .ok (.iload_n 3, 1) := by decide +kernel
theorem dX5_shape_64 : decode cX5_shape 64 = .ok (.invokevirtual 31, 3) := by decide +kernel
theorem dX5_shape_67 : decode cX5_shape 67 = .ok (.iastore, 1) := by decide +kernel
theorem dX5_shape_68 : decode cX5_shape 68 = .ok (.aload_n 0, 1) := by decide +kernel
theorem dX5_shape_69 : decode cX5_shape 69 = .ok (.getfield 28, 3) := by decide +kernel
theorem dX5_shape_72 : decode cX5_shape 72 = .ok (.iload 5, 2) := by decide +kernel
theorem dX5_shape_74 : decode cX5_shape 74 = .ok (.iconst 1, 1) := by decide +kernel
theorem dX5_shape_75 : decode cX5_shape 75 = .ok (.iadd, 1) := by decide +kernel
theorem dX5_shape_76 : decode cX5_shape 76 = .ok (.aload_n 0, 1) := by decide +kernel
theorem dX5_shape_77 : decode cX5_shape 77 = .ok (.iload 4, 2) := by decide +kernel
theorem dX5_shape_79 : decode cX5_shape 79 = .ok (.iload_n 3, 1) := by decide +kernel
theorem dX5_shape_80 : decode cX5_shape 80 = .ok (.iconst 1, 1) := by decide +kernel
theorem dX5_shape_81 : decode cX5_shape 81 = .ok (.iadd, 1) := by decide +kernel
theorem dX5_shape_82 : decode cX5_shape 82 = .ok (.invokevirtual 31, 3) := by decide +kernel
theorem dX5_shape_85 : decode cX5_shape 85 = .ok (.iastore, 1) := by decide +kernel
theorem dX5_shape_86 : decode cX5_shape 86 = .ok (.aload_n 0, 1) := by decide +kernel
theorem dX5_shape_87 : decode cX5_shape 87 = .ok (.getfield 28, 3) := by decide +kernel
theorem dX5_shape_90 : decode cX5_shape 90 = .ok (.iload 5, 2) := by decide +kernel
theorem dX5_shape_92 : decode cX5_shape 92 = .ok (.iconst 2, 1) := by decide +kernel
theorem dX5_shape_93 : decode cX5_shape 93 = .ok (.iadd, 1) := by decide +kernel
theorem dX5_shape_94 : decode cX5_shape 94 = .ok (.aload_n 0, 1) := by decide +kernel
theorem dX5_shape_95 : decode cX5_shape 95 = .ok (.iload 4, 2) := by decide +kernel
theorem dX5_shape_97 : decode cX5_shape 97 = .ok (.iconst 1, 1) := by decide +kernel
theorem dX5_shape_98 : decode cX5_shape 98 = .ok (.isub, 1) := by decide +kernel
theorem dX5_shape_99 : decode cX5_shape 99 = .ok (.iload_n 3, 1) := by decide +kernel
theorem dX5_shape_100 : decode cX5_shape 100 = .ok (.invokevirtual 31, 3) := by decide +kernel
theorem dX5_shape_103 : decode cX5_shape 103 = .ok (.iastore, 1) := by decide +kernel
theorem dX5_shape_104 : decode cX5_shape 104 = .ok (.aload_n 0, 1) := by decide +kernel
theorem dX5_shape_105 : decode cX5_shape 105 = .ok (.getfield 28, 3) := by decide +kernel
theorem dX5_shape_108 : decode cX5_shape 108 = .ok (.iload 5, 2) := by decide +kernel
theorem dX5_shape_110 : decode cX5_shape 110 = .ok (.iconst 3, 1) := by decide +kernel
theorem dX5_shape_111 : decode cX5_shape 111 = .ok (.iadd, 1) := by decide +kernel
theorem dX5_shape_112 : decode cX5_shape 112 = .ok (.aload_n 0, 1) := by decide +kernel
theorem dX5_shape_113 : decode cX5_shape 113 = .ok (.iload 4, 2) := by decide +kernel
theorem dX5_shape_115 : decode cX5_shape 115 = .ok (.iload_n 3, 1) := by decide +kernel
theorem dX5_shape_116 : decode cX5_shape 116 = .ok (.iconst 1, 1) := by decide +kernel
theorem dX5_shape_117 : decode cX5_shape 117 = .ok (.isub, 1) := by decide +kernel
theorem dX5_shape_118 : decode cX5_shape 118 = .ok (.invokevirtual 31, 3) := by decide +kernel
theorem dX5_shape_121 : decode cX5_shape 121 = .ok (.iastore, 1) := by decide +kernel
theorem dX5_shape_122 : decode cX5_shape 122 = .ok (.iinc 4 1, 3) := by decide +kernel
theorem dX5_shape_125 : decode cX5_shape 125 = .ok (.goto (-95), 3) := by decide +kernel
theorem dX5_shape_128 : decode cX5_shape 128 = .ok (.iinc 3 1, 3) := by decide +kernel
theorem dX5_shape_131 : decode cX5_shape 131 = .ok (.goto (-112), 3) := by decide +kernel
theorem dX5_shape_134 : decode cX5_shape 134 = .ok (.return_, 1) := by decide +kernel
theorem dX5_clear_0 : decode cX5_clear 0 = .ok (.aload_n 0, 1) := by decide +kernel
theorem dX5_clear_1 : decode cX5_clear 1 = .ok (.getfield 21, 3) := by decide +kernel
theorem dX5_clear_4 : decode cX5_clear 4 = .ok (.iconst 0, 1) := by decide +kernel
theorem dX5_clear_5 : decode cX5_clear 5 = .ok (.invokestatic 35, 3) := by decide +kernel
theorem dX5_clear_8 : decode cX5_clear 8 = .ok (.aload_n 0, 1) := by decide +kernel
theorem dX5_clear_9 : decode cX5_clear 9 = .ok (.getfield 25, 3) := by decide +kernel
theorem dX5_clear_12 : decode cX5_clear 12 = .ok (.iconst 0, 1) := by decide +kernel
theorem dX5_clear_13 : decode cX5_clear 13 = .ok (.invokestatic 35, 3) := by decide +kernel
theorem dX5_clear_16 : decode cX5_clear 16 = .ok (.return_, 1) := by decide +kernel
theorem dX5_dotAt_0 : decode cX5_dotAt 0 = .ok (.iload_n 1, 1) := by decide +kernel
theorem dX5_dotAt_1 : decode cX5_dotAt 1 = .ok (.iconst 0, 1) := by decide +kernel
theorem dX5_dotAt_2 : decode cX5_dotAt 2 = .ok (.aload_n 0, 1) := by decide +kernel
theorem dX5_dotAt_3 : decode cX5_dotAt 3 = .ok (.getfield 9, 3) := by decide +kernel
theorem dX5_dotAt_6 : decode cX5_dotAt 6 = .ok (.iconst 1, 1) := by decide +kernel
theorem dX5_dotAt_7 : decode cX5_dotAt 7 = .ok (.isub, 1) := by decide +kernel
theorem dX5_dotAt_8 : decode cX5_dotAt 8 = .ok (.invokestatic 41, 3) := by decide +kernel
theorem dX5_dotAt_11 : decode cX5_dotAt 11 = .ok (.ifCond .eq 28, 3) := by decide +kernel
theorem dX5_dotAt_14 : decode cX5_dotAt 14 = .ok (.iload_n 2, 1) := by decide +kernel
theorem dX5_dotAt_15 : decode cX5_dotAt 15 = .ok (.iconst 0, 1) := by decide +kernel
theorem dX5_dotAt_16 : decode cX5_dotAt 16 = .ok (.aload_n 0, 1) := by decide +kernel
theorem dX5_dotAt_17 : decode cX5_dotAt 17 = .ok (.getfield 15, 3) := by decide +kernel
theorem dX5_dotAt_20 : decode cX5_dotAt 20 = .ok (.iconst 1, 1) := by decide +kernel
theorem dX5_dotAt_21 : decode cX5_dotAt 21 = .ok (.isub, 1) := by decide +kernel
theorem dX5_dotAt_22 : decode cX5_dotAt 22 = .ok (.invokestatic 41, 3) := by decide +kernel
theorem dX5_dotAt_25 : decode cX5_dotAt 25 = .ok (.ifCond .eq 14, 3) := by decide +kernel
theorem dX5_dotAt_28 : decode cX5_dotAt 28 = .ok (.iload_n 2, 1) := by decide +kernel
theorem dX5_dotAt_29 : decode cX5_dotAt 29 = .ok (.aload_n 0, 1) := by decide +kernel
theorem dX5_dotAt_30 : decode cX5_dotAt 30 = .ok (.getfield 9, 3) := by decide +kernel
theorem dX5_dotAt_33 : decode cX5_dotAt 33 = .ok (.imul, 1) := by decide +kernel
theorem dX5_dotAt_34 : decode cX5_dotAt 34 = .ok (.iload_n 1, 1) := by decide +kernel
theorem dX5_dotAt_35 : decode cX5_dotAt 35 = .ok (.iadd, 1) := by decide +kernel
theorem dX5_dotAt_36 : decode cX5_dotAt 36 = .ok (.goto 4, 3) := by decide +kernel
theorem dX5_dotAt_39 : decode cX5_dotAt 39 = .ok (.iconst (-1), 1) := by decide +kernel
theorem dX5_dotAt_40 : decode cX5_dotAt 40 = .ok (.ireturn, 1) := by decide +kernel
theorem dX5_neighbour_0 : decode cX5_neighbour 0 = .ok (.aload_n 0, 1) := by decide +kernel
theorem dX5_neighbour_1 : decode cX5_neighbour 1 = .ok (.getfield 28, 3) := by decide +kernel
theorem dX5_neighbour_4 : decode cX5_neighbour 4 = .ok (.iload_n 1, 1) := by decide +kernel
theorem dX5_neighbour_5 : decode cX5_neighbour 5 = .ok (.iconst 4, 1) := by decide +kernel
theorem dX5_neighbour_6 : decode cX5_neighbour 6 = .ok (.imul, 1) := by decide +kernel
theorem dX5_neighbour_7 : decode cX5_neighbour 7 = .ok (.iload_n 2, 1) := by decide +kernel
theorem dX5_neighbour_8 : decode cX5_neighbour 8 = .ok (.iadd, 1) := by decide +kernel
theorem dX5_neighbour_9 : decode cX5_neighbour 9 = .ok (.iaload, 1) := by decide +kernel
theorem dX5_neighbour_10 : decode cX5_neighbour 10 = .ok (.ireturn, 1) := by decide +kernel
theorem dX5_ripple_0 : decode cX5_ripple 0 = .ok (.iconst 0, 1) := by decide +kernel
theorem dX5_ripple_1 : decode cX5_ripple 1 = .ok (.istore 5, 2) := by decide +kernel
theorem dX5_ripple_3 : decode cX5_ripple 3 = .ok (.iload 5, 2) := by decide +kernel
theorem dX5_ripple_5 : decode cX5_ripple 5 = .ok (.aload_n 0, 1) := by decide +kernel
theorem dX5_ripple_6 : decode cX5_ripple 6 = .ok (.getfield 15, 3) := by decide +kernel
theorem dX5_ripple_9 : decode cX5_ripple 9 = .ok (.if_icmp .ge 62, 3) := by decide +kernel
theorem dX5_ripple_12 : decode cX5_ripple 12 = .ok (.iconst 0, 1) := by decide +kernel
theorem dX5_ripple_13 : decode cX5_ripple 13 = .ok (.istore 6, 2) := by decide +kernel
theorem dX5_ripple_15 : decode cX5_ripple 15 = .ok (.iload 6, 2) := by decide +kernel
theorem dX5_ripple_17 : decode cX5_ripple 17 = .ok (.aload_n 0, 1) := by decide +kernel
theorem dX5_ripple_18 : decode cX5_ripple 18 = .ok (.getfield 9, 3) := by decide +kernel
theorem dX5_ripple_21 : decode cX5_ripple 21 = .ok (.if_icmp .ge 44, 3) := by decide +kernel
theorem dX5_ripple_24 : decode cX5_ripple 24 = .ok (.aload_n 0, 1) := by decide +kernel
theorem dX5_ripple_25 : decode cX5_ripple 25 = .ok (.getfield 21, 3) := by decide +kernel
theorem dX5_ripple_28 : decode cX5_ripple 28 = .ok (.iload 5, 2) := by decide +kernel
theorem dX5_ripple_30 : decode cX5_ripple 30 = .ok (.aload_n 0, 1) := by decide +kernel
theorem dX5_ripple_31 : decode cX5_ripple 31 = .ok (.getfield 9, 3) := by decide +kernel
theorem dX5_ripple_34 : decode cX5_ripple 34 = .ok (.imul, 1) := by decide +kernel
theorem dX5_ripple_35 : decode cX5_ripple 35 = .ok (.iload 6, 2) := by decide +kernel
theorem dX5_ripple_37 : decode cX5_ripple 37 = .ok (.iadd, 1) := by decide +kernel
theorem dX5_ripple_38 : decode cX5_ripple 38 = .ok (.iload_n 1, 1) := by decide +kernel
theorem dX5_ripple_39 : decode cX5_ripple 39 = .ok (.iload 6, 2) := by decide +kernel
theorem dX5_ripple_41 : decode cX5_ripple 41 = .ok (.imul, 1) := by decide +kernel
theorem dX5_ripple_42 : decode cX5_ripple 42 = .ok (.iload_n 2, 1) := by decide +kernel
theorem dX5_ripple_43 : decode cX5_ripple 43 = .ok (.iload 5, 2) := by decide +kernel
theorem dX5_ripple_45 : decode cX5_ripple 45 = .ok (.imul, 1) := by decide +kernel
theorem dX5_ripple_46 : decode cX5_ripple 46 = .ok (.iadd, 1) := by decide +kernel
theorem dX5_ripple_47 : decode cX5_ripple 47 = .ok (.iload_n 3, 1) := by decide +kernel
theorem dX5_ripple_48 : decode cX5_ripple 48 = .ok (.iload 6, 2) := by decide +kernel
theorem dX5_ripple_50 : decode cX5_ripple 50 = .ok (.imul, 1) := by decide +kernel
theorem dX5_ripple_51 : decode cX5_ripple 51 = .ok (.iload 5, 2) := by decide +kernel
theorem dX5_ripple_53 : decode cX5_ripple 53 = .ok (.imul, 1) := by decide +kernel
theorem dX5_ripple_54 : decode cX5_ripple 54 = .ok (.iadd, 1) := by decide +kernel
theorem dX5_ripple_55 : decode cX5_ripple 55 = .ok (.iload 4, 2) := by decide +kernel
theorem dX5_ripple_57 : decode cX5_ripple 57 = .ok (.irem, 1) := by decide +kernel
theorem dX5_ripple_58 : decode cX5_ripple 58 = .ok (.iastore, 1) := by decide +kernel
theorem dX5_ripple_59 : decode cX5_ripple 59 = .ok (.iinc 6 1, 3) := by decide +kernel
theorem dX5_ripple_62 : decode cX5_ripple 62 = .ok (.goto (-47), 3) := by decide +kernel
theorem dX5_ripple_65 : decode cX5_ripple 65 = .ok (.iinc 5 1, 3) := by decide +kernel
theorem dX5_ripple_68 : decode cX5_ripple 68 = .ok (.goto (-65), 3) := by decide +kernel
theorem dX5_ripple_71 : decode cX5_ripple 71 = .ok (.return_, 1) := by decide +kernel
theorem dX5_raise_0 : decode cX5_raise 0 = .ok (.iconst 0, 1) := by decide +kernel
theorem dX5_raise_1 : decode cX5_raise 1 = .ok (.istore 5, 2) := by decide +kernel
theorem dX5_raise_3 : decode cX5_raise 3 = .ok (.iload 5, 2) := by decide +kernel
theorem dX5_raise_5 : decode cX5_raise 5 = .ok (.aload_n 0, 1) := by decide +kernel
theorem dX5_raise_6 : decode cX5_raise 6 = .ok (.getfield 15, 3) := by decide +kernel
theorem dX5_raise_9 : decode cX5_raise 9 = .ok (.if_icmp .ge 119, 3) := by decide +kernel
theorem dX5_raise_12 : decode cX5_raise 12 = .ok (.iconst 0, 1) := by decide +kernel
theorem dX5_raise_13 : decode cX5_raise 13 = .ok (.istore 6, 2) := by decide +kernel
theorem dX5_raise_15 : decode cX5_raise 15 = .ok (.iload 6, 2) := by decide +kernel
theorem dX5_raise_17 : decode cX5_raise 17 = .ok (.aload_n 0, 1) := by decide +kernel
theorem dX5_raise_18 : decode cX5_raise 18 = .ok (.getfield 9, 3) := by decide +kernel
theorem dX5_raise_21 : decode cX5_raise 21 = .ok (.if_icmp .ge 101, 3) := by decide +kernel
theorem dX5_raise_24 : decode cX5_raise 24 = .ok (.iload 6, 2) := by decide +kernel
theorem dX5_raise_26 : decode cX5_raise 26 = .ok (.iload_n 1, 1) := by decide +kernel
theorem dX5_raise_27 : decode cX5_raise 27 = .ok (.isub, 1) := by decide +kernel
theorem dX5_raise_28 : decode cX5_raise 28 = .ok (.invokestatic 45, 3) := by decide +kernel
theorem dX5_raise_31 : decode cX5_raise 31 = .ok (.iload 5, 2) := by decide +kernel
theorem dX5_raise_33 : decode cX5_raise 33 = .ok (.iload_n 2, 1) := by decide +kernel
theorem dX5_raise_34 : decode cX5_raise 34 = .ok (.isub, 1) := by decide +kernel
theorem dX5_raise_35 : decode cX5_raise 35 = .ok (.invokestatic 45, 3) := by decide +kernel
theorem dX5_raise_38 : decode cX5_raise 38 = .ok (.iadd, 1) := by decide +kernel
theorem dX5_raise_39 : decode cX5_raise 39 = .ok (.istore 7, 2) := by decide +kernel
theorem dX5_raise_41 : decode cX5_raise 41 = .ok (.iload_n 3, 1) := by decide +kernel
theorem dX5_raise_42 : decode cX5_raise 42 = .ok (.invokestatic 45, 3) := by decide +kernel
theorem dX5_raise_45 : decode cX5_raise 45 = .ok (.iload 4, 2) := by decide +kernel
theorem dX5_raise_47 : decode cX5_raise 47 = .ok (.iload 7, 2) := by decide +kernel
theorem dX5_raise_49 : decode cX5_raise 49 = .ok (.imul, 1) := by decide +kernel
theorem dX5_raise_50 : decode cX5_raise 50 = .ok (.isub, 1) := by decide +kernel
theorem dX5_raise_51 : decode cX5_raise 51 = .ok (.iconst 0, 1) := by decide +kernel
theorem dX5_raise_52 : decode cX5_raise 52 = .ok (.invokestatic 51, 3) := by decide +kernel
theorem dX5_raise_55 : decode cX5_raise 55 = .ok (.istore 8, 2) := by decide +kernel
theorem dX5_raise_57 : decode cX5_raise 57 = .ok (.iload 5, 2) := by decide +kernel
theorem dX5_raise_59 : decode cX5_raise 59 = .ok (.aload_n 0, 1) := by decide +kernel
theorem dX5_raise_60 : decode cX5_raise 60 = .ok (.getfield 9, 3) := by decide +kernel
theorem dX5_raise_63 : decode cX5_raise 63 = .ok (.imul, 1) := by decide +kernel
theorem dX5_raise_64 : decode cX5_raise 64 = .ok (.iload 6, 2) := by decide +kernel
theorem dX5_raise_66 : decode cX5_raise 66 = .ok (.iadd, 1) := by decide +kernel
theorem dX5_raise_67 : decode cX5_raise 67 = .ok (.istore 9, 2) := by decide +kernel
theorem dX5_raise_69 : decode cX5_raise 69 = .ok (.iload_n 3, 1) := by decide +kernel
theorem dX5_raise_70 : decode cX5_raise 70 = .ok (.ifCond .ge 16, 3) := by decide +kernel
theorem dX5_raise_73 : decode cX5_raise 73 = .ok (.aload_n 0, 1) := by decide +kernel
theorem dX5_raise_74 : decode cX5_raise 74 = .ok (.getfield 21, 3) := by decide +kernel
theorem dX5_raise_77 : decode cX5_raise 77 = .ok (.iload 9, 2) := by decide +kernel
theorem dX5_raise_79 : decode cX5_raise 79 = .ok (.iaload, 1) := by decide +kernel
theorem dX5_raise_80 : decode cX5_raise 80 = .ok (.iload 8, 2) := by decide +kernel
theorem dX5_raise_82 : decode cX5_raise 82 = .ok (.isub, 1) := by decide +kernel
theorem dX5_raise_83 : decode cX5_raise 83 = .ok (.goto 13, 3) := by decide +kernel
theorem dX5_raise_86 : decode cX5_raise 86 = .ok (.aload_n 0, 1) := by decide +kernel
theorem dX5_raise_87 : decode cX5_raise 87 = .ok (.getfield 21, 3) := by decide +kernel
theorem dX5_raise_90 : decode cX5_raise 90 = .ok (.iload 9, 2) := by decide +kernel
theorem dX5_raise_92 : decode cX5_raise 92 = .ok (.iaload, 1) := by decide +kernel
theorem dX5_raise_93 : decode cX5_raise 93 = .ok (.iload 8, 2) := by decide +kernel
theorem dX5_raise_95 : decode cX5_raise 95 = .ok (.iadd, 1) := by decide +kernel
theorem dX5_raise_96 : decode cX5_raise 96 = .ok (.istore 10, 2) := by decide +kernel
theorem dX5_raise_98 : decode cX5_raise 98 = .ok (.aload_n 0, 1) := by decide +kernel
theorem dX5_raise_99 : decode cX5_raise 99 = .ok (.getfield 21, 3) := by decide +kernel
theorem dX5_raise_102 : decode cX5_raise 102 = .ok (.iload 9, 2) := by decide +kernel
theorem dX5_raise_104 : decode cX5_raise 104 = .ok (.iload 10, 2) := by decide +kernel
theorem dX5_raise_106 : decode cX5_raise 106 = .ok (.iconst 0, 1) := by decide +kernel
theorem dX5_raise_107 : decode cX5_raise 107 = .ok (.invokestatic 51, 3) := by decide +kernel
theorem dX5_raise_110 : decode cX5_raise 110 = .ok (.bipush 99, 2) := by decide +kernel
theorem dX5_raise_112 : decode cX5_raise 112 = .ok (.invokestatic 54, 3) := by decide +kernel
theorem dX5_raise_115 : decode cX5_raise 115 = .ok (.iastore, 1) := by decide +kernel
theorem dX5_raise_116 : decode cX5_raise 116 = .ok (.iinc 6 1, 3) := by decide +kernel
theorem dX5_raise_119 : decode cX5_raise 119 = .ok (.goto (-104), 3) := by decide +kernel
theorem dX5_raise_122 : decode cX5_raise 122 = .ok (.iinc 5 1, 3) := by decide +kernel
theorem dX5_raise_125 : decode cX5_raise 125 = .ok (.goto (-122), 3) := by decide +kernel
theorem dX5_raise_128 : decode cX5_raise 128 = .ok (.return_, 1) := by decide +kernel
theorem dX5_countMarks_0 : decode cX5_countMarks 0 = .ok (.iconst 0, 1) := by decide +kernel
theorem dX5_countMarks_1 : decode cX5_countMarks 1 = .ok (.istore_n 1, 1) := by decide +kernel
theorem dX5_countMarks_2 : decode cX5_countMarks 2 = .ok (.iconst 0, 1) := by decide +kernel
theorem dX5_countMarks_3 : decode cX5_countMarks 3 = .ok (.istore_n 2, 1) := by decide +kernel
theorem dX5_countMarks_4 : decode cX5_countMarks 4 = .ok (.iload_n 2, 1) := by decide +kernel
theorem dX5_countMarks_5 : decode cX5_countMarks 5 = .ok (.aload_n 0, 1) := by decide +kernel
theorem dX5_countMarks_6 : decode cX5_countMarks 6 = .ok (.getfield 18, 3) := by decide +kernel
theorem dX5_countMarks_9 : decode cX5_countMarks 9 = .ok (.if_icmp .ge 21, 3) := by decide +kernel
theorem dX5_countMarks_12 : decode cX5_countMarks 12 = .ok (.aload_n 0, 1) := by decide +kernel
theorem dX5_countMarks_13 : decode cX5_countMarks 13 = .ok (.getfield 25, 3) := by decide +kernel
theorem dX5_countMarks_16 : decode cX5_countMarks 16 = .ok (.iload_n 2, 1) := by decide +kernel
theorem dX5_countMarks_17 : decode cX5_countMarks 17 = .ok (.iaload, 1) := by decide +kernel
theorem dX5_countMarks_18 : decode cX5_countMarks 18 = .ok (.ifCond .le 6, 3) := by decide +kernel
theorem dX5_countMarks_21 : decode cX5_countMarks 21 = .ok (.iinc 1 1, 3) := by decide +kernel
theorem dX5_countMarks_24 : decode cX5_countMarks 24 = .ok (.iinc 2 1, 3) := by decide +kernel
theorem dX5_countMarks_27 : decode cX5_countMarks 27 = .ok (.goto (-23), 3) := by decide +kernel
theorem dX5_countMarks_30 : decode cX5_countMarks 30 = .ok (.iload_n 1, 1) := by decide +kernel
theorem dX5_countMarks_31 : decode cX5_countMarks 31 = .ok (.ireturn, 1) := by decide +kernel
theorem dX5_countDams_0 : decode cX5_countDams 0 = .ok (.iconst 0, 1) := by decide +kernel
theorem dX5_countDams_1 : decode cX5_countDams 1 = .ok (.istore_n 2, 1) := by decide +kernel
theorem dX5_countDams_2 : decode cX5_countDams 2 = .ok (.iconst 0, 1) := by decide +kernel
theorem dX5_countDams_3 : decode cX5_countDams 3 = .ok (.istore_n 3, 1) := by decide +kernel
theorem dX5_countDams_4 : decode cX5_countDams 4 = .ok (.iload_n 3, 1) := by decide +kernel
theorem dX5_countDams_5 : decode cX5_countDams 5 = .ok (.aload_n 0, 1) := by decide +kernel
theorem dX5_countDams_6 : decode cX5_countDams 6 = .ok (.getfield 18, 3) := by decide +kernel
theorem dX5_countDams_9 : decode cX5_countDams 9 = .ok (.if_icmp .ge 18, 3) := by decide +kernel
theorem dX5_countDams_12 : decode cX5_countDams 12 = .ok (.aload_n 1, 1) := by decide +kernel
theorem dX5_countDams_13 : decode cX5_countDams 13 = .ok (.iload_n 3, 1) := by decide +kernel
theorem dX5_countDams_14 : decode cX5_countDams 14 = .ok (.iaload, 1) := by decide +kernel
theorem dX5_countDams_15 : decode cX5_countDams 15 = .ok (.ifCond .ne 6, 3) := by decide +kernel
theorem dX5_countDams_18 : decode cX5_countDams 18 = .ok (.iinc 2 1, 3) := by decide +kernel
theorem dX5_countDams_21 : decode cX5_countDams 21 = .ok (.iinc 3 1, 3) := by decide +kernel
theorem dX5_countDams_24 : decode cX5_countDams 24 = .ok (.goto (-20), 3) := by decide +kernel
theorem dX5_countDams_27 : decode cX5_countDams 27 = .ok (.iload_n 2, 1) := by decide +kernel
theorem dX5_countDams_28 : decode cX5_countDams 28 = .ok (.ireturn, 1) := by decide +kernel
theorem dX5_onlyBasinAround_0 : decode cX5_onlyBasinAround 0 = .ok (.bipush (-6), 2) := by decide +kernel
theorem dX5_onlyBasinAround_2 : decode cX5_onlyBasinAround 2 = .ok (.istore_n 3, 1) := by decide +kernel
theorem dX5_onlyBasinAround_3 : decode cX5_onlyBasinAround 3 = .ok (.iconst 0, 1) := by decide +kernel
theorem dX5_onlyBasinAround_4 : decode cX5_onlyBasinAround 4 = .ok (.istore 4, 2) := by decide +kernel
theorem dX5_onlyBasinAround_6 : decode cX5_onlyBasinAround 6 = .ok (.iload 4, 2) := by decide +kernel
theorem dX5_onlyBasinAround_8 : decode cX5_onlyBasinAround 8 = .ok (.iconst 4, 1) := by decide +kernel
theorem dX5_onlyBasinAround_9 : decode cX5_onlyBasinAround 9 = .ok (.if_icmp .ge 46, 3) := by decide +kernel
theorem dX5_onlyBasinAround_12 : decode cX5_onlyBasinAround 12 = .ok (.aload_n 0, 1) := by decide +kernel
theorem dX5_onlyBasinAround_13 : decode cX5_onlyBasinAround 13 = .ok (.iload_n 1, 1) := by decide +kernel
theorem dX5_onlyBasinAround_14 : decode cX5_onlyBasinAround 14 = .ok (.iload 4, 2) := by decide +kernel
theorem dX5_onlyBasinAround_16 : decode cX5_onlyBasinAround 16 = .ok (.aload_n 2, 1) := by decide +kernel
theorem dX5_onlyBasinAround_17 : decode cX5_onlyBasinAround 17 = .ok (.invokevirtual 57, 3) := by decide +kernel
theorem dX5_onlyBasinAround_20 : decode cX5_onlyBasinAround 20 = .ok (.istore 5, 2) := by decide +kernel
theorem dX5_onlyBasinAround_22 : decode cX5_onlyBasinAround 22 = .ok (.iload 5, 2) := by decide +kernel
theorem dX5_onlyBasinAround_24 : decode cX5_onlyBasinAround 24 = .ok (.bipush (-6), 2) := by decide +kernel
theorem dX5_onlyBasinAround_26 : decode cX5_onlyBasinAround 26 = .ok (.if_icmp .eq 23, 3) := by decide +kernel
theorem dX5_onlyBasinAround_29 : decode cX5_onlyBasinAround 29 = .ok (.iload 5, 2) := by decide +kernel
theorem dX5_onlyBasinAround_31 : decode cX5_onlyBasinAround 31 = .ok (.iload_n 3, 1) := by decide +kernel
theorem dX5_onlyBasinAround_32 : decode cX5_onlyBasinAround 32 = .ok (.if_icmp .ne 6, 3) := by decide +kernel
theorem dX5_onlyBasinAround_35 : decode cX5_onlyBasinAround 35 = .ok (.goto 14, 3) := by decide +kernel
theorem dX5_onlyBasinAround_38 : decode cX5_onlyBasinAround 38 = .ok (.iload_n 3, 1) := by decide +kernel
theorem dX5_onlyBasinAround_39 : decode cX5_onlyBasinAround 39 = .ok (.bipush (-6), 2) := by decide +kernel
theorem dX5_onlyBasinAround_41 : decode cX5_onlyBasinAround 41 = .ok (.if_icmp .eq 5, 3) := by decide +kernel
theorem dX5_onlyBasinAround_44 : decode cX5_onlyBasinAround 44 = .ok (.iconst 0, 1) := by decide +kernel
theorem dX5_onlyBasinAround_45 : decode cX5_onlyBasinAround 45 = .ok (.ireturn, 1) := by decide +kernel
theorem dX5_onlyBasinAround_46 : decode cX5_onlyBasinAround 46 = .ok (.iload 5, 2) := by decide +kernel
theorem dX5_onlyBasinAround_48 : decode cX5_onlyBasinAround 48 = .ok (.istore_n 3, 1) := by decide +kernel
theorem dX5_onlyBasinAround_49 : decode cX5_onlyBasinAround 49 = .ok (.iinc 4 1, 3) := by decide +kernel
theorem dX5_onlyBasinAround_52 : decode cX5_onlyBasinAround 52 = .ok (.goto (-46), 3) := by decide +kernel
theorem dX5_onlyBasinAround_55 : decode cX5_onlyBasinAround 55 = .ok (.iload_n 3, 1) := by decide +kernel
theorem dX5_onlyBasinAround_56 : decode cX5_onlyBasinAround 56 = .ok (.ireturn, 1) := by decide +kernel
theorem dX5_basinBeside_0 : decode cX5_basinBeside 0 = .ok (.aload_n 0, 1) := by decide +kernel
theorem dX5_basinBeside_1 : decode cX5_basinBeside 1 = .ok (.getfield 28, 3) := by decide +kernel
theorem dX5_basinBeside_4 : decode cX5_basinBeside 4 = .ok (.iload_n 1, 1) := by decide +kernel
theorem dX5_basinBeside_5 : decode cX5_basinBeside 5 = .ok (.iconst 4, 1) := by decide +kernel
theorem dX5_basinBeside_6 : decode cX5_basinBeside 6 = .ok (.imul, 1) := by decide +kernel
theorem dX5_basinBeside_7 : decode cX5_basinBeside 7 = .ok (.iload_n 2, 1) := by decide +kernel
theorem dX5_basinBeside_8 : decode cX5_basinBeside 8 = .ok (.iadd, 1) := by decide +kernel
theorem dX5_basinBeside_9 : decode cX5_basinBeside 9 = .ok (.iaload, 1) := by decide +kernel
theorem dX5_basinBeside_10 : decode cX5_basinBeside 10 = .ok (.istore 4, 2) := by decide +kernel
theorem dX5_basinBeside_12 : decode cX5_basinBeside 12 = .ok (.iload 4, 2) := by decide +kernel
theorem dX5_basinBeside_14 : decode cX5_basinBeside 14 = .ok (.iconst (-1), 1) := by decide +kernel
theorem dX5_basinBeside_15 : decode cX5_basinBeside 15 = .ok (.if_icmp .eq 17, 3) := by decide +kernel
theorem dX5_basinBeside_18 : decode cX5_basinBeside 18 = .ok (.aload_n 3, 1) := by decide +kernel
theorem dX5_basinBeside_19 : decode cX5_basinBeside 19 = .ok (.iload 4, 2) := by decide +kernel
theorem dX5_basinBeside_21 : decode cX5_basinBeside 21 = .ok (.iaload, 1) := by decide +kernel
theorem dX5_basinBeside_22 : decode cX5_basinBeside 22 = .ok (.ifCond .le 10, 3) := by decide +kernel
theorem dX5_basinBeside_25 : decode cX5_basinBeside 25 = .ok (.aload_n 3, 1) := by decide +kernel
theorem dX5_basinBeside_26 : decode cX5_basinBeside 26 = .ok (.iload 4, 2) := by decide +kernel
theorem dX5_basinBeside_28 : decode cX5_basinBeside 28 = .ok (.iaload, 1) := by decide +kernel
theorem dX5_basinBeside_29 : decode cX5_basinBeside 29 = .ok (.goto 5, 3) := by decide +kernel
theorem dX5_basinBeside_32 : decode cX5_basinBeside 32 = .ok (.bipush (-6), 2) := by decide +kernel
theorem dX5_basinBeside_34 : decode cX5_basinBeside 34 = .ok (.ireturn, 1) := by decide +kernel
theorem dX6_init_0 : decode cX6_init 0 = .ok (.aload_n 0, 1) := by decide +kernel
theorem dX6_init_1 : decode cX6_init 1 = .ok (.invokespecial 1, 3) := by decide +kernel
theorem dX6_init_4 : decode cX6_init 4 = .ok (.aload_n 0, 1) := by decide +kernel
theorem dX6_init_5 : decode cX6_init 5 = .ok (.new 7, 3) := by decide +kernel
theorem dX6_init_8 : decode cX6_init 8 = .ok (.dup, 1) := by decide +kernel
theorem dX6_init_9 : decode cX6_init 9 = .ok (.invokespecial 9, 3) := by decide +kernel
theorem dX6_init_12 : decode cX6_init 12 = .ok (.putfield 10, 3) := by decide +kernel
theorem dX6_init_15 : decode cX6_init 15 = .ok (.aload_n 0, 1) := by decide +kernel
theorem dX6_init_16 : decode cX6_init 16 = .ok (.new 16, 3) := by decide +kernel
theorem dX6_init_19 : decode cX6_init 19 = .ok (.dup, 1) := by decide +kernel
theorem dX6_init_20 : decode cX6_init 20 = .ok (.invokespecial 18, 3) := by decide +kernel
theorem dX6_init_23 : decode cX6_init 23 = .ok (.putfield 19, 3) := by decide +kernel
theorem dX6_init_26 : decode cX6_init 26 = .ok (.aload_n 0, 1) := by decide +kernel
theorem dX6_init_27 : decode cX6_init 27 = .ok (.new 23, 3) := by decide +kernel
theorem dX6_init_30 : decode cX6_init 30 = .ok (.dup, 1) := by decide +kernel
theorem dX6_init_31 : decode cX6_init 31 = .ok (.invokespecial 25, 3) := by decide +kernel
theorem dX6_init_34 : decode cX6_init 34 = .ok (.putfield 26, 3) := by decide +kernel
theorem dX6_init_37 : decode cX6_init 37 = .ok (.aload_n 0, 1) := by decide +kernel
theorem dX6_init_38 : decode cX6_init 38 = .ok (.new 30, 3) := by decide +kernel
theorem dX6_init_41 : decode cX6_init 41 = .ok (.dup, 1) := by decide +kernel
theorem dX6_init_42 : decode cX6_init 42 = .ok (.invokespecial 32, 3) := by decide +kernel
theorem dX6_init_45 : decode cX6_init 45 = .ok (.putfield 33, 3) := by decide +kernel
theorem dX6_init_48 : decode cX6_init 48 = .ok (.aload_n 0, 1) := by decide +kernel
theorem dX6_init_49 : decode cX6_init 49 = .ok (.new 30, 3) := by decide +kernel
theorem dX6_init_52 : decode cX6_init 52 = .ok (.dup, 1) := by decide +kernel
theorem dX6_init_53 : decode cX6_init 53 = .ok (.invokespecial 32, 3) := by decide +kernel
theorem dX6_init_56 : decode cX6_init 56 = .ok (.putfield 37, 3) := by decide +kernel
theorem dX6_init_59 : decode cX6_init 59 = .ok (.aload_n 0, 1) := by decide +kernel
theorem dX6_init_60 : decode cX6_init 60 = .ok (.iconst 2, 1) := by decide +kernel
theorem dX6_init_61 : decode cX6_init 61 = .ok (.anewarray 40, 3) := by decide +kernel
theorem dX6_init_64 : decode cX6_init 64 = .ok (.dup, 1) := by decide +kernel
theorem dX6_init_65 : decode cX6_init 65 = .ok (.iconst 0, 1) := by decide +kernel
theorem dX6_init_66 : decode cX6_init 66 = .ok (.new 40, 3) := by decide +kernel
theorem dX6_init_69 : decode cX6_init 69 = .ok (.dup, 1) := by decide +kernel
theorem dX6_init_70 : decode cX6_init 70 = .ok (.invokespecial 42, 3) := by decide +kernel
theorem dX6_init_73 : decode cX6_init 73 = .ok (.aastore, 1) := by decide +kernel
theorem dX6_init_74 : decode cX6_init 74 = .ok (.dup, 1) := by decide +kernel
theorem dX6_init_75 : decode cX6_init 75 = .ok (.iconst 1, 1) := by decide +kernel
theorem dX6_init_76 : decode cX6_init 76 = .ok (.new 40, 3) := by decide +kernel
theorem dX6_init_79 : decode cX6_init 79 = .ok (.dup, 1) := by decide +kernel
theorem dX6_init_80 : decode cX6_init 80 = .ok (.invokespecial 42, 3) := by decide +kernel
theorem dX6_init_83 : decode cX6_init 83 = .ok (.aastore, 1) := by decide +kernel
theorem dX6_init_84 : decode cX6_init 84 = .ok (.putfield 43, 3) := by decide +kernel
theorem dX6_init_87 : decode cX6_init 87 = .ok (.aload_n 0, 1) := by decide +kernel
theorem dX6_init_88 : decode cX6_init 88 = .ok (.iconst 0, 1) := by decide +kernel
theorem dX6_init_89 : decode cX6_init 89 = .ok (.putfield 47, 3) := by decide +kernel
theorem dX6_init_92 : decode cX6_init 92 = .ok (.aload_n 0, 1) := by decide +kernel
theorem dX6_init_93 : decode cX6_init 93 = .ok (.iconst 0, 1) := by decide +kernel
theorem dX6_init_94 : decode cX6_init 94 = .ok (.putfield 51, 3) := by decide +kernel
theorem dX6_init_97 : decode cX6_init 97 = .ok (.aload_n 0, 1) := by decide +kernel
theorem dX6_init_98 : decode cX6_init 98 = .ok (.iconst 0, 1) := by decide +kernel
theorem dX6_init_99 : decode cX6_init 99 = .ok (.putfield 54, 3) := by decide +kernel
theorem dX6_init_102 : decode cX6_init 102 = .ok (.aload_n 0, 1) := by decide +kernel
theorem dX6_init_103 : decode cX6_init 103 = .ok (.iconst 0, 1) := by decide +kernel
theorem dX6_init_104 : decode cX6_init 104 = .ok (.putfield 58, 3) := by decide +kernel
theorem dX6_init_107 : decode cX6_init 107 = .ok (.aload_n 0, 1) := by decide +kernel
theorem dX6_init_108 : decode cX6_init 108 = .ok (.iconst 0, 1) := by decide +kernel
theorem dX6_init_109 : decode cX6_init 109 = .ok (.putfield 61, 3) := by decide +kernel
theorem dX6_init_112 : decode cX6_init 112 = .ok (.aload_n 0, 1) := by decide +kernel
theorem dX6_init_113 : decode cX6_init 113 = .ok (.getfield 10, 3) := by decide +kernel
theorem dX6_init_116 : decode cX6_init 116 = .ok (.bipush 8, 2) := by decide +kernel
theorem dX6_init_118 : decode cX6_init 118 = .ok (.bipush 8, 2) := by decide +kernel
theorem dX6_init_120 : decode cX6_init 120 = .ok (.invokevirtual 64, 3) := by decide +kernel
theorem dX6_init_123 : decode cX6_init 123 = .ok (.return_, 1) := by decide +kernel
theorem dX6_land_0 : decode cX6_land 0 = .ok (.iload_n 1, 1) := by decide +kernel
theorem dX6_land_1 : decode cX6_land 1 = .ok (.iconst 1, 1) := by decide +kernel
theorem dX6_land_2 : decode cX6_land 2 = .ok (.bipush 12, 2) := by decide +kernel
theorem dX6_land_4 : decode cX6_land 4 = .ok (.invokestatic 68, 3) := by decide +kernel
theorem dX6_land_7 : decode cX6_land 7 = .ok (.ifCond .eq 13, 3) := by decide +kernel
theorem dX6_land_10 : decode cX6_land 10 = .ok (.iload_n 2, 1) := by decide +kernel
theorem dX6_land_11 : decode cX6_land 11 = .ok (.iconst 1, 1) := by decide +kernel
theorem dX6_land_12 : decode cX6_land 12 = .ok (.bipush 12, 2) := by decide +kernel
theorem dX6_land_14 : decode cX6_land 14 = .ok (.invokestatic 68, 3) := by decide +kernel
theorem dX6_land_17 : decode cX6_land 17 = .ok (.ifCond .ne 6, 3) := by decide +kernel
theorem dX6_land_20 : decode cX6_land 20 = .ok (.bipush (-2), 2) := by decide +kernel
theorem dX6_land_22 : decode cX6_land 22 = .ok (.ireturn, 1) := by decide +kernel
theorem dX6_land_23 : decode cX6_land 23 = .ok (.aload_n 0, 1) := by decide +kernel
theorem dX6_land_24 : decode cX6_land 24 = .ok (.getfield 10, 3) := by decide +kernel
theorem dX6_land_27 : decode cX6_land 27 = .ok (.iload_n 1, 1) := by decide +kernel
theorem dX6_land_28 : decode cX6_land 28 = .ok (.iload_n 2, 1) := by decide +kernel
theorem dX6_land_29 : decode cX6_land 29 = .ok (.invokevirtual 64, 3) := by decide +kernel
theorem dX6_land_32 : decode cX6_land 32 = .ok (.aload_n 0, 1) := by decide +kernel
theorem dX6_land_33 : decode cX6_land 33 = .ok (.getfield 10, 3) := by decide +kernel
theorem dX6_land_36 : decode cX6_land 36 = .ok (.invokevirtual 72, 3) := by decide +kernel
theorem dX6_land_39 : decode cX6_land 39 = .ok (.aload_n 0, 1) := by decide +kernel
theorem dX6_land_40 : decode cX6_land 40 = .ok (.invokevirtual 75, 3) := by decide +kernel
theorem dX6_land_43 : decode cX6_land 43 = .ok (.ireturn, 1) := by decide +kernel
theorem dX6_wave_0 : decode cX6_wave 0 = .ok (.iload_n 1, 1) := by decide +kernel
theorem dX6_wave_1 : decode cX6_wave 1 = .ok (.iconst 0, 1) := by decide +kernel
theorem dX6_wave_2 : decode cX6_wave 2 = .ok (.bipush 50, 2) := by decide +kernel
theorem dX6_wave_4 : decode cX6_wave 4 = .ok (.invokestatic 68, 3) := by decide +kernel
theorem dX6_wave_7 : decode cX6_wave 7 = .ok (.ifCond .eq 27, 3) := by decide +kernel
theorem dX6_wave_10 : decode cX6_wave 10 = .ok (.iload_n 2, 1) := by decide +kernel
theorem dX6_wave_11 : decode cX6_wave 11 = .ok (.iconst 0, 1) := by decide +kernel
theorem dX6_wave_12 : decode cX6_wave 12 = .ok (.bipush 50, 2) := by decide +kernel
theorem dX6_wave_14 : decode cX6_wave 14 = .ok (.invokestatic 68, 3) := by decide +kernel
theorem dX6_wave_17 : decode cX6_wave 17 = .ok (.ifCond .eq 17, 3) := by decide +kernel
theorem dX6_wave_20 : decode cX6_wave 20 = .ok (.iload_n 3, 1) := by decide +kernel
theorem dX6_wave_21 : decode cX6_wave 21 = .ok (.iconst 0, 1) := by decide +kernel
theorem dX6_wave_22 : decode cX6_wave 22 = .ok (.bipush 50, 2) := by decide +kernel
theorem dX6_wave_24 : decode cX6_wave 24 = .ok (.invokestatic 68, 3) := by decide +kernel
theorem dX6_wave_27 : decode cX6_wave 27 = .ok (.ifCond .eq 7, 3) := by decide +kernel
theorem dX6_wave_30 : decode cX6_wave 30 = .ok (.iconst 1, 1) := by decide +kernel
theorem dX6_wave_31 : decode cX6_wave 31 = .ok (.goto 4, 3) := by decide +kernel
theorem dX6_wave_34 : decode cX6_wave 34 = .ok (.iconst 0, 1) := by decide +kernel
theorem dX6_wave_35 : decode cX6_wave 35 = .ok (.istore 5, 2) := by decide +kernel
theorem dX6_wave_37 : decode cX6_wave 37 = .ok (.iload 5, 2) := by decide +kernel
theorem dX6_wave_39 : decode cX6_wave 39 = .ok (.ifCond .eq 14, 3) := by decide +kernel
theorem dX6_wave_42 : decode cX6_wave 42 = .ok (.iload 4, 2) := by decide +kernel
theorem dX6_wave_44 : decode cX6_wave 44 = .ok (.iconst 1, 1) := by decide +kernel
theorem dX6_wave_45 : decode cX6_wave 45 = .ok (.bipush 100, 2) := by decide +kernel
theorem dX6_wave_47 : decode cX6_wave 47 = .ok (.invokestatic 68, 3) := by decide +kernel
theorem dX6_wave_50 : decode cX6_wave 50 = .ok (.ifCond .ne 6, 3) := by decide +kernel
theorem dX6_wave_53 : decode cX6_wave 53 = .ok (.bipush (-2), 2) := by decide +kernel
theorem dX6_wave_55 : decode cX6_wave 55 = .ok (.ireturn, 1) := by decide +kernel
theorem dX6_wave_56 : decode cX6_wave 56 = .ok (.aload_n 0, 1) := by decide +kernel
theorem dX6_wave_57 : decode cX6_wave 57 = .ok (.getfield 10, 3) := by decide +kernel
theorem dX6_wave_60 : decode cX6_wave 60 = .ok (.iload_n 1, 1) := by decide +kernel
theorem dX6_wave_61 : decode cX6_wave 61 = .ok (.iload_n 2, 1) := by decide +kernel
theorem dX6_wave_62 : decode cX6_wave 62 = .ok (.iload_n 3, 1) := by decide +kernel
theorem dX6_wave_63 : decode cX6_wave 63 = .ok (.iload 4, 2) := by decide +kernel
theorem dX6_wave_65 : decode cX6_wave 65 = .ok (.invokevirtual 79, 3) := by decide +kernel
theorem dX6_wave_68 : decode cX6_wave 68 = .ok (.aload_n 0, 1) := by decide +kernel
theorem dX6_wave_69 : decode cX6_wave 69 = .ok (.invokevirtual 75, 3) := by decide +kernel
theorem dX6_wave_72 : decode cX6_wave 72 = .ok (.ireturn, 1) := by decide +kernel
theorem dX6_heap_0 : decode cX6_heap 0 = .ok (.iload_n 3, 1) := by decide +kernel
theorem dX6_heap_1 : decode cX6_heap 1 = .ok (.bipush (-99), 2) := by decide +kernel
theorem dX6_heap_3 : decode cX6_heap 3 = .ok (.bipush 99, 2) := by decide +kernel
theorem dX6_heap_5 : decode cX6_heap 5 = .ok (.invokestatic 68, 3) := by decide +kernel
theorem dX6_heap_8 : decode cX6_heap 8 = .ok (.ifCond .eq 18, 3) := by decide +kernel
theorem dX6_heap_11 : decode cX6_heap 11 = .ok (.iload 4, 2) := by decide +kernel
theorem dX6_heap_13 : decode cX6_heap 13 = .ok (.iconst 0, 1) := by decide +kernel
theorem dX6_heap_14 : decode cX6_heap 14 = .ok (.bipush 50, 2) := by decide +kernel
theorem dX6_heap_16 : decode cX6_heap 16 = .ok (.invokestatic 68, 3) := by decide +kernel
theorem dX6_heap_19 : decode cX6_heap 19 = .ok (.ifCond .eq 7, 3) := by decide +kernel
theorem dX6_heap_22 : decode cX6_heap 22 = .ok (.iconst 1, 1) := by decide +kernel
theorem dX6_heap_23 : decode cX6_heap 23 = .ok (.goto 4, 3) := by decide +kernel
theorem dX6_heap_26 : decode cX6_heap 26 = .ok (.iconst 0, 1) := by decide +kernel
theorem dX6_heap_27 : decode cX6_heap 27 = .ok (.istore 5, 2) := by decide +kernel
theorem dX6_heap_29 : decode cX6_heap 29 = .ok (.aload_n 0, 1) := by decide +kernel
theorem dX6_heap_30 : decode cX6_heap 30 = .ok (.getfield 10, 3) := by decide +kernel
theorem dX6_heap_33 : decode cX6_heap 33 = .ok (.iload_n 1, 1) := by decide +kernel
theorem dX6_heap_34 : decode cX6_heap 34 = .ok (.iload_n 2, 1) := by decide +kernel
theorem dX6_heap_35 : decode cX6_heap 35 = .ok (.invokevirtual 83, 3) := by decide +kernel
theorem dX6_heap_38 : decode cX6_heap 38 = .ok (.iconst (-1), 1) := by decide +kernel
theorem dX6_heap_39 : decode cX6_heap 39 = .ok (.if_icmp .eq 8, 3) := by decide +kernel
theorem dX6_heap_42 : decode cX6_heap 42 = .ok (.iload 5, 2) := by decide +kernel
theorem dX6_heap_44 : decode cX6_heap 44 = .ok (.ifCond .ne 6, 3) := by decide +kernel
theorem dX6_heap_47 : decode cX6_heap 47 = .ok (.bipush (-2), 2) := by decide +kernel
theorem dX6_heap_49 : decode cX6_heap 49 = .ok (.ireturn, 1) := by decide +kernel
theorem dX6_heap_50 : decode cX6_heap 50 = .ok (.aload_n 0, 1) := by decide +kernel
theorem dX6_heap_51 : decode cX6_heap 51 = .ok (.getfield 10, 3) := by decide +kernel
theorem dX6_heap_54 : decode cX6_heap 54 = .ok (.iload_n 1, 1) := by decide +kernel
theorem dX6_heap_55 : decode cX6_heap 55 = .ok (.iload_n 2, 1) := by decide +kernel
theorem dX6_heap_56 : decode cX6_heap 56 = .ok (.iload_n 3, 1) := by decide +kernel
theorem dX6_heap_57 : decode cX6_heap 57 = .ok (.iload 4, 2) := by decide +kernel
theorem dX6_heap_59 : decode cX6_heap 59 = .ok (.invokevirtual 87, 3) := by decide +kernel
theorem dX6_heap_62 : decode cX6_heap 62 = .ok (.aload_n 0, 1) := by decide +kernel
theorem dX6_heap_63 : decode cX6_heap 63 = .ok (.invokevirtual 75, 3) := by decide +kernel
theorem dX6_heap_66 : decode cX6_heap 66 = .ok (.ireturn, 1) := by decide +kernel
theorem dX6_put_0 : decode cX6_put 0 = .ok (.aload_n 0, 1) := by decide +kernel
theorem dX6_put_1 : decode cX6_put 1 = .ok (.getfield 10, 3) := by decide +kernel
theorem dX6_put_4 : decode cX6_put 4 = .ok (.iload_n 1, 1) := by decide +kernel
theorem dX6_put_5 : decode cX6_put 5 = .ok (.iload_n 2, 1) := by decide +kernel
theorem dX6_put_6 : decode cX6_put 6 = .ok (.invokevirtual 83, 3) := by decide +kernel
theorem dX6_put_9 : decode cX6_put 9 = .ok (.istore 4, 2) := by decide +kernel
theorem dX6_put_11 : decode cX6_put 11 = .ok (.iload 4, 2) := by decide +kernel
theorem dX6_put_13 : decode cX6_put 13 = .ok (.iconst (-1), 1) := by decide +kernel
theorem dX6_put_14 : decode cX6_put 14 = .ok (.if_icmp .eq 13, 3) := by decide +kernel
theorem dX6_put_17 : decode cX6_put 17 = .ok (.iload_n 3, 1) := by decide +kernel
theorem dX6_put_18 : decode cX6_put 18 = .ok (.iconst 0, 1) := by decide +kernel
theorem dX6_put_19 : decode cX6_put 19 = .ok (.bipush 99, 2) := by decide +kernel
theorem dX6_put_21 : decode cX6_put 21 = .ok (.invokestatic 68, 3) := by decide +kernel
theorem dX6_put_24 : decode cX6_put 24 = .ok (.ifCond .ne 6, 3) := by decide +kernel
theorem dX6_put_27 : decode cX6_put 27 = .ok (.bipush (-2), 2) := by decide +kernel
theorem dX6_put_29 : decode cX6_put 29 = .ok (.ireturn, 1) := by decide +kernel
theorem dX6_put_30 : decode cX6_put 30 = .ok (.aload_n 0, 1) := by decide +kernel
theorem dX6_put_31 : decode cX6_put 31 = .ok (.getfield 10, 3) := by decide +kernel
theorem dX6_put_34 : decode cX6_put 34 = .ok (.getfield 90, 3) := by decide +kernel
theorem dX6_put_37 : decode cX6_put 37 = .ok (.iload 4, 2) := by decide +kernel
theorem dX6_put_39 : decode cX6_put 39 = .ok (.iload_n 3, 1) := by decide +kernel
theorem dX6_put_40 : decode cX6_put 40 = .ok (.iastore, 1) := by decide +kernel
theorem dX6_put_41 : decode cX6_put 41 = .ok (.aload_n 0, 1) := by decide +kernel
theorem dX6_put_42 : decode cX6_put 42 = .ok (.invokevirtual 75, 3) := by decide +kernel
theorem dX6_put_45 : decode cX6_put 45 = .ok (.ireturn, 1) := by decide +kernel
theorem dX6_mark_0 : decode cX6_mark 0 = .ok (.aload_n 0, 1) := by decide +kernel
theorem dX6_mark_1 : decode cX6_mark 1 = .ok (.getfield 10, 3) := by decide +kernel
theorem dX6_mark_4 : decode cX6_mark 4 = .ok (.iload_n 1, 1) := by decide +kernel
theorem dX6_mark_5 : decode cX6_mark 5 = .ok (.iload_n 2, 1) := by decide +kernel
theorem dX6_mark_6 : decode cX6_mark 6 = .ok (.invokevirtual 83, 3) := by decide +kernel
theorem dX6_mark_9 : decode cX6_mark 9 = .ok (.istore 4, 2) := by decide +kernel
theorem dX6_mark_11 : decode cX6_mark 11 = .ok (.iload 4, 2) := by decide +kernel
theorem dX6_mark_13 : decode cX6_mark 13 = .ok (.iconst (-1), 1) := by decide +kernel
theorem dX6_mark_14 : decode cX6_mark 14 = .ok (.if_icmp .eq 13, 3) := by decide +kernel
theorem dX6_mark_17 : decode cX6_mark 17 = .ok (.iload_n 3, 1) := by decide +kernel
theorem dX6_mark_18 : decode cX6_mark 18 = .ok (.iconst 0, 1) := by decide +kernel
theorem dX6_mark_19 : decode cX6_mark 19 = .ok (.bipush 99, 2) := by decide +kernel
theorem dX6_mark_21 : decode cX6_mark 21 = .ok (.invokestatic 68, 3) := by decide +kernel
theorem dX6_mark_24 : decode cX6_mark 24 = .ok (.ifCond .ne 6, 3) := by decide +kernel
theorem dX6_mark_27 : decode cX6_mark 27 = .ok (.bipush (-2), 2) := by decide +kernel
theorem dX6_mark_29 : decode cX6_mark 29 = .ok (.ireturn, 1) := by decide +kernel
theorem dX6_mark_30 : decode cX6_mark 30 = .ok (.aload_n 0, 1) := by decide +kernel
theorem dX6_mark_31 : decode cX6_mark 31 = .ok (.getfield 10, 3) := by decide +kernel
theorem dX6_mark_34 : decode cX6_mark 34 = .ok (.getfield 94, 3) := by decide +kernel
theorem dX6_mark_37 : decode cX6_mark 37 = .ok (.iload 4, 2) := by decide +kernel
theorem dX6_mark_39 : decode cX6_mark 39 = .ok (.iaload, 1) := by decide +kernel
theorem dX6_mark_40 : decode cX6_mark 40 = .ok (.istore 5, 2) := by decide +kernel
theorem dX6_mark_42 : decode cX6_mark 42 = .ok (.aload_n 0, 1) := by decide +kernel
theorem dX6_mark_43 : decode cX6_mark 43 = .ok (.getfield 10, 3) := by decide +kernel
theorem dX6_mark_46 : decode cX6_mark 46 = .ok (.getfield 94, 3) := by decide +kernel
theorem dX6_mark_49 : decode cX6_mark 49 = .ok (.iload 4, 2) := by decide +kernel
theorem dX6_mark_51 : decode cX6_mark 51 = .ok (.iload_n 3, 1) := by decide +kernel
theorem dX6_mark_52 : decode cX6_mark 52 = .ok (.iastore, 1) := by decide +kernel
theorem dX6_mark_53 : decode cX6_mark 53 = .ok (.aload_n 0, 1) := by decide +kernel
theorem dX6_mark_54 : decode cX6_mark 54 = .ok (.invokevirtual 97, 3) := by decide +kernel
theorem dX6_mark_57 : decode cX6_mark 57 = .ok (.iload 5, 2) := by decide +kernel
theorem dX6_mark_59 : decode cX6_mark 59 = .ok (.ireturn, 1) := by decide +kernel
theorem dX6_pits_0 : decode cX6_pits 0 = .ok (.aload_n 0, 1) := by decide +kernel
theorem dX6_pits_1 : decode cX6_pits 1 = .ok (.getfield 10, 3) := by decide +kernel
theorem dX6_pits_4 : decode cX6_pits 4 = .ok (.getfield 94, 3) := by decide +kernel
theorem dX6_pits_7 : decode cX6_pits 7 = .ok (.iconst 0, 1) := by decide +kernel
theorem dX6_pits_8 : decode cX6_pits 8 = .ok (.invokestatic 100, 3) := by decide +kernel
theorem dX6_pits_11 : decode cX6_pits 11 = .ok (.aload_n 0, 1) := by decide +kernel
theorem dX6_pits_12 : decode cX6_pits 12 = .ok (.invokevirtual 97, 3) := by decide +kernel
theorem dX6_pits_15 : decode cX6_pits 15 = .ok (.aload_n 0, 1) := by decide +kernel
theorem dX6_pits_16 : decode cX6_pits 16 = .ok (.iconst 1, 1) := by decide +kernel
theorem dX6_pits_17 : decode cX6_pits 17 = .ok (.invokevirtual 106, 3) := by decide +kernel
theorem dX6_pits_20 : decode cX6_pits 20 = .ok (.ireturn, 1) := by decide +kernel
theorem dX6_dot_0 : decode cX6_dot 0 = .ok (.aload_n 0, 1) := by decide +kernel
theorem dX6_dot_1 : decode cX6_dot 1 = .ok (.getfield 10, 3) := by decide +kernel
theorem dX6_dot_4 : decode cX6_dot 4 = .ok (.iload_n 1, 1) := by decide +kernel
theorem dX6_dot_5 : decode cX6_dot 5 = .ok (.iload_n 2, 1) := by decide +kernel
theorem dX6_dot_6 : decode cX6_dot 6 = .ok (.invokevirtual 83, 3) := by decide +kernel
theorem dX6_dot_9 : decode cX6_dot 9 = .ok (.istore 4, 2) := by decide +kernel
theorem dX6_dot_11 : decode cX6_dot 11 = .ok (.iload 4, 2) := by decide +kernel
theorem dX6_dot_13 : decode cX6_dot 13 = .ok (.iconst (-1), 1) := by decide +kernel
theorem dX6_dot_14 : decode cX6_dot 14 = .ok (.if_icmp .ne 6, 3) := by decide +kernel
theorem dX6_dot_17 : decode cX6_dot 17 = .ok (.bipush (-2), 2) := by decide +kernel
theorem dX6_dot_19 : decode cX6_dot 19 = .ok (.ireturn, 1) := by decide +kernel
theorem dX6_dot_20 : decode cX6_dot 20 = .ok (.iload_n 3, 1) := by decide +kernel
theorem dX6_dot_21 : decode cX6_dot 21 = .ok (.tableswitch 105 0 5 #[39, 50, 61, 72, 83, 94], 39) := by decide +kernel
theorem dX6_dot_60 : decode cX6_dot 60 = .ok (.aload_n 0, 1) := by decide +kernel
theorem dX6_dot_61 : decode cX6_dot 61 = .ok (.getfield 10, 3) := by decide +kernel
theorem dX6_dot_64 : decode cX6_dot 64 = .ok (.getfield 90, 3) := by decide +kernel
theorem dX6_dot_67 : decode cX6_dot 67 = .ok (.iload 4, 2) := by decide +kernel
theorem dX6_dot_69 : decode cX6_dot 69 = .ok (.iaload, 1) := by decide +kernel
theorem dX6_dot_70 : decode cX6_dot 70 = .ok (.ireturn, 1) := by decide +kernel
theorem dX6_dot_71 : decode cX6_dot 71 = .ok (.aload_n 0, 1) := by decide +kernel
theorem dX6_dot_72 : decode cX6_dot 72 = .ok (.getfield 10, 3) := by decide +kernel
theorem dX6_dot_75 : decode cX6_dot 75 = .ok (.getfield 94, 3) := by decide +kernel
theorem dX6_dot_78 : decode cX6_dot 78 = .ok (.iload 4, 2) := by decide +kernel
theorem dX6_dot_80 : decode cX6_dot 80 = .ok (.iaload, 1) := by decide +kernel
theorem dX6_dot_81 : decode cX6_dot 81 = .ok (.ireturn, 1) := by decide +kernel
theorem dX6_dot_82 : decode cX6_dot 82 = .ok (.aload_n 0, 1) := by decide +kernel
theorem dX6_dot_83 : decode cX6_dot 83 = .ok (.invokevirtual 110, 3) := by decide +kernel
theorem dX6_dot_86 : decode cX6_dot 86 = .ok (.getfield 114, 3) := by decide +kernel
theorem dX6_dot_89 : decode cX6_dot 89 = .ok (.iload 4, 2) := by decide +kernel
theorem dX6_dot_91 : decode cX6_dot 91 = .ok (.iaload, 1) := by decide +kernel
theorem dX6_dot_92 : decode cX6_dot 92 = .ok (.ireturn, 1) := by decide +kernel
theorem dX6_dot_93 : decode cX6_dot 93 = .ok (.aload_n 0, 1) := by decide +kernel
theorem dX6_dot_94 : decode cX6_dot 94 = .ok (.invokevirtual 110, 3) := by decide +kernel
theorem dX6_dot_97 : decode cX6_dot 97 = .ok (.getfield 117, 3) := by decide +kernel
theorem dX6_dot_100 : decode cX6_dot 100 = .ok (.iload 4, 2) := by decide +kernel
theorem dX6_dot_102 : decode cX6_dot 102 = .ok (.iaload, 1) := by decide +kernel
theorem dX6_dot_103 : decode cX6_dot 103 = .ok (.ireturn, 1) := by decide +kernel
theorem dX6_dot_104 : decode cX6_dot 104 = .ok (.aload_n 0, 1) := by decide +kernel
theorem dX6_dot_105 : decode cX6_dot 105 = .ok (.invokevirtual 110, 3) := by decide +kernel
theorem dX6_dot_108 : decode cX6_dot 108 = .ok (.getfield 120, 3) := by decide +kernel
theorem dX6_dot_111 : decode cX6_dot 111 = .ok (.iload 4, 2) := by decide +kernel
theorem dX6_dot_113 : decode cX6_dot 113 = .ok (.iaload, 1) := by decide +kernel
theorem dX6_dot_114 : decode cX6_dot 114 = .ok (.ireturn, 1) := by decide +kernel
theorem dX6_dot_115 : decode cX6_dot 115 = .ok (.aload_n 0, 1) := by decide +kernel
theorem dX6_dot_116 : decode cX6_dot 116 = .ok (.invokevirtual 123, 3) := by decide +kernel
theorem dX6_dot_119 : decode cX6_dot 119 = .ok (.getfield 127, 3) := by decide +kernel
theorem dX6_dot_122 : decode cX6_dot 122 = .ok (.iload 4, 2) := by decide +kernel
theorem dX6_dot_124 : decode cX6_dot 124 = .ok (.iaload, 1) := by decide +kernel
theorem dX6_dot_125 : decode cX6_dot 125 = .ok (.ireturn, 1) := by decide +kernel
theorem dX6_dot_126 : decode cX6_dot 126 = .ok (.bipush (-2), 2) := by decide +kernel
theorem dX6_dot_128 : decode cX6_dot 128 = .ok (.ireturn, 1) := by decide +kernel
theorem dX6_bound_0 : decode cX6_bound 0 = .ok (.iload_n 1, 1) := by decide +kernel
theorem dX6_bound_1 : decode cX6_bound 1 = .ok (.iconst 0, 1) := by decide +kernel
theorem dX6_bound_2 : decode cX6_bound 2 = .ok (.iconst 2, 1) := by decide +kernel
theorem dX6_bound_3 : decode cX6_bound 3 = .ok (.invokestatic 68, 3) := by decide +kernel
theorem dX6_bound_6 : decode cX6_bound 6 = .ok (.ifCond .eq 14, 3) := by decide +kernel
theorem dX6_bound_9 : decode cX6_bound 9 = .ok (.iload_n 2, 1) := by decide +kernel
theorem dX6_bound_10 : decode cX6_bound 10 = .ok (.iconst 0, 1) := by decide +kernel
theorem dX6_bound_11 : decode cX6_bound 11 = .ok (.sipush 2000, 3) := by decide +kernel
theorem dX6_bound_14 : decode cX6_bound 14 = .ok (.invokestatic 68, 3) := by decide +kernel
theorem dX6_bound_17 : decode cX6_bound 17 = .ok (.ifCond .ne 6, 3) := by decide +kernel
theorem dX6_bound_20 : decode cX6_bound 20 = .ok (.bipush (-2), 2) := by decide +kernel
theorem dX6_bound_22 : decode cX6_bound 22 = .ok (.ireturn, 1) := by decide +kernel
theorem dX6_bound_23 : decode cX6_bound 23 = .ok (.aload_n 0, 1) := by decide +kernel
theorem dX6_bound_24 : decode cX6_bound 24 = .ok (.iload_n 1, 1) := by decide +kernel
theorem dX6_bound_25 : decode cX6_bound 25 = .ok (.putfield 47, 3) := by decide +kernel
theorem dX6_bound_28 : decode cX6_bound 28 = .ok (.aload_n 0, 1) := by decide +kernel
theorem dX6_bound_29 : decode cX6_bound 29 = .ok (.iload_n 2, 1) := by decide +kernel
theorem dX6_bound_30 : decode cX6_bound 30 = .ok (.putfield 51, 3) := by decide +kernel
theorem dX6_bound_33 : decode cX6_bound 33 = .ok (.aload_n 0, 1) := by decide +kernel
theorem dX6_bound_34 : decode cX6_bound 34 = .ok (.iconst 0, 1) := by decide +kernel
theorem dX6_bound_35 : decode cX6_bound 35 = .ok (.putfield 58, 3) := by decide +kernel
theorem dX6_bound_38 : decode cX6_bound 38 = .ok (.aload_n 0, 1) := by decide +kernel
theorem dX6_bound_39 : decode cX6_bound 39 = .ok (.invokevirtual 123, 3) := by decide +kernel
theorem dX6_bound_42 : decode cX6_bound 42 = .ok (.getfield 128, 3) := by decide +kernel
theorem dX6_bound_45 : decode cX6_bound 45 = .ok (.ireturn, 1) := by decide +kernel
theorem dX6_basin_0 : decode cX6_basin 0 = .ok (.aload_n 0, 1) := by decide +kernel
theorem dX6_basin_1 : decode cX6_basin 1 = .ok (.invokevirtual 123, 3) := by decide +kernel
theorem dX6_basin_4 : decode cX6_basin 4 = .ok (.astore_n 3, 1) := by decide +kernel
theorem dX6_basin_5 : decode cX6_basin 5 = .ok (.aload_n 3, 1) := by decide +kernel
theorem dX6_basin_6 : decode cX6_basin 6 = .ok (.iload_n 1, 1) := by decide +kernel
theorem dX6_basin_7 : decode cX6_basin 7 = .ok (.invokevirtual 131, 3) := by decide +kernel
theorem dX6_basin_10 : decode cX6_basin 10 = .ok (.ifCond .ne 5, 3) := by decide +kernel
theorem dX6_basin_13 : decode cX6_basin 13 = .ok (.iconst (-1), 1) := by decide +kernel
theorem dX6_basin_14 : decode cX6_basin 14 = .ok (.ireturn, 1) := by decide +kernel
theorem dX6_basin_15 : decode cX6_basin 15 = .ok (.iload_n 2, 1) := by decide +kernel
theorem dX6_basin_16 : decode cX6_basin 16 = .ok (.tableswitch 71 0 5 #[40, 40, 40, 47, 54, 64], 40) := by decide +kernel
theorem dX6_basin_56 : decode cX6_basin 56 = .ok (.aload_n 3, 1) := by decide +kernel
theorem dX6_basin_57 : decode cX6_basin 57 = .ok (.iload_n 1, 1) := by decide +kernel
theorem dX6_basin_58 : decode cX6_basin 58 = .ok (.iload_n 2, 1) := by decide +kernel
theorem dX6_basin_59 : decode cX6_basin 59 = .ok (.invokevirtual 135, 3) := by decide +kernel
theorem dX6_basin_62 : decode cX6_basin 62 = .ok (.ireturn, 1) := by decide +kernel
theorem dX6_basin_63 : decode cX6_basin 63 = .ok (.aload_n 3, 1) := by decide +kernel
theorem dX6_basin_64 : decode cX6_basin 64 = .ok (.getfield 138, 3) := by decide +kernel
theorem dX6_basin_67 : decode cX6_basin 67 = .ok (.iload_n 1, 1) := by decide +kernel
theorem dX6_basin_68 : decode cX6_basin 68 = .ok (.iaload, 1) := by decide +kernel
theorem dX6_basin_69 : decode cX6_basin 69 = .ok (.ireturn, 1) := by decide +kernel
theorem dX6_basin_70 : decode cX6_basin 70 = .ok (.aload_n 3, 1) := by decide +kernel
theorem dX6_basin_71 : decode cX6_basin 71 = .ok (.getfield 141, 3) := by decide +kernel
theorem dX6_basin_74 : decode cX6_basin 74 = .ok (.iload_n 1, 1) := by decide +kernel
theorem dX6_basin_75 : decode cX6_basin 75 = .ok (.iaload, 1) := by decide +kernel
theorem dX6_basin_76 : decode cX6_basin 76 = .ok (.invokestatic 144, 3) := by decide +kernel
theorem dX6_basin_79 : decode cX6_basin 79 = .ok (.ireturn, 1) := by decide +kernel
theorem dX6_basin_80 : decode cX6_basin 80 = .ok (.aload_n 3, 1) := by decide +kernel
theorem dX6_basin_81 : decode cX6_basin 81 = .ok (.getfield 148, 3) := by decide +kernel
theorem dX6_basin_84 : decode cX6_basin 84 = .ok (.iload_n 1, 1) := by decide +kernel
theorem dX6_basin_85 : decode cX6_basin 85 = .ok (.iaload, 1) := by decide +kernel
theorem dX6_basin_86 : decode cX6_basin 86 = .ok (.ireturn, 1) := by decide +kernel
theorem dX6_basin_87 : decode cX6_basin 87 = .ok (.bipush (-2), 2) := by decide +kernel
theorem dX6_basin_89 : decode cX6_basin 89 = .ok (.ireturn, 1) := by decide +kernel
theorem dX6_pass_0 : decode cX6_pass 0 = .ok (.aload_n 0, 1) := by decide +kernel
theorem dX6_pass_1 : decode cX6_pass 1 = .ok (.invokevirtual 123, 3) := by decide +kernel
theorem dX6_pass_4 : decode cX6_pass 4 = .ok (.astore_n 3, 1) := by decide +kernel
theorem dX6_pass_5 : decode cX6_pass 5 = .ok (.aload_n 3, 1) := by decide +kernel
theorem dX6_pass_6 : decode cX6_pass 6 = .ok (.iload_n 1, 1) := by decide +kernel
theorem dX6_pass_7 : decode cX6_pass 7 = .ok (.invokevirtual 131, 3) := by decide +kernel
theorem dX6_pass_10 : decode cX6_pass 10 = .ok (.ifCond .eq 11, 3) := by decide +kernel
theorem dX6_pass_13 : decode cX6_pass 13 = .ok (.aload_n 3, 1) := by decide +kernel
theorem dX6_pass_14 : decode cX6_pass 14 = .ok (.iload_n 2, 1) := by decide +kernel
theorem dX6_pass_15 : decode cX6_pass 15 = .ok (.invokevirtual 131, 3) := by decide +kernel
theorem dX6_pass_18 : decode cX6_pass 18 = .ok (.ifCond .ne 5, 3) := by decide +kernel
theorem dX6_pass_21 : decode cX6_pass 21 = .ok (.iconst (-1), 1) := by decide +kernel
theorem dX6_pass_22 : decode cX6_pass 22 = .ok (.ireturn, 1) := by decide +kernel
theorem dX6_pass_23 : decode cX6_pass 23 = .ok (.iload_n 1, 1) := by decide +kernel
theorem dX6_pass_24 : decode cX6_pass 24 = .ok (.iload_n 2, 1) := by decide +kernel
theorem dX6_pass_25 : decode cX6_pass 25 = .ok (.if_icmp .ne 6, 3) := by decide +kernel
theorem dX6_pass_28 : decode cX6_pass 28 = .ok (.bipush (-2), 2) := by decide +kernel
theorem dX6_pass_30 : decode cX6_pass 30 = .ok (.ireturn, 1) := by decide +kernel
theorem dX6_pass_31 : decode cX6_pass 31 = .ok (.aload_n 3, 1) := by decide +kernel
theorem dX6_pass_32 : decode cX6_pass 32 = .ok (.aload_n 0, 1) := by decide +kernel
theorem dX6_pass_33 : decode cX6_pass 33 = .ok (.getfield 10, 3) := by decide +kernel
theorem dX6_pass_36 : decode cX6_pass 36 = .ok (.iload_n 1, 1) := by decide +kernel
theorem dX6_pass_37 : decode cX6_pass 37 = .ok (.iload_n 2, 1) := by decide +kernel
theorem dX6_pass_38 : decode cX6_pass 38 = .ok (.invokevirtual 151, 3) := by decide +kernel
theorem dX6_pass_41 : decode cX6_pass 41 = .ok (.invokestatic 144, 3) := by decide +kernel
theorem dX6_pass_44 : decode cX6_pass 44 = .ok (.ireturn, 1) := by decide +kernel
theorem dX6_poured_0 : decode cX6_poured 0 = .ok (.aload_n 0, 1) := by decide +kernel
theorem dX6_poured_1 : decode cX6_poured 1 = .ok (.invokevirtual 123, 3) := by decide +kernel
theorem dX6_poured_4 : decode cX6_poured 4 = .ok (.iload_n 1, 1) := by decide +kernel
theorem dX6_poured_5 : decode cX6_poured 5 = .ok (.iload_n 2, 1) := by decide +kernel
theorem dX6_poured_6 : decode cX6_poured 6 = .ok (.invokevirtual 155, 3) := by decide +kernel
theorem dX6_poured_9 : decode cX6_poured 9 = .ok (.ireturn, 1) := by decide +kernel
theorem dX6_tree_0 : decode cX6_tree 0 = .ok (.aload_n 0, 1) := by decide +kernel
theorem dX6_tree_1 : decode cX6_tree 1 = .ok (.invokevirtual 158, 3) := by decide +kernel
theorem dX6_tree_4 : decode cX6_tree 4 = .ok (.iload_n 1, 1) := by decide +kernel
theorem dX6_tree_5 : decode cX6_tree 5 = .ok (.iload_n 2, 1) := by decide +kernel
theorem dX6_tree_6 : decode cX6_tree 6 = .ok (.invokevirtual 155, 3) := by decide +kernel
theorem dX6_tree_9 : decode cX6_tree 9 = .ok (.ireturn, 1) := by decide +kernel
theorem dX6_over_0 : decode cX6_over 0 = .ok (.aload_n 0, 1) := by decide +kernel
theorem dX6_over_1 : decode cX6_over 1 = .ok (.getfield 10, 3) := by decide +kernel
theorem dX6_over_4 : decode cX6_over 4 = .ok (.iload_n 1, 1) := by decide +kernel
theorem dX6_over_5 : decode cX6_over 5 = .ok (.iload_n 2, 1) := by decide +kernel
theorem dX6_over_6 : decode cX6_over 6 = .ok (.invokevirtual 83, 3) := by decide +kernel
theorem dX6_over_9 : decode cX6_over 9 = .ok (.istore 5, 2) := by decide +kernel
theorem dX6_over_11 : decode cX6_over 11 = .ok (.aload_n 0, 1) := by decide +kernel
theorem dX6_over_12 : decode cX6_over 12 = .ok (.getfield 10, 3) := by decide +kernel
theorem dX6_over_15 : decode cX6_over 15 = .ok (.iload_n 3, 1) := by decide +kernel
theorem dX6_over_16 : decode cX6_over 16 = .ok (.iload 4, 2) := by decide +kernel
theorem dX6_over_18 : decode cX6_over 18 = .ok (.invokevirtual 83, 3) := by decide +kernel
theorem dX6_over_21 : decode cX6_over 21 = .ok (.istore 6, 2) := by decide +kernel
theorem dX6_over_23 : decode cX6_over 23 = .ok (.iload 5, 2) := by decide +kernel
theorem dX6_over_25 : decode cX6_over 25 = .ok (.iconst (-1), 1) := by decide +kernel
theorem dX6_over_26 : decode cX6_over 26 = .ok (.if_icmp .eq 9, 3) := by decide +kernel
theorem dX6_over_29 : decode cX6_over 29 = .ok (.iload 6, 2) := by decide +kernel
theorem dX6_over_31 : decode cX6_over 31 = .ok (.iconst (-1), 1) := by decide +kernel
theorem dX6_over_32 : decode cX6_over 32 = .ok (.if_icmp .ne 6, 3) := by decide +kernel
theorem dX6_over_35 : decode cX6_over 35 = .ok (.bipush (-2), 2) := by decide +kernel
theorem dX6_over_37 : decode cX6_over 37 = .ok (.ireturn, 1) := by decide +kernel
theorem dX6_over_38 : decode cX6_over 38 = .ok (.aload_n 0, 1) := by decide +kernel
theorem dX6_over_39 : decode cX6_over 39 = .ok (.iload 5, 2) := by decide +kernel
theorem dX6_over_41 : decode cX6_over 41 = .ok (.iload 6, 2) := by decide +kernel
theorem dX6_over_43 : decode cX6_over 43 = .ok (.invokevirtual 161, 3) := by decide +kernel
theorem dX6_over_46 : decode cX6_over 46 = .ok (.ireturn, 1) := by decide +kernel
theorem dX6_wet_0 : decode cX6_wet 0 = .ok (.aload_n 0, 1) := by decide +kernel
theorem dX6_wet_1 : decode cX6_wet 1 = .ok (.getfield 10, 3) := by decide +kernel
theorem dX6_wet_4 : decode cX6_wet 4 = .ok (.iload_n 1, 1) := by decide +kernel
theorem dX6_wet_5 : decode cX6_wet 5 = .ok (.iload_n 2, 1) := by decide +kernel
theorem dX6_wet_6 : decode cX6_wet 6 = .ok (.invokevirtual 83, 3) := by decide +kernel
theorem dX6_wet_9 : decode cX6_wet 9 = .ok (.istore 5, 2) := by decide +kernel
theorem dX6_wet_11 : decode cX6_wet 11 = .ok (.iload 5, 2) := by decide +kernel
theorem dX6_wet_13 : decode cX6_wet 13 = .ok (.iconst (-1), 1) := by decide +kernel
theorem dX6_wet_14 : decode cX6_wet 14 = .ok (.if_icmp .eq 23, 3) := by decide +kernel
theorem dX6_wet_17 : decode cX6_wet 17 = .ok (.iload_n 3, 1) := by decide +kernel
theorem dX6_wet_18 : decode cX6_wet 18 = .ok (.iconst 0, 1) := by decide +kernel
theorem dX6_wet_19 : decode cX6_wet 19 = .ok (.bipush 99, 2) := by decide +kernel
theorem dX6_wet_21 : decode cX6_wet 21 = .ok (.invokestatic 68, 3) := by decide +kernel
theorem dX6_wet_24 : decode cX6_wet 24 = .ok (.ifCond .eq 13, 3) := by decide +kernel
theorem dX6_wet_27 : decode cX6_wet 27 = .ok (.iload 4, 2) := by decide +kernel
theorem dX6_wet_29 : decode cX6_wet 29 = .ok (.iconst 0, 1) := by decide +kernel
theorem dX6_wet_30 : decode cX6_wet 30 = .ok (.iconst 2, 1) := by decide +kernel
theorem dX6_wet_31 : decode cX6_wet 31 = .ok (.invokestatic 68, 3) := by decide +kernel
theorem dX6_wet_34 : decode cX6_wet 34 = .ok (.ifCond .ne 6, 3) := by decide +kernel
theorem dX6_wet_37 : decode cX6_wet 37 = .ok (.bipush (-2), 2) := by decide +kernel
theorem dX6_wet_39 : decode cX6_wet 39 = .ok (.ireturn, 1) := by decide +kernel
theorem dX6_wet_40 : decode cX6_wet 40 = .ok (.aload_n 0, 1) := by decide +kernel
theorem dX6_wet_41 : decode cX6_wet 41 = .ok (.getfield 19, 3) := by decide +kernel
theorem dX6_wet_44 : decode cX6_wet 44 = .ok (.invokevirtual 164, 3) := by decide +kernel
theorem dX6_wet_47 : decode cX6_wet 47 = .ok (.aload_n 0, 1) := by decide +kernel
theorem dX6_wet_48 : decode cX6_wet 48 = .ok (.getfield 19, 3) := by decide +kernel
theorem dX6_wet_51 : decode cX6_wet 51 = .ok (.aload_n 0, 1) := by decide +kernel
theorem dX6_wet_52 : decode cX6_wet 52 = .ok (.getfield 10, 3) := by decide +kernel
theorem dX6_wet_55 : decode cX6_wet 55 = .ok (.iload 5, 2) := by decide +kernel
theorem dX6_wet_57 : decode cX6_wet 57 = .ok (.iconst 0, 1) := by decide +kernel
theorem dX6_wet_58 : decode cX6_wet 58 = .ok (.iload_n 3, 1) := by decide +kernel
theorem dX6_wet_59 : decode cX6_wet 59 = .ok (.invokevirtual 167, 3) := by decide +kernel
theorem dX6_wet_62 : decode cX6_wet 62 = .ok (.iload 4, 2) := by decide +kernel
theorem dX6_wet_64 : decode cX6_wet 64 = .ok (.lookupswitch 49 #[(0, 28), (1, 36)], 28) := by decide +kernel
theorem dX6_wet_92 : decode cX6_wet 92 = .ok (.aload_n 0, 1) := by decide +kernel
theorem dX6_wet_93 : decode cX6_wet 93 = .ok (.getfield 19, 3) := by decide +kernel
theorem dX6_wet_96 : decode cX6_wet 96 = .ok (.getfield 171, 3) := by decide +kernel
theorem dX6_wet_99 : decode cX6_wet 99 = .ok (.ireturn, 1) := by decide +kernel
theorem dX6_wet_100 : decode cX6_wet 100 = .ok (.aload_n 0, 1) := by decide +kernel
theorem dX6_wet_101 : decode cX6_wet 101 = .ok (.getfield 19, 3) := by decide +kernel
theorem dX6_wet_104 : decode cX6_wet 104 = .ok (.aload_n 0, 1) := by decide +kernel
theorem dX6_wet_105 : decode cX6_wet 105 = .ok (.getfield 10, 3) := by decide +kernel
theorem dX6_wet_108 : decode cX6_wet 108 = .ok (.iload_n 3, 1) := by decide +kernel
theorem dX6_wet_109 : decode cX6_wet 109 = .ok (.invokevirtual 174, 3) := by decide +kernel
theorem dX6_wet_112 : decode cX6_wet 112 = .ok (.ireturn, 1) := by decide +kernel
theorem dX6_wet_113 : decode cX6_wet 113 = .ok (.aload_n 0, 1) := by decide +kernel
theorem dX6_wet_114 : decode cX6_wet 114 = .ok (.getfield 19, 3) := by decide +kernel
theorem dX6_wet_117 : decode cX6_wet 117 = .ok (.aload_n 0, 1) := by decide +kernel
theorem dX6_wet_118 : decode cX6_wet 118 = .ok (.getfield 10, 3) := by decide +kernel
theorem dX6_wet_121 : decode cX6_wet 121 = .ok (.iconst 0, 1) := by decide +kernel
theorem dX6_wet_122 : decode cX6_wet 122 = .ok (.iload_n 3, 1) := by decide +kernel
theorem dX6_wet_123 : decode cX6_wet 123 = .ok (.invokevirtual 178, 3) := by decide +kernel
theorem dX6_wet_126 : decode cX6_wet 126 = .ok (.invokestatic 144, 3) := by decide +kernel
theorem dX6_wet_129 : decode cX6_wet 129 = .ok (.ireturn, 1) := by decide +kernel
theorem dX6_count_0 : decode cX6_count 0 = .ok (.iload_n 1, 1) := by decide +kernel
theorem dX6_count_1 : decode cX6_count 1 = .ok (.tableswitch 213 0 12 #[67, 75, 83, 89, 97, 109, 117, 132, 147, 159, 164, 169, 177], 67) := by decide +kernel
theorem dX6_count_68 : decode cX6_count 68 = .ok (.aload_n 0, 1) := by decide +kernel
theorem dX6_count_69 : decode cX6_count 69 = .ok (.getfield 10, 3) := by decide +kernel
theorem dX6_count_72 : decode cX6_count 72 = .ok (.getfield 181, 3) := by decide +kernel
theorem dX6_count_75 : decode cX6_count 75 = .ok (.ireturn, 1) := by decide +kernel
theorem dX6_count_76 : decode cX6_count 76 = .ok (.aload_n 0, 1) := by decide +kernel
theorem dX6_count_77 : decode cX6_count 77 = .ok (.getfield 10, 3) := by decide +kernel
theorem dX6_count_80 : decode cX6_count 80 = .ok (.getfield 184, 3) := by decide +kernel
theorem dX6_count_83 : decode cX6_count 83 = .ok (.ireturn, 1) := by decide +kernel
theorem dX6_count_84 : decode cX6_count 84 = .ok (.aload_n 0, 1) := by decide +kernel
theorem dX6_count_85 : decode cX6_count 85 = .ok (.iconst 0, 1) := by decide +kernel
theorem dX6_count_86 : decode cX6_count 86 = .ok (.invokevirtual 106, 3) := by decide +kernel
theorem dX6_count_89 : decode cX6_count 89 = .ok (.ireturn, 1) := by decide +kernel
theorem dX6_count_90 : decode cX6_count 90 = .ok (.aload_n 0, 1) := by decide +kernel
theorem dX6_count_91 : decode cX6_count 91 = .ok (.getfield 10, 3) := by decide +kernel
theorem dX6_count_94 : decode cX6_count 94 = .ok (.invokevirtual 187, 3) := by decide +kernel
theorem dX6_count_97 : decode cX6_count 97 = .ok (.ireturn, 1) := by decide +kernel
theorem dX6_count_98 : decode cX6_count 98 = .ok (.aload_n 0, 1) := by decide +kernel
theorem dX6_count_99 : decode cX6_count 99 = .ok (.invokevirtual 110, 3) := by decide +kernel
theorem dX6_count_102 : decode cX6_count 102 = .ok (.aload_n 0, 1) := by decide +kernel
theorem dX6_count_103 : decode cX6_count 103 = .ok (.getfield 10, 3) := by decide +kernel
theorem dX6_count_106 : decode cX6_count 106 = .ok (.invokevirtual 190, 3) := by decide +kernel
theorem dX6_count_109 : decode cX6_count 109 = .ok (.ireturn, 1) := by decide +kernel
theorem dX6_count_110 : decode cX6_count 110 = .ok (.aload_n 0, 1) := by decide +kernel
theorem dX6_count_111 : decode cX6_count 111 = .ok (.invokevirtual 123, 3) := by decide +kernel
theorem dX6_count_114 : decode cX6_count 114 = .ok (.invokevirtual 194, 3) := by decide +kernel
theorem dX6_count_117 : decode cX6_count 117 = .ok (.ireturn, 1) := by decide +kernel
theorem dX6_count_118 : decode cX6_count 118 = .ok (.aload_n 0, 1) := by decide +kernel
theorem dX6_count_119 : decode cX6_count 119 = .ok (.getfield 10, 3) := by decide +kernel
theorem dX6_count_122 : decode cX6_count 122 = .ok (.aload_n 0, 1) := by decide +kernel
theorem dX6_count_123 : decode cX6_count 123 = .ok (.invokevirtual 110, 3) := by decide +kernel
theorem dX6_count_126 : decode cX6_count 126 = .ok (.getfield 114, 3) := by decide +kernel
theorem dX6_count_129 : decode cX6_count 129 = .ok (.invokevirtual 196, 3) := by decide +kernel
theorem dX6_count_132 : decode cX6_count 132 = .ok (.ireturn, 1) := by decide +kernel
theorem dX6_count_133 : decode cX6_count 133 = .ok (.aload_n 0, 1) := by decide +kernel
theorem dX6_count_134 : decode cX6_count 134 = .ok (.getfield 10, 3) := by decide +kernel
theorem dX6_count_137 : decode cX6_count 137 = .ok (.aload_n 0, 1) := by decide +kernel
theorem dX6_count_138 : decode cX6_count 138 = .ok (.invokevirtual 123, 3) := by decide +kernel
theorem dX6_count_141 : decode cX6_count 141 = .ok (.getfield 127, 3) := by decide +kernel
theorem dX6_count_144 : decode cX6_count 144 = .ok (.invokevirtual 196, 3) := by decide +kernel
theorem dX6_count_147 : decode cX6_count 147 = .ok (.ireturn, 1) := by decide +kernel
theorem dX6_count_148 : decode cX6_count 148 = .ok (.aload_n 0, 1) := by decide +kernel
theorem dX6_count_149 : decode cX6_count 149 = .ok (.invokevirtual 110, 3) := by decide +kernel
theorem dX6_count_152 : decode cX6_count 152 = .ok (.aload_n 0, 1) := by decide +kernel
theorem dX6_count_153 : decode cX6_count 153 = .ok (.getfield 10, 3) := by decide +kernel
theorem dX6_count_156 : decode cX6_count 156 = .ok (.invokevirtual 200, 3) := by decide +kernel
theorem dX6_count_159 : decode cX6_count 159 = .ok (.ireturn, 1) := by decide +kernel
theorem dX6_count_160 : decode cX6_count 160 = .ok (.aload_n 0, 1) := by decide +kernel
theorem dX6_count_161 : decode cX6_count 161 = .ok (.getfield 47, 3) := by decide +kernel
theorem dX6_count_164 : decode cX6_count 164 = .ok (.ireturn, 1) := by decide +kernel
theorem dX6_count_165 : decode cX6_count 165 = .ok (.aload_n 0, 1) := by decide +kernel
theorem dX6_count_166 : decode cX6_count 166 = .ok (.getfield 51, 3) := by decide +kernel
theorem dX6_count_169 : decode cX6_count 169 = .ok (.ireturn, 1) := by decide +kernel
theorem dX6_count_170 : decode cX6_count 170 = .ok (.aload_n 0, 1) := by decide +kernel
theorem dX6_count_171 : decode cX6_count 171 = .ok (.invokevirtual 158, 3) := by decide +kernel
theorem dX6_count_174 : decode cX6_count 174 = .ok (.getfield 128, 3) := by decide +kernel
theorem dX6_count_177 : decode cX6_count 177 = .ok (.ireturn, 1) := by decide +kernel
theorem dX6_count_178 : decode cX6_count 178 = .ok (.aload_n 0, 1) := by decide +kernel
theorem dX6_count_179 : decode cX6_count 179 = .ok (.getfield 43, 3) := by decide +kernel
theorem dX6_count_182 : decode cX6_count 182 = .ok (.iconst 0, 1) := by decide +kernel
theorem dX6_count_183 : decode cX6_count 183 = .ok (.aaload, 1) := by decide +kernel
theorem dX6_count_184 : decode cX6_count 184 = .ok (.getfield 203, 3) := by decide +kernel
theorem dX6_count_187 : decode cX6_count 187 = .ok (.ifCond .eq 7, 3) := by decide +kernel
theorem dX6_count_190 : decode cX6_count 190 = .ok (.iconst 1, 1) := by decide +kernel
theorem dX6_count_191 : decode cX6_count 191 = .ok (.goto 4, 3) := by decide +kernel
theorem dX6_count_194 : decode cX6_count 194 = .ok (.iconst 0, 1) := by decide +kernel
theorem dX6_count_195 : decode cX6_count 195 = .ok (.aload_n 0, 1) := by decide +kernel
theorem dX6_count_196 : decode cX6_count 196 = .ok (.getfield 43, 3) := by decide +kernel
theorem dX6_count_199 : decode cX6_count 199 = .ok (.iconst 1, 1) := by decide +kernel
theorem dX6_count_200 : decode cX6_count 200 = .ok (.aaload, 1) := by decide +kernel
theorem dX6_count_201 : decode cX6_count 201 = .ok (.getfield 203, 3) := by decide +kernel
theorem dX6_count_204 : decode cX6_count 204 = .ok (.ifCond .eq 7, 3) := by decide +kernel
theorem dX6_count_207 : decode cX6_count 207 = .ok (.iconst 2, 1) := by decide +kernel
theorem dX6_count_208 : decode cX6_count 208 = .ok (.goto 4, 3) := by decide +kernel
theorem dX6_count_211 : decode cX6_count 211 = .ok (.iconst 0, 1) := by decide +kernel
theorem dX6_count_212 : decode cX6_count 212 = .ok (.iadd, 1) := by decide +kernel
theorem dX6_count_213 : decode cX6_count 213 = .ok (.ireturn, 1) := by decide +kernel
theorem dX6_count_214 : decode cX6_count 214 = .ok (.bipush (-2), 2) := by decide +kernel
theorem dX6_count_216 : decode cX6_count 216 = .ok (.ireturn, 1) := by decide +kernel
theorem dX6_image_0 : decode cX6_image 0 = .ok (.iload_n 1, 1) := by decide +kernel
theorem dX6_image_1 : decode cX6_image 1 = .ok (.iconst 0, 1) := by decide +kernel
theorem dX6_image_2 : decode cX6_image 2 = .ok (.iconst 1, 1) := by decide +kernel
theorem dX6_image_3 : decode cX6_image 3 = .ok (.invokestatic 68, 3) := by decide +kernel
theorem dX6_image_6 : decode cX6_image 6 = .ok (.ifCond .ne 6, 3) := by decide +kernel
theorem dX6_image_9 : decode cX6_image 9 = .ok (.bipush (-2), 2) := by decide +kernel
theorem dX6_image_11 : decode cX6_image 11 = .ok (.ireturn, 1) := by decide +kernel
theorem dX6_image_12 : decode cX6_image 12 = .ok (.aload_n 0, 1) := by decide +kernel
theorem dX6_image_13 : decode cX6_image 13 = .ok (.getfield 43, 3) := by decide +kernel
theorem dX6_image_16 : decode cX6_image 16 = .ok (.iload_n 1, 1) := by decide +kernel
theorem dX6_image_17 : decode cX6_image 17 = .ok (.aaload, 1) := by decide +kernel
theorem dX6_image_18 : decode cX6_image 18 = .ok (.aload_n 0, 1) := by decide +kernel
theorem dX6_image_19 : decode cX6_image 19 = .ok (.getfield 10, 3) := by decide +kernel
theorem dX6_image_22 : decode cX6_image 22 = .ok (.aload_n 0, 1) := by decide +kernel
theorem dX6_image_23 : decode cX6_image 23 = .ok (.getfield 47, 3) := by decide +kernel
theorem dX6_image_26 : decode cX6_image 26 = .ok (.aload_n 0, 1) := by decide +kernel
theorem dX6_image_27 : decode cX6_image 27 = .ok (.getfield 51, 3) := by decide +kernel
theorem dX6_image_30 : decode cX6_image 30 = .ok (.invokevirtual 206, 3) := by decide +kernel
theorem dX6_image_33 : decode cX6_image 33 = .ok (.iconst 1, 1) := by decide +kernel
theorem dX6_image_34 : decode cX6_image 34 = .ok (.ireturn, 1) := by decide +kernel
theorem dX6_restore_0 : decode cX6_restore 0 = .ok (.iload_n 1, 1) := by decide +kernel
theorem dX6_restore_1 : decode cX6_restore 1 = .ok (.iconst 0, 1) := by decide +kernel
theorem dX6_restore_2 : decode cX6_restore 2 = .ok (.iconst 1, 1) := by decide +kernel
theorem dX6_restore_3 : decode cX6_restore 3 = .ok (.invokestatic 68, 3) := by decide +kernel
theorem dX6_restore_6 : decode cX6_restore 6 = .ok (.ifCond .ne 6, 3) := by decide +kernel
theorem dX6_restore_9 : decode cX6_restore 9 = .ok (.bipush (-2), 2) := by decide +kernel
theorem dX6_restore_11 : decode cX6_restore 11 = .ok (.ireturn, 1) := by decide +kernel
theorem dX6_restore_12 : decode cX6_restore 12 = .ok (.aload_n 0, 1) := by decide +kernel
theorem dX6_restore_13 : decode cX6_restore 13 = .ok (.getfield 43, 3) := by decide +kernel
theorem dX6_restore_16 : decode cX6_restore 16 = .ok (.iload_n 1, 1) := by decide +kernel
theorem dX6_restore_17 : decode cX6_restore 17 = .ok (.aaload, 1) := by decide +kernel
theorem dX6_restore_18 : decode cX6_restore 18 = .ok (.astore_n 2, 1) := by decide +kernel
theorem dX6_restore_19 : decode cX6_restore 19 = .ok (.aload_n 2, 1) := by decide +kernel
theorem dX6_restore_20 : decode cX6_restore 20 = .ok (.getfield 203, 3) := by decide +kernel
theorem dX6_restore_23 : decode cX6_restore 23 = .ok (.ifCond .ne 6, 3) := by decide +kernel
theorem dX6_restore_26 : decode cX6_restore 26 = .ok (.bipush (-3), 2) := by decide +kernel
theorem dX6_restore_28 : decode cX6_restore 28 = .ok (.ireturn, 1) := by decide +kernel
theorem dX6_restore_29 : decode cX6_restore 29 = .ok (.aload_n 2, 1) := by decide +kernel
theorem dX6_restore_30 : decode cX6_restore 30 = .ok (.aload_n 0, 1) := by decide +kernel
theorem dX6_restore_31 : decode cX6_restore 31 = .ok (.getfield 10, 3) := by decide +kernel
theorem dX6_restore_34 : decode cX6_restore 34 = .ok (.invokevirtual 210, 3) := by decide +kernel
theorem dX6_restore_37 : decode cX6_restore 37 = .ok (.aload_n 0, 1) := by decide +kernel
theorem dX6_restore_38 : decode cX6_restore 38 = .ok (.aload_n 2, 1) := by decide +kernel
theorem dX6_restore_39 : decode cX6_restore 39 = .ok (.getfield 214, 3) := by decide +kernel
theorem dX6_restore_42 : decode cX6_restore 42 = .ok (.putfield 47, 3) := by decide +kernel
theorem dX6_restore_45 : decode cX6_restore 45 = .ok (.aload_n 0, 1) := by decide +kernel
theorem dX6_restore_46 : decode cX6_restore 46 = .ok (.aload_n 2, 1) := by decide +kernel
theorem dX6_restore_47 : decode cX6_restore 47 = .ok (.getfield 217, 3) := by decide +kernel
theorem dX6_restore_50 : decode cX6_restore 50 = .ok (.putfield 51, 3) := by decide +kernel
theorem dX6_restore_53 : decode cX6_restore 53 = .ok (.aload_n 0, 1) := by decide +kernel
theorem dX6_restore_54 : decode cX6_restore 54 = .ok (.invokevirtual 97, 3) := by decide +kernel
theorem dX6_restore_57 : decode cX6_restore 57 = .ok (.iconst 1, 1) := by decide +kernel
theorem dX6_restore_58 : decode cX6_restore 58 = .ok (.ireturn, 1) := by decide +kernel
theorem dX6_within_0 : decode cX6_within 0 = .ok (.iload_n 0, 1) := by decide +kernel
theorem dX6_within_1 : decode cX6_within 1 = .ok (.iload_n 1, 1) := by decide +kernel
theorem dX6_within_2 : decode cX6_within 2 = .ok (.if_icmp .lt 12, 3) := by decide +kernel
theorem dX6_within_5 : decode cX6_within 5 = .ok (.iload_n 0, 1) := by decide +kernel
theorem dX6_within_6 : decode cX6_within 6 = .ok (.iload_n 2, 1) := by decide +kernel
theorem dX6_within_7 : decode cX6_within 7 = .ok (.if_icmp .gt 7, 3) := by decide +kernel
theorem dX6_within_10 : decode cX6_within 10 = .ok (.iconst 1, 1) := by decide +kernel
theorem dX6_within_11 : decode cX6_within 11 = .ok (.goto 4, 3) := by decide +kernel
theorem dX6_within_14 : decode cX6_within 14 = .ok (.iconst 0, 1) := by decide +kernel
theorem dX6_within_15 : decode cX6_within 15 = .ok (.ireturn, 1) := by decide +kernel
theorem dX6_heightOrNone_0 : decode cX6_heightOrNone 0 = .ok (.iload_n 0, 1) := by decide +kernel
theorem dX6_heightOrNone_1 : decode cX6_heightOrNone 1 = .ok (.bipush 100, 2) := by decide +kernel
theorem dX6_heightOrNone_3 : decode cX6_heightOrNone 3 = .ok (.if_icmp .ne 8, 3) := by decide +kernel
theorem dX6_heightOrNone_6 : decode cX6_heightOrNone 6 = .ok (.bipush (-6), 2) := by decide +kernel
theorem dX6_heightOrNone_8 : decode cX6_heightOrNone 8 = .ok (.goto 4, 3) := by decide +kernel
theorem dX6_heightOrNone_11 : decode cX6_heightOrNone 11 = .ok (.iload_n 0, 1) := by decide +kernel
theorem dX6_heightOrNone_12 : decode cX6_heightOrNone 12 = .ok (.ireturn, 1) := by decide +kernel
theorem dX6_pitsAfterChange_0 : decode cX6_pitsAfterChange 0 = .ok (.aload_n 0, 1) := by decide +kernel
theorem dX6_pitsAfterChange_1 : decode cX6_pitsAfterChange 1 = .ok (.invokevirtual 97, 3) := by decide +kernel
theorem dX6_pitsAfterChange_4 : decode cX6_pitsAfterChange 4 = .ok (.aload_n 0, 1) := by decide +kernel
theorem dX6_pitsAfterChange_5 : decode cX6_pitsAfterChange 5 = .ok (.iconst 0, 1) := by decide +kernel
theorem dX6_pitsAfterChange_6 : decode cX6_pitsAfterChange 6 = .ok (.invokevirtual 106, 3) := by decide +kernel
theorem dX6_pitsAfterChange_9 : decode cX6_pitsAfterChange 9 = .ok (.ireturn, 1) := by decide +kernel
theorem dX6_nothingStands_0 : decode cX6_nothingStands 0 = .ok (.aload_n 0, 1) := by decide +kernel
theorem dX6_nothingStands_1 : decode cX6_nothingStands 1 = .ok (.iconst 0, 1) := by decide +kernel
theorem dX6_nothingStands_2 : decode cX6_nothingStands 2 = .ok (.putfield 54, 3) := by decide +kernel
theorem dX6_nothingStands_5 : decode cX6_nothingStands 5 = .ok (.aload_n 0, 1) := by decide +kernel
theorem dX6_nothingStands_6 : decode cX6_nothingStands 6 = .ok (.iconst 0, 1) := by decide +kernel
theorem dX6_nothingStands_7 : decode cX6_nothingStands 7 = .ok (.putfield 58, 3) := by decide +kernel
theorem dX6_nothingStands_10 : decode cX6_nothingStands 10 = .ok (.aload_n 0, 1) := by decide +kernel
theorem dX6_nothingStands_11 : decode cX6_nothingStands 11 = .ok (.iconst 0, 1) := by decide +kernel
theorem dX6_nothingStands_12 : decode cX6_nothingStands 12 = .ok (.putfield 61, 3) := by decide +kernel
theorem dX6_nothingStands_15 : decode cX6_nothingStands 15 = .ok (.return_, 1) := by decide +kernel
theorem dX6_standingFlood_0 : decode cX6_standingFlood 0 = .ok (.aload_n 0, 1) := by decide +kernel
theorem dX6_standingFlood_1 : decode cX6_standingFlood 1 = .ok (.getfield 54, 3) := by decide +kernel
theorem dX6_standingFlood_4 : decode cX6_standingFlood 4 = .ok (.ifCond .ne 19, 3) := by decide +kernel
theorem dX6_standingFlood_7 : decode cX6_standingFlood 7 = .ok (.aload_n 0, 1) := by decide +kernel
theorem dX6_standingFlood_8 : decode cX6_standingFlood 8 = .ok (.getfield 26, 3) := by decide +kernel
theorem dX6_standingFlood_11 : decode cX6_standingFlood 11 = .ok (.aload_n 0, 1) := by decide +kernel
theorem dX6_standingFlood_12 : decode cX6_standingFlood 12 = .ok (.getfield 10, 3) := by decide +kernel
theorem dX6_standingFlood_15 : decode cX6_standingFlood 15 = .ok (.invokevirtual 220, 3) := by decide +kernel
theorem dX6_standingFlood_18 : decode cX6_standingFlood 18 = .ok (.aload_n 0, 1) := by decide +kernel
theorem dX6_standingFlood_19 : decode cX6_standingFlood 19 = .ok (.iconst 1, 1) := by decide +kernel
theorem dX6_standingFlood_20 : decode cX6_standingFlood 20 = .ok (.putfield 54, 3) := by decide +kernel
theorem dX6_standingFlood_23 : decode cX6_standingFlood 23 = .ok (.aload_n 0, 1) := by decide +kernel
theorem dX6_standingFlood_24 : decode cX6_standingFlood 24 = .ok (.getfield 26, 3) := by decide +kernel
theorem dX6_standingFlood_27 : decode cX6_standingFlood 27 = .ok (.areturn, 1) := by decide +kernel
theorem dX6_standingPour_0 : decode cX6_standingPour 0 = .ok (.aload_n 0, 1) := by decide +kernel
theorem dX6_standingPour_1 : decode cX6_standingPour 1 = .ok (.getfield 58, 3) := by decide +kernel
theorem dX6_standingPour_4 : decode cX6_standingPour 4 = .ok (.ifCond .ne 34, 3) := by decide +kernel
theorem dX6_standingPour_7 : decode cX6_standingPour 7 = .ok (.aload_n 0, 1) := by decide +kernel
theorem dX6_standingPour_8 : decode cX6_standingPour 8 = .ok (.getfield 33, 3) := by decide +kernel
theorem dX6_standingPour_11 : decode cX6_standingPour 11 = .ok (.aload_n 0, 1) := by decide +kernel
theorem dX6_standingPour_12 : decode cX6_standingPour 12 = .ok (.getfield 10, 3) := by decide +kernel
theorem dX6_standingPour_15 : decode cX6_standingPour 15 = .ok (.aload_n 0, 1) := by decide +kernel
theorem dX6_standingPour_16 : decode cX6_standingPour 16 = .ok (.invokevirtual 110, 3) := by decide +kernel
theorem dX6_standingPour_19 : decode cX6_standingPour 19 = .ok (.getfield 114, 3) := by decide +kernel
theorem dX6_standingPour_22 : decode cX6_standingPour 22 = .ok (.aload_n 0, 1) := by decide +kernel
theorem dX6_standingPour_23 : decode cX6_standingPour 23 = .ok (.getfield 47, 3) := by decide +kernel
theorem dX6_standingPour_26 : decode cX6_standingPour 26 = .ok (.aload_n 0, 1) := by decide +kernel
theorem dX6_standingPour_27 : decode cX6_standingPour 27 = .ok (.getfield 51, 3) := by decide +kernel
theorem dX6_standingPour_30 : decode cX6_standingPour 30 = .ok (.invokevirtual 223, 3) := by decide +kernel
theorem dX6_standingPour_33 : decode cX6_standingPour 33 = .ok (.aload_n 0, 1) := by decide +kernel
theorem dX6_standingPour_34 : decode cX6_standingPour 34 = .ok (.iconst 1, 1) := by decide +kernel
theorem dX6_standingPour_35 : decode cX6_standingPour 35 = .ok (.putfield 58, 3) := by decide +kernel
theorem dX6_standingPour_38 : decode cX6_standingPour 38 = .ok (.aload_n 0, 1) := by decide +kernel
theorem dX6_standingPour_39 : decode cX6_standingPour 39 = .ok (.getfield 33, 3) := by decide +kernel
theorem dX6_standingPour_42 : decode cX6_standingPour 42 = .ok (.areturn, 1) := by decide +kernel
theorem dX6_standingTree_0 : decode cX6_standingTree 0 = .ok (.aload_n 0, 1) := by decide +kernel
theorem dX6_standingTree_1 : decode cX6_standingTree 1 = .ok (.getfield 61, 3) := by decide +kernel
theorem dX6_standingTree_4 : decode cX6_standingTree 4 = .ok (.ifCond .ne 30, 3) := by decide +kernel
theorem dX6_standingTree_7 : decode cX6_standingTree 7 = .ok (.aload_n 0, 1) := by decide +kernel
theorem dX6_standingTree_8 : decode cX6_standingTree 8 = .ok (.getfield 37, 3) := by decide +kernel
theorem dX6_standingTree_11 : decode cX6_standingTree 11 = .ok (.aload_n 0, 1) := by decide +kernel
theorem dX6_standingTree_12 : decode cX6_standingTree 12 = .ok (.getfield 10, 3) := by decide +kernel
theorem dX6_standingTree_15 : decode cX6_standingTree 15 = .ok (.aload_n 0, 1) := by decide +kernel
theorem dX6_standingTree_16 : decode cX6_standingTree 16 = .ok (.invokevirtual 110, 3) := by decide +kernel
theorem dX6_standingTree_19 : decode cX6_standingTree 19 = .ok (.getfield 114, 3) := by decide +kernel
theorem dX6_standingTree_22 : decode cX6_standingTree 22 = .ok (.iconst 0, 1) := by decide +kernel
theorem dX6_standingTree_23 : decode cX6_standingTree 23 = .ok (.sipush 145, 3) := by decide +kernel
theorem dX6_standingTree_26 : decode cX6_standingTree 26 = .ok (.invokevirtual 223, 3) := by decide +kernel
theorem dX6_standingTree_29 : decode cX6_standingTree 29 = .ok (.aload_n 0, 1) := by decide +kernel
theorem dX6_standingTree_30 : decode cX6_standingTree 30 = .ok (.iconst 1, 1) := by decide +kernel
theorem dX6_standingTree_31 : decode cX6_standingTree 31 = .ok (.putfield 61, 3) := by decide +kernel
theorem dX6_standingTree_34 : decode cX6_standingTree 34 = .ok (.aload_n 0, 1) := by decide +kernel
theorem dX6_standingTree_35 : decode cX6_standingTree 35 = .ok (.getfield 37, 3) := by decide +kernel
theorem dX6_standingTree_38 : decode cX6_standingTree 38 = .ok (.areturn, 1) := by decide +kernel
theorem dX6_findPits_0 : decode cX6_findPits 0 = .ok (.iconst 0, 1) := by decide +kernel
theorem dX6_findPits_1 : decode cX6_findPits 1 = .ok (.istore_n 2, 1) := by decide +kernel
theorem dX6_findPits_2 : decode cX6_findPits 2 = .ok (.aload_n 0, 1) := by decide +kernel
theorem dX6_findPits_3 : decode cX6_findPits 3 = .ok (.getfield 19, 3) := by decide +kernel
theorem dX6_findPits_6 : decode cX6_findPits 6 = .ok (.invokevirtual 164, 3) := by decide +kernel
theorem dX6_findPits_9 : decode cX6_findPits 9 = .ok (.iconst 0, 1) := by decide +kernel
theorem dX6_findPits_10 : decode cX6_findPits 10 = .ok (.istore_n 3, 1) := by decide +kernel
theorem dX6_findPits_11 : decode cX6_findPits 11 = .ok (.iload_n 3, 1) := by decide +kernel
theorem dX6_findPits_12 : decode cX6_findPits 12 = .ok (.aload_n 0, 1) := by decide +kernel
theorem dX6_findPits_13 : decode cX6_findPits 13 = .ok (.getfield 10, 3) := by decide +kernel
theorem dX6_findPits_16 : decode cX6_findPits 16 = .ok (.getfield 227, 3) := by decide +kernel
theorem dX6_findPits_19 : decode cX6_findPits 19 = .ok (.if_icmp .ge 92, 3) := by decide +kernel
theorem dX6_findPits_22 : decode cX6_findPits 22 = .ok (.aload_n 0, 1) := by decide +kernel
theorem dX6_findPits_23 : decode cX6_findPits 23 = .ok (.getfield 19, 3) := by decide +kernel
theorem dX6_findPits_26 : decode cX6_findPits 26 = .ok (.iload_n 3, 1) := by decide +kernel
theorem dX6_findPits_27 : decode cX6_findPits 27 = .ok (.invokevirtual 230, 3) := by decide +kernel
theorem dX6_findPits_30 : decode cX6_findPits 30 = .ok (.ifCond .eq 6, 3) := by decide +kernel
theorem dX6_findPits_33 : decode cX6_findPits 33 = .ok (.goto 72, 3) := by decide +kernel
theorem dX6_findPits_36 : decode cX6_findPits 36 = .ok (.aload_n 0, 1) := by decide +kernel
theorem dX6_findPits_37 : decode cX6_findPits 37 = .ok (.getfield 10, 3) := by decide +kernel
theorem dX6_findPits_40 : decode cX6_findPits 40 = .ok (.getfield 90, 3) := by decide +kernel
theorem dX6_findPits_43 : decode cX6_findPits 43 = .ok (.iload_n 3, 1) := by decide +kernel
theorem dX6_findPits_44 : decode cX6_findPits 44 = .ok (.iaload, 1) := by decide +kernel
theorem dX6_findPits_45 : decode cX6_findPits 45 = .ok (.istore 4, 2) := by decide +kernel
theorem dX6_findPits_47 : decode cX6_findPits 47 = .ok (.aload_n 0, 1) := by decide +kernel
theorem dX6_findPits_48 : decode cX6_findPits 48 = .ok (.getfield 19, 3) := by decide +kernel
theorem dX6_findPits_51 : decode cX6_findPits 51 = .ok (.aload_n 0, 1) := by decide +kernel
theorem dX6_findPits_52 : decode cX6_findPits 52 = .ok (.getfield 10, 3) := by decide +kernel
theorem dX6_findPits_55 : decode cX6_findPits 55 = .ok (.iload_n 3, 1) := by decide +kernel
theorem dX6_findPits_56 : decode cX6_findPits 56 = .ok (.iload 4, 2) := by decide +kernel
theorem dX6_findPits_58 : decode cX6_findPits 58 = .ok (.iload 4, 2) := by decide +kernel
theorem dX6_findPits_60 : decode cX6_findPits 60 = .ok (.invokevirtual 167, 3) := by decide +kernel
theorem dX6_findPits_63 : decode cX6_findPits 63 = .ok (.aload_n 0, 1) := by decide +kernel
theorem dX6_findPits_64 : decode cX6_findPits 64 = .ok (.getfield 19, 3) := by decide +kernel
theorem dX6_findPits_67 : decode cX6_findPits 67 = .ok (.aload_n 0, 1) := by decide +kernel
theorem dX6_findPits_68 : decode cX6_findPits 68 = .ok (.getfield 10, 3) := by decide +kernel
theorem dX6_findPits_71 : decode cX6_findPits 71 = .ok (.iload 4, 2) := by decide +kernel
theorem dX6_findPits_73 : decode cX6_findPits 73 = .ok (.iload 4, 2) := by decide +kernel
theorem dX6_findPits_75 : decode cX6_findPits 75 = .ok (.invokevirtual 178, 3) := by decide +kernel
theorem dX6_findPits_78 : decode cX6_findPits 78 = .ok (.iload 4, 2) := by decide +kernel
theorem dX6_findPits_80 : decode cX6_findPits 80 = .ok (.if_icmp .ge 6, 3) := by decide +kernel
theorem dX6_findPits_83 : decode cX6_findPits 83 = .ok (.goto 22, 3) := by decide +kernel
theorem dX6_findPits_86 : decode cX6_findPits 86 = .ok (.iinc 2 1, 3) := by decide +kernel
theorem dX6_findPits_89 : decode cX6_findPits 89 = .ok (.iload_n 1, 1) := by decide +kernel
theorem dX6_findPits_90 : decode cX6_findPits 90 = .ok (.ifCond .eq 15, 3) := by decide +kernel
theorem dX6_findPits_93 : decode cX6_findPits 93 = .ok (.aload_n 0, 1) := by decide +kernel
theorem dX6_findPits_94 : decode cX6_findPits 94 = .ok (.getfield 19, 3) := by decide +kernel
theorem dX6_findPits_97 : decode cX6_findPits 97 = .ok (.aload_n 0, 1) := by decide +kernel
theorem dX6_findPits_98 : decode cX6_findPits 98 = .ok (.getfield 10, 3) := by decide +kernel
theorem dX6_findPits_101 : decode cX6_findPits 101 = .ok (.iload_n 2, 1) := by decide +kernel
theorem dX6_findPits_102 : decode cX6_findPits 102 = .ok (.invokevirtual 233, 3) := by decide +kernel
theorem dX6_findPits_105 : decode cX6_findPits 105 = .ok (.iinc 3 1, 3) := by decide +kernel
theorem dX6_findPits_108 : decode cX6_findPits 108 = .ok (.goto (-97), 3) := by decide +kernel
theorem dX6_findPits_111 : decode cX6_findPits 111 = .ok (.iload_n 2, 1) := by decide +kernel
theorem dX6_findPits_112 : decode cX6_findPits 112 = .ok (.ireturn, 1) := by decide +kernel
theorem dX6_leastLevelBetween_0 : decode cX6_leastLevelBetween 0 = .ok (.aload_n 0, 1) := by decide +kernel
theorem dX6_leastLevelBetween_1 : decode cX6_leastLevelBetween 1 = .ok (.getfield 10, 3) := by decide +kernel
theorem dX6_leastLevelBetween_4 : decode cX6_leastLevelBetween 4 = .ok (.getfield 90, 3) := by decide +kernel
theorem dX6_leastLevelBetween_7 : decode cX6_leastLevelBetween 7 = .ok (.iload_n 1, 1) := by decide +kernel
theorem dX6_leastLevelBetween_8 : decode cX6_leastLevelBetween 8 = .ok (.iaload, 1) := by decide +kernel
theorem dX6_leastLevelBetween_9 : decode cX6_leastLevelBetween 9 = .ok (.aload_n 0, 1) := by decide +kernel
theorem dX6_leastLevelBetween_10 : decode cX6_leastLevelBetween 10 = .ok (.getfield 10, 3) := by decide +kernel
theorem dX6_leastLevelBetween_13 : decode cX6_leastLevelBetween 13 = .ok (.getfield 90, 3) := by decide +kernel
theorem dX6_leastLevelBetween_16 : decode cX6_leastLevelBetween 16 = .ok (.iload_n 2, 1) := by decide +kernel
theorem dX6_leastLevelBetween_17 : decode cX6_leastLevelBetween 17 = .ok (.iaload, 1) := by decide +kernel
theorem dX6_leastLevelBetween_18 : decode cX6_leastLevelBetween 18 = .ok (.invokestatic 237, 3) := by decide +kernel
theorem dX6_leastLevelBetween_21 : decode cX6_leastLevelBetween 21 = .ok (.istore_n 3, 1) := by decide +kernel
theorem dX6_leastLevelBetween_22 : decode cX6_leastLevelBetween 22 = .ok (.bipush 99, 2) := by decide +kernel
theorem dX6_leastLevelBetween_24 : decode cX6_leastLevelBetween 24 = .ok (.istore 4, 2) := by decide +kernel
theorem dX6_leastLevelBetween_26 : decode cX6_leastLevelBetween 26 = .ok (.iconst 0, 1) := by decide +kernel
theorem dX6_leastLevelBetween_27 : decode cX6_leastLevelBetween 27 = .ok (.istore 5, 2) := by decide +kernel
theorem dX6_leastLevelBetween_29 : decode cX6_leastLevelBetween 29 = .ok (.iload 5, 2) := by decide +kernel
theorem dX6_leastLevelBetween_31 : decode cX6_leastLevelBetween 31 = .ok (.bipush 7, 2) := by decide +kernel
theorem dX6_leastLevelBetween_33 : decode cX6_leastLevelBetween 33 = .ok (.if_icmp .ge 68, 3) := by decide +kernel
theorem dX6_leastLevelBetween_36 : decode cX6_leastLevelBetween 36 = .ok (.iload_n 3, 1) := by decide +kernel
theorem dX6_leastLevelBetween_37 : decode cX6_leastLevelBetween 37 = .ok (.iload 4, 2) := by decide +kernel
theorem dX6_leastLevelBetween_39 : decode cX6_leastLevelBetween 39 = .ok (.if_icmp .ge 62, 3) := by decide +kernel
theorem dX6_leastLevelBetween_42 : decode cX6_leastLevelBetween 42 = .ok (.iload_n 3, 1) := by decide +kernel
theorem dX6_leastLevelBetween_43 : decode cX6_leastLevelBetween 43 = .ok (.iload 4, 2) := by decide +kernel
theorem dX6_leastLevelBetween_45 : decode cX6_leastLevelBetween 45 = .ok (.iadd, 1) := by decide +kernel
theorem dX6_leastLevelBetween_46 : decode cX6_leastLevelBetween 46 = .ok (.iconst 2, 1) := by decide +kernel
theorem dX6_leastLevelBetween_47 : decode cX6_leastLevelBetween 47 = .ok (.idiv, 1) := by decide +kernel
theorem dX6_leastLevelBetween_48 : decode cX6_leastLevelBetween 48 = .ok (.istore 6, 2) := by decide +kernel
theorem dX6_leastLevelBetween_50 : decode cX6_leastLevelBetween 50 = .ok (.aload_n 0, 1) := by decide +kernel
theorem dX6_leastLevelBetween_51 : decode cX6_leastLevelBetween 51 = .ok (.getfield 19, 3) := by decide +kernel
theorem dX6_leastLevelBetween_54 : decode cX6_leastLevelBetween 54 = .ok (.invokevirtual 164, 3) := by decide +kernel
theorem dX6_leastLevelBetween_57 : decode cX6_leastLevelBetween 57 = .ok (.aload_n 0, 1) := by decide +kernel
theorem dX6_leastLevelBetween_58 : decode cX6_leastLevelBetween 58 = .ok (.getfield 19, 3) := by decide +kernel
theorem dX6_leastLevelBetween_61 : decode cX6_leastLevelBetween 61 = .ok (.aload_n 0, 1) := by decide +kernel
theorem dX6_leastLevelBetween_62 : decode cX6_leastLevelBetween 62 = .ok (.getfield 10, 3) := by decide +kernel
theorem dX6_leastLevelBetween_65 : decode cX6_leastLevelBetween 65 = .ok (.iload_n 1, 1) := by decide +kernel
theorem dX6_leastLevelBetween_66 : decode cX6_leastLevelBetween 66 = .ok (.iconst 0, 1) := by decide +kernel
theorem dX6_leastLevelBetween_67 : decode cX6_leastLevelBetween 67 = .ok (.iload 6, 2) := by decide +kernel
theorem dX6_leastLevelBetween_69 : decode cX6_leastLevelBetween 69 = .ok (.invokevirtual 167, 3) := by decide +kernel
theorem dX6_leastLevelBetween_72 : decode cX6_leastLevelBetween 72 = .ok (.aload_n 0, 1) := by decide +kernel
theorem dX6_leastLevelBetween_73 : decode cX6_leastLevelBetween 73 = .ok (.getfield 19, 3) := by decide +kernel
theorem dX6_leastLevelBetween_76 : decode cX6_leastLevelBetween 76 = .ok (.iload_n 2, 1) := by decide +kernel
theorem dX6_leastLevelBetween_77 : decode cX6_leastLevelBetween 77 = .ok (.invokevirtual 230, 3) := by decide +kernel
theorem dX6_leastLevelBetween_80 : decode cX6_leastLevelBetween 80 = .ok (.ifCond .eq 10, 3) := by decide +kernel
theorem dX6_leastLevelBetween_83 : decode cX6_leastLevelBetween 83 = .ok (.iload 6, 2) := by decide +kernel
theorem dX6_leastLevelBetween_85 : decode cX6_leastLevelBetween 85 = .ok (.istore 4, 2) := by decide +kernel
theorem dX6_leastLevelBetween_87 : decode cX6_leastLevelBetween 87 = .ok (.goto 8, 3) := by decide +kernel
theorem dX6_leastLevelBetween_90 : decode cX6_leastLevelBetween 90 = .ok (.iload 6, 2) := by decide +kernel
theorem dX6_leastLevelBetween_92 : decode cX6_leastLevelBetween 92 = .ok (.iconst 1, 1) := by decide +kernel
theorem dX6_leastLevelBetween_93 : decode cX6_leastLevelBetween 93 = .ok (.iadd, 1) := by decide +kernel
theorem dX6_leastLevelBetween_94 : decode cX6_leastLevelBetween 94 = .ok (.istore_n 3, 1) := by decide +kernel
theorem dX6_leastLevelBetween_95 : decode cX6_leastLevelBetween 95 = .ok (.iinc 5 1, 3) := by decide +kernel
theorem dX6_leastLevelBetween_98 : decode cX6_leastLevelBetween 98 = .ok (.goto (-69), 3) := by decide +kernel
theorem dX6_leastLevelBetween_101 : decode cX6_leastLevelBetween 101 = .ok (.iload_n 3, 1) := by decide +kernel
theorem dX6_leastLevelBetween_102 : decode cX6_leastLevelBetween 102 = .ok (.ireturn, 1) := by decide +kernel
theorem dJ9_abs_0f7a4_0 : decode cJ9_abs_0f7a4 0 = .ok (.iload_n 0, 1) := by decide +kernel
theorem dJ9_abs_0f7a4_1 : decode cJ9_abs_0f7a4 1 = .ok (.ifCond .ge 8, 3) := by decide +kernel
theorem dJ9_abs_0f7a4_4 : decode cJ9_abs_0f7a4 4 = .ok (.iload_n 0, 1) := by decide +kernel
theorem dJ9_abs_0f7a4_5 : decode cJ9_abs_0f7a4 5 = .ok (.ineg, 1) := by decide +kernel
theorem dJ9_abs_0f7a4_6 : decode cJ9_abs_0f7a4 6 = .ok (.goto 4, 3) := by decide +kernel
theorem dJ9_abs_0f7a4_9 : decode cJ9_abs_0f7a4 9 = .ok (.iload_n 0, 1) := by decide +kernel
theorem dJ9_abs_0f7a4_10 : decode cJ9_abs_0f7a4 10 = .ok (.ireturn, 1) := by decide +kernel
theorem dJ9_max_7cf53_0 : decode cJ9_max_7cf53 0 = .ok (.iload_n 0, 1) := by decide +kernel
theorem dJ9_max_7cf53_1 : decode cJ9_max_7cf53 1 = .ok (.iload_n 1, 1) := by decide +kernel
theorem dJ9_max_7cf53_2 : decode cJ9_max_7cf53 2 = .ok (.if_icmp .lt 7, 3) := by decide +kernel
theorem dJ9_max_7cf53_5 : decode cJ9_max_7cf53 5 = .ok (.iload_n 0, 1) := by decide +kernel
theorem dJ9_max_7cf53_6 : decode cJ9_max_7cf53 6 = .ok (.goto 4, 3) := by decide +kernel
theorem dJ9_max_7cf53_9 : decode cJ9_max_7cf53 9 = .ok (.iload_n 1, 1) := by decide +kernel
theorem dJ9_max_7cf53_10 : decode cJ9_max_7cf53 10 = .ok (.ireturn, 1) := by decide +kernel
theorem dJ9_min_7cf53_0 : decode cJ9_min_7cf53 0 = .ok (.iload_n 0, 1) := by decide +kernel
theorem dJ9_min_7cf53_1 : decode cJ9_min_7cf53 1 = .ok (.iload_n 1, 1) := by decide +kernel
theorem dJ9_min_7cf53_2 : decode cJ9_min_7cf53 2 = .ok (.if_icmp .gt 7, 3) := by decide +kernel
theorem dJ9_min_7cf53_5 : decode cJ9_min_7cf53 5 = .ok (.iload_n 0, 1) := by decide +kernel
theorem dJ9_min_7cf53_6 : decode cJ9_min_7cf53 6 = .ok (.goto 4, 3) := by decide +kernel
theorem dJ9_min_7cf53_9 : decode cJ9_min_7cf53 9 = .ok (.iload_n 1, 1) := by decide +kernel
theorem dJ9_min_7cf53_10 : decode cJ9_min_7cf53 10 = .ok (.ireturn, 1) := by decide +kernel
theorem dJ7_fill_53178_0 : decode cJ7_fill_53178 0 = .ok (.iconst 0, 1) := by decide +kernel
theorem dJ7_fill_53178_1 : decode cJ7_fill_53178 1 = .ok (.istore_n 2, 1) := by decide +kernel
theorem dJ7_fill_53178_2 : decode cJ7_fill_53178 2 = .ok (.aload_n 0, 1) := by decide +kernel
theorem dJ7_fill_53178_3 : decode cJ7_fill_53178 3 = .ok (.arraylength, 1) := by decide +kernel
theorem dJ7_fill_53178_4 : decode cJ7_fill_53178 4 = .ok (.istore_n 3, 1) := by decide +kernel
theorem dJ7_fill_53178_5 : decode cJ7_fill_53178 5 = .ok (.iload_n 2, 1) := by decide +kernel
theorem dJ7_fill_53178_6 : decode cJ7_fill_53178 6 = .ok (.iload_n 3, 1) := by decide +kernel
theorem dJ7_fill_53178_7 : decode cJ7_fill_53178 7 = .ok (.if_icmp .ge 13, 3) := by decide +kernel
theorem dJ7_fill_53178_10 : decode cJ7_fill_53178 10 = .ok (.aload_n 0, 1) := by decide +kernel
theorem dJ7_fill_53178_11 : decode cJ7_fill_53178 11 = .ok (.iload_n 2, 1) := by decide +kernel
theorem dJ7_fill_53178_12 : decode cJ7_fill_53178 12 = .ok (.iload_n 1, 1) := by decide +kernel
theorem dJ7_fill_53178_13 : decode cJ7_fill_53178 13 = .ok (.iastore, 1) := by decide +kernel
theorem dJ7_fill_53178_14 : decode cJ7_fill_53178 14 = .ok (.iinc 2 1, 3) := by decide +kernel
theorem dJ7_fill_53178_17 : decode cJ7_fill_53178 17 = .ok (.goto (-12), 3) := by decide +kernel
theorem dJ7_fill_53178_20 : decode cJ7_fill_53178 20 = .ok (.return_, 1) := by decide +kernel
end
section
theorem dX7_init_0 : decode cX7_init 0 = .ok (.aload_n 0, 1) := by decide +kernel
theorem dX7_init_1 : decode cX7_init 1 = .ok (.invokespecial 1, 3) := by decide +kernel
theorem dX7_init_4 : decode cX7_init 4 = .ok (.aload_n 0, 1) := by decide +kernel
theorem dX7_init_5 : decode cX7_init 5 = .ok (.sipush 292, 3) := by decide +kernel
theorem dX7_init_8 : decode cX7_init 8 = .ok (.newarray .int, 2) := by decide +kernel
theorem dX7_init_10 : decode cX7_init 10 = .ok (.putfield 7, 3) := by decide +kernel
theorem dX7_init_13 : decode cX7_init 13 = .ok (.aload_n 0, 1) := by decide +kernel
theorem dX7_init_14 : decode cX7_init 14 = .ok (.sipush 584, 3) := by decide +kernel
theorem dX7_init_17 : decode cX7_init 17 = .ok (.newarray .int, 2) := by decide +kernel
theorem dX7_init_19 : decode cX7_init 19 = .ok (.putfield 13, 3) := by decide +kernel
theorem dX7_init_22 : decode cX7_init 22 = .ok (.aload_n 0, 1) := by decide +kernel
theorem dX7_init_23 : decode cX7_init 23 = .ok (.iconst 2, 1) := by decide +kernel
theorem dX7_init_24 : decode cX7_init 24 = .ok (.newarray .boolean, 2) := by decide +kernel
theorem dX7_init_26 : decode cX7_init 26 = .ok (.putfield 16, 3) := by decide +kernel
theorem dX7_init_29 : decode cX7_init 29 = .ok (.aload_n 0, 1) := by decide +kernel
theorem dX7_init_30 : decode cX7_init 30 = .ok (.sipush 144, 3) := by decide +kernel
theorem dX7_init_33 : decode cX7_init 33 = .ok (.newarray .int, 2) := by decide +kernel
theorem dX7_init_35 : decode cX7_init 35 = .ok (.putfield 20, 3) := by decide +kernel
theorem dX7_init_38 : decode cX7_init 38 = .ok (.aload_n 0, 1) := by decide +kernel
theorem dX7_init_39 : decode cX7_init 39 = .ok (.sipush 144, 3) := by decide +kernel
theorem dX7_init_42 : decode cX7_init 42 = .ok (.newarray .int, 2) := by decide +kernel
theorem dX7_init_44 : decode cX7_init 44 = .ok (.putfield 23, 3) := by decide +kernel
theorem dX7_init_47 : decode cX7_init 47 = .ok (.aload_n 0, 1) := by decide +kernel
theorem dX7_init_48 : decode cX7_init 48 = .ok (.sipush 144, 3) := by decide +kernel
theorem dX7_init_51 : decode cX7_init 51 = .ok (.newarray .boolean, 2) := by decide +kernel
theorem dX7_init_53 : decode cX7_init 53 = .ok (.putfield 26, 3) := by decide +kernel
theorem dX7_init_56 : decode cX7_init 56 = .ok (.aload_n 0, 1) := by decide +kernel
theorem dX7_init_57 : decode cX7_init 57 = .ok (.sipush 144, 3) := by decide +kernel
theorem dX7_init_60 : decode cX7_init 60 = .ok (.newarray .int, 2) := by decide +kernel
theorem dX7_init_62 : decode cX7_init 62 = .ok (.putfield 29, 3) := by decide +kernel
theorem dX7_init_65 : decode cX7_init 65 = .ok (.aload_n 0, 1) := by decide +kernel
theorem dX7_init_66 : decode cX7_init 66 = .ok (.sipush 144, 3) := by decide +kernel
theorem dX7_init_69 : decode cX7_init 69 = .ok (.newarray .int, 2) := by decide +kernel
theorem dX7_init_71 : decode cX7_init 71 = .ok (.putfield 32, 3) := by decide +kernel
theorem dX7_init_74 : decode cX7_init 74 = .ok (.aload_n 0, 1) := by decide +kernel
theorem dX7_init_75 : decode cX7_init 75 = .ok (.sipush 144, 3) := by decide +kernel
theorem dX7_init_78 : decode cX7_init 78 = .ok (.newarray .int, 2) := by decide +kernel
theorem dX7_init_80 : decode cX7_init 80 = .ok (.putfield 35, 3) := by decide +kernel
theorem dX7_init_83 : decode cX7_init 83 = .ok (.aload_n 0, 1) := by decide +kernel
theorem dX7_init_84 : decode cX7_init 84 = .ok (.sipush 144, 3) := by decide +kernel
theorem dX7_init_87 : decode cX7_init 87 = .ok (.newarray .int, 2) := by decide +kernel
theorem dX7_init_89 : decode cX7_init 89 = .ok (.putfield 38, 3) := by decide +kernel
theorem dX7_init_92 : decode cX7_init 92 = .ok (.aload_n 0, 1) := by decide +kernel
theorem dX7_init_93 : decode cX7_init 93 = .ok (.sipush 144, 3) := by decide +kernel
theorem dX7_init_96 : decode cX7_init 96 = .ok (.newarray .boolean, 2) := by decide +kernel
theorem dX7_init_98 : decode cX7_init 98 = .ok (.putfield 41, 3) := by decide +kernel
theorem dX7_init_101 : decode cX7_init 101 = .ok (.aload_n 0, 1) := by decide +kernel
theorem dX7_init_102 : decode cX7_init 102 = .ok (.sipush 144, 3) := by decide +kernel
theorem dX7_init_105 : decode cX7_init 105 = .ok (.newarray .int, 2) := by decide +kernel
theorem dX7_init_107 : decode cX7_init 107 = .ok (.putfield 44, 3) := by decide +kernel
theorem dX7_init_110 : decode cX7_init 110 = .ok (.aload_n 0, 1) := by decide +kernel
theorem dX7_init_111 : decode cX7_init 111 = .ok (.bipush 100, 2) := by decide +kernel
theorem dX7_init_113 : decode cX7_init 113 = .ok (.newarray .int, 2) := by decide +kernel
theorem dX7_init_115 : decode cX7_init 115 = .ok (.putfield 47, 3) := by decide +kernel
theorem dX7_init_118 : decode cX7_init 118 = .ok (.aload_n 0, 1) := by decide +kernel
theorem dX7_init_119 : decode cX7_init 119 = .ok (.bipush 100, 2) := by decide +kernel
theorem dX7_init_121 : decode cX7_init 121 = .ok (.newarray .int, 2) := by decide +kernel
theorem dX7_init_123 : decode cX7_init 123 = .ok (.putfield 50, 3) := by decide +kernel
theorem dX7_init_126 : decode cX7_init 126 = .ok (.aload_n 0, 1) := by decide +kernel
theorem dX7_init_127 : decode cX7_init 127 = .ok (.bipush 100, 2) := by decide +kernel
theorem dX7_init_129 : decode cX7_init 129 = .ok (.newarray .int, 2) := by decide +kernel
theorem dX7_init_131 : decode cX7_init 131 = .ok (.putfield 53, 3) := by decide +kernel
theorem dX7_init_134 : decode cX7_init 134 = .ok (.aload_n 0, 1) := by decide +kernel
theorem dX7_init_135 : decode cX7_init 135 = .ok (.bipush 100, 2) := by decide +kernel
theorem dX7_init_137 : decode cX7_init 137 = .ok (.newarray .int, 2) := by decide +kernel
theorem dX7_init_139 : decode cX7_init 139 = .ok (.putfield 56, 3) := by decide +kernel
theorem dX7_init_142 : decode cX7_init 142 = .ok (.aload_n 0, 1) := by decide +kernel
theorem dX7_init_143 : decode cX7_init 143 = .ok (.bipush 100, 2) := by decide +kernel
theorem dX7_init_145 : decode cX7_init 145 = .ok (.newarray .int, 2) := by decide +kernel
theorem dX7_init_147 : decode cX7_init 147 = .ok (.putfield 59, 3) := by decide +kernel
theorem dX7_init_150 : decode cX7_init 150 = .ok (.aload_n 0, 1) := by decide +kernel
theorem dX7_init_151 : decode cX7_init 151 = .ok (.sipush 144, 3) := by decide +kernel
theorem dX7_init_154 : decode cX7_init 154 = .ok (.newarray .int, 2) := by decide +kernel
theorem dX7_init_156 : decode cX7_init 156 = .ok (.putfield 62, 3) := by decide +kernel
theorem dX7_init_159 : decode cX7_init 159 = .ok (.aload_n 0, 1) := by decide +kernel
theorem dX7_init_160 : decode cX7_init 160 = .ok (.getfield 7, 3) := by decide +kernel
theorem dX7_init_163 : decode cX7_init 163 = .ok (.sipush 288, 3) := by decide +kernel
theorem dX7_init_166 : decode cX7_init 166 = .ok (.bipush 8, 2) := by decide +kernel
theorem dX7_init_168 : decode cX7_init 168 = .ok (.iastore, 1) := by decide +kernel
theorem dX7_init_169 : decode cX7_init 169 = .ok (.aload_n 0, 1) := by decide +kernel
theorem dX7_init_170 : decode cX7_init 170 = .ok (.getfield 7, 3) := by decide +kernel
theorem dX7_init_173 : decode cX7_init 173 = .ok (.sipush 289, 3) := by decide +kernel
theorem dX7_init_176 : decode cX7_init 176 = .ok (.bipush 8, 2) := by decide +kernel
theorem dX7_init_178 : decode cX7_init 178 = .ok (.iastore, 1) := by decide +kernel
theorem dX7_init_179 : decode cX7_init 179 = .ok (.return_, 1) := by decide +kernel
theorem dX7_in_0 : decode cX7_in 0 = .ok (.iload_n 0, 1) := by decide +kernel
theorem dX7_in_1 : decode cX7_in 1 = .ok (.iload_n 1, 1) := by decide +kernel
theorem dX7_in_2 : decode cX7_in 2 = .ok (.if_icmp .lt 12, 3) := by decide +kernel
theorem dX7_in_5 : decode cX7_in 5 = .ok (.iload_n 0, 1) := by decide +kernel
theorem dX7_in_6 : decode cX7_in 6 = .ok (.iload_n 2, 1) := by decide +kernel
theorem dX7_in_7 : decode cX7_in 7 = .ok (.if_icmp .gt 7, 3) := by decide +kernel
theorem dX7_in_10 : decode cX7_in 10 = .ok (.iconst 1, 1) := by decide +kernel
theorem dX7_in_11 : decode cX7_in 11 = .ok (.goto 4, 3) := by decide +kernel
theorem dX7_in_14 : decode cX7_in 14 = .ok (.iconst 0, 1) := by decide +kernel
theorem dX7_in_15 : decode cX7_in 15 = .ok (.ireturn, 1) := by decide +kernel
theorem dX7_isDot_0 : decode cX7_isDot 0 = .ok (.iload_n 1, 1) := by decide +kernel
theorem dX7_isDot_1 : decode cX7_isDot 1 = .ok (.iconst 0, 1) := by decide +kernel
theorem dX7_isDot_2 : decode cX7_isDot 2 = .ok (.aload_n 0, 1) := by decide +kernel
theorem dX7_isDot_3 : decode cX7_isDot 3 = .ok (.getfield 7, 3) := by decide +kernel
theorem dX7_isDot_6 : decode cX7_isDot 6 = .ok (.sipush 288, 3) := by decide +kernel
theorem dX7_isDot_9 : decode cX7_isDot 9 = .ok (.iaload, 1) := by decide +kernel
theorem dX7_isDot_10 : decode cX7_isDot 10 = .ok (.iconst 1, 1) := by decide +kernel
theorem dX7_isDot_11 : decode cX7_isDot 11 = .ok (.isub, 1) := by decide +kernel
theorem dX7_isDot_12 : decode cX7_isDot 12 = .ok (.invokestatic 65, 3) := by decide +kernel
theorem dX7_isDot_15 : decode cX7_isDot 15 = .ok (.ifCond .eq 25, 3) := by decide +kernel
theorem dX7_isDot_18 : decode cX7_isDot 18 = .ok (.iload_n 2, 1) := by decide +kernel
theorem dX7_isDot_19 : decode cX7_isDot 19 = .ok (.iconst 0, 1) := by decide +kernel
theorem dX7_isDot_20 : decode cX7_isDot 20 = .ok (.aload_n 0, 1) := by decide +kernel
theorem dX7_isDot_21 : decode cX7_isDot 21 = .ok (.getfield 7, 3) := by decide +kernel
theorem dX7_isDot_24 : decode cX7_isDot 24 = .ok (.sipush 289, 3) := by decide +kernel
theorem dX7_isDot_27 : decode cX7_isDot 27 = .ok (.iaload, 1) := by decide +kernel
theorem dX7_isDot_28 : decode cX7_isDot 28 = .ok (.iconst 1, 1) := by decide +kernel
theorem dX7_isDot_29 : decode cX7_isDot 29 = .ok (.isub, 1) := by decide +kernel
theorem dX7_isDot_30 : decode cX7_isDot 30 = .ok (.invokestatic 65, 3) := by decide +kernel
theorem dX7_isDot_33 : decode cX7_isDot 33 = .ok (.ifCond .eq 7, 3) := by decide +kernel
theorem dX7_isDot_36 : decode cX7_isDot 36 = .ok (.iconst 1, 1) := by decide +kernel
theorem dX7_isDot_37 : decode cX7_isDot 37 = .ok (.goto 4, 3) := by decide +kernel
theorem dX7_isDot_40 : decode cX7_isDot 40 = .ok (.iconst 0, 1) := by decide +kernel
theorem dX7_isDot_41 : decode cX7_isDot 41 = .ok (.ireturn, 1) := by decide +kernel
theorem dX7_dots_0 : decode cX7_dots 0 = .ok (.aload_n 0, 1) := by decide +kernel
theorem dX7_dots_1 : decode cX7_dots 1 = .ok (.getfield 7, 3) := by decide +kernel
theorem dX7_dots_4 : decode cX7_dots 4 = .ok (.sipush 288, 3) := by decide +kernel
theorem dX7_dots_7 : decode cX7_dots 7 = .ok (.iaload, 1) := by decide +kernel
theorem dX7_dots_8 : decode cX7_dots 8 = .ok (.aload_n 0, 1) := by decide +kernel
theorem dX7_dots_9 : decode cX7_dots 9 = .ok (.getfield 7, 3) := by decide +kernel
theorem dX7_dots_12 : decode cX7_dots 12 = .ok (.sipush 289, 3) := by decide +kernel
theorem dX7_dots_15 : decode cX7_dots 15 = .ok (.iaload, 1) := by decide +kernel
theorem dX7_dots_16 : decode cX7_dots 16 = .ok (.imul, 1) := by decide +kernel
theorem dX7_dots_17 : decode cX7_dots 17 = .ok (.ireturn, 1) := by decide +kernel
theorem dX7_at_0 : decode cX7_at 0 = .ok (.aload_n 0, 1) := by decide +kernel
theorem dX7_at_1 : decode cX7_at 1 = .ok (.getfield 7, 3) := by decide +kernel
theorem dX7_at_4 : decode cX7_at 4 = .ok (.sipush 288, 3) := by decide +kernel
theorem dX7_at_7 : decode cX7_at 7 = .ok (.iaload, 1) := by decide +kernel
theorem dX7_at_8 : decode cX7_at 8 = .ok (.iload_n 2, 1) := by decide +kernel
theorem dX7_at_9 : decode cX7_at 9 = .ok (.imul, 1) := by decide +kernel
theorem dX7_at_10 : decode cX7_at 10 = .ok (.iload_n 1, 1) := by decide +kernel
theorem dX7_at_11 : decode cX7_at 11 = .ok (.iadd, 1) := by decide +kernel
theorem dX7_at_12 : decode cX7_at 12 = .ok (.ireturn, 1) := by decide +kernel
theorem dX7_beside_0 : decode cX7_beside 0 = .ok (.iload_n 1, 1) := by decide +kernel
theorem dX7_beside_1 : decode cX7_beside 1 = .ok (.aload_n 0, 1) := by decide +kernel
theorem dX7_beside_2 : decode cX7_beside 2 = .ok (.getfield 7, 3) := by decide +kernel
theorem dX7_beside_5 : decode cX7_beside 5 = .ok (.sipush 288, 3) := by decide +kernel
theorem dX7_beside_8 : decode cX7_beside 8 = .ok (.iaload, 1) := by decide +kernel
theorem dX7_beside_9 : decode cX7_beside 9 = .ok (.irem, 1) := by decide +kernel
theorem dX7_beside_10 : decode cX7_beside 10 = .ok (.iload_n 2, 1) := by decide +kernel
theorem dX7_beside_11 : decode cX7_beside 11 = .ok (.ifCond .ne 7, 3) := by decide +kernel
theorem dX7_beside_14 : decode cX7_beside 14 = .ok (.iconst 1, 1) := by decide +kernel
theorem dX7_beside_15 : decode cX7_beside 15 = .ok (.goto 13, 3) := by decide +kernel
theorem dX7_beside_18 : decode cX7_beside 18 = .ok (.iload_n 2, 1) := by decide +kernel
theorem dX7_beside_19 : decode cX7_beside 19 = .ok (.iconst 2, 1) := by decide +kernel
theorem dX7_beside_20 : decode cX7_beside 20 = .ok (.if_icmp .ne 7, 3) := by decide +kernel
theorem dX7_beside_23 : decode cX7_beside 23 = .ok (.iconst (-1), 1) := by decide +kernel
theorem dX7_beside_24 : decode cX7_beside 24 = .ok (.goto 4, 3) := by decide +kernel
theorem dX7_beside_27 : decode cX7_beside 27 = .ok (.iconst 0, 1) := by decide +kernel
theorem dX7_beside_28 : decode cX7_beside 28 = .ok (.iadd, 1) := by decide +kernel
theorem dX7_beside_29 : decode cX7_beside 29 = .ok (.istore_n 3, 1) := by decide +kernel
theorem dX7_beside_30 : decode cX7_beside 30 = .ok (.iload_n 1, 1) := by decide +kernel
theorem dX7_beside_31 : decode cX7_beside 31 = .ok (.aload_n 0, 1) := by decide +kernel
theorem dX7_beside_32 : decode cX7_beside 32 = .ok (.getfield 7, 3) := by decide +kernel
theorem dX7_beside_35 : decode cX7_beside 35 = .ok (.sipush 288, 3) := by decide +kernel
theorem dX7_beside_38 : decode cX7_beside 38 = .ok (.iaload, 1) := by decide +kernel
theorem dX7_beside_39 : decode cX7_beside 39 = .ok (.idiv, 1) := by decide +kernel
theorem dX7_beside_40 : decode cX7_beside 40 = .ok (.iload_n 2, 1) := by decide +kernel
theorem dX7_beside_41 : decode cX7_beside 41 = .ok (.iconst 1, 1) := by decide +kernel
theorem dX7_beside_42 : decode cX7_beside 42 = .ok (.if_icmp .ne 7, 3) := by decide +kernel
theorem dX7_beside_45 : decode cX7_beside 45 = .ok (.iconst 1, 1) := by decide +kernel
theorem dX7_beside_46 : decode cX7_beside 46 = .ok (.goto 13, 3) := by decide +kernel
theorem dX7_beside_49 : decode cX7_beside 49 = .ok (.iload_n 2, 1) := by decide +kernel
theorem dX7_beside_50 : decode cX7_beside 50 = .ok (.iconst 3, 1) := by decide +kernel
theorem dX7_beside_51 : decode cX7_beside 51 = .ok (.if_icmp .ne 7, 3) := by decide +kernel
theorem dX7_beside_54 : decode cX7_beside 54 = .ok (.iconst (-1), 1) := by decide +kernel
theorem dX7_beside_55 : decode cX7_beside 55 = .ok (.goto 4, 3) := by decide +kernel
theorem dX7_beside_58 : decode cX7_beside 58 = .ok (.iconst 0, 1) := by decide +kernel
theorem dX7_beside_59 : decode cX7_beside 59 = .ok (.iadd, 1) := by decide +kernel
theorem dX7_beside_60 : decode cX7_beside 60 = .ok (.istore 4, 2) := by decide +kernel
theorem dX7_beside_62 : decode cX7_beside 62 = .ok (.aload_n 0, 1) := by decide +kernel
theorem dX7_beside_63 : decode cX7_beside 63 = .ok (.iload_n 3, 1) := by decide +kernel
theorem dX7_beside_64 : decode cX7_beside 64 = .ok (.iload 4, 2) := by decide +kernel
theorem dX7_beside_66 : decode cX7_beside 66 = .ok (.invokevirtual 69, 3) := by decide +kernel
theorem dX7_beside_69 : decode cX7_beside 69 = .ok (.ifCond .eq 13, 3) := by decide +kernel
theorem dX7_beside_72 : decode cX7_beside 72 = .ok (.aload_n 0, 1) := by decide +kernel
theorem dX7_beside_73 : decode cX7_beside 73 = .ok (.iload_n 3, 1) := by decide +kernel
theorem dX7_beside_74 : decode cX7_beside 74 = .ok (.iload 4, 2) := by decide +kernel
theorem dX7_beside_76 : decode cX7_beside 76 = .ok (.invokevirtual 73, 3) := by decide +kernel
theorem dX7_beside_79 : decode cX7_beside 79 = .ok (.goto 5, 3) := by decide +kernel
theorem dX7_beside_82 : decode cX7_beside 82 = .ok (.bipush (-6), 2) := by decide +kernel
theorem dX7_beside_84 : decode cX7_beside 84 = .ok (.ireturn, 1) := by decide +kernel
theorem dX7_greater_0 : decode cX7_greater 0 = .ok (.iload_n 0, 1) := by decide +kernel
theorem dX7_greater_1 : decode cX7_greater 1 = .ok (.iload_n 1, 1) := by decide +kernel
theorem dX7_greater_2 : decode cX7_greater 2 = .ok (.if_icmp .le 7, 3) := by decide +kernel
theorem dX7_greater_5 : decode cX7_greater 5 = .ok (.iload_n 0, 1) := by decide +kernel
theorem dX7_greater_6 : decode cX7_greater 6 = .ok (.goto 4, 3) := by decide +kernel
theorem dX7_greater_9 : decode cX7_greater 9 = .ok (.iload_n 1, 1) := by decide +kernel
theorem dX7_greater_10 : decode cX7_greater 10 = .ok (.ireturn, 1) := by decide +kernel
theorem dX7_size_0 : decode cX7_size 0 = .ok (.iload_n 0, 1) := by decide +kernel
theorem dX7_size_1 : decode cX7_size 1 = .ok (.ifCond .ge 8, 3) := by decide +kernel
theorem dX7_size_4 : decode cX7_size 4 = .ok (.iload_n 0, 1) := by decide +kernel
theorem dX7_size_5 : decode cX7_size 5 = .ok (.ineg, 1) := by decide +kernel
theorem dX7_size_6 : decode cX7_size 6 = .ok (.goto 4, 3) := by decide +kernel
theorem dX7_size_9 : decode cX7_size 9 = .ok (.iload_n 0, 1) := by decide +kernel
theorem dX7_size_10 : decode cX7_size 10 = .ok (.ireturn, 1) := by decide +kernel
theorem dX7_spread_0 : decode cX7_spread 0 = .ok (.iconst 0, 1) := by decide +kernel
theorem dX7_spread_1 : decode cX7_spread 1 = .ok (.istore 4, 2) := by decide +kernel
theorem dX7_spread_3 : decode cX7_spread 3 = .ok (.iload 4, 2) := by decide +kernel
theorem dX7_spread_5 : decode cX7_spread 5 = .ok (.sipush 144, 3) := by decide +kernel
theorem dX7_spread_8 : decode cX7_spread 8 = .ok (.if_icmp .ge 17, 3) := by decide +kernel
theorem dX7_spread_11 : decode cX7_spread 11 = .ok (.aload_n 0, 1) := by decide +kernel
theorem dX7_spread_12 : decode cX7_spread 12 = .ok (.getfield 26, 3) := by decide +kernel
theorem dX7_spread_15 : decode cX7_spread 15 = .ok (.iload 4, 2) := by decide +kernel
theorem dX7_spread_17 : decode cX7_spread 17 = .ok (.iconst 0, 1) := by decide +kernel
theorem dX7_spread_18 : decode cX7_spread 18 = .ok (.bastore, 1) := by decide +kernel
theorem dX7_spread_19 : decode cX7_spread 19 = .ok (.iinc 4 1, 3) := by decide +kernel
theorem dX7_spread_22 : decode cX7_spread 22 = .ok (.goto (-19), 3) := by decide +kernel
theorem dX7_spread_25 : decode cX7_spread 25 = .ok (.iconst 1, 1) := by decide +kernel
theorem dX7_spread_26 : decode cX7_spread 26 = .ok (.istore 4, 2) := by decide +kernel
theorem dX7_spread_28 : decode cX7_spread 28 = .ok (.aload_n 0, 1) := by decide +kernel
theorem dX7_spread_29 : decode cX7_spread 29 = .ok (.getfield 23, 3) := by decide +kernel
theorem dX7_spread_32 : decode cX7_spread 32 = .ok (.iconst 0, 1) := by decide +kernel
theorem dX7_spread_33 : decode cX7_spread 33 = .ok (.iload_n 1, 1) := by decide +kernel
theorem dX7_spread_34 : decode cX7_spread 34 = .ok (.iastore, 1) := by decide +kernel
theorem dX7_spread_35 : decode cX7_spread 35 = .ok (.aload_n 0, 1) := by decide +kernel
theorem dX7_spread_36 : decode cX7_spread 36 = .ok (.getfield 26, 3) := by decide +kernel
theorem dX7_spread_39 : decode cX7_spread 39 = .ok (.iload_n 1, 1) := by decide +kernel
theorem dX7_spread_40 : decode cX7_spread 40 = .ok (.iconst 1, 1) := by decide +kernel
theorem dX7_spread_41 : decode cX7_spread 41 = .ok (.bastore, 1) := by decide +kernel
theorem dX7_spread_42 : decode cX7_spread 42 = .ok (.iconst 0, 1) := by decide +kernel
theorem dX7_spread_43 : decode cX7_spread 43 = .ok (.istore 5, 2) := by decide +kernel
theorem dX7_spread_45 : decode cX7_spread 45 = .ok (.iload 5, 2) := by decide +kernel
theorem dX7_spread_47 : decode cX7_spread 47 = .ok (.iload 4, 2) := by decide +kernel
theorem dX7_spread_49 : decode cX7_spread 49 = .ok (.if_icmp .ge 103, 3) := by decide +kernel
theorem dX7_spread_52 : decode cX7_spread 52 = .ok (.iconst 0, 1) := by decide +kernel
theorem dX7_spread_53 : decode cX7_spread 53 = .ok (.istore 6, 2) := by decide +kernel
theorem dX7_spread_55 : decode cX7_spread 55 = .ok (.iload 6, 2) := by decide +kernel
theorem dX7_spread_57 : decode cX7_spread 57 = .ok (.iconst 4, 1) := by decide +kernel
theorem dX7_spread_58 : decode cX7_spread 58 = .ok (.if_icmp .ge 88, 3) := by decide +kernel
theorem dX7_spread_61 : decode cX7_spread 61 = .ok (.aload_n 0, 1) := by decide +kernel
theorem dX7_spread_62 : decode cX7_spread 62 = .ok (.aload_n 0, 1) := by decide +kernel
theorem dX7_spread_63 : decode cX7_spread 63 = .ok (.getfield 23, 3) := by decide +kernel
theorem dX7_spread_66 : decode cX7_spread 66 = .ok (.iload 5, 2) := by decide +kernel
theorem dX7_spread_68 : decode cX7_spread 68 = .ok (.iaload, 1) := by decide +kernel
theorem dX7_spread_69 : decode cX7_spread 69 = .ok (.iload 6, 2) := by decide +kernel
theorem dX7_spread_71 : decode cX7_spread 71 = .ok (.invokevirtual 77, 3) := by decide +kernel
theorem dX7_spread_74 : decode cX7_spread 74 = .ok (.istore 7, 2) := by decide +kernel
theorem dX7_spread_76 : decode cX7_spread 76 = .ok (.iload 7, 2) := by decide +kernel
theorem dX7_spread_78 : decode cX7_spread 78 = .ok (.ifCond .lt 62, 3) := by decide +kernel
theorem dX7_spread_81 : decode cX7_spread 81 = .ok (.aload_n 0, 1) := by decide +kernel
theorem dX7_spread_82 : decode cX7_spread 82 = .ok (.getfield 26, 3) := by decide +kernel
theorem dX7_spread_85 : decode cX7_spread 85 = .ok (.iload 7, 2) := by decide +kernel
theorem dX7_spread_87 : decode cX7_spread 87 = .ok (.baload, 1) := by decide +kernel
theorem dX7_spread_88 : decode cX7_spread 88 = .ok (.ifCond .ne 52, 3) := by decide +kernel
theorem dX7_spread_91 : decode cX7_spread 91 = .ok (.iload_n 3, 1) := by decide +kernel
theorem dX7_spread_92 : decode cX7_spread 92 = .ok (.ifCond .eq 17, 3) := by decide +kernel
theorem dX7_spread_95 : decode cX7_spread 95 = .ok (.aload_n 0, 1) := by decide +kernel
theorem dX7_spread_96 : decode cX7_spread 96 = .ok (.getfield 7, 3) := by decide +kernel
theorem dX7_spread_99 : decode cX7_spread 99 = .ok (.iload 7, 2) := by decide +kernel
theorem dX7_spread_101 : decode cX7_spread 101 = .ok (.iaload, 1) := by decide +kernel
theorem dX7_spread_102 : decode cX7_spread 102 = .ok (.iload_n 2, 1) := by decide +kernel
theorem dX7_spread_103 : decode cX7_spread 103 = .ok (.if_icmp .ne 37, 3) := by decide +kernel
theorem dX7_spread_106 : decode cX7_spread 106 = .ok (.goto 14, 3) := by decide +kernel
theorem dX7_spread_109 : decode cX7_spread 109 = .ok (.aload_n 0, 1) := by decide +kernel
theorem dX7_spread_110 : decode cX7_spread 110 = .ok (.getfield 7, 3) := by decide +kernel
theorem dX7_spread_113 : decode cX7_spread 113 = .ok (.iload 7, 2) := by decide +kernel
theorem dX7_spread_115 : decode cX7_spread 115 = .ok (.iaload, 1) := by decide +kernel
theorem dX7_spread_116 : decode cX7_spread 116 = .ok (.iload_n 2, 1) := by decide +kernel
theorem dX7_spread_117 : decode cX7_spread 117 = .ok (.if_icmp .gt 23, 3) := by decide +kernel
theorem dX7_spread_120 : decode cX7_spread 120 = .ok (.aload_n 0, 1) := by decide +kernel
theorem dX7_spread_121 : decode cX7_spread 121 = .ok (.getfield 26, 3) := by decide +kernel
theorem dX7_spread_124 : decode cX7_spread 124 = .ok (.iload 7, 2) := by decide +kernel
theorem dX7_spread_126 : decode cX7_spread 126 = .ok (.iconst 1, 1) := by decide +kernel
theorem dX7_spread_127 : decode cX7_spread 127 = .ok (.bastore, 1) := by decide +kernel
theorem dX7_spread_128 : decode cX7_spread 128 = .ok (.aload_n 0, 1) := by decide +kernel
theorem dX7_spread_129 : decode cX7_spread 129 = .ok (.getfield 23, 3) := by decide +kernel
theorem dX7_spread_132 : decode cX7_spread 132 = .ok (.iload 4, 2) := by decide +kernel
theorem dX7_spread_134 : decode cX7_spread 134 = .ok (.iload 7, 2) := by decide +kernel
theorem dX7_spread_136 : decode cX7_spread 136 = .ok (.iastore, 1) := by decide +kernel
theorem dX7_spread_137 : decode cX7_spread 137 = .ok (.iinc 4 1, 3) := by decide +kernel
theorem dX7_spread_140 : decode cX7_spread 140 = .ok (.iinc 6 1, 3) := by decide +kernel
theorem dX7_spread_143 : decode cX7_spread 143 = .ok (.goto (-88), 3) := by decide +kernel
theorem dX7_spread_146 : decode cX7_spread 146 = .ok (.iinc 5 1, 3) := by decide +kernel
theorem dX7_spread_149 : decode cX7_spread 149 = .ok (.goto (-104), 3) := by decide +kernel
theorem dX7_spread_152 : decode cX7_spread 152 = .ok (.iload 4, 2) := by decide +kernel
theorem dX7_spread_154 : decode cX7_spread 154 = .ok (.ireturn, 1) := by decide +kernel
theorem dX7_leastBeside_0 : decode cX7_leastBeside 0 = .ok (.bipush (-6), 2) := by decide +kernel
theorem dX7_leastBeside_2 : decode cX7_leastBeside 2 = .ok (.istore_n 2, 1) := by decide +kernel
theorem dX7_leastBeside_3 : decode cX7_leastBeside 3 = .ok (.iconst 0, 1) := by decide +kernel
theorem dX7_leastBeside_4 : decode cX7_leastBeside 4 = .ok (.istore_n 3, 1) := by decide +kernel
theorem dX7_leastBeside_5 : decode cX7_leastBeside 5 = .ok (.iload_n 3, 1) := by decide +kernel
theorem dX7_leastBeside_6 : decode cX7_leastBeside 6 = .ok (.iload_n 1, 1) := by decide +kernel
theorem dX7_leastBeside_7 : decode cX7_leastBeside 7 = .ok (.if_icmp .ge 76, 3) := by decide +kernel
theorem dX7_leastBeside_10 : decode cX7_leastBeside 10 = .ok (.iconst 0, 1) := by decide +kernel
theorem dX7_leastBeside_11 : decode cX7_leastBeside 11 = .ok (.istore 4, 2) := by decide +kernel
theorem dX7_leastBeside_13 : decode cX7_leastBeside 13 = .ok (.iload 4, 2) := by decide +kernel
theorem dX7_leastBeside_15 : decode cX7_leastBeside 15 = .ok (.iconst 4, 1) := by decide +kernel
theorem dX7_leastBeside_16 : decode cX7_leastBeside 16 = .ok (.if_icmp .ge 61, 3) := by decide +kernel
theorem dX7_leastBeside_19 : decode cX7_leastBeside 19 = .ok (.aload_n 0, 1) := by decide +kernel
theorem dX7_leastBeside_20 : decode cX7_leastBeside 20 = .ok (.aload_n 0, 1) := by decide +kernel
theorem dX7_leastBeside_21 : decode cX7_leastBeside 21 = .ok (.getfield 23, 3) := by decide +kernel
theorem dX7_leastBeside_24 : decode cX7_leastBeside 24 = .ok (.iload_n 3, 1) := by decide +kernel
theorem dX7_leastBeside_25 : decode cX7_leastBeside 25 = .ok (.iaload, 1) := by decide +kernel
theorem dX7_leastBeside_26 : decode cX7_leastBeside 26 = .ok (.iload 4, 2) := by decide +kernel
theorem dX7_leastBeside_28 : decode cX7_leastBeside 28 = .ok (.invokevirtual 77, 3) := by decide +kernel
theorem dX7_leastBeside_31 : decode cX7_leastBeside 31 = .ok (.istore 5, 2) := by decide +kernel
theorem dX7_leastBeside_33 : decode cX7_leastBeside 33 = .ok (.iload 5, 2) := by decide +kernel
theorem dX7_leastBeside_35 : decode cX7_leastBeside 35 = .ok (.ifCond .lt 36, 3) := by decide +kernel
theorem dX7_leastBeside_38 : decode cX7_leastBeside 38 = .ok (.aload_n 0, 1) := by decide +kernel
theorem dX7_leastBeside_39 : decode cX7_leastBeside 39 = .ok (.getfield 26, 3) := by decide +kernel
theorem dX7_leastBeside_42 : decode cX7_leastBeside 42 = .ok (.iload 5, 2) := by decide +kernel
theorem dX7_leastBeside_44 : decode cX7_leastBeside 44 = .ok (.baload, 1) := by decide +kernel
theorem dX7_leastBeside_45 : decode cX7_leastBeside 45 = .ok (.ifCond .ne 26, 3) := by decide +kernel
theorem dX7_leastBeside_48 : decode cX7_leastBeside 48 = .ok (.iload_n 2, 1) := by decide +kernel
theorem dX7_leastBeside_49 : decode cX7_leastBeside 49 = .ok (.ifCond .lt 14, 3) := by decide +kernel
theorem dX7_leastBeside_52 : decode cX7_leastBeside 52 = .ok (.aload_n 0, 1) := by decide +kernel
theorem dX7_leastBeside_53 : decode cX7_leastBeside 53 = .ok (.getfield 7, 3) := by decide +kernel
theorem dX7_leastBeside_56 : decode cX7_leastBeside 56 = .ok (.iload 5, 2) := by decide +kernel
theorem dX7_leastBeside_58 : decode cX7_leastBeside 58 = .ok (.iaload, 1) := by decide +kernel
theorem dX7_leastBeside_59 : decode cX7_leastBeside 59 = .ok (.iload_n 2, 1) := by decide +kernel
theorem dX7_leastBeside_60 : decode cX7_leastBeside 60 = .ok (.if_icmp .ge 11, 3) := by decide +kernel
theorem dX7_leastBeside_63 : decode cX7_leastBeside 63 = .ok (.aload_n 0, 1) := by decide +kernel
theorem dX7_leastBeside_64 : decode cX7_leastBeside 64 = .ok (.getfield 7, 3) := by decide +kernel
theorem dX7_leastBeside_67 : decode cX7_leastBeside 67 = .ok (.iload 5, 2) := by decide +kernel
theorem dX7_leastBeside_69 : decode cX7_leastBeside 69 = .ok (.iaload, 1) := by decide +kernel
theorem dX7_leastBeside_70 : decode cX7_leastBeside 70 = .ok (.istore_n 2, 1) := by decide +kernel
theorem dX7_leastBeside_71 : decode cX7_leastBeside 71 = .ok (.iinc 4 1, 3) := by decide +kernel
theorem dX7_leastBeside_74 : decode cX7_leastBeside 74 = .ok (.goto (-61), 3) := by decide +kernel
theorem dX7_leastBeside_77 : decode cX7_leastBeside 77 = .ok (.iinc 3 1, 3) := by decide +kernel
theorem dX7_leastBeside_80 : decode cX7_leastBeside 80 = .ok (.goto (-75), 3) := by decide +kernel
theorem dX7_leastBeside_83 : decode cX7_leastBeside 83 = .ok (.iload_n 2, 1) := by decide +kernel
theorem dX7_leastBeside_84 : decode cX7_leastBeside 84 = .ok (.ireturn, 1) := by decide +kernel
theorem dX7_layPits_0 : decode cX7_layPits 0 = .ok (.iconst 0, 1) := by decide +kernel
theorem dX7_layPits_1 : decode cX7_layPits 1 = .ok (.istore_n 1, 1) := by decide +kernel
theorem dX7_layPits_2 : decode cX7_layPits 2 = .ok (.iload_n 1, 1) := by decide +kernel
theorem dX7_layPits_3 : decode cX7_layPits 3 = .ok (.sipush 144, 3) := by decide +kernel
theorem dX7_layPits_6 : decode cX7_layPits 6 = .ok (.if_icmp .ge 17, 3) := by decide +kernel
theorem dX7_layPits_9 : decode cX7_layPits 9 = .ok (.aload_n 0, 1) := by decide +kernel
theorem dX7_layPits_10 : decode cX7_layPits 10 = .ok (.getfield 20, 3) := by decide +kernel
theorem dX7_layPits_13 : decode cX7_layPits 13 = .ok (.iload_n 1, 1) := by decide +kernel
theorem dX7_layPits_14 : decode cX7_layPits 14 = .ok (.bipush (-6), 2) := by decide +kernel
theorem dX7_layPits_16 : decode cX7_layPits 16 = .ok (.iastore, 1) := by decide +kernel
theorem dX7_layPits_17 : decode cX7_layPits 17 = .ok (.iinc 1 1, 3) := by decide +kernel
theorem dX7_layPits_20 : decode cX7_layPits 20 = .ok (.goto (-18), 3) := by decide +kernel
theorem dX7_layPits_23 : decode cX7_layPits 23 = .ok (.iconst 0, 1) := by decide +kernel
theorem dX7_layPits_24 : decode cX7_layPits 24 = .ok (.istore_n 1, 1) := by decide +kernel
theorem dX7_layPits_25 : decode cX7_layPits 25 = .ok (.iconst 0, 1) := by decide +kernel
theorem dX7_layPits_26 : decode cX7_layPits 26 = .ok (.istore_n 2, 1) := by decide +kernel
theorem dX7_layPits_27 : decode cX7_layPits 27 = .ok (.iload_n 2, 1) := by decide +kernel
theorem dX7_layPits_28 : decode cX7_layPits 28 = .ok (.aload_n 0, 1) := by decide +kernel
theorem dX7_layPits_29 : decode cX7_layPits 29 = .ok (.invokevirtual 80, 3) := by decide +kernel
theorem dX7_layPits_32 : decode cX7_layPits 32 = .ok (.if_icmp .ge 87, 3) := by decide +kernel
theorem dX7_layPits_35 : decode cX7_layPits 35 = .ok (.aload_n 0, 1) := by decide +kernel
theorem dX7_layPits_36 : decode cX7_layPits 36 = .ok (.getfield 20, 3) := by decide +kernel
theorem dX7_layPits_39 : decode cX7_layPits 39 = .ok (.iload_n 2, 1) := by decide +kernel
theorem dX7_layPits_40 : decode cX7_layPits 40 = .ok (.iaload, 1) := by decide +kernel
theorem dX7_layPits_41 : decode cX7_layPits 41 = .ok (.bipush (-6), 2) := by decide +kernel
theorem dX7_layPits_43 : decode cX7_layPits 43 = .ok (.if_icmp .ne 70, 3) := by decide +kernel
theorem dX7_layPits_46 : decode cX7_layPits 46 = .ok (.aload_n 0, 1) := by decide +kernel
theorem dX7_layPits_47 : decode cX7_layPits 47 = .ok (.iload_n 2, 1) := by decide +kernel
theorem dX7_layPits_48 : decode cX7_layPits 48 = .ok (.aload_n 0, 1) := by decide +kernel
theorem dX7_layPits_49 : decode cX7_layPits 49 = .ok (.getfield 7, 3) := by decide +kernel
theorem dX7_layPits_52 : decode cX7_layPits 52 = .ok (.iload_n 2, 1) := by decide +kernel
theorem dX7_layPits_53 : decode cX7_layPits 53 = .ok (.iaload, 1) := by decide +kernel
theorem dX7_layPits_54 : decode cX7_layPits 54 = .ok (.iconst 1, 1) := by decide +kernel
theorem dX7_layPits_55 : decode cX7_layPits 55 = .ok (.invokevirtual 84, 3) := by decide +kernel
theorem dX7_layPits_58 : decode cX7_layPits 58 = .ok (.istore_n 3, 1) := by decide +kernel
theorem dX7_layPits_59 : decode cX7_layPits 59 = .ok (.aload_n 0, 1) := by decide +kernel
theorem dX7_layPits_60 : decode cX7_layPits 60 = .ok (.iload_n 3, 1) := by decide +kernel
theorem dX7_layPits_61 : decode cX7_layPits 61 = .ok (.invokevirtual 88, 3) := by decide +kernel
theorem dX7_layPits_64 : decode cX7_layPits 64 = .ok (.istore 4, 2) := by decide +kernel
theorem dX7_layPits_66 : decode cX7_layPits 66 = .ok (.iload 4, 2) := by decide +kernel
theorem dX7_layPits_68 : decode cX7_layPits 68 = .ok (.ifCond .lt 14, 3) := by decide +kernel
theorem dX7_layPits_71 : decode cX7_layPits 71 = .ok (.iload 4, 2) := by decide +kernel
theorem dX7_layPits_73 : decode cX7_layPits 73 = .ok (.aload_n 0, 1) := by decide +kernel
theorem dX7_layPits_74 : decode cX7_layPits 74 = .ok (.getfield 7, 3) := by decide +kernel
theorem dX7_layPits_77 : decode cX7_layPits 77 = .ok (.iload_n 2, 1) := by decide +kernel
theorem dX7_layPits_78 : decode cX7_layPits 78 = .ok (.iaload, 1) := by decide +kernel
theorem dX7_layPits_79 : decode cX7_layPits 79 = .ok (.if_icmp .le 34, 3) := by decide +kernel
theorem dX7_layPits_82 : decode cX7_layPits 82 = .ok (.iconst 0, 1) := by decide +kernel
theorem dX7_layPits_83 : decode cX7_layPits 83 = .ok (.istore 5, 2) := by decide +kernel
theorem dX7_layPits_85 : decode cX7_layPits 85 = .ok (.iload 5, 2) := by decide +kernel
theorem dX7_layPits_87 : decode cX7_layPits 87 = .ok (.iload_n 3, 1) := by decide +kernel
theorem dX7_layPits_88 : decode cX7_layPits 88 = .ok (.if_icmp .ge 22, 3) := by decide +kernel
theorem dX7_layPits_91 : decode cX7_layPits 91 = .ok (.aload_n 0, 1) := by decide +kernel
theorem dX7_layPits_92 : decode cX7_layPits 92 = .ok (.getfield 20, 3) := by decide +kernel
theorem dX7_layPits_95 : decode cX7_layPits 95 = .ok (.aload_n 0, 1) := by decide +kernel
theorem dX7_layPits_96 : decode cX7_layPits 96 = .ok (.getfield 23, 3) := by decide +kernel
theorem dX7_layPits_99 : decode cX7_layPits 99 = .ok (.iload 5, 2) := by decide +kernel
theorem dX7_layPits_101 : decode cX7_layPits 101 = .ok (.iaload, 1) := by decide +kernel
theorem dX7_layPits_102 : decode cX7_layPits 102 = .ok (.iload_n 1, 1) := by decide +kernel
theorem dX7_layPits_103 : decode cX7_layPits 103 = .ok (.iastore, 1) := by decide +kernel
theorem dX7_layPits_104 : decode cX7_layPits 104 = .ok (.iinc 5 1, 3) := by decide +kernel
theorem dX7_layPits_107 : decode cX7_layPits 107 = .ok (.goto (-22), 3) := by decide +kernel
theorem dX7_layPits_110 : decode cX7_layPits 110 = .ok (.iinc 1 1, 3) := by decide +kernel
theorem dX7_layPits_113 : decode cX7_layPits 113 = .ok (.iinc 2 1, 3) := by decide +kernel
theorem dX7_layPits_116 : decode cX7_layPits 116 = .ok (.goto (-89), 3) := by decide +kernel
theorem dX7_layPits_119 : decode cX7_layPits 119 = .ok (.iload_n 1, 1) := by decide +kernel
theorem dX7_layPits_120 : decode cX7_layPits 120 = .ok (.ireturn, 1) := by decide +kernel
theorem dX7_land_0 : decode cX7_land 0 = .ok (.iload_n 1, 1) := by decide +kernel
theorem dX7_land_1 : decode cX7_land 1 = .ok (.iconst 1, 1) := by decide +kernel
theorem dX7_land_2 : decode cX7_land 2 = .ok (.bipush 12, 2) := by decide +kernel
theorem dX7_land_4 : decode cX7_land 4 = .ok (.invokestatic 65, 3) := by decide +kernel
theorem dX7_land_7 : decode cX7_land 7 = .ok (.ifCond .eq 13, 3) := by decide +kernel
theorem dX7_land_10 : decode cX7_land 10 = .ok (.iload_n 2, 1) := by decide +kernel
theorem dX7_land_11 : decode cX7_land 11 = .ok (.iconst 1, 1) := by decide +kernel
theorem dX7_land_12 : decode cX7_land 12 = .ok (.bipush 12, 2) := by decide +kernel
theorem dX7_land_14 : decode cX7_land 14 = .ok (.invokestatic 65, 3) := by decide +kernel
theorem dX7_land_17 : decode cX7_land 17 = .ok (.ifCond .ne 6, 3) := by decide +kernel
theorem dX7_land_20 : decode cX7_land 20 = .ok (.bipush (-2), 2) := by decide +kernel
theorem dX7_land_22 : decode cX7_land 22 = .ok (.ireturn, 1) := by decide +kernel
theorem dX7_land_23 : decode cX7_land 23 = .ok (.iconst 0, 1) := by decide +kernel
theorem dX7_land_24 : decode cX7_land 24 = .ok (.istore_n 3, 1) := by decide +kernel
theorem dX7_land_25 : decode cX7_land 25 = .ok (.iload_n 3, 1) := by decide +kernel
theorem dX7_land_26 : decode cX7_land 26 = .ok (.sipush 144, 3) := by decide +kernel
theorem dX7_land_29 : decode cX7_land 29 = .ok (.if_icmp .ge 27, 3) := by decide +kernel
theorem dX7_land_32 : decode cX7_land 32 = .ok (.aload_n 0, 1) := by decide +kernel
theorem dX7_land_33 : decode cX7_land 33 = .ok (.getfield 7, 3) := by decide +kernel
theorem dX7_land_36 : decode cX7_land 36 = .ok (.iload_n 3, 1) := by decide +kernel
theorem dX7_land_37 : decode cX7_land 37 = .ok (.iconst 0, 1) := by decide +kernel
theorem dX7_land_38 : decode cX7_land 38 = .ok (.iastore, 1) := by decide +kernel
theorem dX7_land_39 : decode cX7_land 39 = .ok (.aload_n 0, 1) := by decide +kernel
theorem dX7_land_40 : decode cX7_land 40 = .ok (.getfield 7, 3) := by decide +kernel
theorem dX7_land_43 : decode cX7_land 43 = .ok (.sipush 144, 3) := by decide +kernel
theorem dX7_land_46 : decode cX7_land 46 = .ok (.iload_n 3, 1) := by decide +kernel
theorem dX7_land_47 : decode cX7_land 47 = .ok (.iadd, 1) := by decide +kernel
theorem dX7_land_48 : decode cX7_land 48 = .ok (.iconst 0, 1) := by decide +kernel
theorem dX7_land_49 : decode cX7_land 49 = .ok (.iastore, 1) := by decide +kernel
theorem dX7_land_50 : decode cX7_land 50 = .ok (.iinc 3 1, 3) := by decide +kernel
theorem dX7_land_53 : decode cX7_land 53 = .ok (.goto (-28), 3) := by decide +kernel
theorem dX7_land_56 : decode cX7_land 56 = .ok (.aload_n 0, 1) := by decide +kernel
theorem dX7_land_57 : decode cX7_land 57 = .ok (.getfield 7, 3) := by decide +kernel
theorem dX7_land_60 : decode cX7_land 60 = .ok (.sipush 288, 3) := by decide +kernel
theorem dX7_land_63 : decode cX7_land 63 = .ok (.iload_n 1, 1) := by decide +kernel
theorem dX7_land_64 : decode cX7_land 64 = .ok (.iastore, 1) := by decide +kernel
theorem dX7_land_65 : decode cX7_land 65 = .ok (.aload_n 0, 1) := by decide +kernel
theorem dX7_land_66 : decode cX7_land 66 = .ok (.getfield 7, 3) := by decide +kernel
theorem dX7_land_69 : decode cX7_land 69 = .ok (.sipush 289, 3) := by decide +kernel
theorem dX7_land_72 : decode cX7_land 72 = .ok (.iload_n 2, 1) := by decide +kernel
theorem dX7_land_73 : decode cX7_land 73 = .ok (.iastore, 1) := by decide +kernel
theorem dX7_land_74 : decode cX7_land 74 = .ok (.aload_n 0, 1) := by decide +kernel
theorem dX7_land_75 : decode cX7_land 75 = .ok (.invokevirtual 92, 3) := by decide +kernel
theorem dX7_land_78 : decode cX7_land 78 = .ok (.ireturn, 1) := by decide +kernel
theorem dX7_wave_0 : decode cX7_wave 0 = .ok (.iload_n 1, 1) := by decide +kernel
theorem dX7_wave_1 : decode cX7_wave 1 = .ok (.iconst 0, 1) := by decide +kernel
theorem dX7_wave_2 : decode cX7_wave 2 = .ok (.bipush 50, 2) := by decide +kernel
theorem dX7_wave_4 : decode cX7_wave 4 = .ok (.invokestatic 65, 3) := by decide +kernel
theorem dX7_wave_7 : decode cX7_wave 7 = .ok (.ifCond .eq 34, 3) := by decide +kernel
theorem dX7_wave_10 : decode cX7_wave 10 = .ok (.iload_n 2, 1) := by decide +kernel
theorem dX7_wave_11 : decode cX7_wave 11 = .ok (.iconst 0, 1) := by decide +kernel
theorem dX7_wave_12 : decode cX7_wave 12 = .ok (.bipush 50, 2) := by decide +kernel
theorem dX7_wave_14 : decode cX7_wave 14 = .ok (.invokestatic 65, 3) := by decide +kernel
theorem dX7_wave_17 : decode cX7_wave 17 = .ok (.ifCond .eq 24, 3) := by decide +kernel
theorem dX7_wave_20 : decode cX7_wave 20 = .ok (.iload_n 3, 1) := by decide +kernel
theorem dX7_wave_21 : decode cX7_wave 21 = .ok (.iconst 0, 1) := by decide +kernel
theorem dX7_wave_22 : decode cX7_wave 22 = .ok (.bipush 50, 2) := by decide +kernel
theorem dX7_wave_24 : decode cX7_wave 24 = .ok (.invokestatic 65, 3) := by decide +kernel
theorem dX7_wave_27 : decode cX7_wave 27 = .ok (.ifCond .eq 14, 3) := by decide +kernel
theorem dX7_wave_30 : decode cX7_wave 30 = .ok (.iload 4, 2) := by decide +kernel
theorem dX7_wave_32 : decode cX7_wave 32 = .ok (.iconst 1, 1) := by decide +kernel
theorem dX7_wave_33 : decode cX7_wave 33 = .ok (.bipush 100, 2) := by decide +kernel
theorem dX7_wave_35 : decode cX7_wave 35 = .ok (.invokestatic 65, 3) := by decide +kernel
theorem dX7_wave_38 : decode cX7_wave 38 = .ok (.ifCond .ne 6, 3) := by decide +kernel
theorem dX7_wave_41 : decode cX7_wave 41 = .ok (.bipush (-2), 2) := by decide +kernel
theorem dX7_wave_43 : decode cX7_wave 43 = .ok (.ireturn, 1) := by decide +kernel
theorem dX7_wave_44 : decode cX7_wave 44 = .ok (.iconst 0, 1) := by decide +kernel
theorem dX7_wave_45 : decode cX7_wave 45 = .ok (.istore 5, 2) := by decide +kernel
theorem dX7_wave_47 : decode cX7_wave 47 = .ok (.iload 5, 2) := by decide +kernel
theorem dX7_wave_49 : decode cX7_wave 49 = .ok (.aload_n 0, 1) := by decide +kernel
theorem dX7_wave_50 : decode cX7_wave 50 = .ok (.invokevirtual 80, 3) := by decide +kernel
theorem dX7_wave_53 : decode cX7_wave 53 = .ok (.if_icmp .ge 62, 3) := by decide +kernel
theorem dX7_wave_56 : decode cX7_wave 56 = .ok (.iload 5, 2) := by decide +kernel
theorem dX7_wave_58 : decode cX7_wave 58 = .ok (.aload_n 0, 1) := by decide +kernel
theorem dX7_wave_59 : decode cX7_wave 59 = .ok (.getfield 7, 3) := by decide +kernel
theorem dX7_wave_62 : decode cX7_wave 62 = .ok (.sipush 288, 3) := by decide +kernel
theorem dX7_wave_65 : decode cX7_wave 65 = .ok (.iaload, 1) := by decide +kernel
theorem dX7_wave_66 : decode cX7_wave 66 = .ok (.irem, 1) := by decide +kernel
theorem dX7_wave_67 : decode cX7_wave 67 = .ok (.istore 6, 2) := by decide +kernel
theorem dX7_wave_69 : decode cX7_wave 69 = .ok (.iload 5, 2) := by decide +kernel
theorem dX7_wave_71 : decode cX7_wave 71 = .ok (.aload_n 0, 1) := by decide +kernel
theorem dX7_wave_72 : decode cX7_wave 72 = .ok (.getfield 7, 3) := by decide +kernel
theorem dX7_wave_75 : decode cX7_wave 75 = .ok (.sipush 288, 3) := by decide +kernel
theorem dX7_wave_78 : decode cX7_wave 78 = .ok (.iaload, 1) := by decide +kernel
theorem dX7_wave_79 : decode cX7_wave 79 = .ok (.idiv, 1) := by decide +kernel
theorem dX7_wave_80 : decode cX7_wave 80 = .ok (.istore 7, 2) := by decide +kernel
theorem dX7_wave_82 : decode cX7_wave 82 = .ok (.aload_n 0, 1) := by decide +kernel
theorem dX7_wave_83 : decode cX7_wave 83 = .ok (.getfield 7, 3) := by decide +kernel
theorem dX7_wave_86 : decode cX7_wave 86 = .ok (.iload 5, 2) := by decide +kernel
theorem dX7_wave_88 : decode cX7_wave 88 = .ok (.iload_n 1, 1) := by decide +kernel
theorem dX7_wave_89 : decode cX7_wave 89 = .ok (.iload 6, 2) := by decide +kernel
theorem dX7_wave_91 : decode cX7_wave 91 = .ok (.imul, 1) := by decide +kernel
theorem dX7_wave_92 : decode cX7_wave 92 = .ok (.iload_n 2, 1) := by decide +kernel
theorem dX7_wave_93 : decode cX7_wave 93 = .ok (.iload 7, 2) := by decide +kernel
theorem dX7_wave_95 : decode cX7_wave 95 = .ok (.imul, 1) := by decide +kernel
theorem dX7_wave_96 : decode cX7_wave 96 = .ok (.iadd, 1) := by decide +kernel
theorem dX7_wave_97 : decode cX7_wave 97 = .ok (.iload_n 3, 1) := by decide +kernel
theorem dX7_wave_98 : decode cX7_wave 98 = .ok (.iload 6, 2) := by decide +kernel
theorem dX7_wave_100 : decode cX7_wave 100 = .ok (.imul, 1) := by decide +kernel
theorem dX7_wave_101 : decode cX7_wave 101 = .ok (.iload 7, 2) := by decide +kernel
theorem dX7_wave_103 : decode cX7_wave 103 = .ok (.imul, 1) := by decide +kernel
theorem dX7_wave_104 : decode cX7_wave 104 = .ok (.iadd, 1) := by decide +kernel
theorem dX7_wave_105 : decode cX7_wave 105 = .ok (.iload 4, 2) := by decide +kernel
theorem dX7_wave_107 : decode cX7_wave 107 = .ok (.irem, 1) := by decide +kernel
theorem dX7_wave_108 : decode cX7_wave 108 = .ok (.iastore, 1) := by decide +kernel
theorem dX7_wave_109 : decode cX7_wave 109 = .ok (.iinc 5 1, 3) := by decide +kernel
theorem dX7_wave_112 : decode cX7_wave 112 = .ok (.goto (-65), 3) := by decide +kernel
theorem dX7_wave_115 : decode cX7_wave 115 = .ok (.aload_n 0, 1) := by decide +kernel
theorem dX7_wave_116 : decode cX7_wave 116 = .ok (.invokevirtual 92, 3) := by decide +kernel
theorem dX7_wave_119 : decode cX7_wave 119 = .ok (.ireturn, 1) := by decide +kernel
theorem dX7_heap_0 : decode cX7_heap 0 = .ok (.aload_n 0, 1) := by decide +kernel
theorem dX7_heap_1 : decode cX7_heap 1 = .ok (.iload_n 1, 1) := by decide +kernel
theorem dX7_heap_2 : decode cX7_heap 2 = .ok (.iload_n 2, 1) := by decide +kernel
theorem dX7_heap_3 : decode cX7_heap 3 = .ok (.invokevirtual 69, 3) := by decide +kernel
theorem dX7_heap_6 : decode cX7_heap 6 = .ok (.ifCond .eq 25, 3) := by decide +kernel
theorem dX7_heap_9 : decode cX7_heap 9 = .ok (.iload_n 3, 1) := by decide +kernel
theorem dX7_heap_10 : decode cX7_heap 10 = .ok (.bipush (-99), 2) := by decide +kernel
theorem dX7_heap_12 : decode cX7_heap 12 = .ok (.bipush 99, 2) := by decide +kernel
theorem dX7_heap_14 : decode cX7_heap 14 = .ok (.invokestatic 65, 3) := by decide +kernel
theorem dX7_heap_17 : decode cX7_heap 17 = .ok (.ifCond .eq 14, 3) := by decide +kernel
theorem dX7_heap_20 : decode cX7_heap 20 = .ok (.iload 4, 2) := by decide +kernel
theorem dX7_heap_22 : decode cX7_heap 22 = .ok (.iconst 0, 1) := by decide +kernel
theorem dX7_heap_23 : decode cX7_heap 23 = .ok (.bipush 50, 2) := by decide +kernel
theorem dX7_heap_25 : decode cX7_heap 25 = .ok (.invokestatic 65, 3) := by decide +kernel
theorem dX7_heap_28 : decode cX7_heap 28 = .ok (.ifCond .ne 6, 3) := by decide +kernel
theorem dX7_heap_31 : decode cX7_heap 31 = .ok (.bipush (-2), 2) := by decide +kernel
theorem dX7_heap_33 : decode cX7_heap 33 = .ok (.ireturn, 1) := by decide +kernel
theorem dX7_heap_34 : decode cX7_heap 34 = .ok (.iconst 0, 1) := by decide +kernel
theorem dX7_heap_35 : decode cX7_heap 35 = .ok (.istore 5, 2) := by decide +kernel
theorem dX7_heap_37 : decode cX7_heap 37 = .ok (.iload 5, 2) := by decide +kernel
theorem dX7_heap_39 : decode cX7_heap 39 = .ok (.aload_n 0, 1) := by decide +kernel
theorem dX7_heap_40 : decode cX7_heap 40 = .ok (.invokevirtual 80, 3) := by decide +kernel
theorem dX7_heap_43 : decode cX7_heap 43 = .ok (.if_icmp .ge 112, 3) := by decide +kernel
theorem dX7_heap_46 : decode cX7_heap 46 = .ok (.iload 5, 2) := by decide +kernel
theorem dX7_heap_48 : decode cX7_heap 48 = .ok (.aload_n 0, 1) := by decide +kernel
theorem dX7_heap_49 : decode cX7_heap 49 = .ok (.getfield 7, 3) := by decide +kernel
theorem dX7_heap_52 : decode cX7_heap 52 = .ok (.sipush 288, 3) := by decide +kernel
theorem dX7_heap_55 : decode cX7_heap 55 = .ok (.iaload, 1) := by decide +kernel
theorem dX7_heap_56 : decode cX7_heap 56 = .ok (.irem, 1) := by decide +kernel
theorem dX7_heap_57 : decode cX7_heap 57 = .ok (.iload_n 1, 1) := by decide +kernel
theorem dX7_heap_58 : decode cX7_heap 58 = .ok (.isub, 1) := by decide +kernel
theorem dX7_heap_59 : decode cX7_heap 59 = .ok (.invokestatic 95, 3) := by decide +kernel
theorem dX7_heap_62 : decode cX7_heap 62 = .ok (.iload 5, 2) := by decide +kernel
theorem dX7_heap_64 : decode cX7_heap 64 = .ok (.aload_n 0, 1) := by decide +kernel
theorem dX7_heap_65 : decode cX7_heap 65 = .ok (.getfield 7, 3) := by decide +kernel
theorem dX7_heap_68 : decode cX7_heap 68 = .ok (.sipush 288, 3) := by decide +kernel
theorem dX7_heap_71 : decode cX7_heap 71 = .ok (.iaload, 1) := by decide +kernel
theorem dX7_heap_72 : decode cX7_heap 72 = .ok (.idiv, 1) := by decide +kernel
theorem dX7_heap_73 : decode cX7_heap 73 = .ok (.iload_n 2, 1) := by decide +kernel
theorem dX7_heap_74 : decode cX7_heap 74 = .ok (.isub, 1) := by decide +kernel
theorem dX7_heap_75 : decode cX7_heap 75 = .ok (.invokestatic 95, 3) := by decide +kernel
theorem dX7_heap_78 : decode cX7_heap 78 = .ok (.iadd, 1) := by decide +kernel
theorem dX7_heap_79 : decode cX7_heap 79 = .ok (.istore 6, 2) := by decide +kernel
theorem dX7_heap_81 : decode cX7_heap 81 = .ok (.iload_n 3, 1) := by decide +kernel
theorem dX7_heap_82 : decode cX7_heap 82 = .ok (.invokestatic 95, 3) := by decide +kernel
theorem dX7_heap_85 : decode cX7_heap 85 = .ok (.iload 4, 2) := by decide +kernel
theorem dX7_heap_87 : decode cX7_heap 87 = .ok (.iload 6, 2) := by decide +kernel
theorem dX7_heap_89 : decode cX7_heap 89 = .ok (.imul, 1) := by decide +kernel
theorem dX7_heap_90 : decode cX7_heap 90 = .ok (.isub, 1) := by decide +kernel
theorem dX7_heap_91 : decode cX7_heap 91 = .ok (.iconst 0, 1) := by decide +kernel
theorem dX7_heap_92 : decode cX7_heap 92 = .ok (.invokestatic 98, 3) := by decide +kernel
theorem dX7_heap_95 : decode cX7_heap 95 = .ok (.istore 7, 2) := by decide +kernel
theorem dX7_heap_97 : decode cX7_heap 97 = .ok (.aload_n 0, 1) := by decide +kernel
theorem dX7_heap_98 : decode cX7_heap 98 = .ok (.getfield 7, 3) := by decide +kernel
theorem dX7_heap_101 : decode cX7_heap 101 = .ok (.iload 5, 2) := by decide +kernel
theorem dX7_heap_103 : decode cX7_heap 103 = .ok (.iaload, 1) := by decide +kernel
theorem dX7_heap_104 : decode cX7_heap 104 = .ok (.iload_n 3, 1) := by decide +kernel
theorem dX7_heap_105 : decode cX7_heap 105 = .ok (.ifCond .ge 9, 3) := by decide +kernel
theorem dX7_heap_108 : decode cX7_heap 108 = .ok (.iload 7, 2) := by decide +kernel
theorem dX7_heap_110 : decode cX7_heap 110 = .ok (.ineg, 1) := by decide +kernel
theorem dX7_heap_111 : decode cX7_heap 111 = .ok (.goto 5, 3) := by decide +kernel
theorem dX7_heap_114 : decode cX7_heap 114 = .ok (.iload 7, 2) := by decide +kernel
theorem dX7_heap_116 : decode cX7_heap 116 = .ok (.iadd, 1) := by decide +kernel
theorem dX7_heap_117 : decode cX7_heap 117 = .ok (.istore 8, 2) := by decide +kernel
theorem dX7_heap_119 : decode cX7_heap 119 = .ok (.aload_n 0, 1) := by decide +kernel
theorem dX7_heap_120 : decode cX7_heap 120 = .ok (.getfield 7, 3) := by decide +kernel
theorem dX7_heap_123 : decode cX7_heap 123 = .ok (.iload 5, 2) := by decide +kernel
theorem dX7_heap_125 : decode cX7_heap 125 = .ok (.iload 8, 2) := by decide +kernel
theorem dX7_heap_127 : decode cX7_heap 127 = .ok (.ifCond .ge 7, 3) := by decide +kernel
theorem dX7_heap_130 : decode cX7_heap 130 = .ok (.iconst 0, 1) := by decide +kernel
theorem dX7_heap_131 : decode cX7_heap 131 = .ok (.goto 17, 3) := by decide +kernel
theorem dX7_heap_134 : decode cX7_heap 134 = .ok (.iload 8, 2) := by decide +kernel
theorem dX7_heap_136 : decode cX7_heap 136 = .ok (.bipush 99, 2) := by decide +kernel
theorem dX7_heap_138 : decode cX7_heap 138 = .ok (.if_icmp .le 8, 3) := by decide +kernel
theorem dX7_heap_141 : decode cX7_heap 141 = .ok (.bipush 99, 2) := by decide +kernel
theorem dX7_heap_143 : decode cX7_heap 143 = .ok (.goto 5, 3) := by decide +kernel
theorem dX7_heap_146 : decode cX7_heap 146 = .ok (.iload 8, 2) := by decide +kernel
theorem dX7_heap_148 : decode cX7_heap 148 = .ok (.iastore, 1) := by decide +kernel
theorem dX7_heap_149 : decode cX7_heap 149 = .ok (.iinc 5 1, 3) := by decide +kernel
theorem dX7_heap_152 : decode cX7_heap 152 = .ok (.goto (-115), 3) := by decide +kernel
theorem dX7_heap_155 : decode cX7_heap 155 = .ok (.aload_n 0, 1) := by decide +kernel
theorem dX7_heap_156 : decode cX7_heap 156 = .ok (.invokevirtual 92, 3) := by decide +kernel
theorem dX7_heap_159 : decode cX7_heap 159 = .ok (.ireturn, 1) := by decide +kernel
theorem dX7_put_0 : decode cX7_put 0 = .ok (.aload_n 0, 1) := by decide +kernel
theorem dX7_put_1 : decode cX7_put 1 = .ok (.iload_n 1, 1) := by decide +kernel
theorem dX7_put_2 : decode cX7_put 2 = .ok (.iload_n 2, 1) := by decide +kernel
theorem dX7_put_3 : decode cX7_put 3 = .ok (.invokevirtual 69, 3) := by decide +kernel
theorem dX7_put_6 : decode cX7_put 6 = .ok (.ifCond .eq 13, 3) := by decide +kernel
theorem dX7_put_9 : decode cX7_put 9 = .ok (.iload_n 3, 1) := by decide +kernel
theorem dX7_put_10 : decode cX7_put 10 = .ok (.iconst 0, 1) := by decide +kernel
theorem dX7_put_11 : decode cX7_put 11 = .ok (.bipush 99, 2) := by decide +kernel
theorem dX7_put_13 : decode cX7_put 13 = .ok (.invokestatic 65, 3) := by decide +kernel
theorem dX7_put_16 : decode cX7_put 16 = .ok (.ifCond .ne 6, 3) := by decide +kernel
theorem dX7_put_19 : decode cX7_put 19 = .ok (.bipush (-2), 2) := by decide +kernel
theorem dX7_put_21 : decode cX7_put 21 = .ok (.ireturn, 1) := by decide +kernel
theorem dX7_put_22 : decode cX7_put 22 = .ok (.aload_n 0, 1) := by decide +kernel
theorem dX7_put_23 : decode cX7_put 23 = .ok (.getfield 7, 3) := by decide +kernel
theorem dX7_put_26 : decode cX7_put 26 = .ok (.aload_n 0, 1) := by decide +kernel
theorem dX7_put_27 : decode cX7_put 27 = .ok (.iload_n 1, 1) := by decide +kernel
theorem dX7_put_28 : decode cX7_put 28 = .ok (.iload_n 2, 1) := by decide +kernel
theorem dX7_put_29 : decode cX7_put 29 = .ok (.invokevirtual 73, 3) := by decide +kernel
theorem dX7_put_32 : decode cX7_put 32 = .ok (.iload_n 3, 1) := by decide +kernel
theorem dX7_put_33 : decode cX7_put 33 = .ok (.iastore, 1) := by decide +kernel
theorem dX7_put_34 : decode cX7_put 34 = .ok (.aload_n 0, 1) := by decide +kernel
theorem dX7_put_35 : decode cX7_put 35 = .ok (.invokevirtual 92, 3) := by decide +kernel
theorem dX7_put_38 : decode cX7_put 38 = .ok (.ireturn, 1) := by decide +kernel
theorem dX7_mark_0 : decode cX7_mark 0 = .ok (.aload_n 0, 1) := by decide +kernel
theorem dX7_mark_1 : decode cX7_mark 1 = .ok (.iload_n 1, 1) := by decide +kernel
theorem dX7_mark_2 : decode cX7_mark 2 = .ok (.iload_n 2, 1) := by decide +kernel
theorem dX7_mark_3 : decode cX7_mark 3 = .ok (.invokevirtual 69, 3) := by decide +kernel
theorem dX7_mark_6 : decode cX7_mark 6 = .ok (.ifCond .eq 13, 3) := by decide +kernel
theorem dX7_mark_9 : decode cX7_mark 9 = .ok (.iload_n 3, 1) := by decide +kernel
theorem dX7_mark_10 : decode cX7_mark 10 = .ok (.iconst 0, 1) := by decide +kernel
theorem dX7_mark_11 : decode cX7_mark 11 = .ok (.bipush 99, 2) := by decide +kernel
theorem dX7_mark_13 : decode cX7_mark 13 = .ok (.invokestatic 65, 3) := by decide +kernel
theorem dX7_mark_16 : decode cX7_mark 16 = .ok (.ifCond .ne 6, 3) := by decide +kernel
theorem dX7_mark_19 : decode cX7_mark 19 = .ok (.bipush (-2), 2) := by decide +kernel
theorem dX7_mark_21 : decode cX7_mark 21 = .ok (.ireturn, 1) := by decide +kernel
theorem dX7_mark_22 : decode cX7_mark 22 = .ok (.aload_n 0, 1) := by decide +kernel
theorem dX7_mark_23 : decode cX7_mark 23 = .ok (.getfield 7, 3) := by decide +kernel
theorem dX7_mark_26 : decode cX7_mark 26 = .ok (.sipush 144, 3) := by decide +kernel
theorem dX7_mark_29 : decode cX7_mark 29 = .ok (.aload_n 0, 1) := by decide +kernel
theorem dX7_mark_30 : decode cX7_mark 30 = .ok (.iload_n 1, 1) := by decide +kernel
theorem dX7_mark_31 : decode cX7_mark 31 = .ok (.iload_n 2, 1) := by decide +kernel
theorem dX7_mark_32 : decode cX7_mark 32 = .ok (.invokevirtual 73, 3) := by decide +kernel
theorem dX7_mark_35 : decode cX7_mark 35 = .ok (.iadd, 1) := by decide +kernel
theorem dX7_mark_36 : decode cX7_mark 36 = .ok (.iaload, 1) := by decide +kernel
theorem dX7_mark_37 : decode cX7_mark 37 = .ok (.istore 4, 2) := by decide +kernel
theorem dX7_mark_39 : decode cX7_mark 39 = .ok (.aload_n 0, 1) := by decide +kernel
theorem dX7_mark_40 : decode cX7_mark 40 = .ok (.getfield 7, 3) := by decide +kernel
theorem dX7_mark_43 : decode cX7_mark 43 = .ok (.sipush 144, 3) := by decide +kernel
theorem dX7_mark_46 : decode cX7_mark 46 = .ok (.aload_n 0, 1) := by decide +kernel
theorem dX7_mark_47 : decode cX7_mark 47 = .ok (.iload_n 1, 1) := by decide +kernel
theorem dX7_mark_48 : decode cX7_mark 48 = .ok (.iload_n 2, 1) := by decide +kernel
theorem dX7_mark_49 : decode cX7_mark 49 = .ok (.invokevirtual 73, 3) := by decide +kernel
theorem dX7_mark_52 : decode cX7_mark 52 = .ok (.iadd, 1) := by decide +kernel
theorem dX7_mark_53 : decode cX7_mark 53 = .ok (.iload_n 3, 1) := by decide +kernel
theorem dX7_mark_54 : decode cX7_mark 54 = .ok (.iastore, 1) := by decide +kernel
theorem dX7_mark_55 : decode cX7_mark 55 = .ok (.iload 4, 2) := by decide +kernel
theorem dX7_mark_57 : decode cX7_mark 57 = .ok (.ireturn, 1) := by decide +kernel
theorem dX7_pits_0 : decode cX7_pits 0 = .ok (.aload_n 0, 1) := by decide +kernel
theorem dX7_pits_1 : decode cX7_pits 1 = .ok (.invokevirtual 92, 3) := by decide +kernel
theorem dX7_pits_4 : decode cX7_pits 4 = .ok (.istore_n 1, 1) := by decide +kernel
theorem dX7_pits_5 : decode cX7_pits 5 = .ok (.iconst 0, 1) := by decide +kernel
theorem dX7_pits_6 : decode cX7_pits 6 = .ok (.istore_n 2, 1) := by decide +kernel
theorem dX7_pits_7 : decode cX7_pits 7 = .ok (.iload_n 2, 1) := by decide +kernel
theorem dX7_pits_8 : decode cX7_pits 8 = .ok (.sipush 144, 3) := by decide +kernel
theorem dX7_pits_11 : decode cX7_pits 11 = .ok (.if_icmp .ge 42, 3) := by decide +kernel
theorem dX7_pits_14 : decode cX7_pits 14 = .ok (.aload_n 0, 1) := by decide +kernel
theorem dX7_pits_15 : decode cX7_pits 15 = .ok (.getfield 7, 3) := by decide +kernel
theorem dX7_pits_18 : decode cX7_pits 18 = .ok (.sipush 144, 3) := by decide +kernel
theorem dX7_pits_21 : decode cX7_pits 21 = .ok (.iload_n 2, 1) := by decide +kernel
theorem dX7_pits_22 : decode cX7_pits 22 = .ok (.iadd, 1) := by decide +kernel
theorem dX7_pits_23 : decode cX7_pits 23 = .ok (.aload_n 0, 1) := by decide +kernel
theorem dX7_pits_24 : decode cX7_pits 24 = .ok (.getfield 20, 3) := by decide +kernel
theorem dX7_pits_27 : decode cX7_pits 27 = .ok (.iload_n 2, 1) := by decide +kernel
theorem dX7_pits_28 : decode cX7_pits 28 = .ok (.iaload, 1) := by decide +kernel
theorem dX7_pits_29 : decode cX7_pits 29 = .ok (.bipush (-6), 2) := by decide +kernel
theorem dX7_pits_31 : decode cX7_pits 31 = .ok (.if_icmp .ne 7, 3) := by decide +kernel
theorem dX7_pits_34 : decode cX7_pits 34 = .ok (.iconst 0, 1) := by decide +kernel
theorem dX7_pits_35 : decode cX7_pits 35 = .ok (.goto 11, 3) := by decide +kernel
theorem dX7_pits_38 : decode cX7_pits 38 = .ok (.aload_n 0, 1) := by decide +kernel
theorem dX7_pits_39 : decode cX7_pits 39 = .ok (.getfield 20, 3) := by decide +kernel
theorem dX7_pits_42 : decode cX7_pits 42 = .ok (.iload_n 2, 1) := by decide +kernel
theorem dX7_pits_43 : decode cX7_pits 43 = .ok (.iaload, 1) := by decide +kernel
theorem dX7_pits_44 : decode cX7_pits 44 = .ok (.iconst 1, 1) := by decide +kernel
theorem dX7_pits_45 : decode cX7_pits 45 = .ok (.iadd, 1) := by decide +kernel
theorem dX7_pits_46 : decode cX7_pits 46 = .ok (.iastore, 1) := by decide +kernel
theorem dX7_pits_47 : decode cX7_pits 47 = .ok (.iinc 2 1, 3) := by decide +kernel
theorem dX7_pits_50 : decode cX7_pits 50 = .ok (.goto (-43), 3) := by decide +kernel
theorem dX7_pits_53 : decode cX7_pits 53 = .ok (.iload_n 1, 1) := by decide +kernel
theorem dX7_pits_54 : decode cX7_pits 54 = .ok (.ireturn, 1) := by decide +kernel
theorem dX7_spill_0 : decode cX7_spill 0 = .ok (.iconst 0, 1) := by decide +kernel
theorem dX7_spill_1 : decode cX7_spill 1 = .ok (.istore_n 2, 1) := by decide +kernel
theorem dX7_spill_2 : decode cX7_spill 2 = .ok (.iload_n 2, 1) := by decide +kernel
theorem dX7_spill_3 : decode cX7_spill 3 = .ok (.iconst 4, 1) := by decide +kernel
theorem dX7_spill_4 : decode cX7_spill 4 = .ok (.if_icmp .ge 93, 3) := by decide +kernel
theorem dX7_spill_7 : decode cX7_spill 7 = .ok (.aload_n 0, 1) := by decide +kernel
theorem dX7_spill_8 : decode cX7_spill 8 = .ok (.iload_n 1, 1) := by decide +kernel
theorem dX7_spill_9 : decode cX7_spill 9 = .ok (.iload_n 2, 1) := by decide +kernel
theorem dX7_spill_10 : decode cX7_spill 10 = .ok (.invokevirtual 77, 3) := by decide +kernel
theorem dX7_spill_13 : decode cX7_spill 13 = .ok (.istore_n 3, 1) := by decide +kernel
theorem dX7_spill_14 : decode cX7_spill 14 = .ok (.iload_n 3, 1) := by decide +kernel
theorem dX7_spill_15 : decode cX7_spill 15 = .ok (.ifCond .lt 76, 3) := by decide +kernel
theorem dX7_spill_18 : decode cX7_spill 18 = .ok (.aload_n 0, 1) := by decide +kernel
theorem dX7_spill_19 : decode cX7_spill 19 = .ok (.getfield 29, 3) := by decide +kernel
theorem dX7_spill_22 : decode cX7_spill 22 = .ok (.iload_n 3, 1) := by decide +kernel
theorem dX7_spill_23 : decode cX7_spill 23 = .ok (.iaload, 1) := by decide +kernel
theorem dX7_spill_24 : decode cX7_spill 24 = .ok (.bipush (-6), 2) := by decide +kernel
theorem dX7_spill_26 : decode cX7_spill 26 = .ok (.if_icmp .ne 65, 3) := by decide +kernel
theorem dX7_spill_29 : decode cX7_spill 29 = .ok (.aload_n 0, 1) := by decide +kernel
theorem dX7_spill_30 : decode cX7_spill 30 = .ok (.getfield 32, 3) := by decide +kernel
theorem dX7_spill_33 : decode cX7_spill 33 = .ok (.iload_n 3, 1) := by decide +kernel
theorem dX7_spill_34 : decode cX7_spill 34 = .ok (.iaload, 1) := by decide +kernel
theorem dX7_spill_35 : decode cX7_spill 35 = .ok (.bipush (-6), 2) := by decide +kernel
theorem dX7_spill_37 : decode cX7_spill 37 = .ok (.if_icmp .ne 54, 3) := by decide +kernel
theorem dX7_spill_40 : decode cX7_spill 40 = .ok (.aload_n 0, 1) := by decide +kernel
theorem dX7_spill_41 : decode cX7_spill 41 = .ok (.getfield 32, 3) := by decide +kernel
theorem dX7_spill_44 : decode cX7_spill 44 = .ok (.iload_n 3, 1) := by decide +kernel
theorem dX7_spill_45 : decode cX7_spill 45 = .ok (.aload_n 0, 1) := by decide +kernel
theorem dX7_spill_46 : decode cX7_spill 46 = .ok (.getfield 7, 3) := by decide +kernel
theorem dX7_spill_49 : decode cX7_spill 49 = .ok (.iload_n 3, 1) := by decide +kernel
theorem dX7_spill_50 : decode cX7_spill 50 = .ok (.iaload, 1) := by decide +kernel
theorem dX7_spill_51 : decode cX7_spill 51 = .ok (.aload_n 0, 1) := by decide +kernel
theorem dX7_spill_52 : decode cX7_spill 52 = .ok (.getfield 32, 3) := by decide +kernel
theorem dX7_spill_55 : decode cX7_spill 55 = .ok (.iload_n 1, 1) := by decide +kernel
theorem dX7_spill_56 : decode cX7_spill 56 = .ok (.iaload, 1) := by decide +kernel
theorem dX7_spill_57 : decode cX7_spill 57 = .ok (.invokestatic 98, 3) := by decide +kernel
theorem dX7_spill_60 : decode cX7_spill 60 = .ok (.iastore, 1) := by decide +kernel
theorem dX7_spill_61 : decode cX7_spill 61 = .ok (.aload_n 0, 1) := by decide +kernel
theorem dX7_spill_62 : decode cX7_spill 62 = .ok (.getfield 38, 3) := by decide +kernel
theorem dX7_spill_65 : decode cX7_spill 65 = .ok (.aload_n 0, 1) := by decide +kernel
theorem dX7_spill_66 : decode cX7_spill 66 = .ok (.getfield 101, 3) := by decide +kernel
theorem dX7_spill_69 : decode cX7_spill 69 = .ok (.iload_n 3, 1) := by decide +kernel
theorem dX7_spill_70 : decode cX7_spill 70 = .ok (.iastore, 1) := by decide +kernel
theorem dX7_spill_71 : decode cX7_spill 71 = .ok (.aload_n 0, 1) := by decide +kernel
theorem dX7_spill_72 : decode cX7_spill 72 = .ok (.getfield 41, 3) := by decide +kernel
theorem dX7_spill_75 : decode cX7_spill 75 = .ok (.aload_n 0, 1) := by decide +kernel
theorem dX7_spill_76 : decode cX7_spill 76 = .ok (.getfield 101, 3) := by decide +kernel
theorem dX7_spill_79 : decode cX7_spill 79 = .ok (.iconst 0, 1) := by decide +kernel
theorem dX7_spill_80 : decode cX7_spill 80 = .ok (.bastore, 1) := by decide +kernel
theorem dX7_spill_81 : decode cX7_spill 81 = .ok (.aload_n 0, 1) := by decide +kernel
theorem dX7_spill_82 : decode cX7_spill 82 = .ok (.dup, 1) := by decide +kernel
theorem dX7_spill_83 : decode cX7_spill 83 = .ok (.getfield 101, 3) := by decide +kernel
theorem dX7_spill_86 : decode cX7_spill 86 = .ok (.iconst 1, 1) := by decide +kernel
theorem dX7_spill_87 : decode cX7_spill 87 = .ok (.iadd, 1) := by decide +kernel
theorem dX7_spill_88 : decode cX7_spill 88 = .ok (.putfield 101, 3) := by decide +kernel
theorem dX7_spill_91 : decode cX7_spill 91 = .ok (.iinc 2 1, 3) := by decide +kernel
theorem dX7_spill_94 : decode cX7_spill 94 = .ok (.goto (-92), 3) := by decide +kernel
theorem dX7_spill_97 : decode cX7_spill 97 = .ok (.return_, 1) := by decide +kernel
theorem dX7_first_0 : decode cX7_first 0 = .ok (.bipush (-6), 2) := by decide +kernel
theorem dX7_first_2 : decode cX7_first 2 = .ok (.istore_n 1, 1) := by decide +kernel
theorem dX7_first_3 : decode cX7_first 3 = .ok (.iconst 0, 1) := by decide +kernel
theorem dX7_first_4 : decode cX7_first 4 = .ok (.istore_n 2, 1) := by decide +kernel
theorem dX7_first_5 : decode cX7_first 5 = .ok (.iload_n 2, 1) := by decide +kernel
theorem dX7_first_6 : decode cX7_first 6 = .ok (.aload_n 0, 1) := by decide +kernel
theorem dX7_first_7 : decode cX7_first 7 = .ok (.getfield 101, 3) := by decide +kernel
theorem dX7_first_10 : decode cX7_first 10 = .ok (.if_icmp .ge 49, 3) := by decide +kernel
theorem dX7_first_13 : decode cX7_first 13 = .ok (.aload_n 0, 1) := by decide +kernel
theorem dX7_first_14 : decode cX7_first 14 = .ok (.getfield 41, 3) := by decide +kernel
theorem dX7_first_17 : decode cX7_first 17 = .ok (.iload_n 2, 1) := by decide +kernel
theorem dX7_first_18 : decode cX7_first 18 = .ok (.baload, 1) := by decide +kernel
theorem dX7_first_19 : decode cX7_first 19 = .ok (.ifCond .ne 34, 3) := by decide +kernel
theorem dX7_first_22 : decode cX7_first 22 = .ok (.iload_n 1, 1) := by decide +kernel
theorem dX7_first_23 : decode cX7_first 23 = .ok (.ifCond .lt 28, 3) := by decide +kernel
theorem dX7_first_26 : decode cX7_first 26 = .ok (.aload_n 0, 1) := by decide +kernel
theorem dX7_first_27 : decode cX7_first 27 = .ok (.getfield 32, 3) := by decide +kernel
theorem dX7_first_30 : decode cX7_first 30 = .ok (.aload_n 0, 1) := by decide +kernel
theorem dX7_first_31 : decode cX7_first 31 = .ok (.getfield 38, 3) := by decide +kernel
theorem dX7_first_34 : decode cX7_first 34 = .ok (.iload_n 2, 1) := by decide +kernel
theorem dX7_first_35 : decode cX7_first 35 = .ok (.iaload, 1) := by decide +kernel
theorem dX7_first_36 : decode cX7_first 36 = .ok (.iaload, 1) := by decide +kernel
theorem dX7_first_37 : decode cX7_first 37 = .ok (.aload_n 0, 1) := by decide +kernel
theorem dX7_first_38 : decode cX7_first 38 = .ok (.getfield 32, 3) := by decide +kernel
theorem dX7_first_41 : decode cX7_first 41 = .ok (.aload_n 0, 1) := by decide +kernel
theorem dX7_first_42 : decode cX7_first 42 = .ok (.getfield 38, 3) := by decide +kernel
theorem dX7_first_45 : decode cX7_first 45 = .ok (.iload_n 1, 1) := by decide +kernel
theorem dX7_first_46 : decode cX7_first 46 = .ok (.iaload, 1) := by decide +kernel
theorem dX7_first_47 : decode cX7_first 47 = .ok (.iaload, 1) := by decide +kernel
theorem dX7_first_48 : decode cX7_first 48 = .ok (.if_icmp .ge 5, 3) := by decide +kernel
theorem dX7_first_51 : decode cX7_first 51 = .ok (.iload_n 2, 1) := by decide +kernel
theorem dX7_first_52 : decode cX7_first 52 = .ok (.istore_n 1, 1) := by decide +kernel
theorem dX7_first_53 : decode cX7_first 53 = .ok (.iinc 2 1, 3) := by decide +kernel
theorem dX7_first_56 : decode cX7_first 56 = .ok (.goto (-51), 3) := by decide +kernel
theorem dX7_first_59 : decode cX7_first 59 = .ok (.iload_n 1, 1) := by decide +kernel
theorem dX7_first_60 : decode cX7_first 60 = .ok (.ireturn, 1) := by decide +kernel
theorem dX7_basinBeside_0 : decode cX7_basinBeside 0 = .ok (.bipush (-6), 2) := by decide +kernel
theorem dX7_basinBeside_2 : decode cX7_basinBeside 2 = .ok (.istore_n 3, 1) := by decide +kernel
theorem dX7_basinBeside_3 : decode cX7_basinBeside 3 = .ok (.iconst 0, 1) := by decide +kernel
theorem dX7_basinBeside_4 : decode cX7_basinBeside 4 = .ok (.istore 4, 2) := by decide +kernel
theorem dX7_basinBeside_6 : decode cX7_basinBeside 6 = .ok (.iload 4, 2) := by decide +kernel
theorem dX7_basinBeside_8 : decode cX7_basinBeside 8 = .ok (.iconst 4, 1) := by decide +kernel
theorem dX7_basinBeside_9 : decode cX7_basinBeside 9 = .ok (.if_icmp .ge 58, 3) := by decide +kernel
theorem dX7_basinBeside_12 : decode cX7_basinBeside 12 = .ok (.aload_n 0, 1) := by decide +kernel
theorem dX7_basinBeside_13 : decode cX7_basinBeside 13 = .ok (.iload_n 2, 1) := by decide +kernel
theorem dX7_basinBeside_14 : decode cX7_basinBeside 14 = .ok (.iload 4, 2) := by decide +kernel
theorem dX7_basinBeside_16 : decode cX7_basinBeside 16 = .ok (.invokevirtual 77, 3) := by decide +kernel
theorem dX7_basinBeside_19 : decode cX7_basinBeside 19 = .ok (.istore 5, 2) := by decide +kernel
theorem dX7_basinBeside_21 : decode cX7_basinBeside 21 = .ok (.iload 5, 2) := by decide +kernel
theorem dX7_basinBeside_23 : decode cX7_basinBeside 23 = .ok (.ifCond .ge 8, 3) := by decide +kernel
theorem dX7_basinBeside_26 : decode cX7_basinBeside 26 = .ok (.bipush (-6), 2) := by decide +kernel
theorem dX7_basinBeside_28 : decode cX7_basinBeside 28 = .ok (.goto 7, 3) := by decide +kernel
theorem dX7_basinBeside_31 : decode cX7_basinBeside 31 = .ok (.aload_n 1, 1) := by decide +kernel
theorem dX7_basinBeside_32 : decode cX7_basinBeside 32 = .ok (.iload 5, 2) := by decide +kernel
theorem dX7_basinBeside_34 : decode cX7_basinBeside 34 = .ok (.iaload, 1) := by decide +kernel
theorem dX7_basinBeside_35 : decode cX7_basinBeside 35 = .ok (.istore 6, 2) := by decide +kernel
theorem dX7_basinBeside_37 : decode cX7_basinBeside 37 = .ok (.iload 6, 2) := by decide +kernel
theorem dX7_basinBeside_39 : decode cX7_basinBeside 39 = .ok (.ifCond .le 22, 3) := by decide +kernel
theorem dX7_basinBeside_42 : decode cX7_basinBeside 42 = .ok (.iload_n 3, 1) := by decide +kernel
theorem dX7_basinBeside_43 : decode cX7_basinBeside 43 = .ok (.bipush (-6), 2) := by decide +kernel
theorem dX7_basinBeside_45 : decode cX7_basinBeside 45 = .ok (.if_icmp .eq 9, 3) := by decide +kernel
theorem dX7_basinBeside_48 : decode cX7_basinBeside 48 = .ok (.iload_n 3, 1) := by decide +kernel
theorem dX7_basinBeside_49 : decode cX7_basinBeside 49 = .ok (.iload 6, 2) := by decide +kernel
theorem dX7_basinBeside_51 : decode cX7_basinBeside 51 = .ok (.if_icmp .ne 8, 3) := by decide +kernel
theorem dX7_basinBeside_54 : decode cX7_basinBeside 54 = .ok (.iload 6, 2) := by decide +kernel
theorem dX7_basinBeside_56 : decode cX7_basinBeside 56 = .ok (.goto 4, 3) := by decide +kernel
theorem dX7_basinBeside_59 : decode cX7_basinBeside 59 = .ok (.iconst 0, 1) := by decide +kernel
theorem dX7_basinBeside_60 : decode cX7_basinBeside 60 = .ok (.istore_n 3, 1) := by decide +kernel
theorem dX7_basinBeside_61 : decode cX7_basinBeside 61 = .ok (.iinc 4 1, 3) := by decide +kernel
theorem dX7_basinBeside_64 : decode cX7_basinBeside 64 = .ok (.goto (-58), 3) := by decide +kernel
theorem dX7_basinBeside_67 : decode cX7_basinBeside 67 = .ok (.iload_n 3, 1) := by decide +kernel
theorem dX7_basinBeside_68 : decode cX7_basinBeside 68 = .ok (.ireturn, 1) := by decide +kernel
theorem dX7_flood_0 : decode cX7_flood 0 = .ok (.aload_n 0, 1) := by decide +kernel
theorem dX7_flood_1 : decode cX7_flood 1 = .ok (.iconst 0, 1) := by decide +kernel
theorem dX7_flood_2 : decode cX7_flood 2 = .ok (.putfield 101, 3) := by decide +kernel
theorem dX7_flood_5 : decode cX7_flood 5 = .ok (.iconst 0, 1) := by decide +kernel
theorem dX7_flood_6 : decode cX7_flood 6 = .ok (.istore_n 1, 1) := by decide +kernel
theorem dX7_flood_7 : decode cX7_flood 7 = .ok (.iload_n 1, 1) := by decide +kernel
theorem dX7_flood_8 : decode cX7_flood 8 = .ok (.sipush 144, 3) := by decide +kernel
theorem dX7_flood_11 : decode cX7_flood 11 = .ok (.if_icmp .ge 98, 3) := by decide +kernel
theorem dX7_flood_14 : decode cX7_flood 14 = .ok (.iload_n 1, 1) := by decide +kernel
theorem dX7_flood_15 : decode cX7_flood 15 = .ok (.aload_n 0, 1) := by decide +kernel
theorem dX7_flood_16 : decode cX7_flood 16 = .ok (.invokevirtual 80, 3) := by decide +kernel
theorem dX7_flood_19 : decode cX7_flood 19 = .ok (.if_icmp .ge 20, 3) := by decide +kernel
theorem dX7_flood_22 : decode cX7_flood 22 = .ok (.aload_n 0, 1) := by decide +kernel
theorem dX7_flood_23 : decode cX7_flood 23 = .ok (.getfield 7, 3) := by decide +kernel
theorem dX7_flood_26 : decode cX7_flood 26 = .ok (.sipush 144, 3) := by decide +kernel
theorem dX7_flood_29 : decode cX7_flood 29 = .ok (.iload_n 1, 1) := by decide +kernel
theorem dX7_flood_30 : decode cX7_flood 30 = .ok (.iadd, 1) := by decide +kernel
theorem dX7_flood_31 : decode cX7_flood 31 = .ok (.iaload, 1) := by decide +kernel
theorem dX7_flood_32 : decode cX7_flood 32 = .ok (.ifCond .le 7, 3) := by decide +kernel
theorem dX7_flood_35 : decode cX7_flood 35 = .ok (.iconst 1, 1) := by decide +kernel
theorem dX7_flood_36 : decode cX7_flood 36 = .ok (.goto 4, 3) := by decide +kernel
theorem dX7_flood_39 : decode cX7_flood 39 = .ok (.iconst 0, 1) := by decide +kernel
theorem dX7_flood_40 : decode cX7_flood 40 = .ok (.istore_n 2, 1) := by decide +kernel
theorem dX7_flood_41 : decode cX7_flood 41 = .ok (.aload_n 0, 1) := by decide +kernel
theorem dX7_flood_42 : decode cX7_flood 42 = .ok (.getfield 29, 3) := by decide +kernel
theorem dX7_flood_45 : decode cX7_flood 45 = .ok (.iload_n 1, 1) := by decide +kernel
theorem dX7_flood_46 : decode cX7_flood 46 = .ok (.iload_n 2, 1) := by decide +kernel
theorem dX7_flood_47 : decode cX7_flood 47 = .ok (.ifCond .eq 16, 3) := by decide +kernel
theorem dX7_flood_50 : decode cX7_flood 50 = .ok (.aload_n 0, 1) := by decide +kernel
theorem dX7_flood_51 : decode cX7_flood 51 = .ok (.getfield 7, 3) := by decide +kernel
theorem dX7_flood_54 : decode cX7_flood 54 = .ok (.sipush 144, 3) := by decide +kernel
theorem dX7_flood_57 : decode cX7_flood 57 = .ok (.iload_n 1, 1) := by decide +kernel
theorem dX7_flood_58 : decode cX7_flood 58 = .ok (.iadd, 1) := by decide +kernel
theorem dX7_flood_59 : decode cX7_flood 59 = .ok (.iaload, 1) := by decide +kernel
theorem dX7_flood_60 : decode cX7_flood 60 = .ok (.goto 5, 3) := by decide +kernel
theorem dX7_flood_63 : decode cX7_flood 63 = .ok (.bipush (-6), 2) := by decide +kernel
theorem dX7_flood_65 : decode cX7_flood 65 = .ok (.iastore, 1) := by decide +kernel
theorem dX7_flood_66 : decode cX7_flood 66 = .ok (.aload_n 0, 1) := by decide +kernel
theorem dX7_flood_67 : decode cX7_flood 67 = .ok (.getfield 32, 3) := by decide +kernel
theorem dX7_flood_70 : decode cX7_flood 70 = .ok (.iload_n 1, 1) := by decide +kernel
theorem dX7_flood_71 : decode cX7_flood 71 = .ok (.iload_n 2, 1) := by decide +kernel
theorem dX7_flood_72 : decode cX7_flood 72 = .ok (.ifCond .eq 12, 3) := by decide +kernel
theorem dX7_flood_75 : decode cX7_flood 75 = .ok (.aload_n 0, 1) := by decide +kernel
theorem dX7_flood_76 : decode cX7_flood 76 = .ok (.getfield 7, 3) := by decide +kernel
theorem dX7_flood_79 : decode cX7_flood 79 = .ok (.iload_n 1, 1) := by decide +kernel
theorem dX7_flood_80 : decode cX7_flood 80 = .ok (.iaload, 1) := by decide +kernel
theorem dX7_flood_81 : decode cX7_flood 81 = .ok (.goto 5, 3) := by decide +kernel
theorem dX7_flood_84 : decode cX7_flood 84 = .ok (.bipush (-6), 2) := by decide +kernel
theorem dX7_flood_86 : decode cX7_flood 86 = .ok (.iastore, 1) := by decide +kernel
theorem dX7_flood_87 : decode cX7_flood 87 = .ok (.aload_n 0, 1) := by decide +kernel
theorem dX7_flood_88 : decode cX7_flood 88 = .ok (.getfield 35, 3) := by decide +kernel
theorem dX7_flood_91 : decode cX7_flood 91 = .ok (.iload_n 1, 1) := by decide +kernel
theorem dX7_flood_92 : decode cX7_flood 92 = .ok (.iload_n 2, 1) := by decide +kernel
theorem dX7_flood_93 : decode cX7_flood 93 = .ok (.ifCond .eq 7, 3) := by decide +kernel
theorem dX7_flood_96 : decode cX7_flood 96 = .ok (.iconst 0, 1) := by decide +kernel
theorem dX7_flood_97 : decode cX7_flood 97 = .ok (.goto 5, 3) := by decide +kernel
theorem dX7_flood_100 : decode cX7_flood 100 = .ok (.bipush (-6), 2) := by decide +kernel
theorem dX7_flood_102 : decode cX7_flood 102 = .ok (.iastore, 1) := by decide +kernel
theorem dX7_flood_103 : decode cX7_flood 103 = .ok (.iinc 1 1, 3) := by decide +kernel
theorem dX7_flood_106 : decode cX7_flood 106 = .ok (.goto (-99), 3) := by decide +kernel
theorem dX7_flood_109 : decode cX7_flood 109 = .ok (.iconst 0, 1) := by decide +kernel
theorem dX7_flood_110 : decode cX7_flood 110 = .ok (.istore_n 1, 1) := by decide +kernel
theorem dX7_flood_111 : decode cX7_flood 111 = .ok (.iload_n 1, 1) := by decide +kernel
theorem dX7_flood_112 : decode cX7_flood 112 = .ok (.aload_n 0, 1) := by decide +kernel
theorem dX7_flood_113 : decode cX7_flood 113 = .ok (.invokevirtual 80, 3) := by decide +kernel
theorem dX7_flood_116 : decode cX7_flood 116 = .ok (.if_icmp .ge 27, 3) := by decide +kernel
theorem dX7_flood_119 : decode cX7_flood 119 = .ok (.aload_n 0, 1) := by decide +kernel
theorem dX7_flood_120 : decode cX7_flood 120 = .ok (.getfield 7, 3) := by decide +kernel
theorem dX7_flood_123 : decode cX7_flood 123 = .ok (.sipush 144, 3) := by decide +kernel
theorem dX7_flood_126 : decode cX7_flood 126 = .ok (.iload_n 1, 1) := by decide +kernel
theorem dX7_flood_127 : decode cX7_flood 127 = .ok (.iadd, 1) := by decide +kernel
theorem dX7_flood_128 : decode cX7_flood 128 = .ok (.iaload, 1) := by decide +kernel
theorem dX7_flood_129 : decode cX7_flood 129 = .ok (.ifCond .le 8, 3) := by decide +kernel
theorem dX7_flood_132 : decode cX7_flood 132 = .ok (.aload_n 0, 1) := by decide +kernel
theorem dX7_flood_133 : decode cX7_flood 133 = .ok (.iload_n 1, 1) := by decide +kernel
theorem dX7_flood_134 : decode cX7_flood 134 = .ok (.invokevirtual 105, 3) := by decide +kernel
theorem dX7_flood_137 : decode cX7_flood 137 = .ok (.iinc 1 1, 3) := by decide +kernel
theorem dX7_flood_140 : decode cX7_flood 140 = .ok (.goto (-29), 3) := by decide +kernel
theorem dX7_flood_143 : decode cX7_flood 143 = .ok (.aload_n 0, 1) := by decide +kernel
theorem dX7_flood_144 : decode cX7_flood 144 = .ok (.invokevirtual 109, 3) := by decide +kernel
theorem dX7_flood_147 : decode cX7_flood 147 = .ok (.istore_n 1, 1) := by decide +kernel
theorem dX7_flood_148 : decode cX7_flood 148 = .ok (.iconst 0, 1) := by decide +kernel
theorem dX7_flood_149 : decode cX7_flood 149 = .ok (.istore_n 2, 1) := by decide +kernel
theorem dX7_flood_150 : decode cX7_flood 150 = .ok (.iload_n 1, 1) := by decide +kernel
theorem dX7_flood_151 : decode cX7_flood 151 = .ok (.ifCond .lt 64, 3) := by decide +kernel
theorem dX7_flood_154 : decode cX7_flood 154 = .ok (.aload_n 0, 1) := by decide +kernel
theorem dX7_flood_155 : decode cX7_flood 155 = .ok (.getfield 41, 3) := by decide +kernel
theorem dX7_flood_158 : decode cX7_flood 158 = .ok (.iload_n 1, 1) := by decide +kernel
theorem dX7_flood_159 : decode cX7_flood 159 = .ok (.iconst 1, 1) := by decide +kernel
theorem dX7_flood_160 : decode cX7_flood 160 = .ok (.bastore, 1) := by decide +kernel
theorem dX7_flood_161 : decode cX7_flood 161 = .ok (.iinc 2 1, 3) := by decide +kernel
theorem dX7_flood_164 : decode cX7_flood 164 = .ok (.aload_n 0, 1) := by decide +kernel
theorem dX7_flood_165 : decode cX7_flood 165 = .ok (.getfield 38, 3) := by decide +kernel
theorem dX7_flood_168 : decode cX7_flood 168 = .ok (.iload_n 1, 1) := by decide +kernel
theorem dX7_flood_169 : decode cX7_flood 169 = .ok (.iaload, 1) := by decide +kernel
theorem dX7_flood_170 : decode cX7_flood 170 = .ok (.istore_n 3, 1) := by decide +kernel
theorem dX7_flood_171 : decode cX7_flood 171 = .ok (.aload_n 0, 1) := by decide +kernel
theorem dX7_flood_172 : decode cX7_flood 172 = .ok (.getfield 35, 3) := by decide +kernel
theorem dX7_flood_175 : decode cX7_flood 175 = .ok (.iload_n 3, 1) := by decide +kernel
theorem dX7_flood_176 : decode cX7_flood 176 = .ok (.iload_n 2, 1) := by decide +kernel
theorem dX7_flood_177 : decode cX7_flood 177 = .ok (.iastore, 1) := by decide +kernel
theorem dX7_flood_178 : decode cX7_flood 178 = .ok (.aload_n 0, 1) := by decide +kernel
theorem dX7_flood_179 : decode cX7_flood 179 = .ok (.getfield 29, 3) := by decide +kernel
theorem dX7_flood_182 : decode cX7_flood 182 = .ok (.iload_n 3, 1) := by decide +kernel
theorem dX7_flood_183 : decode cX7_flood 183 = .ok (.aload_n 0, 1) := by decide +kernel
theorem dX7_flood_184 : decode cX7_flood 184 = .ok (.aload_n 0, 1) := by decide +kernel
theorem dX7_flood_185 : decode cX7_flood 185 = .ok (.getfield 29, 3) := by decide +kernel
theorem dX7_flood_188 : decode cX7_flood 188 = .ok (.iload_n 3, 1) := by decide +kernel
theorem dX7_flood_189 : decode cX7_flood 189 = .ok (.invokevirtual 112, 3) := by decide +kernel
theorem dX7_flood_192 : decode cX7_flood 192 = .ok (.iastore, 1) := by decide +kernel
theorem dX7_flood_193 : decode cX7_flood 193 = .ok (.aload_n 0, 1) := by decide +kernel
theorem dX7_flood_194 : decode cX7_flood 194 = .ok (.getfield 29, 3) := by decide +kernel
theorem dX7_flood_197 : decode cX7_flood 197 = .ok (.iload_n 3, 1) := by decide +kernel
theorem dX7_flood_198 : decode cX7_flood 198 = .ok (.iaload, 1) := by decide +kernel
theorem dX7_flood_199 : decode cX7_flood 199 = .ok (.ifCond .le 8, 3) := by decide +kernel
theorem dX7_flood_202 : decode cX7_flood 202 = .ok (.aload_n 0, 1) := by decide +kernel
theorem dX7_flood_203 : decode cX7_flood 203 = .ok (.iload_n 3, 1) := by decide +kernel
theorem dX7_flood_204 : decode cX7_flood 204 = .ok (.invokevirtual 105, 3) := by decide +kernel
theorem dX7_flood_207 : decode cX7_flood 207 = .ok (.aload_n 0, 1) := by decide +kernel
theorem dX7_flood_208 : decode cX7_flood 208 = .ok (.invokevirtual 109, 3) := by decide +kernel
theorem dX7_flood_211 : decode cX7_flood 211 = .ok (.istore_n 1, 1) := by decide +kernel
theorem dX7_flood_212 : decode cX7_flood 212 = .ok (.goto (-62), 3) := by decide +kernel
theorem dX7_flood_215 : decode cX7_flood 215 = .ok (.return_, 1) := by decide +kernel
theorem dX7_dotsOf_0 : decode cX7_dotsOf 0 = .ok (.iconst 0, 1) := by decide +kernel
theorem dX7_dotsOf_1 : decode cX7_dotsOf 1 = .ok (.istore_n 3, 1) := by decide +kernel
theorem dX7_dotsOf_2 : decode cX7_dotsOf 2 = .ok (.iconst 0, 1) := by decide +kernel
theorem dX7_dotsOf_3 : decode cX7_dotsOf 3 = .ok (.istore 4, 2) := by decide +kernel
theorem dX7_dotsOf_5 : decode cX7_dotsOf 5 = .ok (.iload 4, 2) := by decide +kernel
theorem dX7_dotsOf_7 : decode cX7_dotsOf 7 = .ok (.aload_n 0, 1) := by decide +kernel
theorem dX7_dotsOf_8 : decode cX7_dotsOf 8 = .ok (.invokevirtual 80, 3) := by decide +kernel
theorem dX7_dotsOf_11 : decode cX7_dotsOf 11 = .ok (.if_icmp .ge 25, 3) := by decide +kernel
theorem dX7_dotsOf_14 : decode cX7_dotsOf 14 = .ok (.iload_n 3, 1) := by decide +kernel
theorem dX7_dotsOf_15 : decode cX7_dotsOf 15 = .ok (.aload_n 1, 1) := by decide +kernel
theorem dX7_dotsOf_16 : decode cX7_dotsOf 16 = .ok (.iload 4, 2) := by decide +kernel
theorem dX7_dotsOf_18 : decode cX7_dotsOf 18 = .ok (.iaload, 1) := by decide +kernel
theorem dX7_dotsOf_19 : decode cX7_dotsOf 19 = .ok (.iload_n 2, 1) := by decide +kernel
theorem dX7_dotsOf_20 : decode cX7_dotsOf 20 = .ok (.if_icmp .ne 7, 3) := by decide +kernel
theorem dX7_dotsOf_23 : decode cX7_dotsOf 23 = .ok (.iconst 1, 1) := by decide +kernel
theorem dX7_dotsOf_24 : decode cX7_dotsOf 24 = .ok (.goto 4, 3) := by decide +kernel
theorem dX7_dotsOf_27 : decode cX7_dotsOf 27 = .ok (.iconst 0, 1) := by decide +kernel
theorem dX7_dotsOf_28 : decode cX7_dotsOf 28 = .ok (.iadd, 1) := by decide +kernel
theorem dX7_dotsOf_29 : decode cX7_dotsOf 29 = .ok (.istore_n 3, 1) := by decide +kernel
theorem dX7_dotsOf_30 : decode cX7_dotsOf 30 = .ok (.iinc 4 1, 3) := by decide +kernel
theorem dX7_dotsOf_33 : decode cX7_dotsOf 33 = .ok (.goto (-28), 3) := by decide +kernel
theorem dX7_dotsOf_36 : decode cX7_dotsOf 36 = .ok (.iload_n 3, 1) := by decide +kernel
theorem dX7_dotsOf_37 : decode cX7_dotsOf 37 = .ok (.ireturn, 1) := by decide +kernel
theorem dX7_hasBeside_0 : decode cX7_hasBeside 0 = .ok (.iconst 0, 1) := by decide +kernel
theorem dX7_hasBeside_1 : decode cX7_hasBeside 1 = .ok (.istore_n 3, 1) := by decide +kernel
theorem dX7_hasBeside_2 : decode cX7_hasBeside 2 = .ok (.iconst 0, 1) := by decide +kernel
theorem dX7_hasBeside_3 : decode cX7_hasBeside 3 = .ok (.istore 4, 2) := by decide +kernel
theorem dX7_hasBeside_5 : decode cX7_hasBeside 5 = .ok (.iload 4, 2) := by decide +kernel
theorem dX7_hasBeside_7 : decode cX7_hasBeside 7 = .ok (.iconst 4, 1) := by decide +kernel
theorem dX7_hasBeside_8 : decode cX7_hasBeside 8 = .ok (.if_icmp .ge 44, 3) := by decide +kernel
theorem dX7_hasBeside_11 : decode cX7_hasBeside 11 = .ok (.aload_n 0, 1) := by decide +kernel
theorem dX7_hasBeside_12 : decode cX7_hasBeside 12 = .ok (.iload_n 1, 1) := by decide +kernel
theorem dX7_hasBeside_13 : decode cX7_hasBeside 13 = .ok (.iload 4, 2) := by decide +kernel
theorem dX7_hasBeside_15 : decode cX7_hasBeside 15 = .ok (.invokevirtual 77, 3) := by decide +kernel
theorem dX7_hasBeside_18 : decode cX7_hasBeside 18 = .ok (.istore 5, 2) := by decide +kernel
theorem dX7_hasBeside_20 : decode cX7_hasBeside 20 = .ok (.iload_n 3, 1) := by decide +kernel
theorem dX7_hasBeside_21 : decode cX7_hasBeside 21 = .ok (.ifCond .ne 19, 3) := by decide +kernel
theorem dX7_hasBeside_24 : decode cX7_hasBeside 24 = .ok (.iload 5, 2) := by decide +kernel
theorem dX7_hasBeside_26 : decode cX7_hasBeside 26 = .ok (.ifCond .lt 18, 3) := by decide +kernel
theorem dX7_hasBeside_29 : decode cX7_hasBeside 29 = .ok (.aload_n 0, 1) := by decide +kernel
theorem dX7_hasBeside_30 : decode cX7_hasBeside 30 = .ok (.getfield 44, 3) := by decide +kernel
theorem dX7_hasBeside_33 : decode cX7_hasBeside 33 = .ok (.iload 5, 2) := by decide +kernel
theorem dX7_hasBeside_35 : decode cX7_hasBeside 35 = .ok (.iaload, 1) := by decide +kernel
theorem dX7_hasBeside_36 : decode cX7_hasBeside 36 = .ok (.iload_n 2, 1) := by decide +kernel
theorem dX7_hasBeside_37 : decode cX7_hasBeside 37 = .ok (.if_icmp .ne 7, 3) := by decide +kernel
theorem dX7_hasBeside_40 : decode cX7_hasBeside 40 = .ok (.iconst 1, 1) := by decide +kernel
theorem dX7_hasBeside_41 : decode cX7_hasBeside 41 = .ok (.goto 4, 3) := by decide +kernel
theorem dX7_hasBeside_44 : decode cX7_hasBeside 44 = .ok (.iconst 0, 1) := by decide +kernel
theorem dX7_hasBeside_45 : decode cX7_hasBeside 45 = .ok (.istore_n 3, 1) := by decide +kernel
theorem dX7_hasBeside_46 : decode cX7_hasBeside 46 = .ok (.iinc 4 1, 3) := by decide +kernel
theorem dX7_hasBeside_49 : decode cX7_hasBeside 49 = .ok (.goto (-44), 3) := by decide +kernel
theorem dX7_hasBeside_52 : decode cX7_hasBeside 52 = .ok (.iload_n 3, 1) := by decide +kernel
theorem dX7_hasBeside_53 : decode cX7_hasBeside 53 = .ok (.ireturn, 1) := by decide +kernel
theorem dX7_lesser_0 : decode cX7_lesser 0 = .ok (.iload_n 0, 1) := by decide +kernel
theorem dX7_lesser_1 : decode cX7_lesser 1 = .ok (.ifCond .lt 12, 3) := by decide +kernel
theorem dX7_lesser_4 : decode cX7_lesser 4 = .ok (.iload_n 1, 1) := by decide +kernel
theorem dX7_lesser_5 : decode cX7_lesser 5 = .ok (.ifCond .lt 12, 3) := by decide +kernel
theorem dX7_lesser_8 : decode cX7_lesser 8 = .ok (.iload_n 1, 1) := by decide +kernel
theorem dX7_lesser_9 : decode cX7_lesser 9 = .ok (.iload_n 0, 1) := by decide +kernel
theorem dX7_lesser_10 : decode cX7_lesser 10 = .ok (.if_icmp .ge 7, 3) := by decide +kernel
theorem dX7_lesser_13 : decode cX7_lesser 13 = .ok (.iload_n 1, 1) := by decide +kernel
theorem dX7_lesser_14 : decode cX7_lesser 14 = .ok (.goto 4, 3) := by decide +kernel
theorem dX7_lesser_17 : decode cX7_lesser 17 = .ok (.iload_n 0, 1) := by decide +kernel
theorem dX7_lesser_18 : decode cX7_lesser 18 = .ok (.ireturn, 1) := by decide +kernel
theorem dX7_passOf_0 : decode cX7_passOf 0 = .ok (.bipush (-6), 2) := by decide +kernel
theorem dX7_passOf_2 : decode cX7_passOf 2 = .ok (.istore_n 3, 1) := by decide +kernel
theorem dX7_passOf_3 : decode cX7_passOf 3 = .ok (.iconst 0, 1) := by decide +kernel
theorem dX7_passOf_4 : decode cX7_passOf 4 = .ok (.istore 4, 2) := by decide +kernel
theorem dX7_passOf_6 : decode cX7_passOf 6 = .ok (.iload 4, 2) := by decide +kernel
theorem dX7_passOf_8 : decode cX7_passOf 8 = .ok (.aload_n 0, 1) := by decide +kernel
theorem dX7_passOf_9 : decode cX7_passOf 9 = .ok (.invokevirtual 80, 3) := by decide +kernel
theorem dX7_passOf_12 : decode cX7_passOf 12 = .ok (.if_icmp .ge 125, 3) := by decide +kernel
theorem dX7_passOf_15 : decode cX7_passOf 15 = .ok (.aload_n 0, 1) := by decide +kernel
theorem dX7_passOf_16 : decode cX7_passOf 16 = .ok (.getfield 44, 3) := by decide +kernel
theorem dX7_passOf_19 : decode cX7_passOf 19 = .ok (.iload 4, 2) := by decide +kernel
theorem dX7_passOf_21 : decode cX7_passOf 21 = .ok (.iaload, 1) := by decide +kernel
theorem dX7_passOf_22 : decode cX7_passOf 22 = .ok (.ifCond .ne 35, 3) := by decide +kernel
theorem dX7_passOf_25 : decode cX7_passOf 25 = .ok (.aload_n 0, 1) := by decide +kernel
theorem dX7_passOf_26 : decode cX7_passOf 26 = .ok (.iload 4, 2) := by decide +kernel
theorem dX7_passOf_28 : decode cX7_passOf 28 = .ok (.iload_n 1, 1) := by decide +kernel
theorem dX7_passOf_29 : decode cX7_passOf 29 = .ok (.invokevirtual 116, 3) := by decide +kernel
theorem dX7_passOf_32 : decode cX7_passOf 32 = .ok (.ifCond .eq 25, 3) := by decide +kernel
theorem dX7_passOf_35 : decode cX7_passOf 35 = .ok (.aload_n 0, 1) := by decide +kernel
theorem dX7_passOf_36 : decode cX7_passOf 36 = .ok (.iload 4, 2) := by decide +kernel
theorem dX7_passOf_38 : decode cX7_passOf 38 = .ok (.iload_n 2, 1) := by decide +kernel
theorem dX7_passOf_39 : decode cX7_passOf 39 = .ok (.invokevirtual 116, 3) := by decide +kernel
theorem dX7_passOf_42 : decode cX7_passOf 42 = .ok (.ifCond .eq 15, 3) := by decide +kernel
theorem dX7_passOf_45 : decode cX7_passOf 45 = .ok (.iload_n 3, 1) := by decide +kernel
theorem dX7_passOf_46 : decode cX7_passOf 46 = .ok (.aload_n 0, 1) := by decide +kernel
theorem dX7_passOf_47 : decode cX7_passOf 47 = .ok (.getfield 7, 3) := by decide +kernel
theorem dX7_passOf_50 : decode cX7_passOf 50 = .ok (.iload 4, 2) := by decide +kernel
theorem dX7_passOf_52 : decode cX7_passOf 52 = .ok (.iaload, 1) := by decide +kernel
theorem dX7_passOf_53 : decode cX7_passOf 53 = .ok (.invokestatic 119, 3) := by decide +kernel
theorem dX7_passOf_56 : decode cX7_passOf 56 = .ok (.istore_n 3, 1) := by decide +kernel
theorem dX7_passOf_57 : decode cX7_passOf 57 = .ok (.iconst 0, 1) := by decide +kernel
theorem dX7_passOf_58 : decode cX7_passOf 58 = .ok (.istore 5, 2) := by decide +kernel
theorem dX7_passOf_60 : decode cX7_passOf 60 = .ok (.iload 5, 2) := by decide +kernel
theorem dX7_passOf_62 : decode cX7_passOf 62 = .ok (.iconst 4, 1) := by decide +kernel
theorem dX7_passOf_63 : decode cX7_passOf 63 = .ok (.if_icmp .ge 68, 3) := by decide +kernel
theorem dX7_passOf_66 : decode cX7_passOf 66 = .ok (.aload_n 0, 1) := by decide +kernel
theorem dX7_passOf_67 : decode cX7_passOf 67 = .ok (.getfield 44, 3) := by decide +kernel
theorem dX7_passOf_70 : decode cX7_passOf 70 = .ok (.iload 4, 2) := by decide +kernel
theorem dX7_passOf_72 : decode cX7_passOf 72 = .ok (.iaload, 1) := by decide +kernel
theorem dX7_passOf_73 : decode cX7_passOf 73 = .ok (.iload_n 1, 1) := by decide +kernel
theorem dX7_passOf_74 : decode cX7_passOf 74 = .ok (.if_icmp .ne 57, 3) := by decide +kernel
theorem dX7_passOf_77 : decode cX7_passOf 77 = .ok (.aload_n 0, 1) := by decide +kernel
theorem dX7_passOf_78 : decode cX7_passOf 78 = .ok (.iload 4, 2) := by decide +kernel
theorem dX7_passOf_80 : decode cX7_passOf 80 = .ok (.iload 5, 2) := by decide +kernel
theorem dX7_passOf_82 : decode cX7_passOf 82 = .ok (.invokevirtual 77, 3) := by decide +kernel
theorem dX7_passOf_85 : decode cX7_passOf 85 = .ok (.istore 6, 2) := by decide +kernel
theorem dX7_passOf_87 : decode cX7_passOf 87 = .ok (.iload 6, 2) := by decide +kernel
theorem dX7_passOf_89 : decode cX7_passOf 89 = .ok (.ifCond .lt 36, 3) := by decide +kernel
theorem dX7_passOf_92 : decode cX7_passOf 92 = .ok (.aload_n 0, 1) := by decide +kernel
theorem dX7_passOf_93 : decode cX7_passOf 93 = .ok (.getfield 44, 3) := by decide +kernel
theorem dX7_passOf_96 : decode cX7_passOf 96 = .ok (.iload 6, 2) := by decide +kernel
theorem dX7_passOf_98 : decode cX7_passOf 98 = .ok (.iaload, 1) := by decide +kernel
theorem dX7_passOf_99 : decode cX7_passOf 99 = .ok (.iload_n 2, 1) := by decide +kernel
theorem dX7_passOf_100 : decode cX7_passOf 100 = .ok (.if_icmp .ne 25, 3) := by decide +kernel
theorem dX7_passOf_103 : decode cX7_passOf 103 = .ok (.iload_n 3, 1) := by decide +kernel
theorem dX7_passOf_104 : decode cX7_passOf 104 = .ok (.aload_n 0, 1) := by decide +kernel
theorem dX7_passOf_105 : decode cX7_passOf 105 = .ok (.getfield 7, 3) := by decide +kernel
theorem dX7_passOf_108 : decode cX7_passOf 108 = .ok (.iload 4, 2) := by decide +kernel
theorem dX7_passOf_110 : decode cX7_passOf 110 = .ok (.iaload, 1) := by decide +kernel
theorem dX7_passOf_111 : decode cX7_passOf 111 = .ok (.aload_n 0, 1) := by decide +kernel
theorem dX7_passOf_112 : decode cX7_passOf 112 = .ok (.getfield 7, 3) := by decide +kernel
theorem dX7_passOf_115 : decode cX7_passOf 115 = .ok (.iload 6, 2) := by decide +kernel
theorem dX7_passOf_117 : decode cX7_passOf 117 = .ok (.iaload, 1) := by decide +kernel
theorem dX7_passOf_118 : decode cX7_passOf 118 = .ok (.invokestatic 98, 3) := by decide +kernel
theorem dX7_passOf_121 : decode cX7_passOf 121 = .ok (.invokestatic 119, 3) := by decide +kernel
theorem dX7_passOf_124 : decode cX7_passOf 124 = .ok (.istore_n 3, 1) := by decide +kernel
theorem dX7_passOf_125 : decode cX7_passOf 125 = .ok (.iinc 5 1, 3) := by decide +kernel
theorem dX7_passOf_128 : decode cX7_passOf 128 = .ok (.goto (-68), 3) := by decide +kernel
theorem dX7_passOf_131 : decode cX7_passOf 131 = .ok (.iinc 4 1, 3) := by decide +kernel
theorem dX7_passOf_134 : decode cX7_passOf 134 = .ok (.goto (-128), 3) := by decide +kernel
theorem dX7_passOf_137 : decode cX7_passOf 137 = .ok (.iload_n 3, 1) := by decide +kernel
theorem dX7_passOf_138 : decode cX7_passOf 138 = .ok (.ireturn, 1) := by decide +kernel
theorem dX7_layPasses_0 : decode cX7_layPasses 0 = .ok (.iconst 1, 1) := by decide +kernel
theorem dX7_layPasses_1 : decode cX7_layPasses 1 = .ok (.istore_n 2, 1) := by decide +kernel
theorem dX7_layPasses_2 : decode cX7_layPasses 2 = .ok (.iload_n 2, 1) := by decide +kernel
theorem dX7_layPasses_3 : decode cX7_layPasses 3 = .ok (.bipush 100, 2) := by decide +kernel
theorem dX7_layPasses_5 : decode cX7_layPasses 5 = .ok (.if_icmp .ge 17, 3) := by decide +kernel
theorem dX7_layPasses_8 : decode cX7_layPasses 8 = .ok (.aload_n 0, 1) := by decide +kernel
theorem dX7_layPasses_9 : decode cX7_layPasses 9 = .ok (.getfield 59, 3) := by decide +kernel
theorem dX7_layPasses_12 : decode cX7_layPasses 12 = .ok (.iload_n 2, 1) := by decide +kernel
theorem dX7_layPasses_13 : decode cX7_layPasses 13 = .ok (.bipush (-6), 2) := by decide +kernel
theorem dX7_layPasses_15 : decode cX7_layPasses 15 = .ok (.iastore, 1) := by decide +kernel
theorem dX7_layPasses_16 : decode cX7_layPasses 16 = .ok (.iinc 2 1, 3) := by decide +kernel
theorem dX7_layPasses_19 : decode cX7_layPasses 19 = .ok (.goto (-17), 3) := by decide +kernel
theorem dX7_layPasses_22 : decode cX7_layPasses 22 = .ok (.iconst 0, 1) := by decide +kernel
theorem dX7_layPasses_23 : decode cX7_layPasses 23 = .ok (.istore_n 2, 1) := by decide +kernel
theorem dX7_layPasses_24 : decode cX7_layPasses 24 = .ok (.iload_n 2, 1) := by decide +kernel
theorem dX7_layPasses_25 : decode cX7_layPasses 25 = .ok (.aload_n 0, 1) := by decide +kernel
theorem dX7_layPasses_26 : decode cX7_layPasses 26 = .ok (.invokevirtual 80, 3) := by decide +kernel
theorem dX7_layPasses_29 : decode cX7_layPasses 29 = .ok (.if_icmp .ge 153, 3) := by decide +kernel
theorem dX7_layPasses_32 : decode cX7_layPasses 32 = .ok (.aload_n 0, 1) := by decide +kernel
theorem dX7_layPasses_33 : decode cX7_layPasses 33 = .ok (.getfield 44, 3) := by decide +kernel
theorem dX7_layPasses_36 : decode cX7_layPasses 36 = .ok (.iload_n 2, 1) := by decide +kernel
theorem dX7_layPasses_37 : decode cX7_layPasses 37 = .ok (.iaload, 1) := by decide +kernel
theorem dX7_layPasses_38 : decode cX7_layPasses 38 = .ok (.ifCond .ne 16, 3) := by decide +kernel
theorem dX7_layPasses_41 : decode cX7_layPasses 41 = .ok (.aload_n 0, 1) := by decide +kernel
theorem dX7_layPasses_42 : decode cX7_layPasses 42 = .ok (.iload_n 2, 1) := by decide +kernel
theorem dX7_layPasses_43 : decode cX7_layPasses 43 = .ok (.iload_n 1, 1) := by decide +kernel
theorem dX7_layPasses_44 : decode cX7_layPasses 44 = .ok (.invokevirtual 116, 3) := by decide +kernel
theorem dX7_layPasses_47 : decode cX7_layPasses 47 = .ok (.ifCond .eq 7, 3) := by decide +kernel
theorem dX7_layPasses_50 : decode cX7_layPasses 50 = .ok (.iconst 1, 1) := by decide +kernel
theorem dX7_layPasses_51 : decode cX7_layPasses 51 = .ok (.goto 4, 3) := by decide +kernel
theorem dX7_layPasses_54 : decode cX7_layPasses 54 = .ok (.iconst 0, 1) := by decide +kernel
theorem dX7_layPasses_55 : decode cX7_layPasses 55 = .ok (.istore_n 3, 1) := by decide +kernel
theorem dX7_layPasses_56 : decode cX7_layPasses 56 = .ok (.iconst 0, 1) := by decide +kernel
theorem dX7_layPasses_57 : decode cX7_layPasses 57 = .ok (.istore 4, 2) := by decide +kernel
theorem dX7_layPasses_59 : decode cX7_layPasses 59 = .ok (.iload 4, 2) := by decide +kernel
theorem dX7_layPasses_61 : decode cX7_layPasses 61 = .ok (.iconst 4, 1) := by decide +kernel
theorem dX7_layPasses_62 : decode cX7_layPasses 62 = .ok (.if_icmp .ge 114, 3) := by decide +kernel
theorem dX7_layPasses_65 : decode cX7_layPasses 65 = .ok (.iload_n 3, 1) := by decide +kernel
theorem dX7_layPasses_66 : decode cX7_layPasses 66 = .ok (.ifCond .ne 13, 3) := by decide +kernel
theorem dX7_layPasses_69 : decode cX7_layPasses 69 = .ok (.aload_n 0, 1) := by decide +kernel
theorem dX7_layPasses_70 : decode cX7_layPasses 70 = .ok (.getfield 44, 3) := by decide +kernel
theorem dX7_layPasses_73 : decode cX7_layPasses 73 = .ok (.iload_n 2, 1) := by decide +kernel
theorem dX7_layPasses_74 : decode cX7_layPasses 74 = .ok (.iaload, 1) := by decide +kernel
theorem dX7_layPasses_75 : decode cX7_layPasses 75 = .ok (.iload_n 1, 1) := by decide +kernel
theorem dX7_layPasses_76 : decode cX7_layPasses 76 = .ok (.if_icmp .ne 100, 3) := by decide +kernel
theorem dX7_layPasses_79 : decode cX7_layPasses 79 = .ok (.aload_n 0, 1) := by decide +kernel
theorem dX7_layPasses_80 : decode cX7_layPasses 80 = .ok (.iload_n 2, 1) := by decide +kernel
theorem dX7_layPasses_81 : decode cX7_layPasses 81 = .ok (.iload 4, 2) := by decide +kernel
theorem dX7_layPasses_83 : decode cX7_layPasses 83 = .ok (.invokevirtual 77, 3) := by decide +kernel
theorem dX7_layPasses_86 : decode cX7_layPasses 86 = .ok (.istore 5, 2) := by decide +kernel
theorem dX7_layPasses_88 : decode cX7_layPasses 88 = .ok (.iload 5, 2) := by decide +kernel
theorem dX7_layPasses_90 : decode cX7_layPasses 90 = .ok (.ifCond .lt 80, 3) := by decide +kernel
theorem dX7_layPasses_93 : decode cX7_layPasses 93 = .ok (.aload_n 0, 1) := by decide +kernel
theorem dX7_layPasses_94 : decode cX7_layPasses 94 = .ok (.getfield 44, 3) := by decide +kernel
theorem dX7_layPasses_97 : decode cX7_layPasses 97 = .ok (.iload 5, 2) := by decide +kernel
theorem dX7_layPasses_99 : decode cX7_layPasses 99 = .ok (.iaload, 1) := by decide +kernel
theorem dX7_layPasses_100 : decode cX7_layPasses 100 = .ok (.ifCond .le 70, 3) := by decide +kernel
theorem dX7_layPasses_103 : decode cX7_layPasses 103 = .ok (.aload_n 0, 1) := by decide +kernel
theorem dX7_layPasses_104 : decode cX7_layPasses 104 = .ok (.getfield 44, 3) := by decide +kernel
theorem dX7_layPasses_107 : decode cX7_layPasses 107 = .ok (.iload 5, 2) := by decide +kernel
theorem dX7_layPasses_109 : decode cX7_layPasses 109 = .ok (.iaload, 1) := by decide +kernel
theorem dX7_layPasses_110 : decode cX7_layPasses 110 = .ok (.iload_n 1, 1) := by decide +kernel
theorem dX7_layPasses_111 : decode cX7_layPasses 111 = .ok (.if_icmp .eq 59, 3) := by decide +kernel
theorem dX7_layPasses_114 : decode cX7_layPasses 114 = .ok (.aload_n 0, 1) := by decide +kernel
theorem dX7_layPasses_115 : decode cX7_layPasses 115 = .ok (.getfield 59, 3) := by decide +kernel
theorem dX7_layPasses_118 : decode cX7_layPasses 118 = .ok (.aload_n 0, 1) := by decide +kernel
theorem dX7_layPasses_119 : decode cX7_layPasses 119 = .ok (.getfield 44, 3) := by decide +kernel
theorem dX7_layPasses_122 : decode cX7_layPasses 122 = .ok (.iload 5, 2) := by decide +kernel
theorem dX7_layPasses_124 : decode cX7_layPasses 124 = .ok (.iaload, 1) := by decide +kernel
theorem dX7_layPasses_125 : decode cX7_layPasses 125 = .ok (.aload_n 0, 1) := by decide +kernel
theorem dX7_layPasses_126 : decode cX7_layPasses 126 = .ok (.getfield 59, 3) := by decide +kernel
theorem dX7_layPasses_129 : decode cX7_layPasses 129 = .ok (.aload_n 0, 1) := by decide +kernel
theorem dX7_layPasses_130 : decode cX7_layPasses 130 = .ok (.getfield 44, 3) := by decide +kernel
theorem dX7_layPasses_133 : decode cX7_layPasses 133 = .ok (.iload 5, 2) := by decide +kernel
theorem dX7_layPasses_135 : decode cX7_layPasses 135 = .ok (.iaload, 1) := by decide +kernel
theorem dX7_layPasses_136 : decode cX7_layPasses 136 = .ok (.iaload, 1) := by decide +kernel
theorem dX7_layPasses_137 : decode cX7_layPasses 137 = .ok (.iload_n 3, 1) := by decide +kernel
theorem dX7_layPasses_138 : decode cX7_layPasses 138 = .ok (.ifCond .eq 12, 3) := by decide +kernel
theorem dX7_layPasses_141 : decode cX7_layPasses 141 = .ok (.aload_n 0, 1) := by decide +kernel
theorem dX7_layPasses_142 : decode cX7_layPasses 142 = .ok (.getfield 7, 3) := by decide +kernel
theorem dX7_layPasses_145 : decode cX7_layPasses 145 = .ok (.iload_n 2, 1) := by decide +kernel
theorem dX7_layPasses_146 : decode cX7_layPasses 146 = .ok (.iaload, 1) := by decide +kernel
theorem dX7_layPasses_147 : decode cX7_layPasses 147 = .ok (.goto 19, 3) := by decide +kernel
theorem dX7_layPasses_150 : decode cX7_layPasses 150 = .ok (.aload_n 0, 1) := by decide +kernel
theorem dX7_layPasses_151 : decode cX7_layPasses 151 = .ok (.getfield 7, 3) := by decide +kernel
theorem dX7_layPasses_154 : decode cX7_layPasses 154 = .ok (.iload_n 2, 1) := by decide +kernel
theorem dX7_layPasses_155 : decode cX7_layPasses 155 = .ok (.iaload, 1) := by decide +kernel
theorem dX7_layPasses_156 : decode cX7_layPasses 156 = .ok (.aload_n 0, 1) := by decide +kernel
theorem dX7_layPasses_157 : decode cX7_layPasses 157 = .ok (.getfield 7, 3) := by decide +kernel
theorem dX7_layPasses_160 : decode cX7_layPasses 160 = .ok (.iload 5, 2) := by decide +kernel
theorem dX7_layPasses_162 : decode cX7_layPasses 162 = .ok (.iaload, 1) := by decide +kernel
theorem dX7_layPasses_163 : decode cX7_layPasses 163 = .ok (.invokestatic 98, 3) := by decide +kernel
theorem dX7_layPasses_166 : decode cX7_layPasses 166 = .ok (.invokestatic 119, 3) := by decide +kernel
theorem dX7_layPasses_169 : decode cX7_layPasses 169 = .ok (.iastore, 1) := by decide +kernel
theorem dX7_layPasses_170 : decode cX7_layPasses 170 = .ok (.iinc 4 1, 3) := by decide +kernel
theorem dX7_layPasses_173 : decode cX7_layPasses 173 = .ok (.goto (-114), 3) := by decide +kernel
theorem dX7_layPasses_176 : decode cX7_layPasses 176 = .ok (.iinc 2 1, 3) := by decide +kernel
theorem dX7_layPasses_179 : decode cX7_layPasses 179 = .ok (.goto (-155), 3) := by decide +kernel
theorem dX7_layPasses_182 : decode cX7_layPasses 182 = .ok (.return_, 1) := by decide +kernel
theorem dX7_wayOut_0 : decode cX7_wayOut 0 = .ok (.aload_n 0, 1) := by decide +kernel
theorem dX7_wayOut_1 : decode cX7_wayOut 1 = .ok (.iload_n 1, 1) := by decide +kernel
theorem dX7_wayOut_2 : decode cX7_wayOut 2 = .ok (.invokevirtual 122, 3) := by decide +kernel
theorem dX7_wayOut_5 : decode cX7_wayOut 5 = .ok (.bipush (-6), 2) := by decide +kernel
theorem dX7_wayOut_7 : decode cX7_wayOut 7 = .ok (.istore_n 2, 1) := by decide +kernel
theorem dX7_wayOut_8 : decode cX7_wayOut 8 = .ok (.iconst 1, 1) := by decide +kernel
theorem dX7_wayOut_9 : decode cX7_wayOut 9 = .ok (.istore_n 3, 1) := by decide +kernel
theorem dX7_wayOut_10 : decode cX7_wayOut 10 = .ok (.iload_n 3, 1) := by decide +kernel
theorem dX7_wayOut_11 : decode cX7_wayOut 11 = .ok (.bipush 100, 2) := by decide +kernel
theorem dX7_wayOut_13 : decode cX7_wayOut 13 = .ok (.if_icmp .ge 43, 3) := by decide +kernel
theorem dX7_wayOut_16 : decode cX7_wayOut 16 = .ok (.aload_n 0, 1) := by decide +kernel
theorem dX7_wayOut_17 : decode cX7_wayOut 17 = .ok (.getfield 59, 3) := by decide +kernel
theorem dX7_wayOut_20 : decode cX7_wayOut 20 = .ok (.iload_n 3, 1) := by decide +kernel
theorem dX7_wayOut_21 : decode cX7_wayOut 21 = .ok (.iaload, 1) := by decide +kernel
theorem dX7_wayOut_22 : decode cX7_wayOut 22 = .ok (.ifCond .lt 26, 3) := by decide +kernel
theorem dX7_wayOut_25 : decode cX7_wayOut 25 = .ok (.iload_n 2, 1) := by decide +kernel
theorem dX7_wayOut_26 : decode cX7_wayOut 26 = .ok (.ifCond .lt 18, 3) := by decide +kernel
theorem dX7_wayOut_29 : decode cX7_wayOut 29 = .ok (.aload_n 0, 1) := by decide +kernel
theorem dX7_wayOut_30 : decode cX7_wayOut 30 = .ok (.getfield 59, 3) := by decide +kernel
theorem dX7_wayOut_33 : decode cX7_wayOut 33 = .ok (.iload_n 3, 1) := by decide +kernel
theorem dX7_wayOut_34 : decode cX7_wayOut 34 = .ok (.iaload, 1) := by decide +kernel
theorem dX7_wayOut_35 : decode cX7_wayOut 35 = .ok (.aload_n 0, 1) := by decide +kernel
theorem dX7_wayOut_36 : decode cX7_wayOut 36 = .ok (.getfield 59, 3) := by decide +kernel
theorem dX7_wayOut_39 : decode cX7_wayOut 39 = .ok (.iload_n 2, 1) := by decide +kernel
theorem dX7_wayOut_40 : decode cX7_wayOut 40 = .ok (.iaload, 1) := by decide +kernel
theorem dX7_wayOut_41 : decode cX7_wayOut 41 = .ok (.if_icmp .ge 7, 3) := by decide +kernel
theorem dX7_wayOut_44 : decode cX7_wayOut 44 = .ok (.iload_n 3, 1) := by decide +kernel
theorem dX7_wayOut_45 : decode cX7_wayOut 45 = .ok (.goto 4, 3) := by decide +kernel
theorem dX7_wayOut_48 : decode cX7_wayOut 48 = .ok (.iload_n 2, 1) := by decide +kernel
theorem dX7_wayOut_49 : decode cX7_wayOut 49 = .ok (.istore_n 2, 1) := by decide +kernel
theorem dX7_wayOut_50 : decode cX7_wayOut 50 = .ok (.iinc 3 1, 3) := by decide +kernel
theorem dX7_wayOut_53 : decode cX7_wayOut 53 = .ok (.goto (-43), 3) := by decide +kernel
theorem dX7_wayOut_56 : decode cX7_wayOut 56 = .ok (.iload_n 2, 1) := by decide +kernel
theorem dX7_wayOut_57 : decode cX7_wayOut 57 = .ok (.ireturn, 1) := by decide +kernel
theorem dX7_leastHeight_0 : decode cX7_leastHeight 0 = .ok (.bipush (-6), 2) := by decide +kernel
theorem dX7_leastHeight_2 : decode cX7_leastHeight 2 = .ok (.istore_n 2, 1) := by decide +kernel
theorem dX7_leastHeight_3 : decode cX7_leastHeight 3 = .ok (.iconst 0, 1) := by decide +kernel
theorem dX7_leastHeight_4 : decode cX7_leastHeight 4 = .ok (.istore_n 3, 1) := by decide +kernel
theorem dX7_leastHeight_5 : decode cX7_leastHeight 5 = .ok (.iload_n 3, 1) := by decide +kernel
theorem dX7_leastHeight_6 : decode cX7_leastHeight 6 = .ok (.aload_n 0, 1) := by decide +kernel
theorem dX7_leastHeight_7 : decode cX7_leastHeight 7 = .ok (.invokevirtual 80, 3) := by decide +kernel
theorem dX7_leastHeight_10 : decode cX7_leastHeight 10 = .ok (.if_icmp .ge 34, 3) := by decide +kernel
theorem dX7_leastHeight_13 : decode cX7_leastHeight 13 = .ok (.aload_n 0, 1) := by decide +kernel
theorem dX7_leastHeight_14 : decode cX7_leastHeight 14 = .ok (.getfield 44, 3) := by decide +kernel
theorem dX7_leastHeight_17 : decode cX7_leastHeight 17 = .ok (.iload_n 3, 1) := by decide +kernel
theorem dX7_leastHeight_18 : decode cX7_leastHeight 18 = .ok (.iaload, 1) := by decide +kernel
theorem dX7_leastHeight_19 : decode cX7_leastHeight 19 = .ok (.iload_n 1, 1) := by decide +kernel
theorem dX7_leastHeight_20 : decode cX7_leastHeight 20 = .ok (.if_icmp .ne 16, 3) := by decide +kernel
theorem dX7_leastHeight_23 : decode cX7_leastHeight 23 = .ok (.iload_n 2, 1) := by decide +kernel
theorem dX7_leastHeight_24 : decode cX7_leastHeight 24 = .ok (.aload_n 0, 1) := by decide +kernel
theorem dX7_leastHeight_25 : decode cX7_leastHeight 25 = .ok (.getfield 7, 3) := by decide +kernel
theorem dX7_leastHeight_28 : decode cX7_leastHeight 28 = .ok (.iload_n 3, 1) := by decide +kernel
theorem dX7_leastHeight_29 : decode cX7_leastHeight 29 = .ok (.iaload, 1) := by decide +kernel
theorem dX7_leastHeight_30 : decode cX7_leastHeight 30 = .ok (.invokestatic 119, 3) := by decide +kernel
theorem dX7_leastHeight_33 : decode cX7_leastHeight 33 = .ok (.goto 4, 3) := by decide +kernel
theorem dX7_leastHeight_36 : decode cX7_leastHeight 36 = .ok (.iload_n 2, 1) := by decide +kernel
theorem dX7_leastHeight_37 : decode cX7_leastHeight 37 = .ok (.istore_n 2, 1) := by decide +kernel
theorem dX7_leastHeight_38 : decode cX7_leastHeight 38 = .ok (.iinc 3 1, 3) := by decide +kernel
theorem dX7_leastHeight_41 : decode cX7_leastHeight 41 = .ok (.goto (-36), 3) := by decide +kernel
theorem dX7_leastHeight_44 : decode cX7_leastHeight 44 = .ok (.iload_n 2, 1) := by decide +kernel
theorem dX7_leastHeight_45 : decode cX7_leastHeight 45 = .ok (.ireturn, 1) := by decide +kernel
theorem dX7_sizeOf_0 : decode cX7_sizeOf 0 = .ok (.iload_n 2, 1) := by decide +kernel
theorem dX7_sizeOf_1 : decode cX7_sizeOf 1 = .ok (.ifCond .ne 13, 3) := by decide +kernel
theorem dX7_sizeOf_4 : decode cX7_sizeOf 4 = .ok (.aload_n 0, 1) := by decide +kernel
theorem dX7_sizeOf_5 : decode cX7_sizeOf 5 = .ok (.aload_n 0, 1) := by decide +kernel
theorem dX7_sizeOf_6 : decode cX7_sizeOf 6 = .ok (.getfield 44, 3) := by decide +kernel
theorem dX7_sizeOf_9 : decode cX7_sizeOf 9 = .ok (.iload_n 1, 1) := by decide +kernel
theorem dX7_sizeOf_10 : decode cX7_sizeOf 10 = .ok (.invokevirtual 125, 3) := by decide +kernel
theorem dX7_sizeOf_13 : decode cX7_sizeOf 13 = .ok (.ireturn, 1) := by decide +kernel
theorem dX7_sizeOf_14 : decode cX7_sizeOf 14 = .ok (.iload_n 3, 1) := by decide +kernel
theorem dX7_sizeOf_15 : decode cX7_sizeOf 15 = .ok (.ifCond .ge 5, 3) := by decide +kernel
theorem dX7_sizeOf_18 : decode cX7_sizeOf 18 = .ok (.iconst 0, 1) := by decide +kernel
theorem dX7_sizeOf_19 : decode cX7_sizeOf 19 = .ok (.ireturn, 1) := by decide +kernel
theorem dX7_sizeOf_20 : decode cX7_sizeOf 20 = .ok (.iload_n 2, 1) := by decide +kernel
theorem dX7_sizeOf_21 : decode cX7_sizeOf 21 = .ok (.iconst 1, 1) := by decide +kernel
theorem dX7_sizeOf_22 : decode cX7_sizeOf 22 = .ok (.if_icmp .ne 15, 3) := by decide +kernel
theorem dX7_sizeOf_25 : decode cX7_sizeOf 25 = .ok (.iload_n 3, 1) := by decide +kernel
theorem dX7_sizeOf_26 : decode cX7_sizeOf 26 = .ok (.aload_n 0, 1) := by decide +kernel
theorem dX7_sizeOf_27 : decode cX7_sizeOf 27 = .ok (.iload_n 1, 1) := by decide +kernel
theorem dX7_sizeOf_28 : decode cX7_sizeOf 28 = .ok (.invokevirtual 128, 3) := by decide +kernel
theorem dX7_sizeOf_31 : decode cX7_sizeOf 31 = .ok (.isub, 1) := by decide +kernel
theorem dX7_sizeOf_32 : decode cX7_sizeOf 32 = .ok (.iconst 0, 1) := by decide +kernel
theorem dX7_sizeOf_33 : decode cX7_sizeOf 33 = .ok (.invokestatic 98, 3) := by decide +kernel
theorem dX7_sizeOf_36 : decode cX7_sizeOf 36 = .ok (.ireturn, 1) := by decide +kernel
theorem dX7_sizeOf_37 : decode cX7_sizeOf 37 = .ok (.iconst 0, 1) := by decide +kernel
theorem dX7_sizeOf_38 : decode cX7_sizeOf 38 = .ok (.istore 4, 2) := by decide +kernel
theorem dX7_sizeOf_40 : decode cX7_sizeOf 40 = .ok (.iconst 0, 1) := by decide +kernel
theorem dX7_sizeOf_41 : decode cX7_sizeOf 41 = .ok (.istore 5, 2) := by decide +kernel
theorem dX7_sizeOf_43 : decode cX7_sizeOf 43 = .ok (.iload 5, 2) := by decide +kernel
theorem dX7_sizeOf_45 : decode cX7_sizeOf 45 = .ok (.aload_n 0, 1) := by decide +kernel
theorem dX7_sizeOf_46 : decode cX7_sizeOf 46 = .ok (.invokevirtual 80, 3) := by decide +kernel
theorem dX7_sizeOf_49 : decode cX7_sizeOf 49 = .ok (.if_icmp .ge 42, 3) := by decide +kernel
theorem dX7_sizeOf_52 : decode cX7_sizeOf 52 = .ok (.iload 4, 2) := by decide +kernel
theorem dX7_sizeOf_54 : decode cX7_sizeOf 54 = .ok (.aload_n 0, 1) := by decide +kernel
theorem dX7_sizeOf_55 : decode cX7_sizeOf 55 = .ok (.getfield 44, 3) := by decide +kernel
theorem dX7_sizeOf_58 : decode cX7_sizeOf 58 = .ok (.iload 5, 2) := by decide +kernel
theorem dX7_sizeOf_60 : decode cX7_sizeOf 60 = .ok (.iaload, 1) := by decide +kernel
theorem dX7_sizeOf_61 : decode cX7_sizeOf 61 = .ok (.iload_n 1, 1) := by decide +kernel
theorem dX7_sizeOf_62 : decode cX7_sizeOf 62 = .ok (.if_icmp .ne 19, 3) := by decide +kernel
theorem dX7_sizeOf_65 : decode cX7_sizeOf 65 = .ok (.iload_n 3, 1) := by decide +kernel
theorem dX7_sizeOf_66 : decode cX7_sizeOf 66 = .ok (.aload_n 0, 1) := by decide +kernel
theorem dX7_sizeOf_67 : decode cX7_sizeOf 67 = .ok (.getfield 7, 3) := by decide +kernel
theorem dX7_sizeOf_70 : decode cX7_sizeOf 70 = .ok (.iload 5, 2) := by decide +kernel
theorem dX7_sizeOf_72 : decode cX7_sizeOf 72 = .ok (.iaload, 1) := by decide +kernel
theorem dX7_sizeOf_73 : decode cX7_sizeOf 73 = .ok (.isub, 1) := by decide +kernel
theorem dX7_sizeOf_74 : decode cX7_sizeOf 74 = .ok (.iconst 0, 1) := by decide +kernel
theorem dX7_sizeOf_75 : decode cX7_sizeOf 75 = .ok (.invokestatic 98, 3) := by decide +kernel
theorem dX7_sizeOf_78 : decode cX7_sizeOf 78 = .ok (.goto 4, 3) := by decide +kernel
theorem dX7_sizeOf_81 : decode cX7_sizeOf 81 = .ok (.iconst 0, 1) := by decide +kernel
theorem dX7_sizeOf_82 : decode cX7_sizeOf 82 = .ok (.iadd, 1) := by decide +kernel
theorem dX7_sizeOf_83 : decode cX7_sizeOf 83 = .ok (.istore 4, 2) := by decide +kernel
theorem dX7_sizeOf_85 : decode cX7_sizeOf 85 = .ok (.iinc 5 1, 3) := by decide +kernel
theorem dX7_sizeOf_88 : decode cX7_sizeOf 88 = .ok (.goto (-45), 3) := by decide +kernel
theorem dX7_sizeOf_91 : decode cX7_sizeOf 91 = .ok (.iload 4, 2) := by decide +kernel
theorem dX7_sizeOf_93 : decode cX7_sizeOf 93 = .ok (.ireturn, 1) := by decide +kernel
theorem dX7_pourOne_0 : decode cX7_pourOne 0 = .ok (.iconst 0, 1) := by decide +kernel
theorem dX7_pourOne_1 : decode cX7_pourOne 1 = .ok (.istore_n 3, 1) := by decide +kernel
theorem dX7_pourOne_2 : decode cX7_pourOne 2 = .ok (.iload_n 3, 1) := by decide +kernel
theorem dX7_pourOne_3 : decode cX7_pourOne 3 = .ok (.aload_n 0, 1) := by decide +kernel
theorem dX7_pourOne_4 : decode cX7_pourOne 4 = .ok (.invokevirtual 80, 3) := by decide +kernel
theorem dX7_pourOne_7 : decode cX7_pourOne 7 = .ok (.if_icmp .ge 35, 3) := by decide +kernel
theorem dX7_pourOne_10 : decode cX7_pourOne 10 = .ok (.aload_n 0, 1) := by decide +kernel
theorem dX7_pourOne_11 : decode cX7_pourOne 11 = .ok (.getfield 44, 3) := by decide +kernel
theorem dX7_pourOne_14 : decode cX7_pourOne 14 = .ok (.iload_n 3, 1) := by decide +kernel
theorem dX7_pourOne_15 : decode cX7_pourOne 15 = .ok (.aload_n 0, 1) := by decide +kernel
theorem dX7_pourOne_16 : decode cX7_pourOne 16 = .ok (.getfield 44, 3) := by decide +kernel
theorem dX7_pourOne_19 : decode cX7_pourOne 19 = .ok (.iload_n 3, 1) := by decide +kernel
theorem dX7_pourOne_20 : decode cX7_pourOne 20 = .ok (.iaload, 1) := by decide +kernel
theorem dX7_pourOne_21 : decode cX7_pourOne 21 = .ok (.iload_n 1, 1) := by decide +kernel
theorem dX7_pourOne_22 : decode cX7_pourOne 22 = .ok (.if_icmp .ne 7, 3) := by decide +kernel
theorem dX7_pourOne_25 : decode cX7_pourOne 25 = .ok (.iload_n 2, 1) := by decide +kernel
theorem dX7_pourOne_26 : decode cX7_pourOne 26 = .ok (.goto 9, 3) := by decide +kernel
theorem dX7_pourOne_29 : decode cX7_pourOne 29 = .ok (.aload_n 0, 1) := by decide +kernel
theorem dX7_pourOne_30 : decode cX7_pourOne 30 = .ok (.getfield 44, 3) := by decide +kernel
theorem dX7_pourOne_33 : decode cX7_pourOne 33 = .ok (.iload_n 3, 1) := by decide +kernel
theorem dX7_pourOne_34 : decode cX7_pourOne 34 = .ok (.iaload, 1) := by decide +kernel
theorem dX7_pourOne_35 : decode cX7_pourOne 35 = .ok (.iastore, 1) := by decide +kernel
theorem dX7_pourOne_36 : decode cX7_pourOne 36 = .ok (.iinc 3 1, 3) := by decide +kernel
theorem dX7_pourOne_39 : decode cX7_pourOne 39 = .ok (.goto (-37), 3) := by decide +kernel
theorem dX7_pourOne_42 : decode cX7_pourOne 42 = .ok (.iconst 0, 1) := by decide +kernel
theorem dX7_pourOne_43 : decode cX7_pourOne 43 = .ok (.istore_n 3, 1) := by decide +kernel
theorem dX7_pourOne_44 : decode cX7_pourOne 44 = .ok (.iconst 0, 1) := by decide +kernel
theorem dX7_pourOne_45 : decode cX7_pourOne 45 = .ok (.istore 4, 2) := by decide +kernel
theorem dX7_pourOne_47 : decode cX7_pourOne 47 = .ok (.iload 4, 2) := by decide +kernel
theorem dX7_pourOne_49 : decode cX7_pourOne 49 = .ok (.aload_n 0, 1) := by decide +kernel
theorem dX7_pourOne_50 : decode cX7_pourOne 50 = .ok (.invokevirtual 80, 3) := by decide +kernel
theorem dX7_pourOne_53 : decode cX7_pourOne 53 = .ok (.if_icmp .ge 66, 3) := by decide +kernel
theorem dX7_pourOne_56 : decode cX7_pourOne 56 = .ok (.aload_n 0, 1) := by decide +kernel
theorem dX7_pourOne_57 : decode cX7_pourOne 57 = .ok (.getfield 62, 3) := by decide +kernel
theorem dX7_pourOne_60 : decode cX7_pourOne 60 = .ok (.iload 4, 2) := by decide +kernel
theorem dX7_pourOne_62 : decode cX7_pourOne 62 = .ok (.aload_n 0, 1) := by decide +kernel
theorem dX7_pourOne_63 : decode cX7_pourOne 63 = .ok (.getfield 44, 3) := by decide +kernel
theorem dX7_pourOne_66 : decode cX7_pourOne 66 = .ok (.iload 4, 2) := by decide +kernel
theorem dX7_pourOne_68 : decode cX7_pourOne 68 = .ok (.iaload, 1) := by decide +kernel
theorem dX7_pourOne_69 : decode cX7_pourOne 69 = .ok (.iastore, 1) := by decide +kernel
theorem dX7_pourOne_70 : decode cX7_pourOne 70 = .ok (.aload_n 0, 1) := by decide +kernel
theorem dX7_pourOne_71 : decode cX7_pourOne 71 = .ok (.getfield 44, 3) := by decide +kernel
theorem dX7_pourOne_74 : decode cX7_pourOne 74 = .ok (.iload 4, 2) := by decide +kernel
theorem dX7_pourOne_76 : decode cX7_pourOne 76 = .ok (.iaload, 1) := by decide +kernel
theorem dX7_pourOne_77 : decode cX7_pourOne 77 = .ok (.ifCond .ne 36, 3) := by decide +kernel
theorem dX7_pourOne_80 : decode cX7_pourOne 80 = .ok (.aload_n 0, 1) := by decide +kernel
theorem dX7_pourOne_81 : decode cX7_pourOne 81 = .ok (.aload_n 0, 1) := by decide +kernel
theorem dX7_pourOne_82 : decode cX7_pourOne 82 = .ok (.getfield 44, 3) := by decide +kernel
theorem dX7_pourOne_85 : decode cX7_pourOne 85 = .ok (.iload 4, 2) := by decide +kernel
theorem dX7_pourOne_87 : decode cX7_pourOne 87 = .ok (.invokevirtual 112, 3) := by decide +kernel
theorem dX7_pourOne_90 : decode cX7_pourOne 90 = .ok (.ifCond .le 23, 3) := by decide +kernel
theorem dX7_pourOne_93 : decode cX7_pourOne 93 = .ok (.aload_n 0, 1) := by decide +kernel
theorem dX7_pourOne_94 : decode cX7_pourOne 94 = .ok (.getfield 62, 3) := by decide +kernel
theorem dX7_pourOne_97 : decode cX7_pourOne 97 = .ok (.iload 4, 2) := by decide +kernel
theorem dX7_pourOne_99 : decode cX7_pourOne 99 = .ok (.aload_n 0, 1) := by decide +kernel
theorem dX7_pourOne_100 : decode cX7_pourOne 100 = .ok (.aload_n 0, 1) := by decide +kernel
theorem dX7_pourOne_101 : decode cX7_pourOne 101 = .ok (.getfield 44, 3) := by decide +kernel
theorem dX7_pourOne_104 : decode cX7_pourOne 104 = .ok (.iload 4, 2) := by decide +kernel
theorem dX7_pourOne_106 : decode cX7_pourOne 106 = .ok (.invokevirtual 112, 3) := by decide +kernel
theorem dX7_pourOne_109 : decode cX7_pourOne 109 = .ok (.iastore, 1) := by decide +kernel
theorem dX7_pourOne_110 : decode cX7_pourOne 110 = .ok (.iinc 3 1, 3) := by decide +kernel
theorem dX7_pourOne_113 : decode cX7_pourOne 113 = .ok (.iinc 4 1, 3) := by decide +kernel
theorem dX7_pourOne_116 : decode cX7_pourOne 116 = .ok (.goto (-69), 3) := by decide +kernel
theorem dX7_pourOne_119 : decode cX7_pourOne 119 = .ok (.iconst 0, 1) := by decide +kernel
theorem dX7_pourOne_120 : decode cX7_pourOne 120 = .ok (.istore 4, 2) := by decide +kernel
theorem dX7_pourOne_122 : decode cX7_pourOne 122 = .ok (.iload 4, 2) := by decide +kernel
theorem dX7_pourOne_124 : decode cX7_pourOne 124 = .ok (.aload_n 0, 1) := by decide +kernel
theorem dX7_pourOne_125 : decode cX7_pourOne 125 = .ok (.invokevirtual 80, 3) := by decide +kernel
theorem dX7_pourOne_128 : decode cX7_pourOne 128 = .ok (.if_icmp .ge 23, 3) := by decide +kernel
theorem dX7_pourOne_131 : decode cX7_pourOne 131 = .ok (.aload_n 0, 1) := by decide +kernel
theorem dX7_pourOne_132 : decode cX7_pourOne 132 = .ok (.getfield 44, 3) := by decide +kernel
theorem dX7_pourOne_135 : decode cX7_pourOne 135 = .ok (.iload 4, 2) := by decide +kernel
theorem dX7_pourOne_137 : decode cX7_pourOne 137 = .ok (.aload_n 0, 1) := by decide +kernel
theorem dX7_pourOne_138 : decode cX7_pourOne 138 = .ok (.getfield 62, 3) := by decide +kernel
theorem dX7_pourOne_141 : decode cX7_pourOne 141 = .ok (.iload 4, 2) := by decide +kernel
theorem dX7_pourOne_143 : decode cX7_pourOne 143 = .ok (.iaload, 1) := by decide +kernel
theorem dX7_pourOne_144 : decode cX7_pourOne 144 = .ok (.iastore, 1) := by decide +kernel
theorem dX7_pourOne_145 : decode cX7_pourOne 145 = .ok (.iinc 4 1, 3) := by decide +kernel
theorem dX7_pourOne_148 : decode cX7_pourOne 148 = .ok (.goto (-26), 3) := by decide +kernel
theorem dX7_pourOne_151 : decode cX7_pourOne 151 = .ok (.iload_n 3, 1) := by decide +kernel
theorem dX7_pourOne_152 : decode cX7_pourOne 152 = .ok (.ireturn, 1) := by decide +kernel
theorem dX7_pour_0 : decode cX7_pour 0 = .ok (.aload_n 0, 1) := by decide +kernel
theorem dX7_pour_1 : decode cX7_pour 1 = .ok (.invokevirtual 131, 3) := by decide +kernel
theorem dX7_pour_4 : decode cX7_pour 4 = .ok (.iconst 0, 1) := by decide +kernel
theorem dX7_pour_5 : decode cX7_pour 5 = .ok (.istore_n 3, 1) := by decide +kernel
theorem dX7_pour_6 : decode cX7_pour 6 = .ok (.iload_n 3, 1) := by decide +kernel
theorem dX7_pour_7 : decode cX7_pour 7 = .ok (.sipush 144, 3) := by decide +kernel
theorem dX7_pour_10 : decode cX7_pour 10 = .ok (.if_icmp .ge 21, 3) := by decide +kernel
theorem dX7_pour_13 : decode cX7_pour 13 = .ok (.aload_n 0, 1) := by decide +kernel
theorem dX7_pour_14 : decode cX7_pour 14 = .ok (.getfield 44, 3) := by decide +kernel
theorem dX7_pour_17 : decode cX7_pour 17 = .ok (.iload_n 3, 1) := by decide +kernel
theorem dX7_pour_18 : decode cX7_pour 18 = .ok (.aload_n 0, 1) := by decide +kernel
theorem dX7_pour_19 : decode cX7_pour 19 = .ok (.getfield 29, 3) := by decide +kernel
theorem dX7_pour_22 : decode cX7_pour 22 = .ok (.iload_n 3, 1) := by decide +kernel
theorem dX7_pour_23 : decode cX7_pour 23 = .ok (.iaload, 1) := by decide +kernel
theorem dX7_pour_24 : decode cX7_pour 24 = .ok (.iastore, 1) := by decide +kernel
theorem dX7_pour_25 : decode cX7_pour 25 = .ok (.iinc 3 1, 3) := by decide +kernel
theorem dX7_pour_28 : decode cX7_pour 28 = .ok (.goto (-22), 3) := by decide +kernel
theorem dX7_pour_31 : decode cX7_pour 31 = .ok (.aload_n 0, 1) := by decide +kernel
theorem dX7_pour_32 : decode cX7_pour 32 = .ok (.iconst 0, 1) := by decide +kernel
theorem dX7_pour_33 : decode cX7_pour 33 = .ok (.putfield 134, 3) := by decide +kernel
theorem dX7_pour_36 : decode cX7_pour 36 = .ok (.iconst 1, 1) := by decide +kernel
theorem dX7_pour_37 : decode cX7_pour 37 = .ok (.istore_n 3, 1) := by decide +kernel
theorem dX7_pour_38 : decode cX7_pour 38 = .ok (.iload_n 3, 1) := by decide +kernel
theorem dX7_pour_39 : decode cX7_pour 39 = .ok (.ifCond .eq 190, 3) := by decide +kernel
theorem dX7_pour_42 : decode cX7_pour 42 = .ok (.bipush (-6), 2) := by decide +kernel
theorem dX7_pour_44 : decode cX7_pour 44 = .ok (.istore 4, 2) := by decide +kernel
theorem dX7_pour_46 : decode cX7_pour 46 = .ok (.bipush (-6), 2) := by decide +kernel
theorem dX7_pour_48 : decode cX7_pour 48 = .ok (.istore 5, 2) := by decide +kernel
theorem dX7_pour_50 : decode cX7_pour 50 = .ok (.bipush (-6), 2) := by decide +kernel
theorem dX7_pour_52 : decode cX7_pour 52 = .ok (.istore 6, 2) := by decide +kernel
theorem dX7_pour_54 : decode cX7_pour 54 = .ok (.iconst 1, 1) := by decide +kernel
theorem dX7_pour_55 : decode cX7_pour 55 = .ok (.istore 7, 2) := by decide +kernel
theorem dX7_pour_57 : decode cX7_pour 57 = .ok (.iload 7, 2) := by decide +kernel
theorem dX7_pour_59 : decode cX7_pour 59 = .ok (.bipush 100, 2) := by decide +kernel
theorem dX7_pour_61 : decode cX7_pour 61 = .ok (.if_icmp .ge 90, 3) := by decide +kernel
theorem dX7_pour_64 : decode cX7_pour 64 = .ok (.aload_n 0, 1) := by decide +kernel
theorem dX7_pour_65 : decode cX7_pour 65 = .ok (.aload_n 0, 1) := by decide +kernel
theorem dX7_pour_66 : decode cX7_pour 66 = .ok (.getfield 44, 3) := by decide +kernel
theorem dX7_pour_69 : decode cX7_pour 69 = .ok (.iload 7, 2) := by decide +kernel
theorem dX7_pour_71 : decode cX7_pour 71 = .ok (.invokevirtual 125, 3) := by decide +kernel
theorem dX7_pour_74 : decode cX7_pour 74 = .ok (.ifCond .le 12, 3) := by decide +kernel
theorem dX7_pour_77 : decode cX7_pour 77 = .ok (.aload_n 0, 1) := by decide +kernel
theorem dX7_pour_78 : decode cX7_pour 78 = .ok (.iload 7, 2) := by decide +kernel
theorem dX7_pour_80 : decode cX7_pour 80 = .ok (.invokevirtual 137, 3) := by decide +kernel
theorem dX7_pour_83 : decode cX7_pour 83 = .ok (.goto 5, 3) := by decide +kernel
theorem dX7_pour_86 : decode cX7_pour 86 = .ok (.bipush (-6), 2) := by decide +kernel
theorem dX7_pour_88 : decode cX7_pour 88 = .ok (.istore 8, 2) := by decide +kernel
theorem dX7_pour_90 : decode cX7_pour 90 = .ok (.iload 8, 2) := by decide +kernel
theorem dX7_pour_92 : decode cX7_pour 92 = .ok (.ifCond .lt 53, 3) := by decide +kernel
theorem dX7_pour_95 : decode cX7_pour 95 = .ok (.aload_n 0, 1) := by decide +kernel
theorem dX7_pour_96 : decode cX7_pour 96 = .ok (.getfield 59, 3) := by decide +kernel
theorem dX7_pour_99 : decode cX7_pour 99 = .ok (.iload 8, 2) := by decide +kernel
theorem dX7_pour_101 : decode cX7_pour 101 = .ok (.iaload, 1) := by decide +kernel
theorem dX7_pour_102 : decode cX7_pour 102 = .ok (.istore 9, 2) := by decide +kernel
theorem dX7_pour_104 : decode cX7_pour 104 = .ok (.iload_n 2, 1) := by decide +kernel
theorem dX7_pour_105 : decode cX7_pour 105 = .ok (.ifCond .lt 16, 3) := by decide +kernel
theorem dX7_pour_108 : decode cX7_pour 108 = .ok (.aload_n 0, 1) := by decide +kernel
theorem dX7_pour_109 : decode cX7_pour 109 = .ok (.iload 7, 2) := by decide +kernel
theorem dX7_pour_111 : decode cX7_pour 111 = .ok (.iload_n 1, 1) := by decide +kernel
theorem dX7_pour_112 : decode cX7_pour 112 = .ok (.iload 9, 2) := by decide +kernel
theorem dX7_pour_114 : decode cX7_pour 114 = .ok (.invokevirtual 140, 3) := by decide +kernel
theorem dX7_pour_117 : decode cX7_pour 117 = .ok (.iload_n 2, 1) := by decide +kernel
theorem dX7_pour_118 : decode cX7_pour 118 = .ok (.if_icmp .ge 27, 3) := by decide +kernel
theorem dX7_pour_121 : decode cX7_pour 121 = .ok (.iload 4, 2) := by decide +kernel
theorem dX7_pour_123 : decode cX7_pour 123 = .ok (.ifCond .lt 10, 3) := by decide +kernel
theorem dX7_pour_126 : decode cX7_pour 126 = .ok (.iload 9, 2) := by decide +kernel
theorem dX7_pour_128 : decode cX7_pour 128 = .ok (.iload 6, 2) := by decide +kernel
theorem dX7_pour_130 : decode cX7_pour 130 = .ok (.if_icmp .ge 15, 3) := by decide +kernel
theorem dX7_pour_133 : decode cX7_pour 133 = .ok (.iload 7, 2) := by decide +kernel
theorem dX7_pour_135 : decode cX7_pour 135 = .ok (.istore 4, 2) := by decide +kernel
theorem dX7_pour_137 : decode cX7_pour 137 = .ok (.iload 8, 2) := by decide +kernel
theorem dX7_pour_139 : decode cX7_pour 139 = .ok (.istore 5, 2) := by decide +kernel
theorem dX7_pour_141 : decode cX7_pour 141 = .ok (.iload 9, 2) := by decide +kernel
theorem dX7_pour_143 : decode cX7_pour 143 = .ok (.istore 6, 2) := by decide +kernel
theorem dX7_pour_145 : decode cX7_pour 145 = .ok (.iinc 7 1, 3) := by decide +kernel
theorem dX7_pour_148 : decode cX7_pour 148 = .ok (.goto (-91), 3) := by decide +kernel
theorem dX7_pour_151 : decode cX7_pour 151 = .ok (.iload 4, 2) := by decide +kernel
theorem dX7_pour_153 : decode cX7_pour 153 = .ok (.ifCond .lt 7, 3) := by decide +kernel
theorem dX7_pour_156 : decode cX7_pour 156 = .ok (.iconst 1, 1) := by decide +kernel
theorem dX7_pour_157 : decode cX7_pour 157 = .ok (.goto 4, 3) := by decide +kernel
theorem dX7_pour_160 : decode cX7_pour 160 = .ok (.iconst 0, 1) := by decide +kernel
theorem dX7_pour_161 : decode cX7_pour 161 = .ok (.istore_n 3, 1) := by decide +kernel
theorem dX7_pour_162 : decode cX7_pour 162 = .ok (.iload_n 3, 1) := by decide +kernel
theorem dX7_pour_163 : decode cX7_pour 163 = .ok (.ifCond .eq 63, 3) := by decide +kernel
theorem dX7_pour_166 : decode cX7_pour 166 = .ok (.aload_n 0, 1) := by decide +kernel
theorem dX7_pour_167 : decode cX7_pour 167 = .ok (.getfield 47, 3) := by decide +kernel
theorem dX7_pour_170 : decode cX7_pour 170 = .ok (.aload_n 0, 1) := by decide +kernel
theorem dX7_pour_171 : decode cX7_pour 171 = .ok (.getfield 134, 3) := by decide +kernel
theorem dX7_pour_174 : decode cX7_pour 174 = .ok (.iload 4, 2) := by decide +kernel
theorem dX7_pour_176 : decode cX7_pour 176 = .ok (.iastore, 1) := by decide +kernel
theorem dX7_pour_177 : decode cX7_pour 177 = .ok (.aload_n 0, 1) := by decide +kernel
theorem dX7_pour_178 : decode cX7_pour 178 = .ok (.getfield 50, 3) := by decide +kernel
theorem dX7_pour_181 : decode cX7_pour 181 = .ok (.aload_n 0, 1) := by decide +kernel
theorem dX7_pour_182 : decode cX7_pour 182 = .ok (.getfield 134, 3) := by decide +kernel
theorem dX7_pour_185 : decode cX7_pour 185 = .ok (.iload 5, 2) := by decide +kernel
theorem dX7_pour_187 : decode cX7_pour 187 = .ok (.iastore, 1) := by decide +kernel
theorem dX7_pour_188 : decode cX7_pour 188 = .ok (.aload_n 0, 1) := by decide +kernel
theorem dX7_pour_189 : decode cX7_pour 189 = .ok (.getfield 53, 3) := by decide +kernel
theorem dX7_pour_192 : decode cX7_pour 192 = .ok (.aload_n 0, 1) := by decide +kernel
theorem dX7_pour_193 : decode cX7_pour 193 = .ok (.getfield 134, 3) := by decide +kernel
theorem dX7_pour_196 : decode cX7_pour 196 = .ok (.iload 6, 2) := by decide +kernel
theorem dX7_pour_198 : decode cX7_pour 198 = .ok (.iastore, 1) := by decide +kernel
theorem dX7_pour_199 : decode cX7_pour 199 = .ok (.aload_n 0, 1) := by decide +kernel
theorem dX7_pour_200 : decode cX7_pour 200 = .ok (.getfield 56, 3) := by decide +kernel
theorem dX7_pour_203 : decode cX7_pour 203 = .ok (.aload_n 0, 1) := by decide +kernel
theorem dX7_pour_204 : decode cX7_pour 204 = .ok (.getfield 134, 3) := by decide +kernel
theorem dX7_pour_207 : decode cX7_pour 207 = .ok (.aload_n 0, 1) := by decide +kernel
theorem dX7_pour_208 : decode cX7_pour 208 = .ok (.iload 4, 2) := by decide +kernel
theorem dX7_pour_210 : decode cX7_pour 210 = .ok (.iload 5, 2) := by decide +kernel
theorem dX7_pour_212 : decode cX7_pour 212 = .ok (.invokevirtual 144, 3) := by decide +kernel
theorem dX7_pour_215 : decode cX7_pour 215 = .ok (.iastore, 1) := by decide +kernel
theorem dX7_pour_216 : decode cX7_pour 216 = .ok (.aload_n 0, 1) := by decide +kernel
theorem dX7_pour_217 : decode cX7_pour 217 = .ok (.dup, 1) := by decide +kernel
theorem dX7_pour_218 : decode cX7_pour 218 = .ok (.getfield 134, 3) := by decide +kernel
theorem dX7_pour_221 : decode cX7_pour 221 = .ok (.iconst 1, 1) := by decide +kernel
theorem dX7_pour_222 : decode cX7_pour 222 = .ok (.iadd, 1) := by decide +kernel
theorem dX7_pour_223 : decode cX7_pour 223 = .ok (.putfield 134, 3) := by decide +kernel
theorem dX7_pour_226 : decode cX7_pour 226 = .ok (.goto (-188), 3) := by decide +kernel
theorem dX7_pour_229 : decode cX7_pour 229 = .ok (.return_, 1) := by decide +kernel
theorem dX7_pourAsTold_0 : decode cX7_pourAsTold 0 = .ok (.aload_n 0, 1) := by decide +kernel
theorem dX7_pourAsTold_1 : decode cX7_pourAsTold 1 = .ok (.aload_n 0, 1) := by decide +kernel
theorem dX7_pourAsTold_2 : decode cX7_pourAsTold 2 = .ok (.getfield 7, 3) := by decide +kernel
theorem dX7_pourAsTold_5 : decode cX7_pourAsTold 5 = .ok (.sipush 290, 3) := by decide +kernel
theorem dX7_pourAsTold_8 : decode cX7_pourAsTold 8 = .ok (.iaload, 1) := by decide +kernel
theorem dX7_pourAsTold_9 : decode cX7_pourAsTold 9 = .ok (.aload_n 0, 1) := by decide +kernel
theorem dX7_pourAsTold_10 : decode cX7_pourAsTold 10 = .ok (.getfield 7, 3) := by decide +kernel
theorem dX7_pourAsTold_13 : decode cX7_pourAsTold 13 = .ok (.sipush 291, 3) := by decide +kernel
theorem dX7_pourAsTold_16 : decode cX7_pourAsTold 16 = .ok (.iaload, 1) := by decide +kernel
theorem dX7_pourAsTold_17 : decode cX7_pourAsTold 17 = .ok (.invokevirtual 147, 3) := by decide +kernel
theorem dX7_pourAsTold_20 : decode cX7_pourAsTold 20 = .ok (.return_, 1) := by decide +kernel
theorem dX7_dot_0 : decode cX7_dot 0 = .ok (.aload_n 0, 1) := by decide +kernel
theorem dX7_dot_1 : decode cX7_dot 1 = .ok (.iload_n 1, 1) := by decide +kernel
theorem dX7_dot_2 : decode cX7_dot 2 = .ok (.iload_n 2, 1) := by decide +kernel
theorem dX7_dot_3 : decode cX7_dot 3 = .ok (.invokevirtual 69, 3) := by decide +kernel
theorem dX7_dot_6 : decode cX7_dot 6 = .ok (.ifCond .eq 12, 3) := by decide +kernel
theorem dX7_dot_9 : decode cX7_dot 9 = .ok (.iload_n 3, 1) := by decide +kernel
theorem dX7_dot_10 : decode cX7_dot 10 = .ok (.iconst 0, 1) := by decide +kernel
theorem dX7_dot_11 : decode cX7_dot 11 = .ok (.iconst 5, 1) := by decide +kernel
theorem dX7_dot_12 : decode cX7_dot 12 = .ok (.invokestatic 65, 3) := by decide +kernel
theorem dX7_dot_15 : decode cX7_dot 15 = .ok (.ifCond .ne 6, 3) := by decide +kernel
theorem dX7_dot_18 : decode cX7_dot 18 = .ok (.bipush (-2), 2) := by decide +kernel
theorem dX7_dot_20 : decode cX7_dot 20 = .ok (.ireturn, 1) := by decide +kernel
theorem dX7_dot_21 : decode cX7_dot 21 = .ok (.aload_n 0, 1) := by decide +kernel
theorem dX7_dot_22 : decode cX7_dot 22 = .ok (.iload_n 1, 1) := by decide +kernel
theorem dX7_dot_23 : decode cX7_dot 23 = .ok (.iload_n 2, 1) := by decide +kernel
theorem dX7_dot_24 : decode cX7_dot 24 = .ok (.invokevirtual 73, 3) := by decide +kernel
theorem dX7_dot_27 : decode cX7_dot 27 = .ok (.istore 4, 2) := by decide +kernel
theorem dX7_dot_29 : decode cX7_dot 29 = .ok (.aload_n 0, 1) := by decide +kernel
theorem dX7_dot_30 : decode cX7_dot 30 = .ok (.invokevirtual 151, 3) := by decide +kernel
theorem dX7_dot_33 : decode cX7_dot 33 = .ok (.iload_n 3, 1) := by decide +kernel
theorem dX7_dot_34 : decode cX7_dot 34 = .ok (.tableswitch 78 0 4 #[34, 42, 54, 62, 70], 34) := by decide +kernel
theorem dX7_dot_68 : decode cX7_dot 68 = .ok (.aload_n 0, 1) := by decide +kernel
theorem dX7_dot_69 : decode cX7_dot 69 = .ok (.getfield 7, 3) := by decide +kernel
theorem dX7_dot_72 : decode cX7_dot 72 = .ok (.iload 4, 2) := by decide +kernel
theorem dX7_dot_74 : decode cX7_dot 74 = .ok (.iaload, 1) := by decide +kernel
theorem dX7_dot_75 : decode cX7_dot 75 = .ok (.ireturn, 1) := by decide +kernel
theorem dX7_dot_76 : decode cX7_dot 76 = .ok (.aload_n 0, 1) := by decide +kernel
theorem dX7_dot_77 : decode cX7_dot 77 = .ok (.getfield 7, 3) := by decide +kernel
theorem dX7_dot_80 : decode cX7_dot 80 = .ok (.sipush 144, 3) := by decide +kernel
theorem dX7_dot_83 : decode cX7_dot 83 = .ok (.iload 4, 2) := by decide +kernel
theorem dX7_dot_85 : decode cX7_dot 85 = .ok (.iadd, 1) := by decide +kernel
theorem dX7_dot_86 : decode cX7_dot 86 = .ok (.iaload, 1) := by decide +kernel
theorem dX7_dot_87 : decode cX7_dot 87 = .ok (.ireturn, 1) := by decide +kernel
theorem dX7_dot_88 : decode cX7_dot 88 = .ok (.aload_n 0, 1) := by decide +kernel
theorem dX7_dot_89 : decode cX7_dot 89 = .ok (.getfield 29, 3) := by decide +kernel
theorem dX7_dot_92 : decode cX7_dot 92 = .ok (.iload 4, 2) := by decide +kernel
theorem dX7_dot_94 : decode cX7_dot 94 = .ok (.iaload, 1) := by decide +kernel
theorem dX7_dot_95 : decode cX7_dot 95 = .ok (.ireturn, 1) := by decide +kernel
theorem dX7_dot_96 : decode cX7_dot 96 = .ok (.aload_n 0, 1) := by decide +kernel
theorem dX7_dot_97 : decode cX7_dot 97 = .ok (.getfield 32, 3) := by decide +kernel
theorem dX7_dot_100 : decode cX7_dot 100 = .ok (.iload 4, 2) := by decide +kernel
theorem dX7_dot_102 : decode cX7_dot 102 = .ok (.iaload, 1) := by decide +kernel
theorem dX7_dot_103 : decode cX7_dot 103 = .ok (.ireturn, 1) := by decide +kernel
theorem dX7_dot_104 : decode cX7_dot 104 = .ok (.aload_n 0, 1) := by decide +kernel
theorem dX7_dot_105 : decode cX7_dot 105 = .ok (.getfield 35, 3) := by decide +kernel
theorem dX7_dot_108 : decode cX7_dot 108 = .ok (.iload 4, 2) := by decide +kernel
theorem dX7_dot_110 : decode cX7_dot 110 = .ok (.iaload, 1) := by decide +kernel
theorem dX7_dot_111 : decode cX7_dot 111 = .ok (.ireturn, 1) := by decide +kernel
theorem dX7_dot_112 : decode cX7_dot 112 = .ok (.aload_n 0, 1) := by decide +kernel
theorem dX7_dot_113 : decode cX7_dot 113 = .ok (.getfield 44, 3) := by decide +kernel
theorem dX7_dot_116 : decode cX7_dot 116 = .ok (.iload 4, 2) := by decide +kernel
theorem dX7_dot_118 : decode cX7_dot 118 = .ok (.iaload, 1) := by decide +kernel
theorem dX7_dot_119 : decode cX7_dot 119 = .ok (.ireturn, 1) := by decide +kernel
theorem dX7_bound_0 : decode cX7_bound 0 = .ok (.iload_n 1, 1) := by decide +kernel
theorem dX7_bound_1 : decode cX7_bound 1 = .ok (.iconst 0, 1) := by decide +kernel
theorem dX7_bound_2 : decode cX7_bound 2 = .ok (.iconst 2, 1) := by decide +kernel
theorem dX7_bound_3 : decode cX7_bound 3 = .ok (.invokestatic 65, 3) := by decide +kernel
theorem dX7_bound_6 : decode cX7_bound 6 = .ok (.ifCond .eq 14, 3) := by decide +kernel
theorem dX7_bound_9 : decode cX7_bound 9 = .ok (.iload_n 2, 1) := by decide +kernel
theorem dX7_bound_10 : decode cX7_bound 10 = .ok (.iconst 0, 1) := by decide +kernel
theorem dX7_bound_11 : decode cX7_bound 11 = .ok (.sipush 2000, 3) := by decide +kernel
theorem dX7_bound_14 : decode cX7_bound 14 = .ok (.invokestatic 65, 3) := by decide +kernel
theorem dX7_bound_17 : decode cX7_bound 17 = .ok (.ifCond .ne 6, 3) := by decide +kernel
theorem dX7_bound_20 : decode cX7_bound 20 = .ok (.bipush (-2), 2) := by decide +kernel
theorem dX7_bound_22 : decode cX7_bound 22 = .ok (.ireturn, 1) := by decide +kernel
theorem dX7_bound_23 : decode cX7_bound 23 = .ok (.aload_n 0, 1) := by decide +kernel
theorem dX7_bound_24 : decode cX7_bound 24 = .ok (.getfield 7, 3) := by decide +kernel
theorem dX7_bound_27 : decode cX7_bound 27 = .ok (.sipush 290, 3) := by decide +kernel
theorem dX7_bound_30 : decode cX7_bound 30 = .ok (.iload_n 1, 1) := by decide +kernel
theorem dX7_bound_31 : decode cX7_bound 31 = .ok (.iastore, 1) := by decide +kernel
theorem dX7_bound_32 : decode cX7_bound 32 = .ok (.aload_n 0, 1) := by decide +kernel
theorem dX7_bound_33 : decode cX7_bound 33 = .ok (.getfield 7, 3) := by decide +kernel
theorem dX7_bound_36 : decode cX7_bound 36 = .ok (.sipush 291, 3) := by decide +kernel
theorem dX7_bound_39 : decode cX7_bound 39 = .ok (.iload_n 2, 1) := by decide +kernel
theorem dX7_bound_40 : decode cX7_bound 40 = .ok (.iastore, 1) := by decide +kernel
theorem dX7_bound_41 : decode cX7_bound 41 = .ok (.aload_n 0, 1) := by decide +kernel
theorem dX7_bound_42 : decode cX7_bound 42 = .ok (.invokevirtual 151, 3) := by decide +kernel
theorem dX7_bound_45 : decode cX7_bound 45 = .ok (.aload_n 0, 1) := by decide +kernel
theorem dX7_bound_46 : decode cX7_bound 46 = .ok (.getfield 134, 3) := by decide +kernel
theorem dX7_bound_49 : decode cX7_bound 49 = .ok (.ireturn, 1) := by decide +kernel
theorem dX7_isBasin_0 : decode cX7_isBasin 0 = .ok (.iload_n 1, 1) := by decide +kernel
theorem dX7_isBasin_1 : decode cX7_isBasin 1 = .ok (.iconst 1, 1) := by decide +kernel
theorem dX7_isBasin_2 : decode cX7_isBasin 2 = .ok (.bipush 99, 2) := by decide +kernel
theorem dX7_isBasin_4 : decode cX7_isBasin 4 = .ok (.invokestatic 65, 3) := by decide +kernel
theorem dX7_isBasin_7 : decode cX7_isBasin 7 = .ok (.ifCond .eq 19, 3) := by decide +kernel
theorem dX7_isBasin_10 : decode cX7_isBasin 10 = .ok (.aload_n 0, 1) := by decide +kernel
theorem dX7_isBasin_11 : decode cX7_isBasin 11 = .ok (.aload_n 0, 1) := by decide +kernel
theorem dX7_isBasin_12 : decode cX7_isBasin 12 = .ok (.getfield 44, 3) := by decide +kernel
theorem dX7_isBasin_15 : decode cX7_isBasin 15 = .ok (.iload_n 1, 1) := by decide +kernel
theorem dX7_isBasin_16 : decode cX7_isBasin 16 = .ok (.invokevirtual 125, 3) := by decide +kernel
theorem dX7_isBasin_19 : decode cX7_isBasin 19 = .ok (.ifCond .le 7, 3) := by decide +kernel
theorem dX7_isBasin_22 : decode cX7_isBasin 22 = .ok (.iconst 1, 1) := by decide +kernel
theorem dX7_isBasin_23 : decode cX7_isBasin 23 = .ok (.goto 4, 3) := by decide +kernel
theorem dX7_isBasin_26 : decode cX7_isBasin 26 = .ok (.iconst 0, 1) := by decide +kernel
theorem dX7_isBasin_27 : decode cX7_isBasin 27 = .ok (.ireturn, 1) := by decide +kernel
theorem dX7_basin_0 : decode cX7_basin 0 = .ok (.aload_n 0, 1) := by decide +kernel
theorem dX7_basin_1 : decode cX7_basin 1 = .ok (.invokevirtual 151, 3) := by decide +kernel
theorem dX7_basin_4 : decode cX7_basin 4 = .ok (.aload_n 0, 1) := by decide +kernel
theorem dX7_basin_5 : decode cX7_basin 5 = .ok (.iload_n 1, 1) := by decide +kernel
theorem dX7_basin_6 : decode cX7_basin 6 = .ok (.invokevirtual 154, 3) := by decide +kernel
theorem dX7_basin_9 : decode cX7_basin 9 = .ok (.ifCond .ne 5, 3) := by decide +kernel
theorem dX7_basin_12 : decode cX7_basin 12 = .ok (.iconst (-1), 1) := by decide +kernel
theorem dX7_basin_13 : decode cX7_basin 13 = .ok (.ireturn, 1) := by decide +kernel
theorem dX7_basin_14 : decode cX7_basin 14 = .ok (.iload_n 2, 1) := by decide +kernel
theorem dX7_basin_15 : decode cX7_basin 15 = .ok (.iconst 0, 1) := by decide +kernel
theorem dX7_basin_16 : decode cX7_basin 16 = .ok (.iconst 5, 1) := by decide +kernel
theorem dX7_basin_17 : decode cX7_basin 17 = .ok (.invokestatic 65, 3) := by decide +kernel
theorem dX7_basin_20 : decode cX7_basin 20 = .ok (.ifCond .ne 6, 3) := by decide +kernel
theorem dX7_basin_23 : decode cX7_basin 23 = .ok (.bipush (-2), 2) := by decide +kernel
theorem dX7_basin_25 : decode cX7_basin 25 = .ok (.ireturn, 1) := by decide +kernel
theorem dX7_basin_26 : decode cX7_basin 26 = .ok (.aload_n 0, 1) := by decide +kernel
theorem dX7_basin_27 : decode cX7_basin 27 = .ok (.iload_n 1, 1) := by decide +kernel
theorem dX7_basin_28 : decode cX7_basin 28 = .ok (.invokevirtual 137, 3) := by decide +kernel
theorem dX7_basin_31 : decode cX7_basin 31 = .ok (.istore_n 3, 1) := by decide +kernel
theorem dX7_basin_32 : decode cX7_basin 32 = .ok (.iload_n 3, 1) := by decide +kernel
theorem dX7_basin_33 : decode cX7_basin 33 = .ok (.ifCond .ge 8, 3) := by decide +kernel
theorem dX7_basin_36 : decode cX7_basin 36 = .ok (.bipush (-6), 2) := by decide +kernel
theorem dX7_basin_38 : decode cX7_basin 38 = .ok (.goto 9, 3) := by decide +kernel
theorem dX7_basin_41 : decode cX7_basin 41 = .ok (.aload_n 0, 1) := by decide +kernel
theorem dX7_basin_42 : decode cX7_basin 42 = .ok (.getfield 59, 3) := by decide +kernel
theorem dX7_basin_45 : decode cX7_basin 45 = .ok (.iload_n 3, 1) := by decide +kernel
theorem dX7_basin_46 : decode cX7_basin 46 = .ok (.iaload, 1) := by decide +kernel
theorem dX7_basin_47 : decode cX7_basin 47 = .ok (.istore 4, 2) := by decide +kernel
theorem dX7_basin_49 : decode cX7_basin 49 = .ok (.iload_n 2, 1) := by decide +kernel
theorem dX7_basin_50 : decode cX7_basin 50 = .ok (.iconst 3, 1) := by decide +kernel
theorem dX7_basin_51 : decode cX7_basin 51 = .ok (.if_icmp .ge 14, 3) := by decide +kernel
theorem dX7_basin_54 : decode cX7_basin 54 = .ok (.aload_n 0, 1) := by decide +kernel
theorem dX7_basin_55 : decode cX7_basin 55 = .ok (.iload_n 1, 1) := by decide +kernel
theorem dX7_basin_56 : decode cX7_basin 56 = .ok (.iload_n 2, 1) := by decide +kernel
theorem dX7_basin_57 : decode cX7_basin 57 = .ok (.iload 4, 2) := by decide +kernel
theorem dX7_basin_59 : decode cX7_basin 59 = .ok (.invokevirtual 140, 3) := by decide +kernel
theorem dX7_basin_62 : decode cX7_basin 62 = .ok (.goto 27, 3) := by decide +kernel
theorem dX7_basin_65 : decode cX7_basin 65 = .ok (.iload_n 2, 1) := by decide +kernel
theorem dX7_basin_66 : decode cX7_basin 66 = .ok (.iconst 3, 1) := by decide +kernel
theorem dX7_basin_67 : decode cX7_basin 67 = .ok (.if_icmp .ne 11, 3) := by decide +kernel
theorem dX7_basin_70 : decode cX7_basin 70 = .ok (.aload_n 0, 1) := by decide +kernel
theorem dX7_basin_71 : decode cX7_basin 71 = .ok (.iload_n 1, 1) := by decide +kernel
theorem dX7_basin_72 : decode cX7_basin 72 = .ok (.invokevirtual 128, 3) := by decide +kernel
theorem dX7_basin_75 : decode cX7_basin 75 = .ok (.goto 14, 3) := by decide +kernel
theorem dX7_basin_78 : decode cX7_basin 78 = .ok (.iload_n 2, 1) := by decide +kernel
theorem dX7_basin_79 : decode cX7_basin 79 = .ok (.iconst 4, 1) := by decide +kernel
theorem dX7_basin_80 : decode cX7_basin 80 = .ok (.if_icmp .ne 8, 3) := by decide +kernel
theorem dX7_basin_83 : decode cX7_basin 83 = .ok (.iload 4, 2) := by decide +kernel
theorem dX7_basin_85 : decode cX7_basin 85 = .ok (.goto 4, 3) := by decide +kernel
theorem dX7_basin_88 : decode cX7_basin 88 = .ok (.iload_n 3, 1) := by decide +kernel
theorem dX7_basin_89 : decode cX7_basin 89 = .ok (.ireturn, 1) := by decide +kernel
theorem dX7_pass_0 : decode cX7_pass 0 = .ok (.aload_n 0, 1) := by decide +kernel
theorem dX7_pass_1 : decode cX7_pass 1 = .ok (.invokevirtual 151, 3) := by decide +kernel
theorem dX7_pass_4 : decode cX7_pass 4 = .ok (.aload_n 0, 1) := by decide +kernel
theorem dX7_pass_5 : decode cX7_pass 5 = .ok (.iload_n 1, 1) := by decide +kernel
theorem dX7_pass_6 : decode cX7_pass 6 = .ok (.invokevirtual 154, 3) := by decide +kernel
theorem dX7_pass_9 : decode cX7_pass 9 = .ok (.ifCond .eq 11, 3) := by decide +kernel
theorem dX7_pass_12 : decode cX7_pass 12 = .ok (.aload_n 0, 1) := by decide +kernel
theorem dX7_pass_13 : decode cX7_pass 13 = .ok (.iload_n 2, 1) := by decide +kernel
theorem dX7_pass_14 : decode cX7_pass 14 = .ok (.invokevirtual 154, 3) := by decide +kernel
theorem dX7_pass_17 : decode cX7_pass 17 = .ok (.ifCond .ne 5, 3) := by decide +kernel
theorem dX7_pass_20 : decode cX7_pass 20 = .ok (.iconst (-1), 1) := by decide +kernel
theorem dX7_pass_21 : decode cX7_pass 21 = .ok (.ireturn, 1) := by decide +kernel
theorem dX7_pass_22 : decode cX7_pass 22 = .ok (.iload_n 1, 1) := by decide +kernel
theorem dX7_pass_23 : decode cX7_pass 23 = .ok (.iload_n 2, 1) := by decide +kernel
theorem dX7_pass_24 : decode cX7_pass 24 = .ok (.if_icmp .ne 8, 3) := by decide +kernel
theorem dX7_pass_27 : decode cX7_pass 27 = .ok (.bipush (-2), 2) := by decide +kernel
theorem dX7_pass_29 : decode cX7_pass 29 = .ok (.goto 9, 3) := by decide +kernel
theorem dX7_pass_32 : decode cX7_pass 32 = .ok (.aload_n 0, 1) := by decide +kernel
theorem dX7_pass_33 : decode cX7_pass 33 = .ok (.iload_n 1, 1) := by decide +kernel
theorem dX7_pass_34 : decode cX7_pass 34 = .ok (.iload_n 2, 1) := by decide +kernel
theorem dX7_pass_35 : decode cX7_pass 35 = .ok (.invokevirtual 158, 3) := by decide +kernel
theorem dX7_pass_38 : decode cX7_pass 38 = .ok (.ireturn, 1) := by decide +kernel
theorem dX7_told_0 : decode cX7_told 0 = .ok (.iload_n 1, 1) := by decide +kernel
theorem dX7_told_1 : decode cX7_told 1 = .ok (.iconst 0, 1) := by decide +kernel
theorem dX7_told_2 : decode cX7_told 2 = .ok (.aload_n 0, 1) := by decide +kernel
theorem dX7_told_3 : decode cX7_told 3 = .ok (.getfield 134, 3) := by decide +kernel
theorem dX7_told_6 : decode cX7_told 6 = .ok (.iconst 1, 1) := by decide +kernel
theorem dX7_told_7 : decode cX7_told 7 = .ok (.isub, 1) := by decide +kernel
theorem dX7_told_8 : decode cX7_told 8 = .ok (.invokestatic 65, 3) := by decide +kernel
theorem dX7_told_11 : decode cX7_told 11 = .ok (.ifCond .ne 6, 3) := by decide +kernel
theorem dX7_told_14 : decode cX7_told 14 = .ok (.bipush (-6), 2) := by decide +kernel
theorem dX7_told_16 : decode cX7_told 16 = .ok (.ireturn, 1) := by decide +kernel
theorem dX7_told_17 : decode cX7_told 17 = .ok (.iload_n 2, 1) := by decide +kernel
theorem dX7_told_18 : decode cX7_told 18 = .ok (.ifCond .ne 12, 3) := by decide +kernel
theorem dX7_told_21 : decode cX7_told 21 = .ok (.aload_n 0, 1) := by decide +kernel
theorem dX7_told_22 : decode cX7_told 22 = .ok (.getfield 47, 3) := by decide +kernel
theorem dX7_told_25 : decode cX7_told 25 = .ok (.iload_n 1, 1) := by decide +kernel
theorem dX7_told_26 : decode cX7_told 26 = .ok (.iaload, 1) := by decide +kernel
theorem dX7_told_27 : decode cX7_told 27 = .ok (.goto 37, 3) := by decide +kernel
theorem dX7_told_30 : decode cX7_told 30 = .ok (.iload_n 2, 1) := by decide +kernel
theorem dX7_told_31 : decode cX7_told 31 = .ok (.iconst 1, 1) := by decide +kernel
theorem dX7_told_32 : decode cX7_told 32 = .ok (.if_icmp .ne 12, 3) := by decide +kernel
theorem dX7_told_35 : decode cX7_told 35 = .ok (.aload_n 0, 1) := by decide +kernel
theorem dX7_told_36 : decode cX7_told 36 = .ok (.getfield 50, 3) := by decide +kernel
theorem dX7_told_39 : decode cX7_told 39 = .ok (.iload_n 1, 1) := by decide +kernel
theorem dX7_told_40 : decode cX7_told 40 = .ok (.iaload, 1) := by decide +kernel
theorem dX7_told_41 : decode cX7_told 41 = .ok (.goto 23, 3) := by decide +kernel
theorem dX7_told_44 : decode cX7_told 44 = .ok (.iload_n 2, 1) := by decide +kernel
theorem dX7_told_45 : decode cX7_told 45 = .ok (.iconst 2, 1) := by decide +kernel
theorem dX7_told_46 : decode cX7_told 46 = .ok (.if_icmp .ne 12, 3) := by decide +kernel
theorem dX7_told_49 : decode cX7_told 49 = .ok (.aload_n 0, 1) := by decide +kernel
theorem dX7_told_50 : decode cX7_told 50 = .ok (.getfield 53, 3) := by decide +kernel
theorem dX7_told_53 : decode cX7_told 53 = .ok (.iload_n 1, 1) := by decide +kernel
theorem dX7_told_54 : decode cX7_told 54 = .ok (.iaload, 1) := by decide +kernel
theorem dX7_told_55 : decode cX7_told 55 = .ok (.goto 9, 3) := by decide +kernel
theorem dX7_told_58 : decode cX7_told 58 = .ok (.aload_n 0, 1) := by decide +kernel
theorem dX7_told_59 : decode cX7_told 59 = .ok (.getfield 56, 3) := by decide +kernel
theorem dX7_told_62 : decode cX7_told 62 = .ok (.iload_n 1, 1) := by decide +kernel
theorem dX7_told_63 : decode cX7_told 63 = .ok (.iaload, 1) := by decide +kernel
theorem dX7_told_64 : decode cX7_told 64 = .ok (.ireturn, 1) := by decide +kernel
theorem dX7_poured_0 : decode cX7_poured 0 = .ok (.iload_n 2, 1) := by decide +kernel
theorem dX7_poured_1 : decode cX7_poured 1 = .ok (.iconst 0, 1) := by decide +kernel
theorem dX7_poured_2 : decode cX7_poured 2 = .ok (.iconst 3, 1) := by decide +kernel
theorem dX7_poured_3 : decode cX7_poured 3 = .ok (.invokestatic 65, 3) := by decide +kernel
theorem dX7_poured_6 : decode cX7_poured 6 = .ok (.ifCond .ne 6, 3) := by decide +kernel
theorem dX7_poured_9 : decode cX7_poured 9 = .ok (.bipush (-2), 2) := by decide +kernel
theorem dX7_poured_11 : decode cX7_poured 11 = .ok (.ireturn, 1) := by decide +kernel
theorem dX7_poured_12 : decode cX7_poured 12 = .ok (.aload_n 0, 1) := by decide +kernel
theorem dX7_poured_13 : decode cX7_poured 13 = .ok (.invokevirtual 151, 3) := by decide +kernel
theorem dX7_poured_16 : decode cX7_poured 16 = .ok (.aload_n 0, 1) := by decide +kernel
theorem dX7_poured_17 : decode cX7_poured 17 = .ok (.iload_n 1, 1) := by decide +kernel
theorem dX7_poured_18 : decode cX7_poured 18 = .ok (.iload_n 2, 1) := by decide +kernel
theorem dX7_poured_19 : decode cX7_poured 19 = .ok (.invokevirtual 161, 3) := by decide +kernel
theorem dX7_poured_22 : decode cX7_poured 22 = .ok (.ireturn, 1) := by decide +kernel
theorem dX7_tree_0 : decode cX7_tree 0 = .ok (.iload_n 2, 1) := by decide +kernel
theorem dX7_tree_1 : decode cX7_tree 1 = .ok (.iconst 0, 1) := by decide +kernel
theorem dX7_tree_2 : decode cX7_tree 2 = .ok (.iconst 3, 1) := by decide +kernel
theorem dX7_tree_3 : decode cX7_tree 3 = .ok (.invokestatic 65, 3) := by decide +kernel
theorem dX7_tree_6 : decode cX7_tree 6 = .ok (.ifCond .ne 6, 3) := by decide +kernel
theorem dX7_tree_9 : decode cX7_tree 9 = .ok (.bipush (-2), 2) := by decide +kernel
theorem dX7_tree_11 : decode cX7_tree 11 = .ok (.ireturn, 1) := by decide +kernel
theorem dX7_tree_12 : decode cX7_tree 12 = .ok (.aload_n 0, 1) := by decide +kernel
theorem dX7_tree_13 : decode cX7_tree 13 = .ok (.iconst 0, 1) := by decide +kernel
theorem dX7_tree_14 : decode cX7_tree 14 = .ok (.bipush (-6), 2) := by decide +kernel
theorem dX7_tree_16 : decode cX7_tree 16 = .ok (.invokevirtual 147, 3) := by decide +kernel
theorem dX7_tree_19 : decode cX7_tree 19 = .ok (.aload_n 0, 1) := by decide +kernel
theorem dX7_tree_20 : decode cX7_tree 20 = .ok (.iload_n 1, 1) := by decide +kernel
theorem dX7_tree_21 : decode cX7_tree 21 = .ok (.iload_n 2, 1) := by decide +kernel
theorem dX7_tree_22 : decode cX7_tree 22 = .ok (.invokevirtual 161, 3) := by decide +kernel
theorem dX7_tree_25 : decode cX7_tree 25 = .ok (.ireturn, 1) := by decide +kernel
theorem dX7_over_0 : decode cX7_over 0 = .ok (.aload_n 0, 1) := by decide +kernel
theorem dX7_over_1 : decode cX7_over 1 = .ok (.iload_n 1, 1) := by decide +kernel
theorem dX7_over_2 : decode cX7_over 2 = .ok (.iload_n 2, 1) := by decide +kernel
theorem dX7_over_3 : decode cX7_over 3 = .ok (.invokevirtual 69, 3) := by decide +kernel
theorem dX7_over_6 : decode cX7_over 6 = .ok (.ifCond .eq 13, 3) := by decide +kernel
theorem dX7_over_9 : decode cX7_over 9 = .ok (.aload_n 0, 1) := by decide +kernel
theorem dX7_over_10 : decode cX7_over 10 = .ok (.iload_n 3, 1) := by decide +kernel
theorem dX7_over_11 : decode cX7_over 11 = .ok (.iload 4, 2) := by decide +kernel
theorem dX7_over_13 : decode cX7_over 13 = .ok (.invokevirtual 69, 3) := by decide +kernel
theorem dX7_over_16 : decode cX7_over 16 = .ok (.ifCond .ne 6, 3) := by decide +kernel
theorem dX7_over_19 : decode cX7_over 19 = .ok (.bipush (-2), 2) := by decide +kernel
theorem dX7_over_21 : decode cX7_over 21 = .ok (.ireturn, 1) := by decide +kernel
theorem dX7_over_22 : decode cX7_over 22 = .ok (.aload_n 0, 1) := by decide +kernel
theorem dX7_over_23 : decode cX7_over 23 = .ok (.iload_n 1, 1) := by decide +kernel
theorem dX7_over_24 : decode cX7_over 24 = .ok (.iload_n 2, 1) := by decide +kernel
theorem dX7_over_25 : decode cX7_over 25 = .ok (.invokevirtual 73, 3) := by decide +kernel
theorem dX7_over_28 : decode cX7_over 28 = .ok (.istore 5, 2) := by decide +kernel
theorem dX7_over_30 : decode cX7_over 30 = .ok (.aload_n 0, 1) := by decide +kernel
theorem dX7_over_31 : decode cX7_over 31 = .ok (.iload_n 3, 1) := by decide +kernel
theorem dX7_over_32 : decode cX7_over 32 = .ok (.iload 4, 2) := by decide +kernel
theorem dX7_over_34 : decode cX7_over 34 = .ok (.invokevirtual 73, 3) := by decide +kernel
theorem dX7_over_37 : decode cX7_over 37 = .ok (.istore 6, 2) := by decide +kernel
theorem dX7_over_39 : decode cX7_over 39 = .ok (.aload_n 0, 1) := by decide +kernel
theorem dX7_over_40 : decode cX7_over 40 = .ok (.getfield 7, 3) := by decide +kernel
theorem dX7_over_43 : decode cX7_over 43 = .ok (.iload 5, 2) := by decide +kernel
theorem dX7_over_45 : decode cX7_over 45 = .ok (.iaload, 1) := by decide +kernel
theorem dX7_over_46 : decode cX7_over 46 = .ok (.aload_n 0, 1) := by decide +kernel
theorem dX7_over_47 : decode cX7_over 47 = .ok (.getfield 7, 3) := by decide +kernel
theorem dX7_over_50 : decode cX7_over 50 = .ok (.iload 6, 2) := by decide +kernel
theorem dX7_over_52 : decode cX7_over 52 = .ok (.iaload, 1) := by decide +kernel
theorem dX7_over_53 : decode cX7_over 53 = .ok (.invokestatic 98, 3) := by decide +kernel
theorem dX7_over_56 : decode cX7_over 56 = .ok (.istore 7, 2) := by decide +kernel
theorem dX7_over_58 : decode cX7_over 58 = .ok (.aload_n 0, 1) := by decide +kernel
theorem dX7_over_59 : decode cX7_over 59 = .ok (.iload 5, 2) := by decide +kernel
theorem dX7_over_61 : decode cX7_over 61 = .ok (.iload 7, 2) := by decide +kernel
theorem dX7_over_63 : decode cX7_over 63 = .ok (.iconst 0, 1) := by decide +kernel
theorem dX7_over_64 : decode cX7_over 64 = .ok (.invokevirtual 84, 3) := by decide +kernel
theorem dX7_over_67 : decode cX7_over 67 = .ok (.pop, 1) := by decide +kernel
theorem dX7_over_68 : decode cX7_over 68 = .ok (.aload_n 0, 1) := by decide +kernel
theorem dX7_over_69 : decode cX7_over 69 = .ok (.getfield 26, 3) := by decide +kernel
theorem dX7_over_72 : decode cX7_over 72 = .ok (.iload 6, 2) := by decide +kernel
theorem dX7_over_74 : decode cX7_over 74 = .ok (.baload, 1) := by decide +kernel
theorem dX7_over_75 : decode cX7_over 75 = .ok (.ifCond .ne 19, 3) := by decide +kernel
theorem dX7_over_78 : decode cX7_over 78 = .ok (.iinc 7 1, 3) := by decide +kernel
theorem dX7_over_81 : decode cX7_over 81 = .ok (.aload_n 0, 1) := by decide +kernel
theorem dX7_over_82 : decode cX7_over 82 = .ok (.iload 5, 2) := by decide +kernel
theorem dX7_over_84 : decode cX7_over 84 = .ok (.iload 7, 2) := by decide +kernel
theorem dX7_over_86 : decode cX7_over 86 = .ok (.iconst 0, 1) := by decide +kernel
theorem dX7_over_87 : decode cX7_over 87 = .ok (.invokevirtual 84, 3) := by decide +kernel
theorem dX7_over_90 : decode cX7_over 90 = .ok (.pop, 1) := by decide +kernel
theorem dX7_over_91 : decode cX7_over 91 = .ok (.goto (-23), 3) := by decide +kernel
theorem dX7_over_94 : decode cX7_over 94 = .ok (.iload 7, 2) := by decide +kernel
theorem dX7_over_96 : decode cX7_over 96 = .ok (.ireturn, 1) := by decide +kernel
theorem dX7_wet_0 : decode cX7_wet 0 = .ok (.aload_n 0, 1) := by decide +kernel
theorem dX7_wet_1 : decode cX7_wet 1 = .ok (.iload_n 1, 1) := by decide +kernel
theorem dX7_wet_2 : decode cX7_wet 2 = .ok (.iload_n 2, 1) := by decide +kernel
theorem dX7_wet_3 : decode cX7_wet 3 = .ok (.invokevirtual 69, 3) := by decide +kernel
theorem dX7_wet_6 : decode cX7_wet 6 = .ok (.ifCond .eq 23, 3) := by decide +kernel
theorem dX7_wet_9 : decode cX7_wet 9 = .ok (.iload_n 3, 1) := by decide +kernel
theorem dX7_wet_10 : decode cX7_wet 10 = .ok (.iconst 0, 1) := by decide +kernel
theorem dX7_wet_11 : decode cX7_wet 11 = .ok (.bipush 99, 2) := by decide +kernel
theorem dX7_wet_13 : decode cX7_wet 13 = .ok (.invokestatic 65, 3) := by decide +kernel
theorem dX7_wet_16 : decode cX7_wet 16 = .ok (.ifCond .eq 13, 3) := by decide +kernel
theorem dX7_wet_19 : decode cX7_wet 19 = .ok (.iload 4, 2) := by decide +kernel
theorem dX7_wet_21 : decode cX7_wet 21 = .ok (.iconst 0, 1) := by decide +kernel
theorem dX7_wet_22 : decode cX7_wet 22 = .ok (.iconst 2, 1) := by decide +kernel
theorem dX7_wet_23 : decode cX7_wet 23 = .ok (.invokestatic 65, 3) := by decide +kernel
theorem dX7_wet_26 : decode cX7_wet 26 = .ok (.ifCond .ne 6, 3) := by decide +kernel
theorem dX7_wet_29 : decode cX7_wet 29 = .ok (.bipush (-2), 2) := by decide +kernel
theorem dX7_wet_31 : decode cX7_wet 31 = .ok (.ireturn, 1) := by decide +kernel
theorem dX7_wet_32 : decode cX7_wet 32 = .ok (.aload_n 0, 1) := by decide +kernel
theorem dX7_wet_33 : decode cX7_wet 33 = .ok (.iload_n 1, 1) := by decide +kernel
theorem dX7_wet_34 : decode cX7_wet 34 = .ok (.iload_n 2, 1) := by decide +kernel
theorem dX7_wet_35 : decode cX7_wet 35 = .ok (.invokevirtual 73, 3) := by decide +kernel
theorem dX7_wet_38 : decode cX7_wet 38 = .ok (.istore 5, 2) := by decide +kernel
theorem dX7_wet_40 : decode cX7_wet 40 = .ok (.aload_n 0, 1) := by decide +kernel
theorem dX7_wet_41 : decode cX7_wet 41 = .ok (.getfield 7, 3) := by decide +kernel
theorem dX7_wet_44 : decode cX7_wet 44 = .ok (.iload 5, 2) := by decide +kernel
theorem dX7_wet_46 : decode cX7_wet 46 = .ok (.iaload, 1) := by decide +kernel
theorem dX7_wet_47 : decode cX7_wet 47 = .ok (.iload_n 3, 1) := by decide +kernel
theorem dX7_wet_48 : decode cX7_wet 48 = .ok (.if_icmp .le 16, 3) := by decide +kernel
theorem dX7_wet_51 : decode cX7_wet 51 = .ok (.iload 4, 2) := by decide +kernel
theorem dX7_wet_53 : decode cX7_wet 53 = .ok (.iconst 2, 1) := by decide +kernel
theorem dX7_wet_54 : decode cX7_wet 54 = .ok (.if_icmp .ne 8, 3) := by decide +kernel
theorem dX7_wet_57 : decode cX7_wet 57 = .ok (.bipush (-6), 2) := by decide +kernel
theorem dX7_wet_59 : decode cX7_wet 59 = .ok (.goto 4, 3) := by decide +kernel
theorem dX7_wet_62 : decode cX7_wet 62 = .ok (.iconst 0, 1) := by decide +kernel
theorem dX7_wet_63 : decode cX7_wet 63 = .ok (.ireturn, 1) := by decide +kernel
theorem dX7_wet_64 : decode cX7_wet 64 = .ok (.aload_n 0, 1) := by decide +kernel
theorem dX7_wet_65 : decode cX7_wet 65 = .ok (.iload 5, 2) := by decide +kernel
theorem dX7_wet_67 : decode cX7_wet 67 = .ok (.iload_n 3, 1) := by decide +kernel
theorem dX7_wet_68 : decode cX7_wet 68 = .ok (.iconst 0, 1) := by decide +kernel
theorem dX7_wet_69 : decode cX7_wet 69 = .ok (.invokevirtual 84, 3) := by decide +kernel
theorem dX7_wet_72 : decode cX7_wet 72 = .ok (.istore 6, 2) := by decide +kernel
theorem dX7_wet_74 : decode cX7_wet 74 = .ok (.iload 4, 2) := by decide +kernel
theorem dX7_wet_76 : decode cX7_wet 76 = .ok (.iconst 2, 1) := by decide +kernel
theorem dX7_wet_77 : decode cX7_wet 77 = .ok (.if_icmp .ne 10, 3) := by decide +kernel
theorem dX7_wet_80 : decode cX7_wet 80 = .ok (.aload_n 0, 1) := by decide +kernel
theorem dX7_wet_81 : decode cX7_wet 81 = .ok (.iload 6, 2) := by decide +kernel
theorem dX7_wet_83 : decode cX7_wet 83 = .ok (.invokevirtual 88, 3) := by decide +kernel
theorem dX7_wet_86 : decode cX7_wet 86 = .ok (.ireturn, 1) := by decide +kernel
theorem dX7_wet_87 : decode cX7_wet 87 = .ok (.iconst 0, 1) := by decide +kernel
theorem dX7_wet_88 : decode cX7_wet 88 = .ok (.istore 7, 2) := by decide +kernel
theorem dX7_wet_90 : decode cX7_wet 90 = .ok (.iconst 0, 1) := by decide +kernel
theorem dX7_wet_91 : decode cX7_wet 91 = .ok (.istore 8, 2) := by decide +kernel
theorem dX7_wet_93 : decode cX7_wet 93 = .ok (.iload 8, 2) := by decide +kernel
theorem dX7_wet_95 : decode cX7_wet 95 = .ok (.iload 6, 2) := by decide +kernel
theorem dX7_wet_97 : decode cX7_wet 97 = .ok (.if_icmp .ge 28, 3) := by decide +kernel
theorem dX7_wet_100 : decode cX7_wet 100 = .ok (.iload 7, 2) := by decide +kernel
theorem dX7_wet_102 : decode cX7_wet 102 = .ok (.iload_n 3, 1) := by decide +kernel
theorem dX7_wet_103 : decode cX7_wet 103 = .ok (.aload_n 0, 1) := by decide +kernel
theorem dX7_wet_104 : decode cX7_wet 104 = .ok (.getfield 7, 3) := by decide +kernel
theorem dX7_wet_107 : decode cX7_wet 107 = .ok (.aload_n 0, 1) := by decide +kernel
theorem dX7_wet_108 : decode cX7_wet 108 = .ok (.getfield 23, 3) := by decide +kernel
theorem dX7_wet_111 : decode cX7_wet 111 = .ok (.iload 8, 2) := by decide +kernel
theorem dX7_wet_113 : decode cX7_wet 113 = .ok (.iaload, 1) := by decide +kernel
theorem dX7_wet_114 : decode cX7_wet 114 = .ok (.iaload, 1) := by decide +kernel
theorem dX7_wet_115 : decode cX7_wet 115 = .ok (.isub, 1) := by decide +kernel
theorem dX7_wet_116 : decode cX7_wet 116 = .ok (.iadd, 1) := by decide +kernel
theorem dX7_wet_117 : decode cX7_wet 117 = .ok (.istore 7, 2) := by decide +kernel
theorem dX7_wet_119 : decode cX7_wet 119 = .ok (.iinc 8 1, 3) := by decide +kernel
theorem dX7_wet_122 : decode cX7_wet 122 = .ok (.goto (-29), 3) := by decide +kernel
theorem dX7_wet_125 : decode cX7_wet 125 = .ok (.iload 4, 2) := by decide +kernel
theorem dX7_wet_127 : decode cX7_wet 127 = .ok (.ifCond .ne 8, 3) := by decide +kernel
theorem dX7_wet_130 : decode cX7_wet 130 = .ok (.iload 6, 2) := by decide +kernel
theorem dX7_wet_132 : decode cX7_wet 132 = .ok (.goto 5, 3) := by decide +kernel
theorem dX7_wet_135 : decode cX7_wet 135 = .ok (.iload 7, 2) := by decide +kernel
theorem dX7_wet_137 : decode cX7_wet 137 = .ok (.ireturn, 1) := by decide +kernel
theorem dX7_basins_0 : decode cX7_basins 0 = .ok (.iconst 0, 1) := by decide +kernel
theorem dX7_basins_1 : decode cX7_basins 1 = .ok (.istore_n 2, 1) := by decide +kernel
theorem dX7_basins_2 : decode cX7_basins 2 = .ok (.iconst 1, 1) := by decide +kernel
theorem dX7_basins_3 : decode cX7_basins 3 = .ok (.istore_n 3, 1) := by decide +kernel
theorem dX7_basins_4 : decode cX7_basins 4 = .ok (.iload_n 3, 1) := by decide +kernel
theorem dX7_basins_5 : decode cX7_basins 5 = .ok (.bipush 100, 2) := by decide +kernel
theorem dX7_basins_7 : decode cX7_basins 7 = .ok (.if_icmp .ge 26, 3) := by decide +kernel
theorem dX7_basins_10 : decode cX7_basins 10 = .ok (.iload_n 2, 1) := by decide +kernel
theorem dX7_basins_11 : decode cX7_basins 11 = .ok (.aload_n 0, 1) := by decide +kernel
theorem dX7_basins_12 : decode cX7_basins 12 = .ok (.aload_n 1, 1) := by decide +kernel
theorem dX7_basins_13 : decode cX7_basins 13 = .ok (.iload_n 3, 1) := by decide +kernel
theorem dX7_basins_14 : decode cX7_basins 14 = .ok (.invokevirtual 125, 3) := by decide +kernel
theorem dX7_basins_17 : decode cX7_basins 17 = .ok (.ifCond .le 7, 3) := by decide +kernel
theorem dX7_basins_20 : decode cX7_basins 20 = .ok (.iconst 1, 1) := by decide +kernel
theorem dX7_basins_21 : decode cX7_basins 21 = .ok (.goto 4, 3) := by decide +kernel
theorem dX7_basins_24 : decode cX7_basins 24 = .ok (.iconst 0, 1) := by decide +kernel
theorem dX7_basins_25 : decode cX7_basins 25 = .ok (.iadd, 1) := by decide +kernel
theorem dX7_basins_26 : decode cX7_basins 26 = .ok (.istore_n 2, 1) := by decide +kernel
theorem dX7_basins_27 : decode cX7_basins 27 = .ok (.iinc 3 1, 3) := by decide +kernel
theorem dX7_basins_30 : decode cX7_basins 30 = .ok (.goto (-26), 3) := by decide +kernel
theorem dX7_basins_33 : decode cX7_basins 33 = .ok (.iload_n 2, 1) := by decide +kernel
theorem dX7_basins_34 : decode cX7_basins 34 = .ok (.ireturn, 1) := by decide +kernel
theorem dX7_greatestLevel_0 : decode cX7_greatestLevel 0 = .ok (.bipush (-6), 2) := by decide +kernel
theorem dX7_greatestLevel_2 : decode cX7_greatestLevel 2 = .ok (.istore_n 1, 1) := by decide +kernel
theorem dX7_greatestLevel_3 : decode cX7_greatestLevel 3 = .ok (.iconst 0, 1) := by decide +kernel
theorem dX7_greatestLevel_4 : decode cX7_greatestLevel 4 = .ok (.istore_n 2, 1) := by decide +kernel
theorem dX7_greatestLevel_5 : decode cX7_greatestLevel 5 = .ok (.iload_n 2, 1) := by decide +kernel
theorem dX7_greatestLevel_6 : decode cX7_greatestLevel 6 = .ok (.aload_n 0, 1) := by decide +kernel
theorem dX7_greatestLevel_7 : decode cX7_greatestLevel 7 = .ok (.invokevirtual 80, 3) := by decide +kernel
theorem dX7_greatestLevel_10 : decode cX7_greatestLevel 10 = .ok (.if_icmp .ge 20, 3) := by decide +kernel
theorem dX7_greatestLevel_13 : decode cX7_greatestLevel 13 = .ok (.iload_n 1, 1) := by decide +kernel
theorem dX7_greatestLevel_14 : decode cX7_greatestLevel 14 = .ok (.aload_n 0, 1) := by decide +kernel
theorem dX7_greatestLevel_15 : decode cX7_greatestLevel 15 = .ok (.getfield 32, 3) := by decide +kernel
theorem dX7_greatestLevel_18 : decode cX7_greatestLevel 18 = .ok (.iload_n 2, 1) := by decide +kernel
theorem dX7_greatestLevel_19 : decode cX7_greatestLevel 19 = .ok (.iaload, 1) := by decide +kernel
theorem dX7_greatestLevel_20 : decode cX7_greatestLevel 20 = .ok (.invokestatic 98, 3) := by decide +kernel
theorem dX7_greatestLevel_23 : decode cX7_greatestLevel 23 = .ok (.istore_n 1, 1) := by decide +kernel
theorem dX7_greatestLevel_24 : decode cX7_greatestLevel 24 = .ok (.iinc 2 1, 3) := by decide +kernel
theorem dX7_greatestLevel_27 : decode cX7_greatestLevel 27 = .ok (.goto (-22), 3) := by decide +kernel
theorem dX7_greatestLevel_30 : decode cX7_greatestLevel 30 = .ok (.iload_n 1, 1) := by decide +kernel
theorem dX7_greatestLevel_31 : decode cX7_greatestLevel 31 = .ok (.ireturn, 1) := by decide +kernel
theorem dX7_treeSize_0 : decode cX7_treeSize 0 = .ok (.aload_n 0, 1) := by decide +kernel
theorem dX7_treeSize_1 : decode cX7_treeSize 1 = .ok (.iconst 0, 1) := by decide +kernel
theorem dX7_treeSize_2 : decode cX7_treeSize 2 = .ok (.bipush (-6), 2) := by decide +kernel
theorem dX7_treeSize_4 : decode cX7_treeSize 4 = .ok (.invokevirtual 147, 3) := by decide +kernel
theorem dX7_treeSize_7 : decode cX7_treeSize 7 = .ok (.aload_n 0, 1) := by decide +kernel
theorem dX7_treeSize_8 : decode cX7_treeSize 8 = .ok (.getfield 134, 3) := by decide +kernel
theorem dX7_treeSize_11 : decode cX7_treeSize 11 = .ok (.ireturn, 1) := by decide +kernel
theorem dX7_marked_0 : decode cX7_marked 0 = .ok (.iconst 0, 1) := by decide +kernel
theorem dX7_marked_1 : decode cX7_marked 1 = .ok (.istore_n 1, 1) := by decide +kernel
theorem dX7_marked_2 : decode cX7_marked 2 = .ok (.iconst 0, 1) := by decide +kernel
theorem dX7_marked_3 : decode cX7_marked 3 = .ok (.istore_n 2, 1) := by decide +kernel
theorem dX7_marked_4 : decode cX7_marked 4 = .ok (.iload_n 2, 1) := by decide +kernel
theorem dX7_marked_5 : decode cX7_marked 5 = .ok (.aload_n 0, 1) := by decide +kernel
theorem dX7_marked_6 : decode cX7_marked 6 = .ok (.invokevirtual 80, 3) := by decide +kernel
theorem dX7_marked_9 : decode cX7_marked 9 = .ok (.if_icmp .ge 30, 3) := by decide +kernel
theorem dX7_marked_12 : decode cX7_marked 12 = .ok (.iload_n 1, 1) := by decide +kernel
theorem dX7_marked_13 : decode cX7_marked 13 = .ok (.aload_n 0, 1) := by decide +kernel
theorem dX7_marked_14 : decode cX7_marked 14 = .ok (.getfield 7, 3) := by decide +kernel
theorem dX7_marked_17 : decode cX7_marked 17 = .ok (.sipush 144, 3) := by decide +kernel
theorem dX7_marked_20 : decode cX7_marked 20 = .ok (.iload_n 2, 1) := by decide +kernel
theorem dX7_marked_21 : decode cX7_marked 21 = .ok (.iadd, 1) := by decide +kernel
theorem dX7_marked_22 : decode cX7_marked 22 = .ok (.iaload, 1) := by decide +kernel
theorem dX7_marked_23 : decode cX7_marked 23 = .ok (.ifCond .le 7, 3) := by decide +kernel
theorem dX7_marked_26 : decode cX7_marked 26 = .ok (.iconst 1, 1) := by decide +kernel
theorem dX7_marked_27 : decode cX7_marked 27 = .ok (.goto 4, 3) := by decide +kernel
theorem dX7_marked_30 : decode cX7_marked 30 = .ok (.iconst 0, 1) := by decide +kernel
theorem dX7_marked_31 : decode cX7_marked 31 = .ok (.iadd, 1) := by decide +kernel
theorem dX7_marked_32 : decode cX7_marked 32 = .ok (.istore_n 1, 1) := by decide +kernel
theorem dX7_marked_33 : decode cX7_marked 33 = .ok (.iinc 2 1, 3) := by decide +kernel
theorem dX7_marked_36 : decode cX7_marked 36 = .ok (.goto (-32), 3) := by decide +kernel
theorem dX7_marked_39 : decode cX7_marked 39 = .ok (.iload_n 1, 1) := by decide +kernel
theorem dX7_marked_40 : decode cX7_marked 40 = .ok (.ireturn, 1) := by decide +kernel
theorem dX7_count_0 : decode cX7_count 0 = .ok (.aload_n 0, 1) := by decide +kernel
theorem dX7_count_1 : decode cX7_count 1 = .ok (.invokevirtual 151, 3) := by decide +kernel
theorem dX7_count_4 : decode cX7_count 4 = .ok (.iload_n 1, 1) := by decide +kernel
theorem dX7_count_5 : decode cX7_count 5 = .ok (.tableswitch 191 0 12 #[67, 76, 85, 90, 95, 104, 113, 123, 133, 138, 147, 156, 161], 67) := by decide +kernel
theorem dX7_count_72 : decode cX7_count 72 = .ok (.aload_n 0, 1) := by decide +kernel
theorem dX7_count_73 : decode cX7_count 73 = .ok (.getfield 7, 3) := by decide +kernel
theorem dX7_count_76 : decode cX7_count 76 = .ok (.sipush 288, 3) := by decide +kernel
theorem dX7_count_79 : decode cX7_count 79 = .ok (.iaload, 1) := by decide +kernel
theorem dX7_count_80 : decode cX7_count 80 = .ok (.ireturn, 1) := by decide +kernel
theorem dX7_count_81 : decode cX7_count 81 = .ok (.aload_n 0, 1) := by decide +kernel
theorem dX7_count_82 : decode cX7_count 82 = .ok (.getfield 7, 3) := by decide +kernel
theorem dX7_count_85 : decode cX7_count 85 = .ok (.sipush 289, 3) := by decide +kernel
theorem dX7_count_88 : decode cX7_count 88 = .ok (.iaload, 1) := by decide +kernel
theorem dX7_count_89 : decode cX7_count 89 = .ok (.ireturn, 1) := by decide +kernel
theorem dX7_count_90 : decode cX7_count 90 = .ok (.aload_n 0, 1) := by decide +kernel
theorem dX7_count_91 : decode cX7_count 91 = .ok (.invokevirtual 92, 3) := by decide +kernel
theorem dX7_count_94 : decode cX7_count 94 = .ok (.ireturn, 1) := by decide +kernel
theorem dX7_count_95 : decode cX7_count 95 = .ok (.aload_n 0, 1) := by decide +kernel
theorem dX7_count_96 : decode cX7_count 96 = .ok (.invokevirtual 164, 3) := by decide +kernel
theorem dX7_count_99 : decode cX7_count 99 = .ok (.ireturn, 1) := by decide +kernel
theorem dX7_count_100 : decode cX7_count 100 = .ok (.aload_n 0, 1) := by decide +kernel
theorem dX7_count_101 : decode cX7_count 101 = .ok (.aload_n 0, 1) := by decide +kernel
theorem dX7_count_102 : decode cX7_count 102 = .ok (.getfield 29, 3) := by decide +kernel
theorem dX7_count_105 : decode cX7_count 105 = .ok (.invokevirtual 167, 3) := by decide +kernel
theorem dX7_count_108 : decode cX7_count 108 = .ok (.ireturn, 1) := by decide +kernel
theorem dX7_count_109 : decode cX7_count 109 = .ok (.aload_n 0, 1) := by decide +kernel
theorem dX7_count_110 : decode cX7_count 110 = .ok (.aload_n 0, 1) := by decide +kernel
theorem dX7_count_111 : decode cX7_count 111 = .ok (.getfield 44, 3) := by decide +kernel
theorem dX7_count_114 : decode cX7_count 114 = .ok (.invokevirtual 167, 3) := by decide +kernel
theorem dX7_count_117 : decode cX7_count 117 = .ok (.ireturn, 1) := by decide +kernel
theorem dX7_count_118 : decode cX7_count 118 = .ok (.aload_n 0, 1) := by decide +kernel
theorem dX7_count_119 : decode cX7_count 119 = .ok (.aload_n 0, 1) := by decide +kernel
theorem dX7_count_120 : decode cX7_count 120 = .ok (.getfield 29, 3) := by decide +kernel
theorem dX7_count_123 : decode cX7_count 123 = .ok (.iconst 0, 1) := by decide +kernel
theorem dX7_count_124 : decode cX7_count 124 = .ok (.invokevirtual 125, 3) := by decide +kernel
theorem dX7_count_127 : decode cX7_count 127 = .ok (.ireturn, 1) := by decide +kernel
theorem dX7_count_128 : decode cX7_count 128 = .ok (.aload_n 0, 1) := by decide +kernel
theorem dX7_count_129 : decode cX7_count 129 = .ok (.aload_n 0, 1) := by decide +kernel
theorem dX7_count_130 : decode cX7_count 130 = .ok (.getfield 44, 3) := by decide +kernel
theorem dX7_count_133 : decode cX7_count 133 = .ok (.iconst 0, 1) := by decide +kernel
theorem dX7_count_134 : decode cX7_count 134 = .ok (.invokevirtual 125, 3) := by decide +kernel
theorem dX7_count_137 : decode cX7_count 137 = .ok (.ireturn, 1) := by decide +kernel
theorem dX7_count_138 : decode cX7_count 138 = .ok (.aload_n 0, 1) := by decide +kernel
theorem dX7_count_139 : decode cX7_count 139 = .ok (.invokevirtual 171, 3) := by decide +kernel
theorem dX7_count_142 : decode cX7_count 142 = .ok (.ireturn, 1) := by decide +kernel
theorem dX7_count_143 : decode cX7_count 143 = .ok (.aload_n 0, 1) := by decide +kernel
theorem dX7_count_144 : decode cX7_count 144 = .ok (.getfield 7, 3) := by decide +kernel
theorem dX7_count_147 : decode cX7_count 147 = .ok (.sipush 290, 3) := by decide +kernel
theorem dX7_count_150 : decode cX7_count 150 = .ok (.iaload, 1) := by decide +kernel
theorem dX7_count_151 : decode cX7_count 151 = .ok (.ireturn, 1) := by decide +kernel
theorem dX7_count_152 : decode cX7_count 152 = .ok (.aload_n 0, 1) := by decide +kernel
theorem dX7_count_153 : decode cX7_count 153 = .ok (.getfield 7, 3) := by decide +kernel
theorem dX7_count_156 : decode cX7_count 156 = .ok (.sipush 291, 3) := by decide +kernel
theorem dX7_count_159 : decode cX7_count 159 = .ok (.iaload, 1) := by decide +kernel
theorem dX7_count_160 : decode cX7_count 160 = .ok (.ireturn, 1) := by decide +kernel
theorem dX7_count_161 : decode cX7_count 161 = .ok (.aload_n 0, 1) := by decide +kernel
theorem dX7_count_162 : decode cX7_count 162 = .ok (.invokevirtual 174, 3) := by decide +kernel
theorem dX7_count_165 : decode cX7_count 165 = .ok (.ireturn, 1) := by decide +kernel
theorem dX7_count_166 : decode cX7_count 166 = .ok (.aload_n 0, 1) := by decide +kernel
theorem dX7_count_167 : decode cX7_count 167 = .ok (.getfield 16, 3) := by decide +kernel
theorem dX7_count_170 : decode cX7_count 170 = .ok (.iconst 0, 1) := by decide +kernel
theorem dX7_count_171 : decode cX7_count 171 = .ok (.baload, 1) := by decide +kernel
theorem dX7_count_172 : decode cX7_count 172 = .ok (.ifCond .eq 7, 3) := by decide +kernel
theorem dX7_count_175 : decode cX7_count 175 = .ok (.iconst 1, 1) := by decide +kernel
theorem dX7_count_176 : decode cX7_count 176 = .ok (.goto 4, 3) := by decide +kernel
theorem dX7_count_179 : decode cX7_count 179 = .ok (.iconst 0, 1) := by decide +kernel
theorem dX7_count_180 : decode cX7_count 180 = .ok (.aload_n 0, 1) := by decide +kernel
theorem dX7_count_181 : decode cX7_count 181 = .ok (.getfield 16, 3) := by decide +kernel
theorem dX7_count_184 : decode cX7_count 184 = .ok (.iconst 1, 1) := by decide +kernel
theorem dX7_count_185 : decode cX7_count 185 = .ok (.baload, 1) := by decide +kernel
theorem dX7_count_186 : decode cX7_count 186 = .ok (.ifCond .eq 7, 3) := by decide +kernel
theorem dX7_count_189 : decode cX7_count 189 = .ok (.iconst 2, 1) := by decide +kernel
theorem dX7_count_190 : decode cX7_count 190 = .ok (.goto 4, 3) := by decide +kernel
theorem dX7_count_193 : decode cX7_count 193 = .ok (.iconst 0, 1) := by decide +kernel
theorem dX7_count_194 : decode cX7_count 194 = .ok (.iadd, 1) := by decide +kernel
theorem dX7_count_195 : decode cX7_count 195 = .ok (.ireturn, 1) := by decide +kernel
theorem dX7_count_196 : decode cX7_count 196 = .ok (.bipush (-2), 2) := by decide +kernel
theorem dX7_count_198 : decode cX7_count 198 = .ok (.ireturn, 1) := by decide +kernel
theorem dX7_image_0 : decode cX7_image 0 = .ok (.iload_n 1, 1) := by decide +kernel
theorem dX7_image_1 : decode cX7_image 1 = .ok (.iconst 0, 1) := by decide +kernel
theorem dX7_image_2 : decode cX7_image 2 = .ok (.iconst 1, 1) := by decide +kernel
theorem dX7_image_3 : decode cX7_image 3 = .ok (.invokestatic 65, 3) := by decide +kernel
theorem dX7_image_6 : decode cX7_image 6 = .ok (.ifCond .ne 6, 3) := by decide +kernel
theorem dX7_image_9 : decode cX7_image 9 = .ok (.bipush (-2), 2) := by decide +kernel
theorem dX7_image_11 : decode cX7_image 11 = .ok (.ireturn, 1) := by decide +kernel
theorem dX7_image_12 : decode cX7_image 12 = .ok (.iconst 0, 1) := by decide +kernel
theorem dX7_image_13 : decode cX7_image 13 = .ok (.istore_n 2, 1) := by decide +kernel
theorem dX7_image_14 : decode cX7_image 14 = .ok (.iload_n 2, 1) := by decide +kernel
theorem dX7_image_15 : decode cX7_image 15 = .ok (.sipush 292, 3) := by decide +kernel
theorem dX7_image_18 : decode cX7_image 18 = .ok (.if_icmp .ge 27, 3) := by decide +kernel
theorem dX7_image_21 : decode cX7_image 21 = .ok (.aload_n 0, 1) := by decide +kernel
theorem dX7_image_22 : decode cX7_image 22 = .ok (.getfield 13, 3) := by decide +kernel
theorem dX7_image_25 : decode cX7_image 25 = .ok (.sipush 292, 3) := by decide +kernel
theorem dX7_image_28 : decode cX7_image 28 = .ok (.iload_n 1, 1) := by decide +kernel
theorem dX7_image_29 : decode cX7_image 29 = .ok (.imul, 1) := by decide +kernel
theorem dX7_image_30 : decode cX7_image 30 = .ok (.iload_n 2, 1) := by decide +kernel
theorem dX7_image_31 : decode cX7_image 31 = .ok (.iadd, 1) := by decide +kernel
theorem dX7_image_32 : decode cX7_image 32 = .ok (.aload_n 0, 1) := by decide +kernel
theorem dX7_image_33 : decode cX7_image 33 = .ok (.getfield 7, 3) := by decide +kernel
theorem dX7_image_36 : decode cX7_image 36 = .ok (.iload_n 2, 1) := by decide +kernel
theorem dX7_image_37 : decode cX7_image 37 = .ok (.iaload, 1) := by decide +kernel
theorem dX7_image_38 : decode cX7_image 38 = .ok (.iastore, 1) := by decide +kernel
theorem dX7_image_39 : decode cX7_image 39 = .ok (.iinc 2 1, 3) := by decide +kernel
theorem dX7_image_42 : decode cX7_image 42 = .ok (.goto (-28), 3) := by decide +kernel
theorem dX7_image_45 : decode cX7_image 45 = .ok (.aload_n 0, 1) := by decide +kernel
theorem dX7_image_46 : decode cX7_image 46 = .ok (.getfield 16, 3) := by decide +kernel
theorem dX7_image_49 : decode cX7_image 49 = .ok (.iload_n 1, 1) := by decide +kernel
theorem dX7_image_50 : decode cX7_image 50 = .ok (.iconst 1, 1) := by decide +kernel
theorem dX7_image_51 : decode cX7_image 51 = .ok (.bastore, 1) := by decide +kernel
theorem dX7_image_52 : decode cX7_image 52 = .ok (.iconst 1, 1) := by decide +kernel
theorem dX7_image_53 : decode cX7_image 53 = .ok (.ireturn, 1) := by decide +kernel
theorem dX7_restore_0 : decode cX7_restore 0 = .ok (.iload_n 1, 1) := by decide +kernel
theorem dX7_restore_1 : decode cX7_restore 1 = .ok (.iconst 0, 1) := by decide +kernel
theorem dX7_restore_2 : decode cX7_restore 2 = .ok (.iconst 1, 1) := by decide +kernel
theorem dX7_restore_3 : decode cX7_restore 3 = .ok (.invokestatic 65, 3) := by decide +kernel
theorem dX7_restore_6 : decode cX7_restore 6 = .ok (.ifCond .ne 6, 3) := by decide +kernel
theorem dX7_restore_9 : decode cX7_restore 9 = .ok (.bipush (-2), 2) := by decide +kernel
theorem dX7_restore_11 : decode cX7_restore 11 = .ok (.ireturn, 1) := by decide +kernel
theorem dX7_restore_12 : decode cX7_restore 12 = .ok (.aload_n 0, 1) := by decide +kernel
theorem dX7_restore_13 : decode cX7_restore 13 = .ok (.getfield 16, 3) := by decide +kernel
theorem dX7_restore_16 : decode cX7_restore 16 = .ok (.iload_n 1, 1) := by decide +kernel
theorem dX7_restore_17 : decode cX7_restore 17 = .ok (.baload, 1) := by decide +kernel
theorem dX7_restore_18 : decode cX7_restore 18 = .ok (.ifCond .ne 6, 3) := by decide +kernel
theorem dX7_restore_21 : decode cX7_restore 21 = .ok (.bipush (-3), 2) := by decide +kernel
theorem dX7_restore_23 : decode cX7_restore 23 = .ok (.ireturn, 1) := by decide +kernel
theorem dX7_restore_24 : decode cX7_restore 24 = .ok (.iconst 0, 1) := by decide +kernel
theorem dX7_restore_25 : decode cX7_restore 25 = .ok (.istore_n 2, 1) := by decide +kernel
theorem dX7_restore_26 : decode cX7_restore 26 = .ok (.iload_n 2, 1) := by decide +kernel
theorem dX7_restore_27 : decode cX7_restore 27 = .ok (.sipush 292, 3) := by decide +kernel
theorem dX7_restore_30 : decode cX7_restore 30 = .ok (.if_icmp .ge 27, 3) := by decide +kernel
theorem dX7_restore_33 : decode cX7_restore 33 = .ok (.aload_n 0, 1) := by decide +kernel
theorem dX7_restore_34 : decode cX7_restore 34 = .ok (.getfield 7, 3) := by decide +kernel
theorem dX7_restore_37 : decode cX7_restore 37 = .ok (.iload_n 2, 1) := by decide +kernel
theorem dX7_restore_38 : decode cX7_restore 38 = .ok (.aload_n 0, 1) := by decide +kernel
theorem dX7_restore_39 : decode cX7_restore 39 = .ok (.getfield 13, 3) := by decide +kernel
theorem dX7_restore_42 : decode cX7_restore 42 = .ok (.sipush 292, 3) := by decide +kernel
theorem dX7_restore_45 : decode cX7_restore 45 = .ok (.iload_n 1, 1) := by decide +kernel
theorem dX7_restore_46 : decode cX7_restore 46 = .ok (.imul, 1) := by decide +kernel
theorem dX7_restore_47 : decode cX7_restore 47 = .ok (.iload_n 2, 1) := by decide +kernel
theorem dX7_restore_48 : decode cX7_restore 48 = .ok (.iadd, 1) := by decide +kernel
theorem dX7_restore_49 : decode cX7_restore 49 = .ok (.iaload, 1) := by decide +kernel
theorem dX7_restore_50 : decode cX7_restore 50 = .ok (.iastore, 1) := by decide +kernel
theorem dX7_restore_51 : decode cX7_restore 51 = .ok (.iinc 2 1, 3) := by decide +kernel
theorem dX7_restore_54 : decode cX7_restore 54 = .ok (.goto (-28), 3) := by decide +kernel
theorem dX7_restore_57 : decode cX7_restore 57 = .ok (.iconst 1, 1) := by decide +kernel
theorem dX7_restore_58 : decode cX7_restore 58 = .ok (.ireturn, 1) := by decide +kernel
end
section
theorem dL_law_0 : decode cL_law 0 = .ok (.new 7, 3) := by decide +kernel
theorem dL_law_3 : decode cL_law 3 = .ok (.dup, 1) := by decide +kernel
theorem dL_law_4 : decode cL_law 4 = .ok (.invokespecial 9, 3) := by decide +kernel
theorem dL_law_7 : decode cL_law 7 = .ok (.astore_n 1, 1) := by decide +kernel
theorem dL_law_8 : decode cL_law 8 = .ok (.new 10, 3) := by decide +kernel
theorem dL_law_11 : decode cL_law 11 = .ok (.dup, 1) := by decide +kernel
theorem dL_law_12 : decode cL_law 12 = .ok (.invokespecial 12, 3) := by decide +kernel
theorem dL_law_15 : decode cL_law 15 = .ok (.astore_n 2, 1) := by decide +kernel
theorem dL_law_16 : decode cL_law 16 = .ok (.iconst 0, 1) := by decide +kernel
theorem dL_law_17 : decode cL_law 17 = .ok (.istore_n 3, 1) := by decide +kernel
theorem dL_law_18 : decode cL_law 18 = .ok (.iload_n 3, 1) := by decide +kernel
theorem dL_law_19 : decode cL_law 19 = .ok (.aload_n 0, 1) := by decide +kernel
theorem dL_law_20 : decode cL_law 20 = .ok (.arraylength, 1) := by decide +kernel
theorem dL_law_21 : decode cL_law 21 = .ok (.iconst 5, 1) := by decide +kernel
theorem dL_law_22 : decode cL_law 22 = .ok (.isub, 1) := by decide +kernel
theorem dL_law_23 : decode cL_law 23 = .ok (.if_icmp .gt 720, 3) := by decide +kernel
theorem dL_law_26 : decode cL_law 26 = .ok (.aload_n 0, 1) := by decide +kernel
theorem dL_law_27 : decode cL_law 27 = .ok (.iload_n 3, 1) := by decide +kernel
theorem dL_law_28 : decode cL_law 28 = .ok (.iaload, 1) := by decide +kernel
theorem dL_law_29 : decode cL_law 29 = .ok (.bipush 31, 2) := by decide +kernel
theorem dL_law_31 : decode cL_law 31 = .ok (.iand, 1) := by decide +kernel
theorem dL_law_32 : decode cL_law 32 = .ok (.tableswitch 705 0 16 #[84, 117, 170, 223, 266, 309, 322, 365, 398, 431, 464, 497, 530, 583, 636, 659, 682], 84) := by decide +kernel
theorem dL_law_116 : decode cL_law 116 = .ok (.aload_n 1, 1) := by decide +kernel
theorem dL_law_117 : decode cL_law 117 = .ok (.aload_n 0, 1) := by decide +kernel
theorem dL_law_118 : decode cL_law 118 = .ok (.iload_n 3, 1) := by decide +kernel
theorem dL_law_119 : decode cL_law 119 = .ok (.iconst 1, 1) := by decide +kernel
theorem dL_law_120 : decode cL_law 120 = .ok (.iadd, 1) := by decide +kernel
theorem dL_law_121 : decode cL_law 121 = .ok (.iaload, 1) := by decide +kernel
theorem dL_law_122 : decode cL_law 122 = .ok (.aload_n 0, 1) := by decide +kernel
theorem dL_law_123 : decode cL_law 123 = .ok (.iload_n 3, 1) := by decide +kernel
theorem dL_law_124 : decode cL_law 124 = .ok (.iconst 2, 1) := by decide +kernel
theorem dL_law_125 : decode cL_law 125 = .ok (.iadd, 1) := by decide +kernel
theorem dL_law_126 : decode cL_law 126 = .ok (.iaload, 1) := by decide +kernel
theorem dL_law_127 : decode cL_law 127 = .ok (.invokevirtual 13, 3) := by decide +kernel
theorem dL_law_130 : decode cL_law 130 = .ok (.aload_n 2, 1) := by decide +kernel
theorem dL_law_131 : decode cL_law 131 = .ok (.aload_n 0, 1) := by decide +kernel
theorem dL_law_132 : decode cL_law 132 = .ok (.iload_n 3, 1) := by decide +kernel
theorem dL_law_133 : decode cL_law 133 = .ok (.iconst 1, 1) := by decide +kernel
theorem dL_law_134 : decode cL_law 134 = .ok (.iadd, 1) := by decide +kernel
theorem dL_law_135 : decode cL_law 135 = .ok (.iaload, 1) := by decide +kernel
theorem dL_law_136 : decode cL_law 136 = .ok (.aload_n 0, 1) := by decide +kernel
theorem dL_law_137 : decode cL_law 137 = .ok (.iload_n 3, 1) := by decide +kernel
theorem dL_law_138 : decode cL_law 138 = .ok (.iconst 2, 1) := by decide +kernel
theorem dL_law_139 : decode cL_law 139 = .ok (.iadd, 1) := by decide +kernel
theorem dL_law_140 : decode cL_law 140 = .ok (.iaload, 1) := by decide +kernel
theorem dL_law_141 : decode cL_law 141 = .ok (.invokevirtual 17, 3) := by decide +kernel
theorem dL_law_144 : decode cL_law 144 = .ok (.if_icmp .eq 593, 3) := by decide +kernel
theorem dL_law_147 : decode cL_law 147 = .ok (.iconst 0, 1) := by decide +kernel
theorem dL_law_148 : decode cL_law 148 = .ok (.ireturn, 1) := by decide +kernel
theorem dL_law_149 : decode cL_law 149 = .ok (.aload_n 1, 1) := by decide +kernel
theorem dL_law_150 : decode cL_law 150 = .ok (.aload_n 0, 1) := by decide +kernel
theorem dL_law_151 : decode cL_law 151 = .ok (.iload_n 3, 1) := by decide +kernel
theorem dL_law_152 : decode cL_law 152 = .ok (.iconst 1, 1) := by decide +kernel
theorem dL_law_153 : decode cL_law 153 = .ok (.iadd, 1) := by decide +kernel
theorem dL_law_154 : decode cL_law 154 = .ok (.iaload, 1) := by decide +kernel
theorem dL_law_155 : decode cL_law 155 = .ok (.aload_n 0, 1) := by decide +kernel
theorem dL_law_156 : decode cL_law 156 = .ok (.iload_n 3, 1) := by decide +kernel
theorem dL_law_157 : decode cL_law 157 = .ok (.iconst 2, 1) := by decide +kernel
theorem dL_law_158 : decode cL_law 158 = .ok (.iadd, 1) := by decide +kernel
theorem dL_law_159 : decode cL_law 159 = .ok (.iaload, 1) := by decide +kernel
theorem dL_law_160 : decode cL_law 160 = .ok (.aload_n 0, 1) := by decide +kernel
theorem dL_law_161 : decode cL_law 161 = .ok (.iload_n 3, 1) := by decide +kernel
theorem dL_law_162 : decode cL_law 162 = .ok (.iconst 3, 1) := by decide +kernel
theorem dL_law_163 : decode cL_law 163 = .ok (.iadd, 1) := by decide +kernel
theorem dL_law_164 : decode cL_law 164 = .ok (.iaload, 1) := by decide +kernel
theorem dL_law_165 : decode cL_law 165 = .ok (.aload_n 0, 1) := by decide +kernel
theorem dL_law_166 : decode cL_law 166 = .ok (.iload_n 3, 1) := by decide +kernel
theorem dL_law_167 : decode cL_law 167 = .ok (.iconst 4, 1) := by decide +kernel
theorem dL_law_168 : decode cL_law 168 = .ok (.iadd, 1) := by decide +kernel
theorem dL_law_169 : decode cL_law 169 = .ok (.iaload, 1) := by decide +kernel
theorem dL_law_170 : decode cL_law 170 = .ok (.invokevirtual 18, 3) := by decide +kernel
theorem dL_law_173 : decode cL_law 173 = .ok (.aload_n 2, 1) := by decide +kernel
theorem dL_law_174 : decode cL_law 174 = .ok (.aload_n 0, 1) := by decide +kernel
theorem dL_law_175 : decode cL_law 175 = .ok (.iload_n 3, 1) := by decide +kernel
theorem dL_law_176 : decode cL_law 176 = .ok (.iconst 1, 1) := by decide +kernel
theorem dL_law_177 : decode cL_law 177 = .ok (.iadd, 1) := by decide +kernel
theorem dL_law_178 : decode cL_law 178 = .ok (.iaload, 1) := by decide +kernel
theorem dL_law_179 : decode cL_law 179 = .ok (.aload_n 0, 1) := by decide +kernel
theorem dL_law_180 : decode cL_law 180 = .ok (.iload_n 3, 1) := by decide +kernel
theorem dL_law_181 : decode cL_law 181 = .ok (.iconst 2, 1) := by decide +kernel
theorem dL_law_182 : decode cL_law 182 = .ok (.iadd, 1) := by decide +kernel
theorem dL_law_183 : decode cL_law 183 = .ok (.iaload, 1) := by decide +kernel
theorem dL_law_184 : decode cL_law 184 = .ok (.aload_n 0, 1) := by decide +kernel
theorem dL_law_185 : decode cL_law 185 = .ok (.iload_n 3, 1) := by decide +kernel
theorem dL_law_186 : decode cL_law 186 = .ok (.iconst 3, 1) := by decide +kernel
theorem dL_law_187 : decode cL_law 187 = .ok (.iadd, 1) := by decide +kernel
theorem dL_law_188 : decode cL_law 188 = .ok (.iaload, 1) := by decide +kernel
theorem dL_law_189 : decode cL_law 189 = .ok (.aload_n 0, 1) := by decide +kernel
theorem dL_law_190 : decode cL_law 190 = .ok (.iload_n 3, 1) := by decide +kernel
theorem dL_law_191 : decode cL_law 191 = .ok (.iconst 4, 1) := by decide +kernel
theorem dL_law_192 : decode cL_law 192 = .ok (.iadd, 1) := by decide +kernel
theorem dL_law_193 : decode cL_law 193 = .ok (.iaload, 1) := by decide +kernel
theorem dL_law_194 : decode cL_law 194 = .ok (.invokevirtual 22, 3) := by decide +kernel
theorem dL_law_197 : decode cL_law 197 = .ok (.if_icmp .eq 540, 3) := by decide +kernel
theorem dL_law_200 : decode cL_law 200 = .ok (.iconst 0, 1) := by decide +kernel
theorem dL_law_201 : decode cL_law 201 = .ok (.ireturn, 1) := by decide +kernel
theorem dL_law_202 : decode cL_law 202 = .ok (.aload_n 1, 1) := by decide +kernel
theorem dL_law_203 : decode cL_law 203 = .ok (.aload_n 0, 1) := by decide +kernel
theorem dL_law_204 : decode cL_law 204 = .ok (.iload_n 3, 1) := by decide +kernel
theorem dL_law_205 : decode cL_law 205 = .ok (.iconst 1, 1) := by decide +kernel
theorem dL_law_206 : decode cL_law 206 = .ok (.iadd, 1) := by decide +kernel
theorem dL_law_207 : decode cL_law 207 = .ok (.iaload, 1) := by decide +kernel
theorem dL_law_208 : decode cL_law 208 = .ok (.aload_n 0, 1) := by decide +kernel
theorem dL_law_209 : decode cL_law 209 = .ok (.iload_n 3, 1) := by decide +kernel
theorem dL_law_210 : decode cL_law 210 = .ok (.iconst 2, 1) := by decide +kernel
theorem dL_law_211 : decode cL_law 211 = .ok (.iadd, 1) := by decide +kernel
theorem dL_law_212 : decode cL_law 212 = .ok (.iaload, 1) := by decide +kernel
theorem dL_law_213 : decode cL_law 213 = .ok (.aload_n 0, 1) := by decide +kernel
theorem dL_law_214 : decode cL_law 214 = .ok (.iload_n 3, 1) := by decide +kernel
theorem dL_law_215 : decode cL_law 215 = .ok (.iconst 3, 1) := by decide +kernel
theorem dL_law_216 : decode cL_law 216 = .ok (.iadd, 1) := by decide +kernel
theorem dL_law_217 : decode cL_law 217 = .ok (.iaload, 1) := by decide +kernel
theorem dL_law_218 : decode cL_law 218 = .ok (.aload_n 0, 1) := by decide +kernel
theorem dL_law_219 : decode cL_law 219 = .ok (.iload_n 3, 1) := by decide +kernel
theorem dL_law_220 : decode cL_law 220 = .ok (.iconst 4, 1) := by decide +kernel
theorem dL_law_221 : decode cL_law 221 = .ok (.iadd, 1) := by decide +kernel
theorem dL_law_222 : decode cL_law 222 = .ok (.iaload, 1) := by decide +kernel
theorem dL_law_223 : decode cL_law 223 = .ok (.invokevirtual 23, 3) := by decide +kernel
theorem dL_law_226 : decode cL_law 226 = .ok (.aload_n 2, 1) := by decide +kernel
theorem dL_law_227 : decode cL_law 227 = .ok (.aload_n 0, 1) := by decide +kernel
theorem dL_law_228 : decode cL_law 228 = .ok (.iload_n 3, 1) := by decide +kernel
theorem dL_law_229 : decode cL_law 229 = .ok (.iconst 1, 1) := by decide +kernel
theorem dL_law_230 : decode cL_law 230 = .ok (.iadd, 1) := by decide +kernel
theorem dL_law_231 : decode cL_law 231 = .ok (.iaload, 1) := by decide +kernel
theorem dL_law_232 : decode cL_law 232 = .ok (.aload_n 0, 1) := by decide +kernel
theorem dL_law_233 : decode cL_law 233 = .ok (.iload_n 3, 1) := by decide +kernel
theorem dL_law_234 : decode cL_law 234 = .ok (.iconst 2, 1) := by decide +kernel
theorem dL_law_235 : decode cL_law 235 = .ok (.iadd, 1) := by decide +kernel
theorem dL_law_236 : decode cL_law 236 = .ok (.iaload, 1) := by decide +kernel
theorem dL_law_237 : decode cL_law 237 = .ok (.aload_n 0, 1) := by decide +kernel
theorem dL_law_238 : decode cL_law 238 = .ok (.iload_n 3, 1) := by decide +kernel
theorem dL_law_239 : decode cL_law 239 = .ok (.iconst 3, 1) := by decide +kernel
theorem dL_law_240 : decode cL_law 240 = .ok (.iadd, 1) := by decide +kernel
theorem dL_law_241 : decode cL_law 241 = .ok (.iaload, 1) := by decide +kernel
theorem dL_law_242 : decode cL_law 242 = .ok (.aload_n 0, 1) := by decide +kernel
theorem dL_law_243 : decode cL_law 243 = .ok (.iload_n 3, 1) := by decide +kernel
theorem dL_law_244 : decode cL_law 244 = .ok (.iconst 4, 1) := by decide +kernel
theorem dL_law_245 : decode cL_law 245 = .ok (.iadd, 1) := by decide +kernel
theorem dL_law_246 : decode cL_law 246 = .ok (.iaload, 1) := by decide +kernel
theorem dL_law_247 : decode cL_law 247 = .ok (.invokevirtual 26, 3) := by decide +kernel
theorem dL_law_250 : decode cL_law 250 = .ok (.if_icmp .eq 487, 3) := by decide +kernel
theorem dL_law_253 : decode cL_law 253 = .ok (.iconst 0, 1) := by decide +kernel
theorem dL_law_254 : decode cL_law 254 = .ok (.ireturn, 1) := by decide +kernel
theorem dL_law_255 : decode cL_law 255 = .ok (.aload_n 1, 1) := by decide +kernel
theorem dL_law_256 : decode cL_law 256 = .ok (.aload_n 0, 1) := by decide +kernel
theorem dL_law_257 : decode cL_law 257 = .ok (.iload_n 3, 1) := by decide +kernel
theorem dL_law_258 : decode cL_law 258 = .ok (.iconst 1, 1) := by decide +kernel
theorem dL_law_259 : decode cL_law 259 = .ok (.iadd, 1) := by decide +kernel
theorem dL_law_260 : decode cL_law 260 = .ok (.iaload, 1) := by decide +kernel
theorem dL_law_261 : decode cL_law 261 = .ok (.aload_n 0, 1) := by decide +kernel
theorem dL_law_262 : decode cL_law 262 = .ok (.iload_n 3, 1) := by decide +kernel
theorem dL_law_263 : decode cL_law 263 = .ok (.iconst 2, 1) := by decide +kernel
theorem dL_law_264 : decode cL_law 264 = .ok (.iadd, 1) := by decide +kernel
theorem dL_law_265 : decode cL_law 265 = .ok (.iaload, 1) := by decide +kernel
theorem dL_law_266 : decode cL_law 266 = .ok (.aload_n 0, 1) := by decide +kernel
theorem dL_law_267 : decode cL_law 267 = .ok (.iload_n 3, 1) := by decide +kernel
theorem dL_law_268 : decode cL_law 268 = .ok (.iconst 3, 1) := by decide +kernel
theorem dL_law_269 : decode cL_law 269 = .ok (.iadd, 1) := by decide +kernel
theorem dL_law_270 : decode cL_law 270 = .ok (.iaload, 1) := by decide +kernel
theorem dL_law_271 : decode cL_law 271 = .ok (.invokevirtual 27, 3) := by decide +kernel
theorem dL_law_274 : decode cL_law 274 = .ok (.aload_n 2, 1) := by decide +kernel
theorem dL_law_275 : decode cL_law 275 = .ok (.aload_n 0, 1) := by decide +kernel
theorem dL_law_276 : decode cL_law 276 = .ok (.iload_n 3, 1) := by decide +kernel
theorem dL_law_277 : decode cL_law 277 = .ok (.iconst 1, 1) := by decide +kernel
theorem dL_law_278 : decode cL_law 278 = .ok (.iadd, 1) := by decide +kernel
theorem dL_law_279 : decode cL_law 279 = .ok (.iaload, 1) := by decide +kernel
theorem dL_law_280 : decode cL_law 280 = .ok (.aload_n 0, 1) := by decide +kernel
theorem dL_law_281 : decode cL_law 281 = .ok (.iload_n 3, 1) := by decide +kernel
theorem dL_law_282 : decode cL_law 282 = .ok (.iconst 2, 1) := by decide +kernel
theorem dL_law_283 : decode cL_law 283 = .ok (.iadd, 1) := by decide +kernel
theorem dL_law_284 : decode cL_law 284 = .ok (.iaload, 1) := by decide +kernel
theorem dL_law_285 : decode cL_law 285 = .ok (.aload_n 0, 1) := by decide +kernel
theorem dL_law_286 : decode cL_law 286 = .ok (.iload_n 3, 1) := by decide +kernel
theorem dL_law_287 : decode cL_law 287 = .ok (.iconst 3, 1) := by decide +kernel
theorem dL_law_288 : decode cL_law 288 = .ok (.iadd, 1) := by decide +kernel
theorem dL_law_289 : decode cL_law 289 = .ok (.iaload, 1) := by decide +kernel
theorem dL_law_290 : decode cL_law 290 = .ok (.invokevirtual 31, 3) := by decide +kernel
theorem dL_law_293 : decode cL_law 293 = .ok (.if_icmp .eq 444, 3) := by decide +kernel
theorem dL_law_296 : decode cL_law 296 = .ok (.iconst 0, 1) := by decide +kernel
theorem dL_law_297 : decode cL_law 297 = .ok (.ireturn, 1) := by decide +kernel
theorem dL_law_298 : decode cL_law 298 = .ok (.aload_n 1, 1) := by decide +kernel
theorem dL_law_299 : decode cL_law 299 = .ok (.aload_n 0, 1) := by decide +kernel
theorem dL_law_300 : decode cL_law 300 = .ok (.iload_n 3, 1) := by decide +kernel
theorem dL_law_301 : decode cL_law 301 = .ok (.iconst 1, 1) := by decide +kernel
theorem dL_law_302 : decode cL_law 302 = .ok (.iadd, 1) := by decide +kernel
theorem dL_law_303 : decode cL_law 303 = .ok (.iaload, 1) := by decide +kernel
theorem dL_law_304 : decode cL_law 304 = .ok (.aload_n 0, 1) := by decide +kernel
theorem dL_law_305 : decode cL_law 305 = .ok (.iload_n 3, 1) := by decide +kernel
theorem dL_law_306 : decode cL_law 306 = .ok (.iconst 2, 1) := by decide +kernel
theorem dL_law_307 : decode cL_law 307 = .ok (.iadd, 1) := by decide +kernel
theorem dL_law_308 : decode cL_law 308 = .ok (.iaload, 1) := by decide +kernel
theorem dL_law_309 : decode cL_law 309 = .ok (.aload_n 0, 1) := by decide +kernel
theorem dL_law_310 : decode cL_law 310 = .ok (.iload_n 3, 1) := by decide +kernel
theorem dL_law_311 : decode cL_law 311 = .ok (.iconst 3, 1) := by decide +kernel
theorem dL_law_312 : decode cL_law 312 = .ok (.iadd, 1) := by decide +kernel
theorem dL_law_313 : decode cL_law 313 = .ok (.iaload, 1) := by decide +kernel
theorem dL_law_314 : decode cL_law 314 = .ok (.invokevirtual 32, 3) := by decide +kernel
theorem dL_law_317 : decode cL_law 317 = .ok (.aload_n 2, 1) := by decide +kernel
theorem dL_law_318 : decode cL_law 318 = .ok (.aload_n 0, 1) := by decide +kernel
theorem dL_law_319 : decode cL_law 319 = .ok (.iload_n 3, 1) := by decide +kernel
theorem dL_law_320 : decode cL_law 320 = .ok (.iconst 1, 1) := by decide +kernel
theorem dL_law_321 : decode cL_law 321 = .ok (.iadd, 1) := by decide +kernel
theorem dL_law_322 : decode cL_law 322 = .ok (.iaload, 1) := by decide +kernel
theorem dL_law_323 : decode cL_law 323 = .ok (.aload_n 0, 1) := by decide +kernel
theorem dL_law_324 : decode cL_law 324 = .ok (.iload_n 3, 1) := by decide +kernel
theorem dL_law_325 : decode cL_law 325 = .ok (.iconst 2, 1) := by decide +kernel
theorem dL_law_326 : decode cL_law 326 = .ok (.iadd, 1) := by decide +kernel
theorem dL_law_327 : decode cL_law 327 = .ok (.iaload, 1) := by decide +kernel
theorem dL_law_328 : decode cL_law 328 = .ok (.aload_n 0, 1) := by decide +kernel
theorem dL_law_329 : decode cL_law 329 = .ok (.iload_n 3, 1) := by decide +kernel
theorem dL_law_330 : decode cL_law 330 = .ok (.iconst 3, 1) := by decide +kernel
theorem dL_law_331 : decode cL_law 331 = .ok (.iadd, 1) := by decide +kernel
theorem dL_law_332 : decode cL_law 332 = .ok (.iaload, 1) := by decide +kernel
theorem dL_law_333 : decode cL_law 333 = .ok (.invokevirtual 35, 3) := by decide +kernel
theorem dL_law_336 : decode cL_law 336 = .ok (.if_icmp .eq 401, 3) := by decide +kernel
theorem dL_law_339 : decode cL_law 339 = .ok (.iconst 0, 1) := by decide +kernel
theorem dL_law_340 : decode cL_law 340 = .ok (.ireturn, 1) := by decide +kernel
theorem dL_law_341 : decode cL_law 341 = .ok (.aload_n 1, 1) := by decide +kernel
theorem dL_law_342 : decode cL_law 342 = .ok (.invokevirtual 36, 3) := by decide +kernel
theorem dL_law_345 : decode cL_law 345 = .ok (.aload_n 2, 1) := by decide +kernel
theorem dL_law_346 : decode cL_law 346 = .ok (.invokevirtual 40, 3) := by decide +kernel
theorem dL_law_349 : decode cL_law 349 = .ok (.if_icmp .eq 388, 3) := by decide +kernel
theorem dL_law_352 : decode cL_law 352 = .ok (.iconst 0, 1) := by decide +kernel
theorem dL_law_353 : decode cL_law 353 = .ok (.ireturn, 1) := by decide +kernel
theorem dL_law_354 : decode cL_law 354 = .ok (.aload_n 1, 1) := by decide +kernel
theorem dL_law_355 : decode cL_law 355 = .ok (.aload_n 0, 1) := by decide +kernel
theorem dL_law_356 : decode cL_law 356 = .ok (.iload_n 3, 1) := by decide +kernel
theorem dL_law_357 : decode cL_law 357 = .ok (.iconst 1, 1) := by decide +kernel
theorem dL_law_358 : decode cL_law 358 = .ok (.iadd, 1) := by decide +kernel
theorem dL_law_359 : decode cL_law 359 = .ok (.iaload, 1) := by decide +kernel
theorem dL_law_360 : decode cL_law 360 = .ok (.aload_n 0, 1) := by decide +kernel
theorem dL_law_361 : decode cL_law 361 = .ok (.iload_n 3, 1) := by decide +kernel
theorem dL_law_362 : decode cL_law 362 = .ok (.iconst 2, 1) := by decide +kernel
theorem dL_law_363 : decode cL_law 363 = .ok (.iadd, 1) := by decide +kernel
theorem dL_law_364 : decode cL_law 364 = .ok (.iaload, 1) := by decide +kernel
theorem dL_law_365 : decode cL_law 365 = .ok (.aload_n 0, 1) := by decide +kernel
theorem dL_law_366 : decode cL_law 366 = .ok (.iload_n 3, 1) := by decide +kernel
theorem dL_law_367 : decode cL_law 367 = .ok (.iconst 3, 1) := by decide +kernel
theorem dL_law_368 : decode cL_law 368 = .ok (.iadd, 1) := by decide +kernel
theorem dL_law_369 : decode cL_law 369 = .ok (.iaload, 1) := by decide +kernel
theorem dL_law_370 : decode cL_law 370 = .ok (.invokevirtual 41, 3) := by decide +kernel
theorem dL_law_373 : decode cL_law 373 = .ok (.aload_n 2, 1) := by decide +kernel
theorem dL_law_374 : decode cL_law 374 = .ok (.aload_n 0, 1) := by decide +kernel
theorem dL_law_375 : decode cL_law 375 = .ok (.iload_n 3, 1) := by decide +kernel
theorem dL_law_376 : decode cL_law 376 = .ok (.iconst 1, 1) := by decide +kernel
theorem dL_law_377 : decode cL_law 377 = .ok (.iadd, 1) := by decide +kernel
theorem dL_law_378 : decode cL_law 378 = .ok (.iaload, 1) := by decide +kernel
theorem dL_law_379 : decode cL_law 379 = .ok (.aload_n 0, 1) := by decide +kernel
theorem dL_law_380 : decode cL_law 380 = .ok (.iload_n 3, 1) := by decide +kernel
theorem dL_law_381 : decode cL_law 381 = .ok (.iconst 2, 1) := by decide +kernel
theorem dL_law_382 : decode cL_law 382 = .ok (.iadd, 1) := by decide +kernel
theorem dL_law_383 : decode cL_law 383 = .ok (.iaload, 1) := by decide +kernel
theorem dL_law_384 : decode cL_law 384 = .ok (.aload_n 0, 1) := by decide +kernel
theorem dL_law_385 : decode cL_law 385 = .ok (.iload_n 3, 1) := by decide +kernel
theorem dL_law_386 : decode cL_law 386 = .ok (.iconst 3, 1) := by decide +kernel
theorem dL_law_387 : decode cL_law 387 = .ok (.iadd, 1) := by decide +kernel
theorem dL_law_388 : decode cL_law 388 = .ok (.iaload, 1) := by decide +kernel
theorem dL_law_389 : decode cL_law 389 = .ok (.invokevirtual 44, 3) := by decide +kernel
theorem dL_law_392 : decode cL_law 392 = .ok (.if_icmp .eq 345, 3) := by decide +kernel
theorem dL_law_395 : decode cL_law 395 = .ok (.iconst 0, 1) := by decide +kernel
theorem dL_law_396 : decode cL_law 396 = .ok (.ireturn, 1) := by decide +kernel
theorem dL_law_397 : decode cL_law 397 = .ok (.aload_n 1, 1) := by decide +kernel
theorem dL_law_398 : decode cL_law 398 = .ok (.aload_n 0, 1) := by decide +kernel
theorem dL_law_399 : decode cL_law 399 = .ok (.iload_n 3, 1) := by decide +kernel
theorem dL_law_400 : decode cL_law 400 = .ok (.iconst 1, 1) := by decide +kernel
theorem dL_law_401 : decode cL_law 401 = .ok (.iadd, 1) := by decide +kernel
theorem dL_law_402 : decode cL_law 402 = .ok (.iaload, 1) := by decide +kernel
theorem dL_law_403 : decode cL_law 403 = .ok (.aload_n 0, 1) := by decide +kernel
theorem dL_law_404 : decode cL_law 404 = .ok (.iload_n 3, 1) := by decide +kernel
theorem dL_law_405 : decode cL_law 405 = .ok (.iconst 2, 1) := by decide +kernel
theorem dL_law_406 : decode cL_law 406 = .ok (.iadd, 1) := by decide +kernel
theorem dL_law_407 : decode cL_law 407 = .ok (.iaload, 1) := by decide +kernel
theorem dL_law_408 : decode cL_law 408 = .ok (.invokevirtual 45, 3) := by decide +kernel
theorem dL_law_411 : decode cL_law 411 = .ok (.aload_n 2, 1) := by decide +kernel
theorem dL_law_412 : decode cL_law 412 = .ok (.aload_n 0, 1) := by decide +kernel
theorem dL_law_413 : decode cL_law 413 = .ok (.iload_n 3, 1) := by decide +kernel
theorem dL_law_414 : decode cL_law 414 = .ok (.iconst 1, 1) := by decide +kernel
theorem dL_law_415 : decode cL_law 415 = .ok (.iadd, 1) := by decide +kernel
theorem dL_law_416 : decode cL_law 416 = .ok (.iaload, 1) := by decide +kernel
theorem dL_law_417 : decode cL_law 417 = .ok (.aload_n 0, 1) := by decide +kernel
theorem dL_law_418 : decode cL_law 418 = .ok (.iload_n 3, 1) := by decide +kernel
theorem dL_law_419 : decode cL_law 419 = .ok (.iconst 2, 1) := by decide +kernel
theorem dL_law_420 : decode cL_law 420 = .ok (.iadd, 1) := by decide +kernel
theorem dL_law_421 : decode cL_law 421 = .ok (.iaload, 1) := by decide +kernel
theorem dL_law_422 : decode cL_law 422 = .ok (.invokevirtual 48, 3) := by decide +kernel
theorem dL_law_425 : decode cL_law 425 = .ok (.if_icmp .eq 312, 3) := by decide +kernel
theorem dL_law_428 : decode cL_law 428 = .ok (.iconst 0, 1) := by decide +kernel
theorem dL_law_429 : decode cL_law 429 = .ok (.ireturn, 1) := by decide +kernel
theorem dL_law_430 : decode cL_law 430 = .ok (.aload_n 1, 1) := by decide +kernel
theorem dL_law_431 : decode cL_law 431 = .ok (.aload_n 0, 1) := by decide +kernel
theorem dL_law_432 : decode cL_law 432 = .ok (.iload_n 3, 1) := by decide +kernel
theorem dL_law_433 : decode cL_law 433 = .ok (.iconst 1, 1) := by decide +kernel
theorem dL_law_434 : decode cL_law 434 = .ok (.iadd, 1) := by decide +kernel
theorem dL_law_435 : decode cL_law 435 = .ok (.iaload, 1) := by decide +kernel
theorem dL_law_436 : decode cL_law 436 = .ok (.aload_n 0, 1) := by decide +kernel
theorem dL_law_437 : decode cL_law 437 = .ok (.iload_n 3, 1) := by decide +kernel
theorem dL_law_438 : decode cL_law 438 = .ok (.iconst 2, 1) := by decide +kernel
theorem dL_law_439 : decode cL_law 439 = .ok (.iadd, 1) := by decide +kernel
theorem dL_law_440 : decode cL_law 440 = .ok (.iaload, 1) := by decide +kernel
theorem dL_law_441 : decode cL_law 441 = .ok (.invokevirtual 49, 3) := by decide +kernel
theorem dL_law_444 : decode cL_law 444 = .ok (.aload_n 2, 1) := by decide +kernel
theorem dL_law_445 : decode cL_law 445 = .ok (.aload_n 0, 1) := by decide +kernel
theorem dL_law_446 : decode cL_law 446 = .ok (.iload_n 3, 1) := by decide +kernel
theorem dL_law_447 : decode cL_law 447 = .ok (.iconst 1, 1) := by decide +kernel
theorem dL_law_448 : decode cL_law 448 = .ok (.iadd, 1) := by decide +kernel
theorem dL_law_449 : decode cL_law 449 = .ok (.iaload, 1) := by decide +kernel
theorem dL_law_450 : decode cL_law 450 = .ok (.aload_n 0, 1) := by decide +kernel
theorem dL_law_451 : decode cL_law 451 = .ok (.iload_n 3, 1) := by decide +kernel
theorem dL_law_452 : decode cL_law 452 = .ok (.iconst 2, 1) := by decide +kernel
theorem dL_law_453 : decode cL_law 453 = .ok (.iadd, 1) := by decide +kernel
theorem dL_law_454 : decode cL_law 454 = .ok (.iaload, 1) := by decide +kernel
theorem dL_law_455 : decode cL_law 455 = .ok (.invokevirtual 52, 3) := by decide +kernel
theorem dL_law_458 : decode cL_law 458 = .ok (.if_icmp .eq 279, 3) := by decide +kernel
theorem dL_law_461 : decode cL_law 461 = .ok (.iconst 0, 1) := by decide +kernel
theorem dL_law_462 : decode cL_law 462 = .ok (.ireturn, 1) := by decide +kernel
theorem dL_law_463 : decode cL_law 463 = .ok (.aload_n 1, 1) := by decide +kernel
theorem dL_law_464 : decode cL_law 464 = .ok (.aload_n 0, 1) := by decide +kernel
theorem dL_law_465 : decode cL_law 465 = .ok (.iload_n 3, 1) := by decide +kernel
theorem dL_law_466 : decode cL_law 466 = .ok (.iconst 1, 1) := by decide +kernel
theorem dL_law_467 : decode cL_law 467 = .ok (.iadd, 1) := by decide +kernel
theorem dL_law_468 : decode cL_law 468 = .ok (.iaload, 1) := by decide +kernel
theorem dL_law_469 : decode cL_law 469 = .ok (.aload_n 0, 1) := by decide +kernel
theorem dL_law_470 : decode cL_law 470 = .ok (.iload_n 3, 1) := by decide +kernel
theorem dL_law_471 : decode cL_law 471 = .ok (.iconst 2, 1) := by decide +kernel
theorem dL_law_472 : decode cL_law 472 = .ok (.iadd, 1) := by decide +kernel
theorem dL_law_473 : decode cL_law 473 = .ok (.iaload, 1) := by decide +kernel
theorem dL_law_474 : decode cL_law 474 = .ok (.invokevirtual 53, 3) := by decide +kernel
theorem dL_law_477 : decode cL_law 477 = .ok (.aload_n 2, 1) := by decide +kernel
theorem dL_law_478 : decode cL_law 478 = .ok (.aload_n 0, 1) := by decide +kernel
theorem dL_law_479 : decode cL_law 479 = .ok (.iload_n 3, 1) := by decide +kernel
theorem dL_law_480 : decode cL_law 480 = .ok (.iconst 1, 1) := by decide +kernel
theorem dL_law_481 : decode cL_law 481 = .ok (.iadd, 1) := by decide +kernel
theorem dL_law_482 : decode cL_law 482 = .ok (.iaload, 1) := by decide +kernel
theorem dL_law_483 : decode cL_law 483 = .ok (.aload_n 0, 1) := by decide +kernel
theorem dL_law_484 : decode cL_law 484 = .ok (.iload_n 3, 1) := by decide +kernel
theorem dL_law_485 : decode cL_law 485 = .ok (.iconst 2, 1) := by decide +kernel
theorem dL_law_486 : decode cL_law 486 = .ok (.iadd, 1) := by decide +kernel
theorem dL_law_487 : decode cL_law 487 = .ok (.iaload, 1) := by decide +kernel
theorem dL_law_488 : decode cL_law 488 = .ok (.invokevirtual 56, 3) := by decide +kernel
theorem dL_law_491 : decode cL_law 491 = .ok (.if_icmp .eq 246, 3) := by decide +kernel
theorem dL_law_494 : decode cL_law 494 = .ok (.iconst 0, 1) := by decide +kernel
theorem dL_law_495 : decode cL_law 495 = .ok (.ireturn, 1) := by decide +kernel
theorem dL_law_496 : decode cL_law 496 = .ok (.aload_n 1, 1) := by decide +kernel
theorem dL_law_497 : decode cL_law 497 = .ok (.aload_n 0, 1) := by decide +kernel
theorem dL_law_498 : decode cL_law 498 = .ok (.iload_n 3, 1) := by decide +kernel
theorem dL_law_499 : decode cL_law 499 = .ok (.iconst 1, 1) := by decide +kernel
theorem dL_law_500 : decode cL_law 500 = .ok (.iadd, 1) := by decide +kernel
theorem dL_law_501 : decode cL_law 501 = .ok (.iaload, 1) := by decide +kernel
theorem dL_law_502 : decode cL_law 502 = .ok (.aload_n 0, 1) := by decide +kernel
theorem dL_law_503 : decode cL_law 503 = .ok (.iload_n 3, 1) := by decide +kernel
theorem dL_law_504 : decode cL_law 504 = .ok (.iconst 2, 1) := by decide +kernel
theorem dL_law_505 : decode cL_law 505 = .ok (.iadd, 1) := by decide +kernel
theorem dL_law_506 : decode cL_law 506 = .ok (.iaload, 1) := by decide +kernel
theorem dL_law_507 : decode cL_law 507 = .ok (.invokevirtual 57, 3) := by decide +kernel
theorem dL_law_510 : decode cL_law 510 = .ok (.aload_n 2, 1) := by decide +kernel
theorem dL_law_511 : decode cL_law 511 = .ok (.aload_n 0, 1) := by decide +kernel
theorem dL_law_512 : decode cL_law 512 = .ok (.iload_n 3, 1) := by decide +kernel
theorem dL_law_513 : decode cL_law 513 = .ok (.iconst 1, 1) := by decide +kernel
theorem dL_law_514 : decode cL_law 514 = .ok (.iadd, 1) := by decide +kernel
theorem dL_law_515 : decode cL_law 515 = .ok (.iaload, 1) := by decide +kernel
theorem dL_law_516 : decode cL_law 516 = .ok (.aload_n 0, 1) := by decide +kernel
theorem dL_law_517 : decode cL_law 517 = .ok (.iload_n 3, 1) := by decide +kernel
theorem dL_law_518 : decode cL_law 518 = .ok (.iconst 2, 1) := by decide +kernel
theorem dL_law_519 : decode cL_law 519 = .ok (.iadd, 1) := by decide +kernel
theorem dL_law_520 : decode cL_law 520 = .ok (.iaload, 1) := by decide +kernel
theorem dL_law_521 : decode cL_law 521 = .ok (.invokevirtual 60, 3) := by decide +kernel
theorem dL_law_524 : decode cL_law 524 = .ok (.if_icmp .eq 213, 3) := by decide +kernel
theorem dL_law_527 : decode cL_law 527 = .ok (.iconst 0, 1) := by decide +kernel
theorem dL_law_528 : decode cL_law 528 = .ok (.ireturn, 1) := by decide +kernel
theorem dL_law_529 : decode cL_law 529 = .ok (.aload_n 1, 1) := by decide +kernel
theorem dL_law_530 : decode cL_law 530 = .ok (.aload_n 0, 1) := by decide +kernel
theorem dL_law_531 : decode cL_law 531 = .ok (.iload_n 3, 1) := by decide +kernel
theorem dL_law_532 : decode cL_law 532 = .ok (.iconst 1, 1) := by decide +kernel
theorem dL_law_533 : decode cL_law 533 = .ok (.iadd, 1) := by decide +kernel
theorem dL_law_534 : decode cL_law 534 = .ok (.iaload, 1) := by decide +kernel
theorem dL_law_535 : decode cL_law 535 = .ok (.aload_n 0, 1) := by decide +kernel
theorem dL_law_536 : decode cL_law 536 = .ok (.iload_n 3, 1) := by decide +kernel
theorem dL_law_537 : decode cL_law 537 = .ok (.iconst 2, 1) := by decide +kernel
theorem dL_law_538 : decode cL_law 538 = .ok (.iadd, 1) := by decide +kernel
theorem dL_law_539 : decode cL_law 539 = .ok (.iaload, 1) := by decide +kernel
theorem dL_law_540 : decode cL_law 540 = .ok (.invokevirtual 61, 3) := by decide +kernel
theorem dL_law_543 : decode cL_law 543 = .ok (.aload_n 2, 1) := by decide +kernel
theorem dL_law_544 : decode cL_law 544 = .ok (.aload_n 0, 1) := by decide +kernel
theorem dL_law_545 : decode cL_law 545 = .ok (.iload_n 3, 1) := by decide +kernel
theorem dL_law_546 : decode cL_law 546 = .ok (.iconst 1, 1) := by decide +kernel
theorem dL_law_547 : decode cL_law 547 = .ok (.iadd, 1) := by decide +kernel
theorem dL_law_548 : decode cL_law 548 = .ok (.iaload, 1) := by decide +kernel
theorem dL_law_549 : decode cL_law 549 = .ok (.aload_n 0, 1) := by decide +kernel
theorem dL_law_550 : decode cL_law 550 = .ok (.iload_n 3, 1) := by decide +kernel
theorem dL_law_551 : decode cL_law 551 = .ok (.iconst 2, 1) := by decide +kernel
theorem dL_law_552 : decode cL_law 552 = .ok (.iadd, 1) := by decide +kernel
theorem dL_law_553 : decode cL_law 553 = .ok (.iaload, 1) := by decide +kernel
theorem dL_law_554 : decode cL_law 554 = .ok (.invokevirtual 64, 3) := by decide +kernel
theorem dL_law_557 : decode cL_law 557 = .ok (.if_icmp .eq 180, 3) := by decide +kernel
theorem dL_law_560 : decode cL_law 560 = .ok (.iconst 0, 1) := by decide +kernel
theorem dL_law_561 : decode cL_law 561 = .ok (.ireturn, 1) := by decide +kernel
theorem dL_law_562 : decode cL_law 562 = .ok (.aload_n 1, 1) := by decide +kernel
theorem dL_law_563 : decode cL_law 563 = .ok (.aload_n 0, 1) := by decide +kernel
theorem dL_law_564 : decode cL_law 564 = .ok (.iload_n 3, 1) := by decide +kernel
theorem dL_law_565 : decode cL_law 565 = .ok (.iconst 1, 1) := by decide +kernel
theorem dL_law_566 : decode cL_law 566 = .ok (.iadd, 1) := by decide +kernel
theorem dL_law_567 : decode cL_law 567 = .ok (.iaload, 1) := by decide +kernel
theorem dL_law_568 : decode cL_law 568 = .ok (.aload_n 0, 1) := by decide +kernel
theorem dL_law_569 : decode cL_law 569 = .ok (.iload_n 3, 1) := by decide +kernel
theorem dL_law_570 : decode cL_law 570 = .ok (.iconst 2, 1) := by decide +kernel
theorem dL_law_571 : decode cL_law 571 = .ok (.iadd, 1) := by decide +kernel
theorem dL_law_572 : decode cL_law 572 = .ok (.iaload, 1) := by decide +kernel
theorem dL_law_573 : decode cL_law 573 = .ok (.aload_n 0, 1) := by decide +kernel
theorem dL_law_574 : decode cL_law 574 = .ok (.iload_n 3, 1) := by decide +kernel
theorem dL_law_575 : decode cL_law 575 = .ok (.iconst 3, 1) := by decide +kernel
theorem dL_law_576 : decode cL_law 576 = .ok (.iadd, 1) := by decide +kernel
theorem dL_law_577 : decode cL_law 577 = .ok (.iaload, 1) := by decide +kernel
theorem dL_law_578 : decode cL_law 578 = .ok (.aload_n 0, 1) := by decide +kernel
theorem dL_law_579 : decode cL_law 579 = .ok (.iload_n 3, 1) := by decide +kernel
theorem dL_law_580 : decode cL_law 580 = .ok (.iconst 4, 1) := by decide +kernel
theorem dL_law_581 : decode cL_law 581 = .ok (.iadd, 1) := by decide +kernel
theorem dL_law_582 : decode cL_law 582 = .ok (.iaload, 1) := by decide +kernel
theorem dL_law_583 : decode cL_law 583 = .ok (.invokevirtual 65, 3) := by decide +kernel
theorem dL_law_586 : decode cL_law 586 = .ok (.aload_n 2, 1) := by decide +kernel
theorem dL_law_587 : decode cL_law 587 = .ok (.aload_n 0, 1) := by decide +kernel
theorem dL_law_588 : decode cL_law 588 = .ok (.iload_n 3, 1) := by decide +kernel
theorem dL_law_589 : decode cL_law 589 = .ok (.iconst 1, 1) := by decide +kernel
theorem dL_law_590 : decode cL_law 590 = .ok (.iadd, 1) := by decide +kernel
theorem dL_law_591 : decode cL_law 591 = .ok (.iaload, 1) := by decide +kernel
theorem dL_law_592 : decode cL_law 592 = .ok (.aload_n 0, 1) := by decide +kernel
theorem dL_law_593 : decode cL_law 593 = .ok (.iload_n 3, 1) := by decide +kernel
theorem dL_law_594 : decode cL_law 594 = .ok (.iconst 2, 1) := by decide +kernel
theorem dL_law_595 : decode cL_law 595 = .ok (.iadd, 1) := by decide +kernel
theorem dL_law_596 : decode cL_law 596 = .ok (.iaload, 1) := by decide +kernel
theorem dL_law_597 : decode cL_law 597 = .ok (.aload_n 0, 1) := by decide +kernel
theorem dL_law_598 : decode cL_law 598 = .ok (.iload_n 3, 1) := by decide +kernel
theorem dL_law_599 : decode cL_law 599 = .ok (.iconst 3, 1) := by decide +kernel
theorem dL_law_600 : decode cL_law 600 = .ok (.iadd, 1) := by decide +kernel
theorem dL_law_601 : decode cL_law 601 = .ok (.iaload, 1) := by decide +kernel
theorem dL_law_602 : decode cL_law 602 = .ok (.aload_n 0, 1) := by decide +kernel
theorem dL_law_603 : decode cL_law 603 = .ok (.iload_n 3, 1) := by decide +kernel
theorem dL_law_604 : decode cL_law 604 = .ok (.iconst 4, 1) := by decide +kernel
theorem dL_law_605 : decode cL_law 605 = .ok (.iadd, 1) := by decide +kernel
theorem dL_law_606 : decode cL_law 606 = .ok (.iaload, 1) := by decide +kernel
theorem dL_law_607 : decode cL_law 607 = .ok (.invokevirtual 68, 3) := by decide +kernel
theorem dL_law_610 : decode cL_law 610 = .ok (.if_icmp .eq 127, 3) := by decide +kernel
theorem dL_law_613 : decode cL_law 613 = .ok (.iconst 0, 1) := by decide +kernel
theorem dL_law_614 : decode cL_law 614 = .ok (.ireturn, 1) := by decide +kernel
theorem dL_law_615 : decode cL_law 615 = .ok (.aload_n 1, 1) := by decide +kernel
theorem dL_law_616 : decode cL_law 616 = .ok (.aload_n 0, 1) := by decide +kernel
theorem dL_law_617 : decode cL_law 617 = .ok (.iload_n 3, 1) := by decide +kernel
theorem dL_law_618 : decode cL_law 618 = .ok (.iconst 1, 1) := by decide +kernel
theorem dL_law_619 : decode cL_law 619 = .ok (.iadd, 1) := by decide +kernel
theorem dL_law_620 : decode cL_law 620 = .ok (.iaload, 1) := by decide +kernel
theorem dL_law_621 : decode cL_law 621 = .ok (.aload_n 0, 1) := by decide +kernel
theorem dL_law_622 : decode cL_law 622 = .ok (.iload_n 3, 1) := by decide +kernel
theorem dL_law_623 : decode cL_law 623 = .ok (.iconst 2, 1) := by decide +kernel
theorem dL_law_624 : decode cL_law 624 = .ok (.iadd, 1) := by decide +kernel
theorem dL_law_625 : decode cL_law 625 = .ok (.iaload, 1) := by decide +kernel
theorem dL_law_626 : decode cL_law 626 = .ok (.aload_n 0, 1) := by decide +kernel
theorem dL_law_627 : decode cL_law 627 = .ok (.iload_n 3, 1) := by decide +kernel
theorem dL_law_628 : decode cL_law 628 = .ok (.iconst 3, 1) := by decide +kernel
theorem dL_law_629 : decode cL_law 629 = .ok (.iadd, 1) := by decide +kernel
theorem dL_law_630 : decode cL_law 630 = .ok (.iaload, 1) := by decide +kernel
theorem dL_law_631 : decode cL_law 631 = .ok (.aload_n 0, 1) := by decide +kernel
theorem dL_law_632 : decode cL_law 632 = .ok (.iload_n 3, 1) := by decide +kernel
theorem dL_law_633 : decode cL_law 633 = .ok (.iconst 4, 1) := by decide +kernel
theorem dL_law_634 : decode cL_law 634 = .ok (.iadd, 1) := by decide +kernel
theorem dL_law_635 : decode cL_law 635 = .ok (.iaload, 1) := by decide +kernel
theorem dL_law_636 : decode cL_law 636 = .ok (.invokevirtual 69, 3) := by decide +kernel
theorem dL_law_639 : decode cL_law 639 = .ok (.aload_n 2, 1) := by decide +kernel
theorem dL_law_640 : decode cL_law 640 = .ok (.aload_n 0, 1) := by decide +kernel
theorem dL_law_641 : decode cL_law 641 = .ok (.iload_n 3, 1) := by decide +kernel
theorem dL_law_642 : decode cL_law 642 = .ok (.iconst 1, 1) := by decide +kernel
theorem dL_law_643 : decode cL_law 643 = .ok (.iadd, 1) := by decide +kernel
theorem dL_law_644 : decode cL_law 644 = .ok (.iaload, 1) := by decide +kernel
theorem dL_law_645 : decode cL_law 645 = .ok (.aload_n 0, 1) := by decide +kernel
theorem dL_law_646 : decode cL_law 646 = .ok (.iload_n 3, 1) := by decide +kernel
theorem dL_law_647 : decode cL_law 647 = .ok (.iconst 2, 1) := by decide +kernel
theorem dL_law_648 : decode cL_law 648 = .ok (.iadd, 1) := by decide +kernel
theorem dL_law_649 : decode cL_law 649 = .ok (.iaload, 1) := by decide +kernel
theorem dL_law_650 : decode cL_law 650 = .ok (.aload_n 0, 1) := by decide +kernel
theorem dL_law_651 : decode cL_law 651 = .ok (.iload_n 3, 1) := by decide +kernel
theorem dL_law_652 : decode cL_law 652 = .ok (.iconst 3, 1) := by decide +kernel
theorem dL_law_653 : decode cL_law 653 = .ok (.iadd, 1) := by decide +kernel
theorem dL_law_654 : decode cL_law 654 = .ok (.iaload, 1) := by decide +kernel
theorem dL_law_655 : decode cL_law 655 = .ok (.aload_n 0, 1) := by decide +kernel
theorem dL_law_656 : decode cL_law 656 = .ok (.iload_n 3, 1) := by decide +kernel
theorem dL_law_657 : decode cL_law 657 = .ok (.iconst 4, 1) := by decide +kernel
theorem dL_law_658 : decode cL_law 658 = .ok (.iadd, 1) := by decide +kernel
theorem dL_law_659 : decode cL_law 659 = .ok (.iaload, 1) := by decide +kernel
theorem dL_law_660 : decode cL_law 660 = .ok (.invokevirtual 72, 3) := by decide +kernel
theorem dL_law_663 : decode cL_law 663 = .ok (.if_icmp .eq 74, 3) := by decide +kernel
theorem dL_law_666 : decode cL_law 666 = .ok (.iconst 0, 1) := by decide +kernel
theorem dL_law_667 : decode cL_law 667 = .ok (.ireturn, 1) := by decide +kernel
theorem dL_law_668 : decode cL_law 668 = .ok (.aload_n 1, 1) := by decide +kernel
theorem dL_law_669 : decode cL_law 669 = .ok (.aload_n 0, 1) := by decide +kernel
theorem dL_law_670 : decode cL_law 670 = .ok (.iload_n 3, 1) := by decide +kernel
theorem dL_law_671 : decode cL_law 671 = .ok (.iconst 1, 1) := by decide +kernel
theorem dL_law_672 : decode cL_law 672 = .ok (.iadd, 1) := by decide +kernel
theorem dL_law_673 : decode cL_law 673 = .ok (.iaload, 1) := by decide +kernel
theorem dL_law_674 : decode cL_law 674 = .ok (.invokevirtual 73, 3) := by decide +kernel
theorem dL_law_677 : decode cL_law 677 = .ok (.aload_n 2, 1) := by decide +kernel
theorem dL_law_678 : decode cL_law 678 = .ok (.aload_n 0, 1) := by decide +kernel
theorem dL_law_679 : decode cL_law 679 = .ok (.iload_n 3, 1) := by decide +kernel
theorem dL_law_680 : decode cL_law 680 = .ok (.iconst 1, 1) := by decide +kernel
theorem dL_law_681 : decode cL_law 681 = .ok (.iadd, 1) := by decide +kernel
theorem dL_law_682 : decode cL_law 682 = .ok (.iaload, 1) := by decide +kernel
theorem dL_law_683 : decode cL_law 683 = .ok (.invokevirtual 77, 3) := by decide +kernel
theorem dL_law_686 : decode cL_law 686 = .ok (.if_icmp .eq 51, 3) := by decide +kernel
theorem dL_law_689 : decode cL_law 689 = .ok (.iconst 0, 1) := by decide +kernel
theorem dL_law_690 : decode cL_law 690 = .ok (.ireturn, 1) := by decide +kernel
theorem dL_law_691 : decode cL_law 691 = .ok (.aload_n 1, 1) := by decide +kernel
theorem dL_law_692 : decode cL_law 692 = .ok (.aload_n 0, 1) := by decide +kernel
theorem dL_law_693 : decode cL_law 693 = .ok (.iload_n 3, 1) := by decide +kernel
theorem dL_law_694 : decode cL_law 694 = .ok (.iconst 1, 1) := by decide +kernel
theorem dL_law_695 : decode cL_law 695 = .ok (.iadd, 1) := by decide +kernel
theorem dL_law_696 : decode cL_law 696 = .ok (.iaload, 1) := by decide +kernel
theorem dL_law_697 : decode cL_law 697 = .ok (.invokevirtual 78, 3) := by decide +kernel
theorem dL_law_700 : decode cL_law 700 = .ok (.aload_n 2, 1) := by decide +kernel
theorem dL_law_701 : decode cL_law 701 = .ok (.aload_n 0, 1) := by decide +kernel
theorem dL_law_702 : decode cL_law 702 = .ok (.iload_n 3, 1) := by decide +kernel
theorem dL_law_703 : decode cL_law 703 = .ok (.iconst 1, 1) := by decide +kernel
theorem dL_law_704 : decode cL_law 704 = .ok (.iadd, 1) := by decide +kernel
theorem dL_law_705 : decode cL_law 705 = .ok (.iaload, 1) := by decide +kernel
theorem dL_law_706 : decode cL_law 706 = .ok (.invokevirtual 81, 3) := by decide +kernel
theorem dL_law_709 : decode cL_law 709 = .ok (.if_icmp .eq 28, 3) := by decide +kernel
theorem dL_law_712 : decode cL_law 712 = .ok (.iconst 0, 1) := by decide +kernel
theorem dL_law_713 : decode cL_law 713 = .ok (.ireturn, 1) := by decide +kernel
theorem dL_law_714 : decode cL_law 714 = .ok (.aload_n 1, 1) := by decide +kernel
theorem dL_law_715 : decode cL_law 715 = .ok (.aload_n 0, 1) := by decide +kernel
theorem dL_law_716 : decode cL_law 716 = .ok (.iload_n 3, 1) := by decide +kernel
theorem dL_law_717 : decode cL_law 717 = .ok (.iconst 1, 1) := by decide +kernel
theorem dL_law_718 : decode cL_law 718 = .ok (.iadd, 1) := by decide +kernel
theorem dL_law_719 : decode cL_law 719 = .ok (.iaload, 1) := by decide +kernel
theorem dL_law_720 : decode cL_law 720 = .ok (.invokevirtual 82, 3) := by decide +kernel
theorem dL_law_723 : decode cL_law 723 = .ok (.aload_n 2, 1) := by decide +kernel
theorem dL_law_724 : decode cL_law 724 = .ok (.aload_n 0, 1) := by decide +kernel
theorem dL_law_725 : decode cL_law 725 = .ok (.iload_n 3, 1) := by decide +kernel
theorem dL_law_726 : decode cL_law 726 = .ok (.iconst 1, 1) := by decide +kernel
theorem dL_law_727 : decode cL_law 727 = .ok (.iadd, 1) := by decide +kernel
theorem dL_law_728 : decode cL_law 728 = .ok (.iaload, 1) := by decide +kernel
theorem dL_law_729 : decode cL_law 729 = .ok (.invokevirtual 85, 3) := by decide +kernel
theorem dL_law_732 : decode cL_law 732 = .ok (.if_icmp .eq 5, 3) := by decide +kernel
theorem dL_law_735 : decode cL_law 735 = .ok (.iconst 0, 1) := by decide +kernel
theorem dL_law_736 : decode cL_law 736 = .ok (.ireturn, 1) := by decide +kernel
theorem dL_law_737 : decode cL_law 737 = .ok (.iinc 3 5, 3) := by decide +kernel
theorem dL_law_740 : decode cL_law 740 = .ok (.goto (-722), 3) := by decide +kernel
theorem dL_law_743 : decode cL_law 743 = .ok (.iconst 1, 1) := by decide +kernel
theorem dL_law_744 : decode cL_law 744 = .ok (.ireturn, 1) := by decide +kernel
end
section
/-! ===== the numbers: a machine int is a whole number in range ===== -/
abbrev fb_St : Type := Nat → Int → Int
abbrev fb_in (x : Int) : Prop := -2147483648 ≤ x ∧ x ≤ 2147483647
abbrev fb_B (x : Int) : Prop := x = 0 ∨ x = 1
def fb_I (x : Int) : Int32 := Int32.ofInt x
abbrev fb_G : Type := va_G × (Nat → Nat) × ClassId × ClassId × ClassId
abbrev fb_ad (G : fb_G) (k : Nat) : Nat := G.2.1 k
theorem fb_I_toInt {x : Int} (h : fb_in x) : (fb_I x).toInt = x := Int32.toInt_ofInt_of_le (by have := h.1; omega) (by have := h.2; omega)
theorem fb_of (x : Int32) : fb_I x.toInt = x := Int32.ofInt_toInt x
theorem fb_in_toInt (x : Int32) : fb_in x.toInt := ⟨by have := Int32.le_toInt x; omega, by have := Int32.toInt_lt x; omega⟩
theorem fb_I_add (a b : Int) : fb_I a + fb_I b = fb_I (a + b) := by
  apply Int32.toBitVec_inj.mp
  simp [fb_I, BitVec.ofInt_add]
theorem fb_I_mul (a b : Int) : fb_I a * fb_I b = fb_I (a * b) := by
  apply Int32.toBitVec_inj.mp
  simp [fb_I, BitVec.ofInt_mul]
theorem fb_I_neg (a : Int) : - fb_I a = fb_I (- a) := Int32.neg_ofInt
theorem fb_I_sub (a b : Int) : fb_I a - fb_I b = fb_I (a - b) := by
  rw [Int32.sub_eq_add_neg, fb_I_neg, fb_I_add, Int.sub_eq_add_neg]
theorem fb_I_lt {a b : Int} (ha : fb_in a) (hb : fb_in b) : fb_I a < fb_I b ↔ a < b := by
  rw [Int32.lt_iff_toInt_lt, fb_I_toInt ha, fb_I_toInt hb]
theorem fb_I_le {a b : Int} (ha : fb_in a) (hb : fb_in b) : fb_I a ≤ fb_I b ↔ a ≤ b := by
  rw [Int32.le_iff_toInt_le, fb_I_toInt ha, fb_I_toInt hb]
theorem fb_I_eq {a b : Int} (ha : fb_in a) (hb : fb_in b) : fb_I a = fb_I b ↔ a = b := by
  rw [← Int32.toInt_inj, fb_I_toInt ha, fb_I_toInt hb]
theorem fb_I_nat {a : Int} (h0 : 0 ≤ a) (h : a < 2147483648) : (fb_I a).toNatClampNeg = a.toNat :=
  Int32.toNatClampNeg_ofInt_of_le (by omega) (by omega)
theorem fb_I_ix {a : Int} {n : Nat} (h0 : 0 ≤ a) (h : a < n) (hn : n < 2147483648) : vp_in (fb_I a) n := by
  rw [vp_in_iff, fb_I_toInt ⟨by omega, by omega⟩]
  exact ⟨h0, h⟩
theorem fb_I_0 : (0 : Int32) = fb_I 0 := by decide
theorem fb_in0 : fb_in 0 := by decide
theorem fb_I_ofNat (n : Nat) : Int32.ofNat n = fb_I n := (Int32.ofInt_eq_ofNat).symm
theorem fb_I_div {a b : Int} (ha : 0 ≤ a) (hb : 0 < b) (ia : fb_in a) (ib : fb_in b) : fb_I a / fb_I b = fb_I (a / b) := by
  obtain ⟨n, rfl⟩ := Int.eq_ofNat_of_zero_le ha
  obtain ⟨d, rfl⟩ := Int.eq_ofNat_of_zero_le (Int.le_of_lt hb)
  have h1 := pk_div (a := n) (d := d) (by omega) (by omega) (by omega)
  rw [← fb_I_ofNat, ← fb_I_ofNat]
  refine h1.trans ?_
  rw [show ((n : Int) / (d : Int)) = ((n / d : Nat) : Int) from rfl]
  exact fb_I_ofNat (n / d)
theorem fb_I_rem {a b : Int} (ha : 0 ≤ a) (hb : 0 < b) (ia : fb_in a) (ib : fb_in b) : fb_I a - fb_I a / fb_I b * fb_I b = fb_I (a % b) := by
  rw [fb_I_div ha hb ia ib, fb_I_mul, fb_I_sub]
  congr 1
  have := Int.emod_add_mul_ediv a b
  rw [Int.mul_comm] at this
  omega
/-! ===== the cells ===== -/
def fb_arI (G : fb_G) (n : Nat) : (Int → Int) → va_E := fun r => .inl (G.2.2.1, n, .inl fun j => fb_I (r (j : Int)))
def fb_arZ (G : fb_G) (n : Nat) : (Int → Int) → va_E := fun r => .inl (G.2.2.2.1, n, .inl fun j => fb_I (r (j : Int)))
def fb_arQ (G : fb_G) : (Int → Int) → va_E := fun _ => .inl (G.2.2.2.2, 2, .inr (.inr (.inr (.inr fun j => some (fb_ad G (if j = 0 then 42 else 45))))))
def fb_fv (G : fb_G) (r : Int → Int) (j : Nat) (o : Option Nat) : Value := match o with
  | some k => .ref (fb_ad G k)
  | none => .int (fb_I (r (j : Int)))
def fb_ob (G : fb_G) (ci : Nat) (fs : List (Option Nat)) : (Int → Int) → va_E := fun r => .inr (ci, fs.mapIdx fun j o => fb_fv G r j o)
def fb_pour (p : Nat) : List (Option Nat) := [none, some (p+1), some (p+2), some (p+3), some (p+4), some (p+5), some (p+6), some (p+7), some (p+8), some (p+9), some (p+10), some (p+11)]
def fb_img (g : Nat) : List (Option Nat) := [none, none, none, none, none, some (g+1), some (g+2)]
def fb_cl (G : fb_G) : List ((Int → Int) → va_E) := [
  fb_ob G 6 [some 1, some 5, some 8, some 17, some 29, some 41, none, none, none, none, none],
  fb_ob G 5 [none, none, none, some 2, some 3, some 4], fb_arI G 144, fb_arI G 144, fb_arI G 576,
  fb_ob G 4 [none, some 6, some 7], fb_arI G 144, fb_arI G 144,
  fb_ob G 0 [some 9, some 10, some 11, some 12, some 13], fb_arI G 144, fb_arI G 144, fb_arI G 144, fb_arI G 100,
  fb_ob G 2 [some 14, some 15, some 16, none], fb_arI G 100, fb_arI G 100, fb_arI G 144,
  fb_ob G 3 (fb_pour 17), fb_arI G 144, fb_arI G 100, fb_arI G 100, fb_arI G 100, fb_arI G 100, fb_arI G 100, fb_arI G 99, fb_arI G 99, fb_arI G 99, fb_arI G 99, fb_arI G 144,
  fb_ob G 3 (fb_pour 29), fb_arI G 144, fb_arI G 100, fb_arI G 100, fb_arI G 100, fb_arI G 100, fb_arI G 100, fb_arI G 99, fb_arI G 99, fb_arI G 99, fb_arI G 99, fb_arI G 144,
  fb_arQ G,
  fb_ob G 1 (fb_img 42), fb_arI G 144, fb_arI G 144,
  fb_ob G 1 (fb_img 45), fb_arI G 144, fb_arI G 144,
  fb_ob G 7 [some 49, some 50, some 51, some 52, some 53, some 54, some 55, some 56, some 57, some 58, some 59, none, some 60, some 61, some 62, some 63, some 64, none, some 65, some 66],
  fb_arI G 292, fb_arI G 584, fb_arZ G 2, fb_arI G 144, fb_arI G 144, fb_arZ G 144, fb_arI G 144, fb_arI G 144, fb_arI G 144, fb_arI G 144, fb_arZ G 144, fb_arI G 144, fb_arI G 100, fb_arI G 100, fb_arI G 100, fb_arI G 100, fb_arI G 100, fb_arI G 144]
def fb_W (G : fb_G) (σ : fb_St) : va_W := (fb_cl G).mapIdx fun k f => (fb_ad G k, f (σ k))
def fb_row (σ : fb_St) (k : Nat) (r : Int → Int) : fb_St := fun k' => if k' = k then r else σ k'
def fb_up (σ : fb_St) (k : Nat) (i v : Int) : fb_St := fb_row σ k (fun j => if j = i then v else σ k j)
def fb_fill (σ : fb_St) (k : Nat) (v : Int) : fb_St := fb_row σ k (fun _ => v)
def fb_cp (σ : fb_St) (a b : Nat) (n : Int) : fb_St := fb_row σ b (fun j => if 0 ≤ j ∧ j < n then σ a j else σ b j)
theorem fb_W_at {G : fb_G} {σ : fb_St} {k : Nat} {f : (Int → Int) → va_E} (h : (fb_cl G)[k]? = some f) : (fb_W G σ)[k]? = some (fb_ad G k, f (σ k)) := by
  simp [fb_W, List.getElem?_mapIdx, h]
theorem fb_W_len {G : fb_G} {σ : fb_St} : (fb_W G σ).length = 67 := by
  simp [fb_W, fb_cl]
theorem fb_W_addr {G : fb_G} {σ : fb_St} {k : Nat} {q : Nat × va_E} (h : (fb_W G σ)[k]? = some q) : k < 67 ∧ q.1 = fb_ad G k := by
  have h1 : k < (fb_W G σ).length := (List.getElem?_eq_some_iff.mp h).1
  rw [fb_W_len] at h1
  refine ⟨h1, ?_⟩
  simp only [fb_W, List.getElem?_mapIdx] at h
  cases hc : (fb_cl G)[k]? with
  | none => rw [hc] at h; cases h
  | some f => rw [hc] at h; cases h; rfl
theorem fb_W_set {G : fb_G} {σ : fb_St} {k : Nat} {f : (Int → Int) → va_E} (h : (fb_cl G)[k]? = some f) (r : Int → Int) : (fb_W G σ).set k (fb_ad G k, f r) = fb_W G (fb_row σ k r) := by
  have hlt : k < (fb_W G σ).length := by
    have := (List.getElem?_eq_some_iff.mp (fb_W_at (σ := σ) h)).1
    exact this
  apply List.ext_getElem?
  intro j
  rw [List.getElem?_set]
  by_cases hj : k = j
  · subst hj
    rw [if_pos rfl, if_pos hlt, fb_W_at h]
    simp [fb_row]
  · rw [if_neg hj]
    simp only [fb_W, List.getElem?_mapIdx]
    cases (fb_cl G)[j]? with
    | none => rfl
    | some f' => simp [fb_row, Ne.symm hj]
theorem fb_row_in {σ : fb_St} (h : ∀ k i, fb_in (σ k i)) {k : Nat} {r : Int → Int} (hr : ∀ i, fb_in (r i)) : ∀ k' i, fb_in (fb_row σ k r k' i) := by
  intro k' i
  unfold fb_row
  split
  · exact hr i
  · exact h k' i
theorem fb_up_in {σ : fb_St} (h : ∀ k i, fb_in (σ k i)) {k : Nat} {i v : Int} (hv : fb_in v) : ∀ k' i', fb_in (fb_up σ k i v k' i') :=
  fb_row_in h (fun j => by split; exact hv; exact h k j)
/-! ===== the words ===== -/
def fb_tb : List Cond := lw_tbl.filter goodWord
theorem fb_mem {w : Cond} (i : Nat) (h : lw_tbl[i]? = some w) (hg : goodWord w = true) : w ∈ fb_tb := List.mem_filter.mpr ⟨List.mem_of_getElem? h, hg⟩
def fb_A (G : fb_G) (sz : Nat) : Nat → Prop := fun q => (∃ k, k < 67 ∧ q = fb_ad G k) ∨ sz ≤ q
abbrev fb_tys (G : fb_G) : List (ClassId × FieldType) := [(G.2.2.1, .int), (G.2.2.2.1, .boolean), (G.2.2.2.2, .object "FloodBasins$Image")]
/-- the private method of the host that its nest mates call -/
def fb_N (U : State) : Prop := va_Nw (.methodLinkNest RX5 41 yX6_within RX6) U ∧ va_Nw (.methodLinkNest RX4 41 yX6_within RX6) U ∧ va_Nw (.methodLinkNest RX3 71 yX6_within RX6) U
/-- what stands still while a method runs -/
def fb_C (p : Program) (s : State) (m : MethodId) (args : Array Value) (meth : Method) (c : Code) (G : fb_G) (own : String) (cc : ByteArray) (nL : Nat) : Prop :=
  CallFix p m c cc nL s args fb_tb own ∧ (meth.locks = false ∧ fb_N s) ∧ va_K G.1 vwCl (fb_tys G) s
/-- the world inside a method -/
def fb_Wd (G : fb_G) (s : State) (σ : fb_St) (H : Heap) (locs : List Loc) : Prop :=
  va_P G.1 vwCl (fb_W G σ) H ∧ va_D (fb_A G s.heap.size) (fb_W G σ) ∧ va_S (fb_A G s.heap.size) s.heap H locs ∧ ∀ k i, fb_in (σ k i)
/-- a field's link: own class, entry; the class of the object, the field's place -/
def fb_FL (own : String) (index ci j : Nat) (C : String) (T : u_T) (N : Nat) : Prop :=
  (∀ w ∈ u_ws C T N, w ∈ fb_tb) ∧ vwCl[ci]? = some (C, T, N) ∧ j < N ∧ Cond.fieldLink own index (T j).1 (T j).2.1 (T j).2.2.1 ∈ fb_tb
section FBR
variable {p : Program} {l : Launch} {e : Env} {R : Room} {s : State} {m : MethodId} {args : Array Value} {below : List Frame} {meth : Method} {c : Code} {H : Heap} {locs : List Loc} {cells slots : Nat} {Q : State → Prop}
variable {cc : ByteArray} {pc nL : Nat} {ls : Array Slot} {rest : List Value} {own : String} {G : fb_G} {σ : fb_St}
theorem fb_iadd (C : fb_C p s m args meth c G own cc nL) {a b : Int} (hdg : decode cc pc = .ok (.iadd, 1)) (k : W p l e R s m args below meth c H locs cells slots Q (F0 m (pc + 1) ls (.int (fb_I (a + b)) :: rest))) : W p l e R s m args below meth c H locs cells slots Q (F0 m pc ls (.int (fb_I b) :: .int (fb_I a) :: rest)) :=
  lv_iadd C.1.1 C.1.2.1 hdg (by rw [fb_I_add]; exact k)
theorem fb_isub (C : fb_C p s m args meth c G own cc nL) {a b : Int} (hdg : decode cc pc = .ok (.isub, 1)) (k : W p l e R s m args below meth c H locs cells slots Q (F0 m (pc + 1) ls (.int (fb_I (a - b)) :: rest))) : W p l e R s m args below meth c H locs cells slots Q (F0 m pc ls (.int (fb_I b) :: .int (fb_I a) :: rest)) :=
  lv_isub C.1.1 C.1.2.1 hdg (by rw [fb_I_sub]; exact k)
theorem fb_imul (C : fb_C p s m args meth c G own cc nL) {a b : Int} (hdg : decode cc pc = .ok (.imul, 1)) (k : W p l e R s m args below meth c H locs cells slots Q (F0 m (pc + 1) ls (.int (fb_I (a * b)) :: rest))) : W p l e R s m args below meth c H locs cells slots Q (F0 m pc ls (.int (fb_I b) :: .int (fb_I a) :: rest)) :=
  lv_imul C.1.1 C.1.2.1 hdg (by rw [fb_I_mul]; exact k)
theorem fb_ineg (C : fb_C p s m args meth c G own cc nL) {a : Int} (hdg : decode cc pc = .ok (.ineg, 1)) (k : W p l e R s m args below meth c H locs cells slots Q (F0 m (pc + 1) ls (.int (fb_I (-a)) :: rest))) : W p l e R s m args below meth c H locs cells slots Q (F0 m pc ls (.int (fb_I a) :: rest)) :=
  lv_ineg C.1.1 C.1.2.1 hdg (by rw [fb_I_neg]; exact k)
theorem fb_nz {b : Int} (hb : 0 < b) (ib : fb_in b) : ¬ fb_I b = 0 := by
  rw [fb_I_0, fb_I_eq ib fb_in0]; omega
theorem fb_idiv (C : fb_C p s m args meth c G own cc nL) {a b : Int} (ia : fb_in a) (ib : fb_in b) (ha : 0 ≤ a) (hb : 0 < b) (hdg : decode cc pc = .ok (.idiv, 1)) (k : W p l e R s m args below meth c H locs cells slots Q (F0 m (pc + 1) ls (.int (fb_I (a / b)) :: rest))) : W p l e R s m args below meth c H locs cells slots Q (F0 m pc ls (.int (fb_I b) :: .int (fb_I a) :: rest)) :=
  lv_idiv C.1.1 C.1.2.1 hdg (fb_nz hb ib) (by rw [fb_I_div ha hb ia ib]; exact k)
theorem fb_irem (C : fb_C p s m args meth c G own cc nL) {a b : Int} (ia : fb_in a) (ib : fb_in b) (ha : 0 ≤ a) (hb : 0 < b) (hdg : decode cc pc = .ok (.irem, 1)) (k : W p l e R s m args below meth c H locs cells slots Q (F0 m (pc + 1) ls (.int (fb_I (a % b)) :: rest))) : W p l e R s m args below meth c H locs cells slots Q (F0 m pc ls (.int (fb_I b) :: .int (fb_I a) :: rest)) :=
  lv_irem C.1.1 C.1.2.1 hdg (fb_nz hb ib) (by rw [fb_I_rem ha hb ia ib]; exact k)
theorem fb_iinc (C : fb_C p s m args meth c G own cc nL) {a b : Int} {i k : Nat} {n : Int} {lv lv' : List (Nat × Value)} (hdg : decode cc pc = .ok (.iinc i n, 3)) (h : lv_has ls nL lv) (hk : lv[k]? = some (i, .int (fb_I a))) (hv : a + n = b) (hn : i < nL) (hl : (i, Value.int (fb_I b)) :: lv.filter (fun q => !(q.1 == i) && !(q.1 + 1 == i && q.2.category == 2)) = lv')
    (kk : ∀ ls' : Array Slot, lv_has ls' nL lv' → W p l e R s m args below meth c H locs cells slots Q (F0 m (pc + 3) ls' rest)) : W p l e R s m args below meth c H locs cells slots Q (F0 m pc ls rest) :=
  lv_iinc C.1.1 C.1.2.1 hdg h hk (by rw [← hv]; exact fb_I_add a n) hn hl kk
theorem fb_icmp_eq (C : fb_C p s m args meth c G own cc nL) {a b : Int} (ia : fb_in a) (ib : fb_in b) {off : Int} {tgt : Nat} (hdg : decode cc pc = .ok (.if_icmp .eq off, 3)) (ht : (pc : Int) + off = (tgt : Int))
    (kt : a = b → W p l e R s m args below meth c H locs cells slots Q (F0 m tgt ls rest)) (kf : ¬ a = b → W p l e R s m args below meth c H locs cells slots Q (F0 m (pc + 3) ls rest)) : W p l e R s m args below meth c H locs cells slots Q (F0 m pc ls (.int (fb_I b) :: .int (fb_I a) :: rest)) :=
  lv_icmp_eq C.1.1 C.1.2.1 hdg ht (fun h => kt ((fb_I_eq ia ib).mp h)) (fun h => kf (fun q => h ((fb_I_eq ia ib).mpr q)))
theorem fb_icmp_ne (C : fb_C p s m args meth c G own cc nL) {a b : Int} (ia : fb_in a) (ib : fb_in b) {off : Int} {tgt : Nat} (hdg : decode cc pc = .ok (.if_icmp .ne off, 3)) (ht : (pc : Int) + off = (tgt : Int))
    (kt : ¬ a = b → W p l e R s m args below meth c H locs cells slots Q (F0 m tgt ls rest)) (kf : a = b → W p l e R s m args below meth c H locs cells slots Q (F0 m (pc + 3) ls rest)) : W p l e R s m args below meth c H locs cells slots Q (F0 m pc ls (.int (fb_I b) :: .int (fb_I a) :: rest)) :=
  lv_icmp_ne C.1.1 C.1.2.1 hdg ht (fun h => kt (fun q => h ((fb_I_eq ia ib).mpr q))) (fun h => kf ((fb_I_eq ia ib).mp h))
theorem fb_icmp_lt (C : fb_C p s m args meth c G own cc nL) {a b : Int} (ia : fb_in a) (ib : fb_in b) {off : Int} {tgt : Nat} (hdg : decode cc pc = .ok (.if_icmp .lt off, 3)) (ht : (pc : Int) + off = (tgt : Int))
    (kt : a < b → W p l e R s m args below meth c H locs cells slots Q (F0 m tgt ls rest)) (kf : ¬ a < b → W p l e R s m args below meth c H locs cells slots Q (F0 m (pc + 3) ls rest)) : W p l e R s m args below meth c H locs cells slots Q (F0 m pc ls (.int (fb_I b) :: .int (fb_I a) :: rest)) :=
  lv_icmp_lt C.1.1 C.1.2.1 hdg ht (fun h => kt ((fb_I_lt ia ib).mp h)) (fun h => kf (fun q => h ((fb_I_lt ia ib).mpr q)))
theorem fb_icmp_ge (C : fb_C p s m args meth c G own cc nL) {a b : Int} (ia : fb_in a) (ib : fb_in b) {off : Int} {tgt : Nat} (hdg : decode cc pc = .ok (.if_icmp .ge off, 3)) (ht : (pc : Int) + off = (tgt : Int))
    (kt : ¬ a < b → W p l e R s m args below meth c H locs cells slots Q (F0 m tgt ls rest)) (kf : a < b → W p l e R s m args below meth c H locs cells slots Q (F0 m (pc + 3) ls rest)) : W p l e R s m args below meth c H locs cells slots Q (F0 m pc ls (.int (fb_I b) :: .int (fb_I a) :: rest)) :=
  lv_icmp_ge C.1.1 C.1.2.1 hdg ht (fun h => kt (fun q => by have := (fb_I_le ib ia).mp h; omega)) (fun h => kf (Int.not_le.mp fun q => h ((fb_I_le ib ia).mpr q)))
theorem fb_icmp_gt (C : fb_C p s m args meth c G own cc nL) {a b : Int} (ia : fb_in a) (ib : fb_in b) {off : Int} {tgt : Nat} (hdg : decode cc pc = .ok (.if_icmp .gt off, 3)) (ht : (pc : Int) + off = (tgt : Int))
    (kt : b < a → W p l e R s m args below meth c H locs cells slots Q (F0 m tgt ls rest)) (kf : ¬ b < a → W p l e R s m args below meth c H locs cells slots Q (F0 m (pc + 3) ls rest)) : W p l e R s m args below meth c H locs cells slots Q (F0 m pc ls (.int (fb_I b) :: .int (fb_I a) :: rest)) :=
  lv_icmp_gt C.1.1 C.1.2.1 hdg ht (fun h => kt ((fb_I_lt ib ia).mp h)) (fun h => kf (fun q => h ((fb_I_lt ib ia).mpr q)))
theorem fb_icmp_le (C : fb_C p s m args meth c G own cc nL) {a b : Int} (ia : fb_in a) (ib : fb_in b) {off : Int} {tgt : Nat} (hdg : decode cc pc = .ok (.if_icmp .le off, 3)) (ht : (pc : Int) + off = (tgt : Int))
    (kt : ¬ b < a → W p l e R s m args below meth c H locs cells slots Q (F0 m tgt ls rest)) (kf : b < a → W p l e R s m args below meth c H locs cells slots Q (F0 m (pc + 3) ls rest)) : W p l e R s m args below meth c H locs cells slots Q (F0 m pc ls (.int (fb_I b) :: .int (fb_I a) :: rest)) :=
  lv_icmp_le C.1.1 C.1.2.1 hdg ht (fun h => kt (fun q => by have := (fb_I_le ia ib).mp h; omega)) (fun h => kf (Int.not_le.mp fun q => h ((fb_I_le ia ib).mpr q)))
theorem fb_if_eq (C : fb_C p s m args meth c G own cc nL) {a : Int} (ia : fb_in a) {off : Int} {tgt : Nat} (hdg : decode cc pc = .ok (.ifCond .eq off, 3)) (ht : (pc : Int) + off = (tgt : Int))
    (kt : a = 0 → W p l e R s m args below meth c H locs cells slots Q (F0 m tgt ls rest)) (kf : ¬ a = 0 → W p l e R s m args below meth c H locs cells slots Q (F0 m (pc + 3) ls rest)) : W p l e R s m args below meth c H locs cells slots Q (F0 m pc ls (.int (fb_I a) :: rest)) :=
  lv_if_eq C.1.1 C.1.2.1 hdg ht (fun h => kt ((fb_I_eq ia fb_in0).mp (h.trans fb_I_0))) (fun h => kf (fun q => h (((fb_I_eq ia fb_in0).mpr q).trans fb_I_0.symm)))
theorem fb_if_ne (C : fb_C p s m args meth c G own cc nL) {a : Int} (ia : fb_in a) {off : Int} {tgt : Nat} (hdg : decode cc pc = .ok (.ifCond .ne off, 3)) (ht : (pc : Int) + off = (tgt : Int))
    (kt : ¬ a = 0 → W p l e R s m args below meth c H locs cells slots Q (F0 m tgt ls rest)) (kf : a = 0 → W p l e R s m args below meth c H locs cells slots Q (F0 m (pc + 3) ls rest)) : W p l e R s m args below meth c H locs cells slots Q (F0 m pc ls (.int (fb_I a) :: rest)) :=
  lv_if_ne C.1.1 C.1.2.1 hdg ht (fun h => kt (fun q => h (((fb_I_eq ia fb_in0).mpr q).trans fb_I_0.symm))) (fun h => kf ((fb_I_eq ia fb_in0).mp (h.trans fb_I_0)))
theorem fb_if_lt (C : fb_C p s m args meth c G own cc nL) {a : Int} (ia : fb_in a) {off : Int} {tgt : Nat} (hdg : decode cc pc = .ok (.ifCond .lt off, 3)) (ht : (pc : Int) + off = (tgt : Int))
    (kt : a < 0 → W p l e R s m args below meth c H locs cells slots Q (F0 m tgt ls rest)) (kf : ¬ a < 0 → W p l e R s m args below meth c H locs cells slots Q (F0 m (pc + 3) ls rest)) : W p l e R s m args below meth c H locs cells slots Q (F0 m pc ls (.int (fb_I a) :: rest)) :=
  lv_if_lt C.1.1 C.1.2.1 hdg ht (fun h => kt ((fb_I_lt ia fb_in0).mp (fb_I_0 ▸ h))) (fun h => kf (fun q => h (fb_I_0.symm ▸ (fb_I_lt ia fb_in0).mpr q)))
theorem fb_if_ge (C : fb_C p s m args meth c G own cc nL) {a : Int} (ia : fb_in a) {off : Int} {tgt : Nat} (hdg : decode cc pc = .ok (.ifCond .ge off, 3)) (ht : (pc : Int) + off = (tgt : Int))
    (kt : ¬ a < 0 → W p l e R s m args below meth c H locs cells slots Q (F0 m tgt ls rest)) (kf : a < 0 → W p l e R s m args below meth c H locs cells slots Q (F0 m (pc + 3) ls rest)) : W p l e R s m args below meth c H locs cells slots Q (F0 m pc ls (.int (fb_I a) :: rest)) :=
  lv_if_ge C.1.1 C.1.2.1 hdg ht (fun h => kt (fun q => by have := (fb_I_le fb_in0 ia).mp (fb_I_0 ▸ h); omega)) (fun h => kf (Int.not_le.mp fun q => h (fb_I_0.symm ▸ (fb_I_le fb_in0 ia).mpr q)))
theorem fb_if_gt (C : fb_C p s m args meth c G own cc nL) {a : Int} (ia : fb_in a) {off : Int} {tgt : Nat} (hdg : decode cc pc = .ok (.ifCond .gt off, 3)) (ht : (pc : Int) + off = (tgt : Int))
    (kt : 0 < a → W p l e R s m args below meth c H locs cells slots Q (F0 m tgt ls rest)) (kf : ¬ 0 < a → W p l e R s m args below meth c H locs cells slots Q (F0 m (pc + 3) ls rest)) : W p l e R s m args below meth c H locs cells slots Q (F0 m pc ls (.int (fb_I a) :: rest)) :=
  lv_if_gt C.1.1 C.1.2.1 hdg ht (fun h => kt ((fb_I_lt fb_in0 ia).mp (fb_I_0 ▸ h))) (fun h => kf (fun q => h (fb_I_0.symm ▸ (fb_I_lt fb_in0 ia).mpr q)))
theorem fb_if_le (C : fb_C p s m args meth c G own cc nL) {a : Int} (ia : fb_in a) {off : Int} {tgt : Nat} (hdg : decode cc pc = .ok (.ifCond .le off, 3)) (ht : (pc : Int) + off = (tgt : Int))
    (kt : ¬ 0 < a → W p l e R s m args below meth c H locs cells slots Q (F0 m tgt ls rest)) (kf : 0 < a → W p l e R s m args below meth c H locs cells slots Q (F0 m (pc + 3) ls rest)) : W p l e R s m args below meth c H locs cells slots Q (F0 m pc ls (.int (fb_I a) :: rest)) :=
  lv_if_le C.1.1 C.1.2.1 hdg ht (fun h => kt (fun q => by have := (fb_I_le ia fb_in0).mp (fb_I_0 ▸ h); omega)) (fun h => kf (Int.not_le.mp fun q => h (fb_I_0.symm ▸ (fb_I_le ia fb_in0).mpr q)))
theorem fb_iconst (C : fb_C p s m args meth c G own cc nL) {n : Int} (hdg : decode cc pc = .ok (.iconst n, 1)) (k : W p l e R s m args below meth c H locs cells slots Q (F0 m (pc + 1) ls (.int (fb_I n) :: rest))) : W p l e R s m args below meth c H locs cells slots Q (F0 m pc ls rest) :=
  lv_iconst C.1.1 C.1.2.1 hdg rfl k
theorem fb_bipush (C : fb_C p s m args meth c G own cc nL) {n : Int} (hdg : decode cc pc = .ok (.bipush n, 2)) (hv : (Int8.ofInt n).toInt32 = fb_I n) (k : W p l e R s m args below meth c H locs cells slots Q (F0 m (pc + 2) ls (.int (fb_I n) :: rest))) : W p l e R s m args below meth c H locs cells slots Q (F0 m pc ls rest) :=
  lv_bipush C.1.1 C.1.2.1 hdg hv k
theorem fb_sipush (C : fb_C p s m args meth c G own cc nL) {n : Int} (hdg : decode cc pc = .ok (.sipush n, 3)) (hv : (Int16.ofInt n).toInt32 = fb_I n) (k : W p l e R s m args below meth c H locs cells slots Q (F0 m (pc + 3) ls (.int (fb_I n) :: rest))) : W p l e R s m args below meth c H locs cells slots Q (F0 m pc ls rest) :=
  lv_sipush C.1.1 C.1.2.1 hdg hv k
theorem fb_tableIn (C : fb_C p s m args meth c G own cc nL) {dflt lo hi : Int} {offs : Array Int} {len : Nat} {x : Int} (ix : fb_in x) {off : Int} {tgt j : Nat} (hdg : decode cc pc = .ok (.tableswitch dflt lo hi offs, len)) (hx : x = lo + j) (hj : lo + j ≤ hi) (ho : offs[j]? = some off) (ht : (pc : Int) + off = (tgt : Int))
    (k : W p l e R s m args below meth c H locs cells slots Q (F0 m tgt ls rest)) : W p l e R s m args below meth c H locs cells slots Q (F0 m pc ls (.int (fb_I x) :: rest)) :=
  lv_tableIn C.1.1 C.1.2.1 hdg (by rw [fb_I_toInt ix]; omega) (by rw [fb_I_toInt ix]; omega) (by rw [fb_I_toInt ix, hx, show (lo + (j : Int) - lo).toNat = j by omega]; exact ho) ht k
theorem fb_tableOut (C : fb_C p s m args meth c G own cc nL) {dflt lo hi : Int} {offs : Array Int} {len : Nat} {x : Int} (ix : fb_in x) {tgt : Nat} (hdg : decode cc pc = .ok (.tableswitch dflt lo hi offs, len)) (h : x < lo ∨ hi < x) (ht : (pc : Int) + dflt = (tgt : Int))
    (k : W p l e R s m args below meth c H locs cells slots Q (F0 m tgt ls rest)) : W p l e R s m args below meth c H locs cells slots Q (F0 m pc ls (.int (fb_I x) :: rest)) :=
  lv_tableOut C.1.1 C.1.2.1 hdg (by rw [fb_I_toInt ix]; exact h) ht k
/-- fields -/
theorem fb_fs_at {G : fb_G} {r : Int → Int} {fs : List (Option Nat)} {j : Nat} {o : Option Nat} (h : fs[j]? = some o) : (fs.mapIdx fun j o => fb_fv G r j o)[j]? = some (fb_fv G r j o) := by
  simp [List.getElem?_mapIdx, h]
theorem fb_geti (C : fb_C p s m args meth c G own cc nL) (w : fb_Wd G s σ H locs) {k ci j index : Nat} {fs : List (Option Nat)} {Cn : String} {T : u_T} {N : Nat} (hk : (fb_cl G)[k]? = some (fb_ob G ci fs)) (hj : fs[j]? = some none) (hf : fb_FL own index ci j Cn T N) (hdg : decode cc pc = .ok (.getfield index, 3))
    (kk : W p l e R s m args below meth c H locs cells slots Q (F0 m (pc + 3) ls (.int (fb_I (σ k j)) :: rest))) : W p l e R s m args below meth c H locs cells slots Q (F0 m pc ls (.ref (fb_ad G k) :: rest)) :=
  va_get C.1.1 C.1.2.1 C.1.2.2.2.2 hf.1 C.1.2.2.2.1 C.2.2 w.1 k (fb_W_at hk) hf.2.1 j hf.2.2.1 (C.1.2.2.2.2 _ hf.2.2.2) (fun _ h => h) (fb_fs_at hj) hdg kk
theorem fb_getr (C : fb_C p s m args meth c G own cc nL) (w : fb_Wd G s σ H locs) {k ci j index k2 : Nat} {fs : List (Option Nat)} {Cn : String} {T : u_T} {N : Nat} (hk : (fb_cl G)[k]? = some (fb_ob G ci fs)) (hj : fs[j]? = some (some k2)) (hf : fb_FL own index ci j Cn T N) (hdg : decode cc pc = .ok (.getfield index, 3))
    (kk : W p l e R s m args below meth c H locs cells slots Q (F0 m (pc + 3) ls (.ref (fb_ad G k2) :: rest))) : W p l e R s m args below meth c H locs cells slots Q (F0 m pc ls (.ref (fb_ad G k) :: rest)) :=
  va_get C.1.1 C.1.2.1 C.1.2.2.2.2 hf.1 C.1.2.2.2.1 C.2.2 w.1 k (fb_W_at hk) hf.2.1 j hf.2.2.1 (C.1.2.2.2.2 _ hf.2.2.2) (fun _ h => h) (fb_fs_at hj) hdg kk
theorem fb_fs_set {G : fb_G} {r : Int → Int} {fs : List (Option Nat)} {j : Nat} (v : Int) (h : fs[j]? = some none) : (fs.mapIdx fun j o => fb_fv G r j o).set j (.int (fb_I v)) = fs.mapIdx fun q o => fb_fv G (fun i => if i = (j : Int) then v else r i) q o := by
  apply List.ext_getElem?
  intro q
  rw [List.getElem?_set]
  by_cases hq : j = q
  · subst hq
    have hl : j < (fs.mapIdx fun j o => fb_fv G r j o).length := by
      have := (List.getElem?_eq_some_iff.mp h).1
      simpa using this
    rw [if_pos rfl, if_pos hl, fb_fs_at h]
    simp [fb_fv]
  · rw [if_neg hq]
    simp only [List.getElem?_mapIdx]
    cases fs[q]? with
    | none => rfl
    | some o =>
      cases o with
      | some k => rfl
      | none =>
        have : ¬ (q : Int) = (j : Int) := by omega
        simp [fb_fv, this]
theorem fb_puti (C : fb_C p s m args meth c G own cc nL) (w : fb_Wd G s σ H locs) {k ci j index : Nat} {fs : List (Option Nat)} {Cn : String} {T : u_T} {N : Nat} (hk : (fb_cl G)[k]? = some (fb_ob G ci fs)) (hj : fs[j]? = some none) (hf : fb_FL own index ci j Cn T N)
    {ty0 : Nat → FieldType} (hty : ∀ k, k < N → parseFieldDescriptor (T k).2.2.1 = some (ty0 k)) (hnm : ∀ a, a < N → ∀ b, b < N → a ≠ b → (T a).2.1 ≠ (T b).2.1) (hfin : (T j).2.2.2 = false) {v : Int} (iv : fb_in v) (hn : narrow (ty0 j) (.int (fb_I v)) = .int (fb_I v)) (hfit : fits (ty0 j) (.int (fb_I v)) = true) (hdg : decode cc pc = .ok (.putfield index, 3))
    (kk : ∀ (H1 : Heap) (locs1 : List Loc), fb_Wd G s (fb_up σ k j v) H1 locs1 → W p l e R s m args below meth c H1 locs1 cells slots Q (F0 m (pc + 3) ls rest)) : W p l e R s m args below meth c H locs cells slots Q (F0 m pc ls (.int (fb_I v) :: .ref (fb_ad G k) :: rest)) := by
  refine va_put (ty := ty0 j) C.1.1 C.1.2.1 C.1.2.2.2.2 hf.1 ty0 hty hnm C.1.2.2.2.1 C.2.2 w.1 w.2.1 w.2.2.1 k (fb_W_at hk) hf.2.1 j hf.2.2.1 (C.1.2.2.2.2 _ hf.2.2.2) (fun _ h => h) hfin (hty j hf.2.2.1) hn hfit (by have := (List.getElem?_eq_some_iff.mp hj).1; simpa using this) hdg (fun H1 locs1 a1 a2 a3 => ?_)
  have he : (fb_W G σ).set k (fb_ad G k, .inr (ci, (fs.mapIdx fun j o => fb_fv G (σ k) j o).set j (.int (fb_I v)))) = fb_W G (fb_up σ k j v) := by
    rw [fb_fs_set v hj]
    exact fb_W_set hk _
  rw [he] at a1 a2
  exact kk H1 locs1 ⟨a1, a2, a3, fb_up_in w.2.2.2 iv⟩
/-- arrays -/
theorem fb_ald (C : fb_C p s m args meth c G own cc nL) (w : fb_Wd G s σ H locs) {k n : Nat} (hk : (fb_cl G)[k]? = some (fb_arI G n)) {i : Int} (h0 : 0 ≤ i) (h1 : i < n) (hn : n < 2147483648) (hdg : decode cc pc = .ok (.iaload, 1))
    (kk : W p l e R s m args below meth c H locs cells slots Q (F0 m (pc + 1) ls (.int (fb_I (σ k i)) :: rest))) : W p l e R s m args below meth c H locs cells slots Q (F0 m pc ls (.int (fb_I i) :: .ref (fb_ad G k) :: rest)) := by
  refine va_iald C.1.1 C.1.2.1 C.2.2 w.1 k 0 (fb_W_at hk) rfl (fb_I_ix h0 h1 hn) hdg ?_
  rw [fb_I_nat h0 (by omega), show ((i.toNat : Nat) : Int) = i from Int.toNat_of_nonneg h0]
  exact kk
theorem fb_zald (C : fb_C p s m args meth c G own cc nL) (w : fb_Wd G s σ H locs) {k n : Nat} (hk : (fb_cl G)[k]? = some (fb_arZ G n)) {i : Int} (h0 : 0 ≤ i) (h1 : i < n) (hn : n < 2147483648) (hdg : decode cc pc = .ok (.baload, 1))
    (kk : W p l e R s m args below meth c H locs cells slots Q (F0 m (pc + 1) ls (.int (fb_I (σ k i)) :: rest))) : W p l e R s m args below meth c H locs cells slots Q (F0 m pc ls (.int (fb_I i) :: .ref (fb_ad G k) :: rest)) := by
  refine va_zald C.1.1 C.1.2.1 C.2.2 w.1 k 1 (fb_W_at hk) rfl (fb_I_ix h0 h1 hn) hdg ?_
  rw [fb_I_nat h0 (by omega), show ((i.toNat : Nat) : Int) = i from Int.toNat_of_nonneg h0]
  exact kk
theorem fb_upd (r : Int → Int) {i v : Int} (h0 : 0 ≤ i) : upd (fun j => fb_I (r (j : Int))) i.toNat (fb_I v) = fun j : Nat => fb_I ((fun q => if q = i then v else r q) (j : Int)) := by
  funext j
  unfold upd
  by_cases h : j = i.toNat
  · have : (j : Int) = i := by omega
    simp [h, Int.toNat_of_nonneg h0]
  · have : ¬ (j : Int) = i := by omega
    simp [h, this]
theorem fb_ast (C : fb_C p s m args meth c G own cc nL) (w : fb_Wd G s σ H locs) {k n : Nat} (hk : (fb_cl G)[k]? = some (fb_arI G n)) {i v : Int} (iv : fb_in v) (h0 : 0 ≤ i) (h1 : i < n) (hn : n < 2147483648) (hdg : decode cc pc = .ok (.iastore, 1))
    (kk : ∀ (H1 : Heap) (locs1 : List Loc), fb_Wd G s (fb_up σ k i v) H1 locs1 → W p l e R s m args below meth c H1 locs1 cells slots Q (F0 m (pc + 1) ls rest)) : W p l e R s m args below meth c H locs cells slots Q (F0 m pc ls (.int (fb_I v) :: .int (fb_I i) :: .ref (fb_ad G k) :: rest)) := by
  refine va_iast C.1.1 C.1.2.1 C.2.2 w.1 w.2.1 w.2.2.1 k 0 (fb_W_at hk) rfl (fb_I_ix h0 h1 hn) hdg (fun H1 locs1 a1 a2 a3 => ?_)
  have hu : upd (fun j : Nat => fb_I (σ k (j : Int))) (fb_I i).toNatClampNeg (fb_I v) = fun j : Nat => fb_I ((fun q => if q = i then v else σ k q) (j : Int)) := by
    rw [fb_I_nat h0 (by omega)]; exact fb_upd (σ k) h0
  have he : (fb_W G σ).set k (fb_ad G k, Sum.inl (G.2.2.1, n, Sum.inl fun j : Nat => fb_I ((fun q => if q = i then v else σ k q) (j : Int)))) = fb_W G (fb_up σ k i v) := fb_W_set hk (fun q => if q = i then v else σ k q)
  rw [hu, he] at a1 a2
  exact kk H1 locs1 ⟨a1, a2, a3, fb_up_in w.2.2.2 iv⟩
theorem fb_nz8 {v : Int} (hv : fb_B v) : vp_nar .boolean (fb_I v) = fb_I v := by
  rcases hv with rfl | rfl <;> decide
theorem fb_nzb {v : Int} (hv : fb_B v) : narrow .boolean (.int (fb_I v)) = .int (fb_I v) := by
  rcases hv with rfl | rfl <;> decide
theorem fb_fzb {v : Int} (hv : fb_B v) : fits .boolean (.int (fb_I v)) = true := by
  rcases hv with rfl | rfl <;> decide
theorem fb_zast (C : fb_C p s m args meth c G own cc nL) (w : fb_Wd G s σ H locs) {k n : Nat} (hk : (fb_cl G)[k]? = some (fb_arZ G n)) {i v : Int} (iv : fb_in v) (hv : fb_B v) (h0 : 0 ≤ i) (h1 : i < n) (hn : n < 2147483648) (hdg : decode cc pc = .ok (.bastore, 1))
    (kk : ∀ (H1 : Heap) (locs1 : List Loc), fb_Wd G s (fb_up σ k i v) H1 locs1 → W p l e R s m args below meth c H1 locs1 cells slots Q (F0 m (pc + 1) ls rest)) : W p l e R s m args below meth c H locs cells slots Q (F0 m pc ls (.int (fb_I v) :: .int (fb_I i) :: .ref (fb_ad G k) :: rest)) := by
  refine va_zast C.1.1 C.1.2.1 C.2.2 w.1 w.2.1 w.2.2.1 k 1 (fb_W_at hk) rfl (fb_I_ix h0 h1 hn) hdg (fun H1 locs1 a1 a2 a3 => ?_)
  have hu : upd (fun j : Nat => fb_I (σ k (j : Int))) (fb_I i).toNatClampNeg (vp_nar .boolean (fb_I v)) = fun j : Nat => fb_I ((fun q => if q = i then v else σ k q) (j : Int)) := by
    rw [fb_I_nat h0 (by omega), fb_nz8 hv]; exact fb_upd (σ k) h0
  have he : (fb_W G σ).set k (fb_ad G k, Sum.inl (G.2.2.2.1, n, Sum.inl fun j : Nat => fb_I ((fun q => if q = i then v else σ k q) (j : Int)))) = fb_W G (fb_up σ k i v) := fb_W_set hk (fun q => if q = i then v else σ k q)
  rw [hu, he] at a1 a2
  exact kk H1 locs1 ⟨a1, a2, a3, fb_up_in w.2.2.2 iv⟩
theorem fb_qald (C : fb_C p s m args meth c G own cc nL) (w : fb_Wd G s σ H locs) {i : Int} (h0 : 0 ≤ i) (h1 : i < 2) (hdg : decode cc pc = .ok (.aaload, 1))
    (kk : W p l e R s m args below meth c H locs cells slots Q (F0 m (pc + 1) ls (.ref (fb_ad G (if i = 0 then 42 else 45)) :: rest))) : W p l e R s m args below meth c H locs cells slots Q (F0 m pc ls (.int (fb_I i) :: .ref (fb_ad G 41) :: rest)) := by
  refine va_aldq C.1.1 C.1.2.1 C.2.2 w.1 41 2 (fb_W_at (f := fb_arQ G) rfl) rfl (fb_I_ix (n := 2) h0 (by omega) (by decide)) hdg ?_
  rw [fb_I_nat h0 (by omega)]
  have : (i.toNat = 0) = (i = 0) := propext ⟨fun h => by omega, fun h => by omega⟩
  simp only [va_rf, this]
  exact kk
end FBR
end
section
/-! ===== contracts and calls ===== -/
def fb_Pc (G : fb_G) (av : List Value) (σ : fb_St) (sz : Nat) : Array Value → State → Prop := va_Pc av (fun U => U.heap.size = sz ∧ va_P G.1 vwCl (fb_W G σ) U.heap ∧ va_K G.1 vwCl (fb_tys G) U ∧ va_D (fun _ => True) (fb_W G σ) ∧ (∀ k i, fb_in (σ k i)) ∧ fb_N U)
def fb_BW (G : fb_G) (sz : Nat) (σ : fb_St) (t : State) : Prop := va_P G.1 vwCl (fb_W G σ) t.heap ∧ va_D (fb_A G sz) (fb_W G σ) ∧ ∀ k i, fb_in (σ k i)
def fb_Qi (G : fb_G) (sz : Nat) (Qp : Int → fb_St → Prop) : Array Value → State → Outcome → State → Prop := va_Qi (S := Int × fb_St) (fun r u => r = fb_I u.1 ∧ fb_in u.1 ∧ Qp u.1 u.2) (fun u t => fb_BW G sz u.2 t) (fb_A G sz)
def fb_Qv (G : fb_G) (sz : Nat) (Qp : Int → fb_St → Prop) : Array Value → State → Outcome → State → Prop := va_Qv (S := fb_St) (fun u => Qp 0 u) (fun u t => fb_BW G sz u t) (fb_A G sz)
def fb_Qr (G : fb_G) (sz k : Nat) (Qp : Int → fb_St → Prop) : Array Value → State → Outcome → State → Prop := va_Qr (S := fb_St) (fun u => Qp 0 u) (fun u a t => a = fb_ad G k ∧ fb_BW G sz u t) (fb_A G sz)
abbrev fb_M (l : Launch) (G : fb_G) (y : MethodName) (cc : ByteArray) (nL : Nat) (ret : Option FieldType) (rm : Room) (av : List Value) (σ : fb_St) (Qc : Nat → Array Value → State → Outcome → State → Prop) : Prop :=
  ∀ sz : Nat, Met l y (.code y cc nL ret :: fb_tb) rm (fb_Pc G av σ sz) (Qc sz) 0 0 (fb_A G sz)
abbrev fb_MI (l : Launch) (G : fb_G) (y : MethodName) (cc : ByteArray) (nL : Nat) (ret : Option FieldType) (rm : Room) (av : List Value) (σ : fb_St) (Qp : Int → fb_St → Prop) : Prop := fb_M l G y cc nL ret rm av σ (fun sz => fb_Qi G sz Qp)
abbrev fb_MV (l : Launch) (G : fb_G) (y : MethodName) (cc : ByteArray) (nL : Nat) (rm : Room) (av : List Value) (σ : fb_St) (Qp : Int → fb_St → Prop) : Prop := fb_M l G y cc nL none rm av σ (fun sz => fb_Qv G sz Qp)
abbrev fb_MR (l : Launch) (G : fb_G) (y : MethodName) (cc : ByteArray) (nL : Nat) (ret : Option FieldType) (rm : Room) (k : Nat) (av : List Value) (σ : fb_St) (Qp : Int → fb_St → Prop) : Prop := fb_M l G y cc nL ret rm av σ (fun sz => fb_Qr G sz k Qp)
theorem fb_D_A {G : fb_G} {σ : fb_St} {A : Nat → Prop} (h : va_D A (fb_W G σ)) (sz : Nat) : va_D (fb_A G sz) (fb_W G σ) := ⟨h.1, fun k q hk => by
  obtain ⟨h1, h2⟩ := fb_W_addr hk
  exact Or.inl ⟨k, h1, h2⟩⟩
theorem fb_good {ws : List Cond} (h : ∀ w ∈ ws, w ∈ fb_tb) : GoodIn fb_tb ws := fun w hw => ⟨h w hw, good_of_word (List.mem_filter.mp (h w hw)).2⟩
theorem fb_ofW {l : Launch} {G : fb_G} {y : MethodName} {cc : ByteArray} {nL : Nat} {ret : Option FieldType} {rm : Room} {av : List Value} {σ : fb_St} {Qc : Nat → Array Value → State → Outcome → State → Prop} (hy : plainName y.cls = true) (ha : (lg_sl av).length ≤ nL) {own : String} (ho : y.cls = own)
    (body : ∀ (p : Program) (e : Env) (s : State) (m : MethodId) (args : Array Value) (below : List Frame) (meth : Method) (c : Code) (ls : Array Slot), fb_C p s m args meth c G own cc nL → meth.sig.returnType = ret → lv_has ls nL (lv_args 0 av) → fb_Wd G s σ s.heap [] →
      W p l e rm s m args below meth c s.heap [] 0 0 (MQ below (Qc s.heap.size) args s 0 0 (fb_A G s.heap.size)) (F0 m 0 ls [])) : fb_M l G y cc nL ret rm av σ Qc := by
  intro sz
  refine Met.ofW (cc := cc) (maxL := nL) (ret := ret) hy rfl ?_
  intro p e s m args below meth c s₁ B hml hv
  obtain ⟨rfl, hsz, hP, hK, hD0, hin, hN⟩ := hv
  subst hsz
  have hts := atoms_spec (ws := Cond.code y cc nL ret :: fb_tb) B.pre
  have hown : s.vm.findClass y.cls = some m.cls := findClass_of_methodNamed B.named
  have hl := lv_entry av (n := nL) ha
  rw [lg_entry_eq]
  exact body p e s m _ below meth c _ ⟨⟨B.exec, B.bytes, hml, ho ▸ hown, fun w hw => hts w (List.mem_cons_of_mem _ hw)⟩, ⟨B.notSynchronized, hN⟩, hK⟩ B.returns hl ⟨hP, fb_D_A hD0 _, va_S.rf, hin⟩
section FBC
variable {p : Program} {l : Launch} {e : Env} {R : Room} {s : State} {m : MethodId} {args : Array Value} {below : List Frame} {meth : Method} {c : Code} {H : Heap} {locs : List Loc} {cells slots : Nat} {Q : State → Prop}
variable {cc : ByteArray} {pc nL : Nat} {ls : Array Slot} {rest : List Value} {own : String} {G : fb_G} {σ : fb_St}
/-- the ends of a method -/
abbrev fb_RI (p : Program) (l : Launch) (e : Env) (R : Room) (s : State) (m : MethodId) (args : Array Value) (below : List Frame) (meth : Method) (c : Code) (G : fb_G) (cc : ByteArray) (Q : State → Prop) (Qp : Int → fb_St → Prop) : Prop :=
  ∀ (x : Int) (σ : fb_St) (H : Heap) (locs : List Loc) (pc : Nat) (ls : Array Slot), fb_in x → Qp x σ → fb_Wd G s σ H locs → decode cc pc = .ok (.ireturn, 1) → W p l e R s m args below meth c H locs 0 0 Q (F0 m pc ls [.int (fb_I x)])
abbrev fb_RZ (p : Program) (l : Launch) (e : Env) (R : Room) (s : State) (m : MethodId) (args : Array Value) (below : List Frame) (meth : Method) (c : Code) (G : fb_G) (cc : ByteArray) (Q : State → Prop) (Qp : Int → fb_St → Prop) : Prop :=
  ∀ (x : Int) (σ : fb_St) (H : Heap) (locs : List Loc) (pc : Nat) (ls : Array Slot), fb_in x → fb_B x → Qp x σ → fb_Wd G s σ H locs → decode cc pc = .ok (.ireturn, 1) → W p l e R s m args below meth c H locs 0 0 Q (F0 m pc ls [.int (fb_I x)])
abbrev fb_RV (p : Program) (l : Launch) (e : Env) (R : Room) (s : State) (m : MethodId) (args : Array Value) (below : List Frame) (meth : Method) (c : Code) (G : fb_G) (cc : ByteArray) (Q : State → Prop) (Qp : Int → fb_St → Prop) : Prop :=
  ∀ (σ : fb_St) (H : Heap) (locs : List Loc) (pc : Nat) (ls : Array Slot), Qp 0 σ → fb_Wd G s σ H locs → decode cc pc = .ok (.return_, 1) → W p l e R s m args below meth c H locs 0 0 Q (F0 m pc ls [])
abbrev fb_RR (p : Program) (l : Launch) (e : Env) (R : Room) (s : State) (m : MethodId) (args : Array Value) (below : List Frame) (meth : Method) (c : Code) (G : fb_G) (cc : ByteArray) (Q : State → Prop) (k : Nat) (Qp : Int → fb_St → Prop) : Prop :=
  ∀ (σ : fb_St) (H : Heap) (locs : List Loc) (pc : Nat) (ls : Array Slot), Qp 0 σ → fb_Wd G s σ H locs → decode cc pc = .ok (.areturn, 1) → W p l e R s m args below meth c H locs 0 0 Q (F0 m pc ls [.ref (fb_ad G k)])
theorem fb_reti {Qp : Int → fb_St → Prop} (C : fb_C p s m args meth c G own cc nL) (hr : meth.sig.returnType = some .int) : fb_RI p l e R s m args below meth c G cc (MQ below (fb_Qi G s.heap.size Qp) args s 0 0 (fb_A G s.heap.size)) Qp := by
  intro x σ H locs pc ls ix hq w hdg
  exact W.iret C.1.1 C.1.2.1 hr (fun t ht hW => ⟨⟨fb_I x, (x, σ), rfl, ⟨rfl, ix, hq⟩, by rw [ht]; exact w.1, w.2.1, w.2.2.2⟩, w.2.2.1.F ht⟩) w.2.2.1.2.2 hdg C.2.1.1
theorem fb_retz {Qp : Int → fb_St → Prop} (C : fb_C p s m args meth c G own cc nL) (hr : meth.sig.returnType = some .boolean) : fb_RZ p l e R s m args below meth c G cc (MQ below (fb_Qi G s.heap.size Qp) args s 0 0 (fb_A G s.heap.size)) Qp := by
  intro x σ H locs pc ls ix hB hq w hdg
  exact W.zret C.1.1 C.1.2.1 hr (fb_nzb hB) (fun t ht hW => ⟨⟨fb_I x, (x, σ), rfl, ⟨rfl, ix, hq⟩, by rw [ht]; exact w.1, w.2.1, w.2.2.2⟩, w.2.2.1.F ht⟩) w.2.2.1.2.2 hdg C.2.1.1
theorem fb_retv {Qp : Int → fb_St → Prop} (C : fb_C p s m args meth c G own cc nL) (hr : meth.sig.returnType = none) : fb_RV p l e R s m args below meth c G cc (MQ below (fb_Qv G s.heap.size Qp) args s 0 0 (fb_A G s.heap.size)) Qp := by
  intro σ H locs pc ls hq w hdg
  exact W.vret C.1.1 C.1.2.1 hr (fun t ht hW => ⟨⟨σ, rfl, hq, by rw [ht]; exact w.1, w.2.1, w.2.2.2⟩, w.2.2.1.F ht⟩) w.2.2.1.2.2 hdg C.2.1.1
theorem fb_retr {Qp : Int → fb_St → Prop} {k : Nat} {rt : FieldType} (C : fb_C p s m args meth c G own cc nL) (hr : meth.sig.returnType = some rt) (hrt : (∃ n, rt = .object n) ∨ ∃ t, rt = .array t) : fb_RR p l e R s m args below meth c G cc (MQ below (fb_Qr G s.heap.size k Qp) args s 0 0 (fb_A G s.heap.size)) k Qp := by
  intro σ H locs pc ls hq w hdg
  exact W.aret C.1.1 C.1.2.1 hr hrt (Or.inr ⟨_, rfl⟩) (fun t ht hW => ⟨⟨σ, _, rfl, hq, rfl, by rw [ht]; exact w.1, w.2.1, w.2.2.2⟩, w.2.2.1.F ht⟩) w.2.2.1.2.2 hdg C.2.1.1
/-- a method's link at a call -/
def fb_LV (own : String) (index : Nat) (Cn : String) (y : MethodName) (cc : ByteArray) (nL : Nat) (ret : Option FieldType) (n : Nat) : Prop :=
  (∀ w ∈ ([.methodLink own index y, .instanceMethod y, .selects Cn y y, .initialized Cn, .code y cc nL ret] : List Cond), w ∈ fb_tb) ∧ (y.cls = Cn ∧ y.cls ≠ "java/lang/invoke/MethodHandle" ∧ y.cls ≠ "java/lang/invoke/VarHandle" ∧ (parseMethodDescriptor y.desc).map (fun d => d.parameters.length) = some n)
def fb_LS (own : String) (index : Nat) (y : MethodName) (cc : ByteArray) (nL : Nat) (ret : Option FieldType) (n : Nat) : Prop :=
  (∀ w ∈ ([.methodLink own index y, .static y, .initialized y.cls, .code y cc nL ret] : List Cond), w ∈ fb_tb) ∧ (y.cls ≠ "java/lang/invoke/MethodHandle" ∧ y.cls ≠ "java/lang/invoke/VarHandle" ∧ (parseMethodDescriptor y.desc).map (fun d => d.parameters.length) = some n)
theorem fb_LV.good {index : Nat} {Cn : String} {y : MethodName} {cc : ByteArray} {nL : Nat} {ret : Option FieldType} {n : Nat} (h : fb_LV own index Cn y cc nL ret n) : GoodIn fb_tb (wsV own index Cn y (.code y cc nL ret :: fb_tb)) := by
  refine fb_good (fun w hw => ?_)
  unfold wsV at hw
  rcases List.mem_append.mp hw with hw | hw
  · exact h.1 w (by simp only [List.mem_cons, List.not_mem_nil, or_false] at hw ⊢; rcases hw with h | h | h | h <;> simp [h])
  · rcases List.mem_cons.mp hw with hw | hw
    · exact h.1 w (by simp [hw])
    · exact hw
theorem fb_LS.good {index : Nat} {y : MethodName} {cc : ByteArray} {nL : Nat} {ret : Option FieldType} {n : Nat} (h : fb_LS own index y cc nL ret n) : GoodIn fb_tb (va_wsS own index y (.code y cc nL ret :: fb_tb)) := by
  refine fb_good (fun w hw => ?_)
  unfold va_wsS at hw
  rcases List.mem_append.mp hw with hw | hw
  · exact h.1 w (by simp only [List.mem_cons, List.not_mem_nil, or_false] at hw ⊢; rcases hw with h | h | h <;> simp [h])
  · rcases List.mem_cons.mp hw with hw | hw
    · exact h.1 w (by simp [hw])
    · exact hw
theorem fb_blind (av : List Value) (sz : Nat) : FrameBlind (fb_Pc G av σ sz) := fun a U g mk q => by
  obtain ⟨q0, q1, qP, qK, qD, qI, qN⟩ := q
  exact ⟨q0, q1, qP, va_K.moved (u := U) (U := U.calling g mk a) (Vm.Alike.refl U.vm) qK, qD, qI, va_Nw.same rfl rfl qN.1, va_Nw.same rfl rfl qN.2.1, va_Nw.same rfl rfl qN.2.2⟩
theorem fb_pre (C : fb_C p s m args meth c G own cc nL) (w : fb_Wd G s σ H locs) {av : List Value} (U : State) (hU : U.heap = H) (hW : s.WarmedH U.vm) : fb_Pc G av σ H.size av.toArray U :=
  ⟨rfl, by rw [hU], by rw [hU]; exact w.1, va_K.moved hW.alike C.2.2, w.2.1.weaken (fun _ _ _ _ => trivial), w.2.2.2, va_Nw.warmM hW C.2.1.2.1, va_Nw.warmM hW C.2.1.2.2.1, va_Nw.warmM hW C.2.1.2.2.2⟩
theorem fb_A_mono (w : fb_Wd G s σ H locs) : ∀ q, fb_A G H.size q → fb_A G s.heap.size q := fun q h => by
  rcases h with h | h
  · exact Or.inl h
  · exact Or.inr (Nat.le_trans w.2.2.1.1 h)
theorem fb_back {A0 : Nat → Prop} {H1 : Heap} {locs1 : List Loc} {σ1 : fb_St} {t : State} {sz : Nat} (ht : t.heap = H1) (hB : fb_BW G sz σ1 t) (hS : va_S (fb_A G s.heap.size) s.heap H1 locs1) : fb_Wd G s σ1 H1 locs1 :=
  ⟨by rw [← ht]; exact hB.1, fb_D_A hB.2.1 _, hS, hB.2.2⟩
theorem fb_callVi (C : fb_C p s m args meth c G own cc nL) (w : fb_Wd G s σ H locs) {y : MethodName} {bytes : ByteArray} {maxL : Nat} {ret : Option FieldType} {rm : Room} {As : List Value} {k ci index n : Nat} {fs : List (Option Nat)} {Cn : String} {T : u_T} {N : Nat} {Qp : Int → fb_St → Prop} {st : List Value}
    (hM : fb_MI l G y bytes maxL ret rm (.ref (fb_ad G k) :: As) σ Qp) (ml : fb_LV own index Cn y bytes maxL ret n) (hk : (fb_cl G)[k]? = some (fb_ob G ci fs)) (hc : vwCl[ci]? = some (Cn, T, N)) (hR : rm.cells = 0 ∧ rm.slots = 0 ∧ rm.frames + 1 ≤ R.frames ∧ 8 + (maxL + 11) + rm.locals ≤ R.locals ∧ cells ≤ R.cells ∧ slots ≤ R.slots)
    (hn : As.length = n) (hl : ls.size = nL) (hst : st = As.reverse ++ .ref (fb_ad G k) :: rest) (hrs : (rest.map fun v => v.category).sum ≤ 8) (hdg : decode cc pc = .ok (.invokevirtual index, 3))
    (kk : ∀ (r : Int) (σ1 : fb_St) (H1 : Heap) (locs1 : List Loc), Qp r σ1 → fb_in r → fb_Wd G s σ1 H1 locs1 → W p l e R s m args below meth c H1 locs1 cells slots Q (F0 m (pc + 3) ls (.int (fb_I r) :: rest))) : W p l e R s m args below meth c H locs cells slots Q (F0 m pc ls st) := by
  refine va_calli (va_runV (As := As) (rest := rest) (n := n) C.1 (hM H.size) (cwV n C.1.2.2.2.2 ml.good rfl hR.1 hR.2.1 ml.2 ⟨hR.2.2.1, hR.2.2.2.1⟩) ⟨fb_blind _ _, va_recv C.2.2 w.1 hc (fb_W_at hk), fun U hU hW => fb_pre C w U hU hW⟩ rfl hn hl hst (lv_room hrs) hdg ⟨hR.2.2.2.2.1, hR.2.2.2.2.2⟩) w.2.2.1 (fun q _ h => fb_A_mono w q h) (fb_A_mono w) (fun r u t H1 locs1 ht hvm hw hB hz1 hk1 hS => ?_)
  obtain ⟨rfl, hin, hq⟩ := hw
  exact kk u.1 u.2 H1 locs1 hq hin (fb_back (A0 := fun _ => True) ht hB hS)
theorem fb_callVv (C : fb_C p s m args meth c G own cc nL) (w : fb_Wd G s σ H locs) {y : MethodName} {bytes : ByteArray} {maxL : Nat} {rm : Room} {As : List Value} {k ci index n : Nat} {fs : List (Option Nat)} {Cn : String} {T : u_T} {N : Nat} {Qp : Int → fb_St → Prop} {st : List Value}
    (hM : fb_MV l G y bytes maxL rm (.ref (fb_ad G k) :: As) σ Qp) (ml : fb_LV own index Cn y bytes maxL none n) (hk : (fb_cl G)[k]? = some (fb_ob G ci fs)) (hc : vwCl[ci]? = some (Cn, T, N)) (hR : rm.cells = 0 ∧ rm.slots = 0 ∧ rm.frames + 1 ≤ R.frames ∧ 8 + (maxL + 11) + rm.locals ≤ R.locals ∧ cells ≤ R.cells ∧ slots ≤ R.slots)
    (hn : As.length = n) (hl : ls.size = nL) (hst : st = As.reverse ++ .ref (fb_ad G k) :: rest) (hrs : (rest.map fun v => v.category).sum ≤ 8) (hdg : decode cc pc = .ok (.invokevirtual index, 3))
    (kk : ∀ (σ1 : fb_St) (H1 : Heap) (locs1 : List Loc), Qp 0 σ1 → fb_Wd G s σ1 H1 locs1 → W p l e R s m args below meth c H1 locs1 cells slots Q (F0 m (pc + 3) ls rest)) : W p l e R s m args below meth c H locs cells slots Q (F0 m pc ls st) := by
  refine va_callv (va_runV (As := As) (rest := rest) (n := n) C.1 (hM H.size) (cwV n C.1.2.2.2.2 ml.good rfl hR.1 hR.2.1 ml.2 ⟨hR.2.2.1, hR.2.2.2.1⟩) ⟨fb_blind _ _, va_recv C.2.2 w.1 hc (fb_W_at hk), fun U hU hW => fb_pre C w U hU hW⟩ rfl hn hl hst (lv_room hrs) hdg ⟨hR.2.2.2.2.1, hR.2.2.2.2.2⟩) w.2.2.1 (fun q _ h => fb_A_mono w q h) (fb_A_mono w) (fun u t H1 locs1 ht hvm hw hB hz1 hk1 hS => ?_)
  exact kk u H1 locs1 hw (fb_back (A0 := fun _ => True) ht hB hS)
theorem fb_callVr (C : fb_C p s m args meth c G own cc nL) (w : fb_Wd G s σ H locs) {y : MethodName} {bytes : ByteArray} {maxL : Nat} {ret : Option FieldType} {rm : Room} {As : List Value} {k k2 ci index n : Nat} {fs : List (Option Nat)} {Cn : String} {T : u_T} {N : Nat} {Qp : Int → fb_St → Prop} {st : List Value}
    (hM : fb_MR l G y bytes maxL ret rm k2 (.ref (fb_ad G k) :: As) σ Qp) (ml : fb_LV own index Cn y bytes maxL ret n) (hk : (fb_cl G)[k]? = some (fb_ob G ci fs)) (hc : vwCl[ci]? = some (Cn, T, N)) (hR : rm.cells = 0 ∧ rm.slots = 0 ∧ rm.frames + 1 ≤ R.frames ∧ 8 + (maxL + 11) + rm.locals ≤ R.locals ∧ cells ≤ R.cells ∧ slots ≤ R.slots)
    (hn : As.length = n) (hl : ls.size = nL) (hst : st = As.reverse ++ .ref (fb_ad G k) :: rest) (hrs : (rest.map fun v => v.category).sum ≤ 8) (hdg : decode cc pc = .ok (.invokevirtual index, 3))
    (kk : ∀ (σ1 : fb_St) (H1 : Heap) (locs1 : List Loc), Qp 0 σ1 → fb_Wd G s σ1 H1 locs1 → W p l e R s m args below meth c H1 locs1 cells slots Q (F0 m (pc + 3) ls (.ref (fb_ad G k2) :: rest))) : W p l e R s m args below meth c H locs cells slots Q (F0 m pc ls st) := by
  refine va_callr (va_runV (As := As) (rest := rest) (n := n) C.1 (hM H.size) (cwV n C.1.2.2.2.2 ml.good rfl hR.1 hR.2.1 ml.2 ⟨hR.2.2.1, hR.2.2.2.1⟩) ⟨fb_blind _ _, va_recv C.2.2 w.1 hc (fb_W_at hk), fun U hU hW => fb_pre C w U hU hW⟩ rfl hn hl hst (lv_room hrs) hdg ⟨hR.2.2.2.2.1, hR.2.2.2.2.2⟩) w.2.2.1 (fun q _ h => fb_A_mono w q h) (fb_A_mono w) (fun u a t H1 locs1 ht hvm hw hB hz1 hk1 hS => ?_)
  obtain ⟨rfl, hB⟩ := hB
  exact kk u H1 locs1 hw (fb_back (A0 := fun _ => True) ht hB hS)
theorem fb_callSi (C : fb_C p s m args meth c G own cc nL) (w : fb_Wd G s σ H locs) {y : MethodName} {bytes : ByteArray} {maxL : Nat} {ret : Option FieldType} {rm : Room} {As : List Value} {index n : Nat} {Qp : Int → fb_St → Prop} {st : List Value}
    (hM : fb_MI l G y bytes maxL ret rm As σ Qp) (ml : fb_LS own index y bytes maxL ret n) (hR : rm.cells = 0 ∧ rm.slots = 0 ∧ rm.frames + 1 ≤ R.frames ∧ 8 + (maxL + 11) + rm.locals ≤ R.locals ∧ cells ≤ R.cells ∧ slots ≤ R.slots)
    (hn : As.length = n) (hl : ls.size = nL) (hst : st = As.reverse ++ rest) (hrs : (rest.map fun v => v.category).sum ≤ 8) (hdg : decode cc pc = .ok (.invokestatic index, 3))
    (kk : ∀ (r : Int) (σ1 : fb_St) (H1 : Heap) (locs1 : List Loc), Qp r σ1 → fb_in r → fb_Wd G s σ1 H1 locs1 → W p l e R s m args below meth c H1 locs1 cells slots Q (F0 m (pc + 3) ls (.int (fb_I r) :: rest))) : W p l e R s m args below meth c H locs cells slots Q (F0 m pc ls st) := by
  refine va_calli (va_runS (As := As) (rest := rest) (n := n) C.1 (hM H.size) (va_cwS n C.1.2.2.2.2 ml.good rfl hR.1 hR.2.1 ml.2 ⟨hR.2.2.1, hR.2.2.2.1⟩) ⟨fb_blind _ _, fun U hU hW => fb_pre C w U hU hW⟩ rfl hn hl hst (lv_room hrs) hdg ⟨hR.2.2.2.2.1, hR.2.2.2.2.2⟩) w.2.2.1 (fun q _ h => fb_A_mono w q h) (fb_A_mono w) (fun r u t H1 locs1 ht hvm hw hB hz1 hk1 hS => ?_)
  obtain ⟨rfl, hin, hq⟩ := hw
  exact kk u.1 u.2 H1 locs1 hq hin (fb_back (A0 := fun _ => True) ht hB hS)
def fb_LN (y : MethodName) (cc : ByteArray) (nL : Nat) (ret : Option FieldType) (n : Nat) : Prop :=
  (∀ w ∈ ([.static y, .initialized y.cls, .code y cc nL ret] : List Cond), w ∈ fb_tb) ∧ (y.cls ≠ "java/lang/invoke/MethodHandle" ∧ y.cls ≠ "java/lang/invoke/VarHandle" ∧ (parseMethodDescriptor y.desc).map (fun d => d.parameters.length) = some n)
theorem fb_callNi (C : fb_C p s m args meth c G own cc nL) (w : fb_Wd G s σ H locs) {y : MethodName} {bytes : ByteArray} {maxL : Nat} {ret : Option FieldType} {rm : Room} {As : List Value} {index n : Nat} {host : String} {Qp : Int → fb_St → Prop} {st : List Value} (hN : va_Nw (.methodLinkNest own index y host) s)
    (hM : fb_MI l G y bytes maxL ret rm As σ Qp) (ml : fb_LN y bytes maxL ret n) (hR : rm.cells = 0 ∧ rm.slots = 0 ∧ rm.frames + 1 ≤ R.frames ∧ 8 + (maxL + 11) + rm.locals ≤ R.locals ∧ cells ≤ R.cells ∧ slots ≤ R.slots)
    (hn : As.length = n) (hl : ls.size = nL) (hst : st = As.reverse ++ rest) (hrs : (rest.map fun v => v.category).sum ≤ 8) (hdg : decode cc pc = .ok (.invokestatic index, 3))
    (kk : ∀ (r : Int) (σ1 : fb_St) (H1 : Heap) (locs1 : List Loc), Qp r σ1 → fb_in r → fb_Wd G s σ1 H1 locs1 → W p l e R s m args below meth c H1 locs1 cells slots Q (F0 m (pc + 3) ls (.int (fb_I r) :: rest))) : W p l e R s m args below meth c H locs cells slots Q (F0 m pc ls st) := by
  have hG : GoodIn fb_tb (.code y bytes maxL ret :: fb_tb) := fb_good (fun w hw => by
    rcases List.mem_cons.mp hw with h | h
    · rw [h]; exact ml.1 _ (by simp)
    · exact h)
  refine va_calli (va_runSN (As := As) (rest := rest) (n := n) C.1 (hM H.size) ⟨va_cnB n C.1.2.2.2.2 hG rfl hR.1 hR.2.1 hN (C.1.2.2.2.2 _ (ml.1 _ (by simp))) ml.2 ⟨hR.2.2.1, hR.2.2.2.1⟩, C.1.2.2.2.2 _ (ml.1 _ (by simp)), trivial⟩ ⟨fb_blind _ _, fun U hU hW => fb_pre C w U hU hW⟩ rfl hn hl hst (lv_room hrs) hdg ⟨hR.2.2.2.2.1, hR.2.2.2.2.2⟩) w.2.2.1 (fun q _ h => fb_A_mono w q h) (fb_A_mono w) (fun r u t H1 locs1 ht hvm hw hB hz1 hk1 hS => ?_)
  obtain ⟨rfl, hin, hq⟩ := hw
  exact kk u.1 u.2 H1 locs1 hq hin (fb_back (A0 := fun _ => True) ht hB hS)
theorem fb_callSv (C : fb_C p s m args meth c G own cc nL) (w : fb_Wd G s σ H locs) {y : MethodName} {bytes : ByteArray} {maxL : Nat} {rm : Room} {As : List Value} {index n : Nat} {Qp : Int → fb_St → Prop} {st : List Value}
    (hM : fb_MV l G y bytes maxL rm As σ Qp) (ml : fb_LS own index y bytes maxL none n) (hR : rm.cells = 0 ∧ rm.slots = 0 ∧ rm.frames + 1 ≤ R.frames ∧ 8 + (maxL + 11) + rm.locals ≤ R.locals ∧ cells ≤ R.cells ∧ slots ≤ R.slots)
    (hn : As.length = n) (hl : ls.size = nL) (hst : st = As.reverse ++ rest) (hrs : (rest.map fun v => v.category).sum ≤ 8) (hdg : decode cc pc = .ok (.invokestatic index, 3))
    (kk : ∀ (σ1 : fb_St) (H1 : Heap) (locs1 : List Loc), Qp 0 σ1 → fb_Wd G s σ1 H1 locs1 → W p l e R s m args below meth c H1 locs1 cells slots Q (F0 m (pc + 3) ls rest)) : W p l e R s m args below meth c H locs cells slots Q (F0 m pc ls st) := by
  refine va_callv (va_runS (As := As) (rest := rest) (n := n) C.1 (hM H.size) (va_cwS n C.1.2.2.2.2 ml.good rfl hR.1 hR.2.1 ml.2 ⟨hR.2.2.1, hR.2.2.2.1⟩) ⟨fb_blind _ _, fun U hU hW => fb_pre C w U hU hW⟩ rfl hn hl hst (lv_room hrs) hdg ⟨hR.2.2.2.2.1, hR.2.2.2.2.2⟩) w.2.2.1 (fun q _ h => fb_A_mono w q h) (fb_A_mono w) (fun u t H1 locs1 ht hvm hw hB hz1 hk1 hS => ?_)
  exact kk u H1 locs1 hw (fb_back (A0 := fun _ => True) ht hB hS)
end FBC
end
section
/-! ===== Math, arraycopy, fill ===== -/
def fb_LM (own : String) (index : Nat) (y : MethodName) (cc : ByteArray) (nL : Nat) : Prop :=
  (Cond.methodLink own index y ∈ fb_tb) ∧ (Cond.static y ∈ fb_tb) ∧ (Cond.initialized "java/lang/Math" ∈ fb_tb) ∧ (Cond.code y cc nL (some .int) ∈ fb_tb)
def fb_LC (own : String) (index : Nat) : Prop :=
  (Cond.methodLink own index arraycopyName ∈ fb_tb) ∧ (Cond.native arraycopyName ∈ fb_tb) ∧ (Cond.static arraycopyName ∈ fb_tb) ∧ (Cond.initialized "java/lang/System" ∈ fb_tb)
theorem fb_arrV_cong {cI : ClassId} {N : Nat} {f g : Nat → Value} (h : ∀ j, j < N → f j = g j) : arrV cI N f = arrV cI N g := by
  have : (fun j : Fin N => f j.val) = fun j => g j.val := funext fun j => h j.val j.isLt
  unfold arrV
  rw [this]
theorem fb_Wd_cong {G : fb_G} {s : State} {σ : fb_St} {H : Heap} {locs : List Loc} {k n : Nat} {r r' : Int → Int} (hk : (fb_cl G)[k]? = some (fb_arI G n)) (he : ∀ j : Int, 0 ≤ j → j < n → r j = r' j) (hr : ∀ j, fb_in (r' j)) (w : fb_Wd G s (fb_row σ k r) H locs) (hs : ∀ k i, fb_in (σ k i)) : fb_Wd G s (fb_row σ k r') H locs := by
  have e1 := fb_W_set (σ := σ) hk r
  have e2 := fb_W_set (σ := σ) hk r'
  have hat := fb_W_at (σ := σ) hk
  obtain ⟨a1, a2, a3, a4⟩ := w
  rw [← e1] at a1 a2
  refine ⟨?_, ?_, a3, fb_row_in hs hr⟩
  · rw [← e2]
    intro q c hq
    rw [List.getElem?_set] at hq
    by_cases h : k = q
    · subst h
      rw [if_pos rfl] at hq
      split at hq
      · rename_i hl
        cases hq
        have h1 := a1 k (fb_ad G k, fb_arI G n r) (by rw [List.getElem?_set, if_pos rfl, if_pos hl])
        have h2 : H[fb_ad G k]? = some (vp_cell G.2.2.1 (n, .inl fun j => fb_I (r (j : Int)))) := h1
        have h3 : vp_cell G.2.2.1 (n, .inl fun j => fb_I (r (j : Int))) = vp_cell G.2.2.1 (n, .inl fun j => fb_I (r' (j : Int))) := by
          rw [vp_cell_i, vp_cell_i]
          exact fb_arrV_cong (fun j hj => by rw [he j (by omega) (by omega)])
        rw [h3] at h2
        exact h2
      · cases hq
    · rw [if_neg h] at hq
      exact a1 q c (by rw [List.getElem?_set, if_neg h]; exact hq)
  · rw [← e2]
    have hlen : k < (fb_W G σ).length := (List.getElem?_eq_some_iff.mp hat).1
    refine ⟨?_, ?_⟩
    · intro i j x y hx hy hxy
      obtain ⟨_, hx2⟩ := fb_W_addr (σ := fb_row σ k r') (by rw [← e2]; exact hx)
      obtain ⟨_, hy2⟩ := fb_W_addr (σ := fb_row σ k r') (by rw [← e2]; exact hy)
      have hg : ∀ (i : Nat) (x : Nat × va_E), ((fb_W G σ).set k (fb_ad G k, fb_arI G n r'))[i]? = some x → ∃ x', ((fb_W G σ).set k (fb_ad G k, fb_arI G n r))[i]? = some x' ∧ x'.1 = x.1 := by
        intro i x hx
        rw [List.getElem?_set] at hx
        rw [List.getElem?_set]
        by_cases h : k = i
        · rw [if_pos h] at hx ⊢
          split at hx
          · rename_i hl; rw [if_pos hl]; cases hx; exact ⟨_, rfl, rfl⟩
          · rename_i hl; exact absurd hlen hl
        · rw [if_neg h] at hx ⊢; exact ⟨x, hx, rfl⟩
      obtain ⟨x', h1, h2⟩ := hg i x hx
      obtain ⟨y', h3, h4⟩ := hg j y hy
      exact a2.1 i j x' y' h1 h3 (by rw [h2, h4]; exact hxy)
    · intro i x hx
      obtain ⟨h1, h2⟩ := fb_W_addr (σ := fb_row σ k r') (by rw [← e2]; exact hx)
      exact Or.inl ⟨i, h1, h2⟩
section FBJ
variable {p : Program} {l : Launch} {e : Env} {R : Room} {s : State} {m : MethodId} {args : Array Value} {below : List Frame} {meth : Method} {c : Code} {H : Heap} {locs : List Loc} {cells slots : Nat} {Q : State → Prop}
variable {cc : ByteArray} {pc nL : Nat} {ls : Array Slot} {rest : List Value} {own : String} {G : fb_G} {σ : fb_St}
theorem fb_mmax (C : fb_C p s m args meth c G own cc nL) {a b : Int} (ia : fb_in a) (ib : fb_in b) {index : Nat} (ml : fb_LM own index Lib.Math.max.name Lib.Math.max.code 2) (hR : 1 ≤ R.frames ∧ (rest.map fun v => v.category).sum + 13 ≤ R.locals ∧ cells ≤ R.cells ∧ slots ≤ R.slots) (hl : ls.size = nL) (hdg : decode cc pc = .ok (.invokestatic index, 3))
    (kk : W p l e R s m args below meth c H locs cells slots Q (F0 m (pc + 3) ls (.int (fb_I (max a b)) :: rest))) : W p l e R s m args below meth c H locs cells slots Q (F0 m pc ls (.int (fb_I b) :: .int (fb_I a) :: rest)) := by
  refine va_mmax C.1.1 C.1.2.1 (C.1.2.2.1.trans hl.symm) C.1.2.2.2.1 (C.1.2.2.2.2 _ ml.1) (C.1.2.2.2.2 _ ml.2.1) (C.1.2.2.2.2 _ ml.2.2.1) (C.1.2.2.2.2 _ ml.2.2.2) hR.1 hR.2.1 hR.2.2.1 hR.2.2.2 hdg ?_
  have e1 : (if fb_I a < fb_I b then fb_I b else fb_I a) = fb_I (max a b) := by
    by_cases h : a < b
    · rw [if_pos ((fb_I_lt ia ib).mpr h), show max a b = b by omega]
    · rw [if_neg (fun q => h ((fb_I_lt ia ib).mp q)), show max a b = a by omega]
  rw [e1]
  exact kk
theorem fb_mmin (C : fb_C p s m args meth c G own cc nL) {a b : Int} (ia : fb_in a) (ib : fb_in b) {index : Nat} (ml : fb_LM own index Lib.Math.min.name Lib.Math.min.code 2) (hR : 1 ≤ R.frames ∧ (rest.map fun v => v.category).sum + 13 ≤ R.locals ∧ cells ≤ R.cells ∧ slots ≤ R.slots) (hl : ls.size = nL) (hdg : decode cc pc = .ok (.invokestatic index, 3))
    (kk : W p l e R s m args below meth c H locs cells slots Q (F0 m (pc + 3) ls (.int (fb_I (min a b)) :: rest))) : W p l e R s m args below meth c H locs cells slots Q (F0 m pc ls (.int (fb_I b) :: .int (fb_I a) :: rest)) := by
  refine va_mmin C.1.1 C.1.2.1 (C.1.2.2.1.trans hl.symm) C.1.2.2.2.1 (C.1.2.2.2.2 _ ml.1) (C.1.2.2.2.2 _ ml.2.1) (C.1.2.2.2.2 _ ml.2.2.1) (C.1.2.2.2.2 _ ml.2.2.2) hR.1 hR.2.1 hR.2.2.1 hR.2.2.2 hdg ?_
  have e1 : (if fb_I b < fb_I a then fb_I b else fb_I a) = fb_I (min a b) := by
    by_cases h : b < a
    · rw [if_pos ((fb_I_lt ib ia).mpr h), show min a b = b by omega]
    · rw [if_neg (fun q => h ((fb_I_lt ib ia).mp q)), show min a b = a by omega]
  rw [e1]
  exact kk
theorem fb_mabs (C : fb_C p s m args meth c G own cc nL) {a : Int} (ia : fb_in a) {index : Nat} (ml : fb_LM own index Lib.Math.abs.name Lib.Math.abs.code 1) (hR : 1 ≤ R.frames ∧ (rest.map fun v => v.category).sum + 13 ≤ R.locals ∧ cells ≤ R.cells ∧ slots ≤ R.slots) (hl : ls.size = nL) (hdg : decode cc pc = .ok (.invokestatic index, 3))
    (kk : W p l e R s m args below meth c H locs cells slots Q (F0 m (pc + 3) ls (.int (fb_I (max a (-a))) :: rest))) : W p l e R s m args below meth c H locs cells slots Q (F0 m pc ls (.int (fb_I a) :: rest)) := by
  refine va_mabs C.1.1 C.1.2.1 (C.1.2.2.1.trans hl.symm) C.1.2.2.2.1 (C.1.2.2.2.2 _ ml.1) (C.1.2.2.2.2 _ ml.2.1) (C.1.2.2.2.2 _ ml.2.2.1) (C.1.2.2.2.2 _ ml.2.2.2) hR.1 hR.2.1 hR.2.2.1 hR.2.2.2 hdg ?_
  have e1 : (if (0 : Int32) ≤ fb_I a then fb_I a else 0 - fb_I a) = fb_I (max a (-a)) := by
    rw [fb_I_0]
    by_cases h : 0 ≤ a
    · rw [if_pos ((fb_I_le fb_in0 ia).mpr h), show max a (-a) = a by omega]
    · rw [if_neg (fun q => h ((fb_I_le fb_in0 ia).mp q)), fb_I_sub, show max a (-a) = 0 - a by omega]
  rw [e1]
  exact kk
theorem fb_copy (C : fb_C p s m args meth c G own cc nL) (w : fb_Wd G s σ H locs) {ka kb na nb : Nat} (hka : (fb_cl G)[ka]? = some (fb_arI G na)) (hkb : (fb_cl G)[kb]? = some (fb_arI G nb)) {n : Int} (h0 : 0 ≤ n) (h1 : n ≤ na) (h2 : n ≤ nb) (hn : na < 2147483648) {index : Nat} (ml : fb_LC own index)
    (hR : 1 ≤ R.frames ∧ (rest.map fun v => v.category).sum + (nativeFrameWords "java/lang/System" "arraycopy" 5 + 11) ≤ R.locals) (hl : ls.size = nL) (hdg : decode cc pc = .ok (.invokestatic index, 3))
    (kk : ∀ (H1 : Heap) (locs1 : List Loc), fb_Wd G s (fb_cp σ ka kb n) H1 locs1 → W p l e R s m args below meth c H1 locs1 cells slots Q (F0 m (pc + 3) ls rest)) : W p l e R s m args below meth c H locs cells slots Q (F0 m pc ls (.int (fb_I n) :: .int (fb_I 0) :: .ref (fb_ad G kb) :: .int (fb_I 0) :: .ref (fb_ad G ka) :: rest)) := by
  have hz : (fb_I 0).toNatClampNeg = 0 := by decide
  have hnn : (fb_I n).toNatClampNeg = n.toNat := fb_I_nat h0 (by omega)
  refine va_copyi (ty := .int) C.1.1 C.1.2.1 (C.1.2.2.1.trans hl.symm) C.1.2.2.2.1 (C.1.2.2.2.2 _ ml.1) (C.1.2.2.2.2 _ ml.2.1) (C.1.2.2.2.2 _ ml.2.2.1) (C.1.2.2.2.2 _ ml.2.2.2) C.2.2 w.1 w.2.1 w.2.2.1 ka kb 0 0 (fb_W_at hka) (fb_W_at hkb) rfl rfl rfl (by decide) (by decide) (by rw [fb_I_0, fb_I_lt ⟨by omega, by omega⟩ fb_in0]; omega) (by rw [hz, hnn]; omega) (by rw [hz, hnn]; omega) (fun i hi => rfl) hR.1 hR.2 hdg (fun H1 locs1 a1 a2 a3 => ?_)
  have hu : va_cpy (fun j : Nat => fb_I (σ ka (j : Int))) (fun j : Nat => fb_I (σ kb (j : Int))) (fb_I 0).toNatClampNeg (fb_I 0).toNatClampNeg (fb_I n).toNatClampNeg = fun j : Nat => fb_I ((fun q => if 0 ≤ q ∧ q < n then σ ka q else σ kb q) (j : Int)) := by
    rw [hz, hnn]
    funext j
    by_cases h : j < n.toNat
    · rw [pk_cpy_in (by omega) (by omega)]
      have : (0 ≤ (j : Int) ∧ (j : Int) < n) := by omega
      simp [this]
    · rw [pk_cpy_out (by omega)]
      have : ¬ (0 ≤ (j : Int) ∧ (j : Int) < n) := by omega
      simp only [this, if_false]
  have he : (fb_W G σ).set kb (fb_ad G kb, Sum.inl (G.2.2.1, nb, Sum.inl fun j : Nat => fb_I ((fun q => if 0 ≤ q ∧ q < n then σ ka q else σ kb q) (j : Int)))) = fb_W G (fb_cp σ ka kb n) := fb_W_set hkb (fun q => if 0 ≤ q ∧ q < n then σ ka q else σ kb q)
  rw [hu, he] at a1 a2
  exact kk H1 locs1 ⟨a1, a2, a3, fb_row_in w.2.2.2 (fun j => by split; exact w.2.2.2 ka j; exact w.2.2.2 kb j)⟩
end FBJ
def rm_fill : Room := { frames := 0, cells := 0, slots := 0, locals := 0 }
theorem fb_fill_loop {p : Program} {l : Launch} {e : Env} {s : State} {m : MethodId} {args : Array Value} {below : List Frame} {meth : Method} {c : Code} {Qm : State → Prop} {Qp : Int → fb_St → Prop} {G : fb_G} {k n : Nat} (C : fb_C p s m args meth c G RJ7 cJ7_fill_53178 4) (hret : fb_RV p l e rm_fill s m args below meth c G cJ7_fill_53178 Qm Qp) (hk : (fb_cl G)[k]? = some (fb_arI G n)) (hn : n < 2147483648) {v : Int} (iv : fb_in v) {σ : fb_St} (hq : Qp 0 (fb_fill σ k v)) (hs : ∀ k i, fb_in (σ k i)) :
    ∀ (d i : Nat), i ≤ n → n ≤ i + d → ∀ (H : Heap) (locs : List Loc) (ls : Array Slot), fb_Wd G s (fb_row σ k (fun j => if 0 ≤ j ∧ j < i then v else σ k j)) H locs → lv_has ls 4 [(0, .ref (fb_ad G k)), (1, .int (fb_I v)), (2, .int (fb_I i)), (3, .int (fb_I n))] → W p l e rm_fill s m args below meth c H locs 0 0 Qm (F0 m 5 ls []) := by
  intro d
  induction d with
  | zero =>
    intro i h1 h2 H locs ls w hl
    have : i = n := by omega
    subst this
    refine lv_iload_n C.1.1 C.1.2.1 dJ7_fill_53178_5 rfl (lv_at hl 2 rfl) ?_
    refine lv_iload_n C.1.1 C.1.2.1 dJ7_fill_53178_6 rfl (lv_at hl 3 rfl) ?_
    refine fb_icmp_ge (tgt := 20) C ⟨by omega, by omega⟩ ⟨by omega, by omega⟩ dJ7_fill_53178_7 (by decide) (fun c1 => ?_) (fun c1 => ?_)
    · exact hret _ _ _ _ _ hq (fb_Wd_cong hk (fun j h1 h2 => by rw [if_pos ⟨h1, h2⟩]) (fun _ => iv) w hs) dJ7_fill_53178_20
    · exact absurd c1 (by omega)
  | succ d ih =>
    intro i h1 h2 H locs ls w hl
    refine lv_iload_n C.1.1 C.1.2.1 dJ7_fill_53178_5 rfl (lv_at hl 2 rfl) ?_
    refine lv_iload_n C.1.1 C.1.2.1 dJ7_fill_53178_6 rfl (lv_at hl 3 rfl) ?_
    refine fb_icmp_ge (tgt := 20) C ⟨by omega, by omega⟩ ⟨by omega, by omega⟩ dJ7_fill_53178_7 (by decide) (fun c1 => ?_) (fun c1 => ?_)
    · exact hret _ _ _ _ _ hq (fb_Wd_cong hk (fun j h1 h2 => by rw [if_pos ⟨h1, by omega⟩]) (fun _ => iv) w hs) dJ7_fill_53178_20
    · refine lv_aload_n C.1.1 C.1.2.1 dJ7_fill_53178_10 rfl (lv_at hl 0 rfl) ?_
      refine lv_iload_n C.1.1 C.1.2.1 dJ7_fill_53178_11 rfl (lv_at hl 2 rfl) ?_
      refine lv_iload_n C.1.1 C.1.2.1 dJ7_fill_53178_12 rfl (lv_at hl 1 rfl) ?_
      refine fb_ast C w hk iv (by omega) (by omega) hn dJ7_fill_53178_13 (fun H1 locs1 w1 => ?_)
      refine fb_iinc (b := ((i + 1 : Nat) : Int)) (k := 2) (lv' := [(2, .int (fb_I ((i + 1 : Nat) : Int))), (0, .ref (fb_ad G k)), (1, .int (fb_I v)), (3, .int (fb_I n))]) C dJ7_fill_53178_14 hl rfl (by omega) (by decide) rfl (fun ls hl => ?_)
      refine lv_goto (tgt := 5) C.1.1 C.1.2.1 dJ7_fill_53178_17 (by decide) ?_
      refine ih (i + 1) (by omega) (by omega) H1 locs1 ls ?_ (lv_sub hl [1, 2, 0, 3] rfl)
      have e1 : fb_up (fb_row σ k (fun j => if 0 ≤ j ∧ j < (i : Int) then v else σ k j)) k i v = fb_row σ k (fun j => if 0 ≤ j ∧ j < ((i + 1 : Nat) : Int) then v else σ k j) := by
        funext k' j
        simp only [fb_up, fb_row]
        by_cases hk' : k' = k
        · simp only [hk', if_true]
          by_cases hj : j = (i : Int)
          · have : 0 ≤ j ∧ j < ((i + 1 : Nat) : Int) := by omega
            rw [if_pos hj, if_pos this]
          · rw [if_neg hj]
            by_cases h : 0 ≤ j ∧ j < (i : Int)
            · rw [if_pos h, if_pos (by omega)]
            · rw [if_neg h, if_neg (by omega)]
        · simp only [hk', if_false]
      rw [← e1]
      exact w1
theorem fb_fillM (l : Launch) (G : fb_G) {k n : Nat} (hk : (fb_cl G)[k]? = some (fb_arI G n)) (hn : n < 2147483648) {v : Int} (iv : fb_in v) {σ : fb_St} {Qp : Int → fb_St → Prop} (hq : Qp 0 (fb_fill σ k v)) : fb_MV l G yJ7_fill_53178 cJ7_fill_53178 4 rm_fill [.ref (fb_ad G k), .int (fb_I v)] σ Qp := by
  refine fb_ofW (own := RJ7) (by decide) (Nat.le_of_ble_eq_true rfl) rfl (fun p e s m args below meth c ls C hr hl w => ?_)
  have hret := fb_retv (p := p) (l := l) (e := e) (R := rm_fill) (below := below) (Qp := Qp) C hr
  refine fb_iconst C dJ7_fill_53178_0 ?_
  refine lv_istore_n (lv' := [(2, .int (fb_I 0)), (0, .ref (fb_ad G k)), (1, .int (fb_I v))]) C.1.1 C.1.2.1 dJ7_fill_53178_1 rfl hl (by decide) rfl (fun ls hl => ?_)
  refine lv_aload_n C.1.1 C.1.2.1 dJ7_fill_53178_2 rfl (lv_at hl 1 rfl) ?_
  refine va_alen (v := fb_I n) C.1.1 C.1.2.1 C.2.2 w.1 k 0 (fb_W_at hk) rfl (fb_I_ofNat n) dJ7_fill_53178_3 ?_
  refine lv_istore_n (lv' := [(3, .int (fb_I n)), (2, .int (fb_I 0)), (0, .ref (fb_ad G k)), (1, .int (fb_I v))]) C.1.1 C.1.2.1 dJ7_fill_53178_4 rfl hl (by decide) rfl (fun ls hl => ?_)
  refine fb_fill_loop C hret hk hn iv hq w.2.2.2 n 0 (Nat.zero_le n) (by omega) _ _ ls ?_ (lv_sub hl [2, 3, 1, 0] rfl)
  have e1 : fb_row σ k (fun j => if 0 ≤ j ∧ j < ((0 : Nat) : Int) then v else σ k j) = σ := by
    funext k' j
    simp only [fb_row]
    by_cases hk' : k' = k
    · rw [if_pos hk', if_neg (by omega), hk']
    · rw [if_neg hk']
  rw [e1]
  exact w
end
section
/-! ===== short forms for the laid rows ===== -/
def fb_Lp {β : Type} (bot : β) (body : β → β) : Nat → β
  | 0 => bot
  | n + 1 => body (fb_Lp bot body n)
theorem fb_ie {x y : Int} (e : x = y) (h : fb_in y) : fb_in x := by rw [e]; exact h
theorem fb_in_max {x y : Int} (hx : fb_in x) (hy : fb_in y) : fb_in (max x y) := ⟨by have := hx.1; have := hy.1; omega, by have := hx.2; have := hy.2; omega⟩
theorem fb_in_min {x y : Int} (hx : fb_in x) (hy : fb_in y) : fb_in (min x y) := ⟨by have := hx.1; have := hy.1; omega, by have := hx.2; have := hy.2; omega⟩
theorem fb_k0 (G : fb_G) : (fb_cl G)[0]? = some (fb_ob G 6 [some 1, some 5, some 8, some 17, some 29, some 41, none, none, none, none, none]) := rfl
theorem fb_k1 (G : fb_G) : (fb_cl G)[1]? = some (fb_ob G 5 [none, none, none, some 2, some 3, some 4]) := rfl
theorem fb_k2 (G : fb_G) : (fb_cl G)[2]? = some (fb_arI G 144) := rfl
theorem fb_k3 (G : fb_G) : (fb_cl G)[3]? = some (fb_arI G 144) := rfl
theorem fb_k4 (G : fb_G) : (fb_cl G)[4]? = some (fb_arI G 576) := rfl
theorem fb_k5 (G : fb_G) : (fb_cl G)[5]? = some (fb_ob G 4 [none, some 6, some 7]) := rfl
theorem fb_k6 (G : fb_G) : (fb_cl G)[6]? = some (fb_arI G 144) := rfl
theorem fb_k7 (G : fb_G) : (fb_cl G)[7]? = some (fb_arI G 144) := rfl
theorem fb_k8 (G : fb_G) : (fb_cl G)[8]? = some (fb_ob G 0 [some 9, some 10, some 11, some 12, some 13]) := rfl
theorem fb_k9 (G : fb_G) : (fb_cl G)[9]? = some (fb_arI G 144) := rfl
theorem fb_k10 (G : fb_G) : (fb_cl G)[10]? = some (fb_arI G 144) := rfl
theorem fb_k11 (G : fb_G) : (fb_cl G)[11]? = some (fb_arI G 144) := rfl
theorem fb_k12 (G : fb_G) : (fb_cl G)[12]? = some (fb_arI G 100) := rfl
theorem fb_k13 (G : fb_G) : (fb_cl G)[13]? = some (fb_ob G 2 [some 14, some 15, some 16, none]) := rfl
theorem fb_k14 (G : fb_G) : (fb_cl G)[14]? = some (fb_arI G 100) := rfl
theorem fb_k15 (G : fb_G) : (fb_cl G)[15]? = some (fb_arI G 100) := rfl
theorem fb_k16 (G : fb_G) : (fb_cl G)[16]? = some (fb_arI G 144) := rfl
theorem fb_k17 (G : fb_G) : (fb_cl G)[17]? = some (fb_ob G 3 (fb_pour 17)) := rfl
theorem fb_k18 (G : fb_G) : (fb_cl G)[18]? = some (fb_arI G 144) := rfl
theorem fb_k19 (G : fb_G) : (fb_cl G)[19]? = some (fb_arI G 100) := rfl
theorem fb_k20 (G : fb_G) : (fb_cl G)[20]? = some (fb_arI G 100) := rfl
theorem fb_k21 (G : fb_G) : (fb_cl G)[21]? = some (fb_arI G 100) := rfl
theorem fb_k22 (G : fb_G) : (fb_cl G)[22]? = some (fb_arI G 100) := rfl
theorem fb_k23 (G : fb_G) : (fb_cl G)[23]? = some (fb_arI G 100) := rfl
theorem fb_k24 (G : fb_G) : (fb_cl G)[24]? = some (fb_arI G 99) := rfl
theorem fb_k25 (G : fb_G) : (fb_cl G)[25]? = some (fb_arI G 99) := rfl
theorem fb_k26 (G : fb_G) : (fb_cl G)[26]? = some (fb_arI G 99) := rfl
theorem fb_k27 (G : fb_G) : (fb_cl G)[27]? = some (fb_arI G 99) := rfl
theorem fb_k28 (G : fb_G) : (fb_cl G)[28]? = some (fb_arI G 144) := rfl
theorem fb_k29 (G : fb_G) : (fb_cl G)[29]? = some (fb_ob G 3 (fb_pour 29)) := rfl
theorem fb_k30 (G : fb_G) : (fb_cl G)[30]? = some (fb_arI G 144) := rfl
theorem fb_k31 (G : fb_G) : (fb_cl G)[31]? = some (fb_arI G 100) := rfl
theorem fb_k32 (G : fb_G) : (fb_cl G)[32]? = some (fb_arI G 100) := rfl
theorem fb_k33 (G : fb_G) : (fb_cl G)[33]? = some (fb_arI G 100) := rfl
theorem fb_k34 (G : fb_G) : (fb_cl G)[34]? = some (fb_arI G 100) := rfl
theorem fb_k35 (G : fb_G) : (fb_cl G)[35]? = some (fb_arI G 100) := rfl
theorem fb_k36 (G : fb_G) : (fb_cl G)[36]? = some (fb_arI G 99) := rfl
theorem fb_k37 (G : fb_G) : (fb_cl G)[37]? = some (fb_arI G 99) := rfl
theorem fb_k38 (G : fb_G) : (fb_cl G)[38]? = some (fb_arI G 99) := rfl
theorem fb_k39 (G : fb_G) : (fb_cl G)[39]? = some (fb_arI G 99) := rfl
theorem fb_k40 (G : fb_G) : (fb_cl G)[40]? = some (fb_arI G 144) := rfl
theorem fb_k41 (G : fb_G) : (fb_cl G)[41]? = some (fb_arQ G) := rfl
theorem fb_k42 (G : fb_G) : (fb_cl G)[42]? = some (fb_ob G 1 (fb_img 42)) := rfl
theorem fb_k43 (G : fb_G) : (fb_cl G)[43]? = some (fb_arI G 144) := rfl
theorem fb_k44 (G : fb_G) : (fb_cl G)[44]? = some (fb_arI G 144) := rfl
theorem fb_k45 (G : fb_G) : (fb_cl G)[45]? = some (fb_ob G 1 (fb_img 45)) := rfl
theorem fb_k46 (G : fb_G) : (fb_cl G)[46]? = some (fb_arI G 144) := rfl
theorem fb_k47 (G : fb_G) : (fb_cl G)[47]? = some (fb_arI G 144) := rfl
theorem fb_k48 (G : fb_G) : (fb_cl G)[48]? = some (fb_ob G 7 [some 49, some 50, some 51, some 52, some 53, some 54, some 55, some 56, some 57, some 58, some 59, none, some 60, some 61, some 62, some 63, some 64, none, some 65, some 66]) := rfl
theorem fb_k49 (G : fb_G) : (fb_cl G)[49]? = some (fb_arI G 292) := rfl
theorem fb_k50 (G : fb_G) : (fb_cl G)[50]? = some (fb_arI G 584) := rfl
theorem fb_k51 (G : fb_G) : (fb_cl G)[51]? = some (fb_arZ G 2) := rfl
theorem fb_k52 (G : fb_G) : (fb_cl G)[52]? = some (fb_arI G 144) := rfl
theorem fb_k53 (G : fb_G) : (fb_cl G)[53]? = some (fb_arI G 144) := rfl
theorem fb_k54 (G : fb_G) : (fb_cl G)[54]? = some (fb_arZ G 144) := rfl
theorem fb_k55 (G : fb_G) : (fb_cl G)[55]? = some (fb_arI G 144) := rfl
theorem fb_k56 (G : fb_G) : (fb_cl G)[56]? = some (fb_arI G 144) := rfl
theorem fb_k57 (G : fb_G) : (fb_cl G)[57]? = some (fb_arI G 144) := rfl
theorem fb_k58 (G : fb_G) : (fb_cl G)[58]? = some (fb_arI G 144) := rfl
theorem fb_k59 (G : fb_G) : (fb_cl G)[59]? = some (fb_arZ G 144) := rfl
theorem fb_k60 (G : fb_G) : (fb_cl G)[60]? = some (fb_arI G 144) := rfl
theorem fb_k61 (G : fb_G) : (fb_cl G)[61]? = some (fb_arI G 100) := rfl
theorem fb_k62 (G : fb_G) : (fb_cl G)[62]? = some (fb_arI G 100) := rfl
theorem fb_k63 (G : fb_G) : (fb_cl G)[63]? = some (fb_arI G 100) := rfl
theorem fb_k64 (G : fb_G) : (fb_cl G)[64]? = some (fb_arI G 100) := rfl
theorem fb_k65 (G : fb_G) : (fb_cl G)[65]? = some (fb_arI G 100) := rfl
theorem fb_k66 (G : fb_G) : (fb_cl G)[66]? = some (fb_arI G 144) := rfl
theorem fb_pk0 (G : fb_G) {pp : Nat} (h : pp = 17 ∨ pp = 29) : (fb_cl G)[pp]? = some (fb_ob G 3 (fb_pour pp)) := by rcases h with rfl | rfl <;> rfl
theorem fb_pk1 (G : fb_G) {pp : Nat} (h : pp = 17 ∨ pp = 29) : (fb_cl G)[pp+1]? = some (fb_arI G 144) := by rcases h with rfl | rfl <;> rfl
theorem fb_pk2 (G : fb_G) {pp : Nat} (h : pp = 17 ∨ pp = 29) : (fb_cl G)[pp+2]? = some (fb_arI G 100) := by rcases h with rfl | rfl <;> rfl
theorem fb_pk3 (G : fb_G) {pp : Nat} (h : pp = 17 ∨ pp = 29) : (fb_cl G)[pp+3]? = some (fb_arI G 100) := by rcases h with rfl | rfl <;> rfl
theorem fb_pk4 (G : fb_G) {pp : Nat} (h : pp = 17 ∨ pp = 29) : (fb_cl G)[pp+4]? = some (fb_arI G 100) := by rcases h with rfl | rfl <;> rfl
theorem fb_pk5 (G : fb_G) {pp : Nat} (h : pp = 17 ∨ pp = 29) : (fb_cl G)[pp+5]? = some (fb_arI G 100) := by rcases h with rfl | rfl <;> rfl
theorem fb_pk6 (G : fb_G) {pp : Nat} (h : pp = 17 ∨ pp = 29) : (fb_cl G)[pp+6]? = some (fb_arI G 100) := by rcases h with rfl | rfl <;> rfl
theorem fb_pk7 (G : fb_G) {pp : Nat} (h : pp = 17 ∨ pp = 29) : (fb_cl G)[pp+7]? = some (fb_arI G 99) := by rcases h with rfl | rfl <;> rfl
theorem fb_pk8 (G : fb_G) {pp : Nat} (h : pp = 17 ∨ pp = 29) : (fb_cl G)[pp+8]? = some (fb_arI G 99) := by rcases h with rfl | rfl <;> rfl
theorem fb_pk9 (G : fb_G) {pp : Nat} (h : pp = 17 ∨ pp = 29) : (fb_cl G)[pp+9]? = some (fb_arI G 99) := by rcases h with rfl | rfl <;> rfl
theorem fb_pk10 (G : fb_G) {pp : Nat} (h : pp = 17 ∨ pp = 29) : (fb_cl G)[pp+10]? = some (fb_arI G 99) := by rcases h with rfl | rfl <;> rfl
theorem fb_pk11 (G : fb_G) {pp : Nat} (h : pp = 17 ∨ pp = 29) : (fb_cl G)[pp+11]? = some (fb_arI G 144) := by rcases h with rfl | rfl <;> rfl
theorem fb_gk0 (G : fb_G) {gg : Nat} (h : gg = 42 ∨ gg = 45) : (fb_cl G)[gg]? = some (fb_ob G 1 (fb_img gg)) := by rcases h with rfl | rfl <;> rfl
theorem fb_gk1 (G : fb_G) {gg : Nat} (h : gg = 42 ∨ gg = 45) : (fb_cl G)[gg+1]? = some (fb_arI G 144) := by rcases h with rfl | rfl <;> rfl
theorem fb_gk2 (G : fb_G) {gg : Nat} (h : gg = 42 ∨ gg = 45) : (fb_cl G)[gg+2]? = some (fb_arI G 144) := by rcases h with rfl | rfl <;> rfl
section FBS
variable {p : Program} {l : Launch} {e : Env} {R : Room} {s : State} {m : MethodId} {args : Array Value} {below : List Frame} {meth : Method} {c : Code} {H : Heap} {locs : List Loc} {cells slots : Nat} {Q : State → Prop}
variable {cc : ByteArray} {pc nL : Nat} {ls : Array Slot} {rest : List Value} {own : String} {G : fb_G} {σ : fb_St}
theorem fb_top {x : Int} (k : ∀ y : Int, y = x → W p l e R s m args below meth c H locs cells slots Q (F0 m pc ls (.int (fb_I y) :: rest))) : W p l e R s m args below meth c H locs cells slots Q (F0 m pc ls (.int (fb_I x) :: rest)) := k x rfl
theorem fb_gi (C : fb_C p s m args meth c G own cc nL) (w : fb_Wd G s σ H locs) (ji : Int) {k ci j index : Nat} {fs : List (Option Nat)} {Cn : String} {T : u_T} {N : Nat} (hk : (fb_cl G)[k]? = some (fb_ob G ci fs)) (hj : fs[j]? = some none) (hji : ((j : Nat) : Int) = ji) (hf : fb_FL own index ci j Cn T N) (hdg : decode cc pc = .ok (.getfield index, 3))
    (kk : W p l e R s m args below meth c H locs cells slots Q (F0 m (pc + 3) ls (.int (fb_I (σ k ji)) :: rest))) : W p l e R s m args below meth c H locs cells slots Q (F0 m pc ls (.ref (fb_ad G k) :: rest)) := by
  subst hji
  exact fb_geti C w hk hj hf hdg kk
theorem fb_pi (C : fb_C p s m args meth c G own cc nL) (w : fb_Wd G s σ H locs) (ji : Int) {k ci j index : Nat} {fs : List (Option Nat)} {Cn : String} {T : u_T} {N : Nat} (hk : (fb_cl G)[k]? = some (fb_ob G ci fs)) (hj : fs[j]? = some none) (hji : ((j : Nat) : Int) = ji) (hf : fb_FL own index ci j Cn T N)
    {ty0 : Nat → FieldType} (hty : ∀ k, k < N → parseFieldDescriptor (T k).2.2.1 = some (ty0 k)) (hnm : ∀ a, a < N → ∀ b, b < N → a ≠ b → (T a).2.1 ≠ (T b).2.1) (hfin : (T j).2.2.2 = false) {v : Int} (iv : fb_in v) (hn : narrow (ty0 j) (.int (fb_I v)) = .int (fb_I v)) (hfit : fits (ty0 j) (.int (fb_I v)) = true) (hdg : decode cc pc = .ok (.putfield index, 3))
    (kk : ∀ (σ1 : fb_St) (H1 : Heap) (locs1 : List Loc), σ1 = fb_up σ k ji v → fb_Wd G s σ1 H1 locs1 → W p l e R s m args below meth c H1 locs1 cells slots Q (F0 m (pc + 3) ls rest)) : W p l e R s m args below meth c H locs cells slots Q (F0 m pc ls (.int (fb_I v) :: .ref (fb_ad G k) :: rest)) := by
  subst hji
  exact fb_puti C w hk hj hf hty hnm hfin iv hn hfit hdg (fun H1 locs1 w1 => kk _ H1 locs1 rfl w1)
theorem fb_al (C : fb_C p s m args meth c G own cc nL) (w : fb_Wd G s σ H locs) {k n : Nat} (N : Int) (hk : (fb_cl G)[k]? = some (fb_arI G n)) (hN : (n : Int) = N) (hb : Nat.ble n 1000 = true) {i : Int} (h0 : 0 ≤ i) (h1 : i < N) (hdg : decode cc pc = .ok (.iaload, 1))
    (kk : W p l e R s m args below meth c H locs cells slots Q (F0 m (pc + 1) ls (.int (fb_I (σ k i)) :: rest))) : W p l e R s m args below meth c H locs cells slots Q (F0 m pc ls (.int (fb_I i) :: .ref (fb_ad G k) :: rest)) :=
  fb_ald C w hk h0 (by omega) (by have := Nat.le_of_ble_eq_true hb; omega) hdg kk
theorem fb_zl (C : fb_C p s m args meth c G own cc nL) (w : fb_Wd G s σ H locs) {k n : Nat} (N : Int) (hk : (fb_cl G)[k]? = some (fb_arZ G n)) (hN : (n : Int) = N) (hb : Nat.ble n 1000 = true) {i : Int} (h0 : 0 ≤ i) (h1 : i < N) (hdg : decode cc pc = .ok (.baload, 1))
    (kk : W p l e R s m args below meth c H locs cells slots Q (F0 m (pc + 1) ls (.int (fb_I (σ k i)) :: rest))) : W p l e R s m args below meth c H locs cells slots Q (F0 m pc ls (.int (fb_I i) :: .ref (fb_ad G k) :: rest)) :=
  fb_zald C w hk h0 (by omega) (by have := Nat.le_of_ble_eq_true hb; omega) hdg kk
theorem fb_as (C : fb_C p s m args meth c G own cc nL) (w : fb_Wd G s σ H locs) {k n : Nat} (N : Int) (hk : (fb_cl G)[k]? = some (fb_arI G n)) (hN : (n : Int) = N) (hb : Nat.ble n 1000 = true) {i v : Int} (iv : fb_in v) (h0 : 0 ≤ i) (h1 : i < N) (hdg : decode cc pc = .ok (.iastore, 1))
    (kk : ∀ (σ1 : fb_St) (H1 : Heap) (locs1 : List Loc), σ1 = fb_up σ k i v → fb_Wd G s σ1 H1 locs1 → W p l e R s m args below meth c H1 locs1 cells slots Q (F0 m (pc + 1) ls rest)) : W p l e R s m args below meth c H locs cells slots Q (F0 m pc ls (.int (fb_I v) :: .int (fb_I i) :: .ref (fb_ad G k) :: rest)) :=
  fb_ast C w hk iv h0 (by omega) (by have := Nat.le_of_ble_eq_true hb; omega) hdg (fun H1 locs1 w1 => kk _ H1 locs1 rfl w1)
theorem fb_zs (C : fb_C p s m args meth c G own cc nL) (w : fb_Wd G s σ H locs) {k n : Nat} (N : Int) (hk : (fb_cl G)[k]? = some (fb_arZ G n)) (hN : (n : Int) = N) (hb : Nat.ble n 1000 = true) {i v : Int} (iv : fb_in v) (hv : fb_B v) (h0 : 0 ≤ i) (h1 : i < N) (hdg : decode cc pc = .ok (.bastore, 1))
    (kk : ∀ (σ1 : fb_St) (H1 : Heap) (locs1 : List Loc), σ1 = fb_up σ k i v → fb_Wd G s σ1 H1 locs1 → W p l e R s m args below meth c H1 locs1 cells slots Q (F0 m (pc + 1) ls rest)) : W p l e R s m args below meth c H locs cells slots Q (F0 m pc ls (.int (fb_I v) :: .int (fb_I i) :: .ref (fb_ad G k) :: rest)) :=
  fb_zast C w hk iv hv h0 (by omega) (by have := Nat.le_of_ble_eq_true hb; omega) hdg (fun H1 locs1 w1 => kk _ H1 locs1 rfl w1)
theorem fb_cy (C : fb_C p s m args meth c G own cc nL) (w : fb_Wd G s σ H locs) {ka kb na nb : Nat} (NA NB : Int) (hka : (fb_cl G)[ka]? = some (fb_arI G na)) (hkb : (fb_cl G)[kb]? = some (fb_arI G nb)) (hNA : (na : Int) = NA) (hNB : (nb : Int) = NB) (hb : Nat.ble na 1000 = true) {n : Int} (h0 : 0 ≤ n) (h1 : n ≤ NA) (h2 : n ≤ NB) {index : Nat} (ml : fb_LC own index)
    (hR : 1 ≤ R.frames ∧ (rest.map fun v => v.category).sum + (nativeFrameWords "java/lang/System" "arraycopy" 5 + 11) ≤ R.locals) (hl : ls.size = nL) (hdg : decode cc pc = .ok (.invokestatic index, 3))
    (kk : ∀ (σ1 : fb_St) (H1 : Heap) (locs1 : List Loc), σ1 = fb_cp σ ka kb n → fb_Wd G s σ1 H1 locs1 → W p l e R s m args below meth c H1 locs1 cells slots Q (F0 m (pc + 3) ls rest)) : W p l e R s m args below meth c H locs cells slots Q (F0 m pc ls (.int (fb_I n) :: .int (fb_I 0) :: .ref (fb_ad G kb) :: .int (fb_I 0) :: .ref (fb_ad G ka) :: rest)) :=
  fb_copy C w hka hkb h0 (by omega) (by omega) (by have := Nat.le_of_ble_eq_true hb; omega) ml hR hl hdg (fun H1 locs1 w1 => kk _ H1 locs1 rfl w1)
theorem fb_q0 (C : fb_C p s m args meth c G own cc nL) (w : fb_Wd G s σ H locs) {i : Int} (h : i = 0) (hdg : decode cc pc = .ok (.aaload, 1))
    (kk : W p l e R s m args below meth c H locs cells slots Q (F0 m (pc + 1) ls (.ref (fb_ad G 42) :: rest))) : W p l e R s m args below meth c H locs cells slots Q (F0 m pc ls (.int (fb_I i) :: .ref (fb_ad G 41) :: rest)) :=
  fb_qald C w (by omega) (by omega) hdg (by rw [if_pos h]; exact kk)
theorem fb_q1 (C : fb_C p s m args meth c G own cc nL) (w : fb_Wd G s σ H locs) {i : Int} (h : i = 1) (hdg : decode cc pc = .ok (.aaload, 1))
    (kk : W p l e R s m args below meth c H locs cells slots Q (F0 m (pc + 1) ls (.ref (fb_ad G 45) :: rest))) : W p l e R s m args below meth c H locs cells slots Q (F0 m pc ls (.int (fb_I i) :: .ref (fb_ad G 41) :: rest)) :=
  fb_qald C w (by omega) (by omega) hdg (by rw [if_neg (by omega)]; exact kk)
theorem fb_lookup (C : fb_C p s m args meth c G own cc nL) {dflt : Int} {ps : Array (Int × Int)} {len : Nat} {x : Int} (ix : fb_in x) {off : Int} {tgt : Nat} (hdg : decode cc pc = .ok (.lookupswitch dflt ps, len)) (hp : (ps.toList.zip (ps.toList.drop 1)).all (fun (a, next) => a.1 < next.1) = true) (ho : Op.lookupswitch.offset ps.toList dflt x = off) (ht : (pc : Int) + off = (tgt : Int))
    (k : W p l e R s m args below meth c H locs cells slots Q (F0 m tgt ls rest)) : W p l e R s m args below meth c H locs cells slots Q (F0 m pc ls (.int (fb_I x) :: rest)) :=
  lv_lookup C.1.1 C.1.2.1 hdg hp (by rw [fb_I_toInt ix]; exact ho) ht k
theorem fb_lkD {x dflt o0 o1 : Int} (h0 : ¬ x = 0) (h1 : ¬ x = 1) : Op.lookupswitch.offset (#[(0, o0), (1, o1)] : Array (Int × Int)).toList dflt x = dflt := by
  have a0 : ¬ (0 : Int) = x := fun q => h0 q.symm
  have a1 : ¬ (1 : Int) = x := fun q => h1 q.symm
  simp [Op.lookupswitch.offset, h0, h1, a0, a1]
end FBS
end
section
/-! ===== the links of fields and methods ===== -/
theorem fb_memall {ws : List Cond} (h1 : ∀ w ∈ ws, w ∈ lw_tbl) (h2 : ws.all goodWord = true) : ∀ w ∈ ws, w ∈ fb_tb := fun w hw => List.mem_filter.mpr ⟨h1 w hw, List.all_eq_true.mp h2 w hw⟩
theorem fb_LVmk {own : String} {index : Nat} {Cn : String} {y : MethodName} {cc : ByteArray} {nL : Nat} {ret : Option FieldType} {n : Nat} (h1 : Cond.methodLink own index y ∈ fb_tb) (h2 : Cond.instanceMethod y ∈ fb_tb) (h3 : Cond.selects Cn y y ∈ fb_tb) (h4 : Cond.initialized Cn ∈ fb_tb) (h5 : Cond.code y cc nL ret ∈ fb_tb) (h6 : y.cls = Cn ∧ y.cls ≠ "java/lang/invoke/MethodHandle" ∧ y.cls ≠ "java/lang/invoke/VarHandle" ∧ (parseMethodDescriptor y.desc).map (fun d => d.parameters.length) = some n) : fb_LV own index Cn y cc nL ret n :=
  ⟨List.forall_mem_cons.mpr ⟨h1, List.forall_mem_cons.mpr ⟨h2, List.forall_mem_cons.mpr ⟨h3, List.forall_mem_cons.mpr ⟨h4, List.forall_mem_cons.mpr ⟨h5, fun _ h => absurd h List.not_mem_nil⟩⟩⟩⟩⟩, h6⟩
theorem fb_LSmk {own : String} {index : Nat} {y : MethodName} {cc : ByteArray} {nL : Nat} {ret : Option FieldType} {n : Nat} (h1 : Cond.methodLink own index y ∈ fb_tb) (h2 : Cond.static y ∈ fb_tb) (h4 : Cond.initialized y.cls ∈ fb_tb) (h5 : Cond.code y cc nL ret ∈ fb_tb) (h6 : y.cls ≠ "java/lang/invoke/MethodHandle" ∧ y.cls ≠ "java/lang/invoke/VarHandle" ∧ (parseMethodDescriptor y.desc).map (fun d => d.parameters.length) = some n) : fb_LS own index y cc nL ret n :=
  ⟨List.forall_mem_cons.mpr ⟨h1, List.forall_mem_cons.mpr ⟨h2, List.forall_mem_cons.mpr ⟨h4, List.forall_mem_cons.mpr ⟨h5, fun _ h => absurd h List.not_mem_nil⟩⟩⟩⟩, h6⟩
theorem fb_LNmk {y : MethodName} {cc : ByteArray} {nL : Nat} {ret : Option FieldType} {n : Nat} (h2 : Cond.static y ∈ fb_tb) (h4 : Cond.initialized y.cls ∈ fb_tb) (h5 : Cond.code y cc nL ret ∈ fb_tb) (h6 : y.cls ≠ "java/lang/invoke/MethodHandle" ∧ y.cls ≠ "java/lang/invoke/VarHandle" ∧ (parseMethodDescriptor y.desc).map (fun d => d.parameters.length) = some n) : fb_LN y cc nL ret n :=
  ⟨List.forall_mem_cons.mpr ⟨h2, List.forall_mem_cons.mpr ⟨h4, List.forall_mem_cons.mpr ⟨h5, fun _ h => absurd h List.not_mem_nil⟩⟩⟩, h6⟩
theorem fb_u0 : ∀ w ∈ u_ws RX0 TX0 5, w ∈ fb_tb := fb_memall (by decide +kernel) (by decide +kernel)
theorem fb_u1 : ∀ w ∈ u_ws RX1 TX1 7, w ∈ fb_tb := fb_memall (by decide +kernel) (by decide +kernel)
theorem fb_u2 : ∀ w ∈ u_ws RX2 TX2 4, w ∈ fb_tb := fb_memall (by decide +kernel) (by decide +kernel)
theorem fb_u3 : ∀ w ∈ u_ws RX3 TX3 12, w ∈ fb_tb := fb_memall (by decide +kernel) (by decide +kernel)
theorem fb_u4 : ∀ w ∈ u_ws RX4 TX4 3, w ∈ fb_tb := fb_memall (by decide +kernel) (by decide +kernel)
theorem fb_u5 : ∀ w ∈ u_ws RX5 TX5 6, w ∈ fb_tb := fb_memall (by decide +kernel) (by decide +kernel)
theorem fb_u6 : ∀ w ∈ u_ws RX6 TX6 11, w ∈ fb_tb := fb_memall (by decide +kernel) (by decide +kernel)
theorem fb_u7 : ∀ w ∈ u_ws RX7 TX7 20, w ∈ fb_tb := fb_memall (by decide +kernel) (by decide +kernel)
theorem fl_X0_9 : fb_FL RX0 9 0 0 RX0 TX0 5 := ⟨fb_u0, rfl, Nat.le_of_ble_eq_true rfl, (fb_mem 151 (by decide +kernel) rfl)⟩
theorem fl_X0_15 : fb_FL RX0 15 0 1 RX0 TX0 5 := ⟨fb_u0, rfl, Nat.le_of_ble_eq_true rfl, (fb_mem 153 (by decide +kernel) rfl)⟩
theorem fl_X0_18 : fb_FL RX0 18 0 2 RX0 TX0 5 := ⟨fb_u0, rfl, Nat.le_of_ble_eq_true rfl, (fb_mem 155 (by decide +kernel) rfl)⟩
theorem fl_X0_21 : fb_FL RX0 21 0 3 RX0 TX0 5 := ⟨fb_u0, rfl, Nat.le_of_ble_eq_true rfl, (fb_mem 157 (by decide +kernel) rfl)⟩
theorem fl_X0_27 : fb_FL RX0 27 0 4 RX0 TX0 5 := ⟨fb_u0, rfl, Nat.le_of_ble_eq_true rfl, (fb_mem 158 (by decide +kernel) rfl)⟩
theorem fl_X0_38 : fb_FL RX0 38 5 2 RX5 TX5 6 := ⟨fb_u5, rfl, Nat.le_of_ble_eq_true rfl, (fb_mem 80 (by decide +kernel) rfl)⟩
theorem fl_X0_44 : fb_FL RX0 44 5 4 RX5 TX5 6 := ⟨fb_u5, rfl, Nat.le_of_ble_eq_true rfl, (fb_mem 90 (by decide +kernel) rfl)⟩
theorem fl_X0_59 : fb_FL RX0 59 5 3 RX5 TX5 6 := ⟨fb_u5, rfl, Nat.le_of_ble_eq_true rfl, (fb_mem 85 (by decide +kernel) rfl)⟩
theorem fl_X1_9 : fb_FL RX1 9 1 0 RX1 TX1 7 := ⟨fb_u1, rfl, Nat.le_of_ble_eq_true rfl, (fb_mem 225 (by decide +kernel) rfl)⟩
theorem fl_X1_15 : fb_FL RX1 15 1 1 RX1 TX1 7 := ⟨fb_u1, rfl, Nat.le_of_ble_eq_true rfl, (fb_mem 227 (by decide +kernel) rfl)⟩
theorem fl_X1_19 : fb_FL RX1 19 1 2 RX1 TX1 7 := ⟨fb_u1, rfl, Nat.le_of_ble_eq_true rfl, (fb_mem 229 (by decide +kernel) rfl)⟩
theorem fl_X1_22 : fb_FL RX1 22 1 3 RX1 TX1 7 := ⟨fb_u1, rfl, Nat.le_of_ble_eq_true rfl, (fb_mem 231 (by decide +kernel) rfl)⟩
theorem fl_X1_25 : fb_FL RX1 25 1 4 RX1 TX1 7 := ⟨fb_u1, rfl, Nat.le_of_ble_eq_true rfl, (fb_mem 232 (by decide +kernel) rfl)⟩
theorem fl_X1_28 : fb_FL RX1 28 1 5 RX1 TX1 7 := ⟨fb_u1, rfl, Nat.le_of_ble_eq_true rfl, (fb_mem 233 (by decide +kernel) rfl)⟩
theorem fl_X1_32 : fb_FL RX1 32 1 6 RX1 TX1 7 := ⟨fb_u1, rfl, Nat.le_of_ble_eq_true rfl, (fb_mem 234 (by decide +kernel) rfl)⟩
theorem fl_X1_35 : fb_FL RX1 35 5 0 RX5 TX5 6 := ⟨fb_u5, rfl, Nat.le_of_ble_eq_true rfl, (fb_mem 74 (by decide +kernel) rfl)⟩
theorem fl_X1_38 : fb_FL RX1 38 5 1 RX5 TX5 6 := ⟨fb_u5, rfl, Nat.le_of_ble_eq_true rfl, (fb_mem 77 (by decide +kernel) rfl)⟩
theorem fl_X1_39 : fb_FL RX1 39 5 3 RX5 TX5 6 := ⟨fb_u5, rfl, Nat.le_of_ble_eq_true rfl, (fb_mem 84 (by decide +kernel) rfl)⟩
theorem fl_X1_46 : fb_FL RX1 46 5 4 RX5 TX5 6 := ⟨fb_u5, rfl, Nat.le_of_ble_eq_true rfl, (fb_mem 91 (by decide +kernel) rfl)⟩
theorem fl_X2_9 : fb_FL RX2 9 2 0 RX2 TX2 4 := ⟨fb_u2, rfl, Nat.le_of_ble_eq_true rfl, (fb_mem 138 (by decide +kernel) rfl)⟩
theorem fl_X2_15 : fb_FL RX2 15 2 1 RX2 TX2 4 := ⟨fb_u2, rfl, Nat.le_of_ble_eq_true rfl, (fb_mem 139 (by decide +kernel) rfl)⟩
theorem fl_X2_18 : fb_FL RX2 18 2 2 RX2 TX2 4 := ⟨fb_u2, rfl, Nat.le_of_ble_eq_true rfl, (fb_mem 140 (by decide +kernel) rfl)⟩
theorem fl_X2_21 : fb_FL RX2 21 2 3 RX2 TX2 4 := ⟨fb_u2, rfl, Nat.le_of_ble_eq_true rfl, (fb_mem 141 (by decide +kernel) rfl)⟩
theorem fl_X3_9 : fb_FL RX3 9 3 0 RX3 TX3 12 := ⟨fb_u3, rfl, Nat.le_of_ble_eq_true rfl, (fb_mem 176 (by decide +kernel) rfl)⟩
theorem fl_X3_15 : fb_FL RX3 15 3 1 RX3 TX3 12 := ⟨fb_u3, rfl, Nat.le_of_ble_eq_true rfl, (fb_mem 178 (by decide +kernel) rfl)⟩
theorem fl_X3_19 : fb_FL RX3 19 3 2 RX3 TX3 12 := ⟨fb_u3, rfl, Nat.le_of_ble_eq_true rfl, (fb_mem 180 (by decide +kernel) rfl)⟩
theorem fl_X3_22 : fb_FL RX3 22 3 3 RX3 TX3 12 := ⟨fb_u3, rfl, Nat.le_of_ble_eq_true rfl, (fb_mem 182 (by decide +kernel) rfl)⟩
theorem fl_X3_25 : fb_FL RX3 25 3 4 RX3 TX3 12 := ⟨fb_u3, rfl, Nat.le_of_ble_eq_true rfl, (fb_mem 184 (by decide +kernel) rfl)⟩
theorem fl_X3_28 : fb_FL RX3 28 3 5 RX3 TX3 12 := ⟨fb_u3, rfl, Nat.le_of_ble_eq_true rfl, (fb_mem 186 (by decide +kernel) rfl)⟩
theorem fl_X3_31 : fb_FL RX3 31 3 6 RX3 TX3 12 := ⟨fb_u3, rfl, Nat.le_of_ble_eq_true rfl, (fb_mem 187 (by decide +kernel) rfl)⟩
theorem fl_X3_34 : fb_FL RX3 34 3 7 RX3 TX3 12 := ⟨fb_u3, rfl, Nat.le_of_ble_eq_true rfl, (fb_mem 188 (by decide +kernel) rfl)⟩
theorem fl_X3_37 : fb_FL RX3 37 3 8 RX3 TX3 12 := ⟨fb_u3, rfl, Nat.le_of_ble_eq_true rfl, (fb_mem 189 (by decide +kernel) rfl)⟩
theorem fl_X3_40 : fb_FL RX3 40 3 9 RX3 TX3 12 := ⟨fb_u3, rfl, Nat.le_of_ble_eq_true rfl, (fb_mem 190 (by decide +kernel) rfl)⟩
theorem fl_X3_43 : fb_FL RX3 43 3 10 RX3 TX3 12 := ⟨fb_u3, rfl, Nat.le_of_ble_eq_true rfl, (fb_mem 191 (by decide +kernel) rfl)⟩
theorem fl_X3_46 : fb_FL RX3 46 3 11 RX3 TX3 12 := ⟨fb_u3, rfl, Nat.le_of_ble_eq_true rfl, (fb_mem 192 (by decide +kernel) rfl)⟩
theorem fl_X3_80 : fb_FL RX3 80 5 2 RX5 TX5 6 := ⟨fb_u5, rfl, Nat.le_of_ble_eq_true rfl, (fb_mem 81 (by decide +kernel) rfl)⟩
theorem fl_X3_85 : fb_FL RX3 85 5 3 RX5 TX5 6 := ⟨fb_u5, rfl, Nat.le_of_ble_eq_true rfl, (fb_mem 88 (by decide +kernel) rfl)⟩
theorem fl_X4_9 : fb_FL RX4 9 4 0 RX4 TX4 3 := ⟨fb_u4, rfl, Nat.le_of_ble_eq_true rfl, (fb_mem 115 (by decide +kernel) rfl)⟩
theorem fl_X4_15 : fb_FL RX4 15 4 1 RX4 TX4 3 := ⟨fb_u4, rfl, Nat.le_of_ble_eq_true rfl, (fb_mem 117 (by decide +kernel) rfl)⟩
theorem fl_X4_19 : fb_FL RX4 19 4 2 RX4 TX4 3 := ⟨fb_u4, rfl, Nat.le_of_ble_eq_true rfl, (fb_mem 118 (by decide +kernel) rfl)⟩
theorem fl_X4_38 : fb_FL RX4 38 5 3 RX5 TX5 6 := ⟨fb_u5, rfl, Nat.le_of_ble_eq_true rfl, (fb_mem 86 (by decide +kernel) rfl)⟩
theorem fl_X4_45 : fb_FL RX4 45 5 4 RX5 TX5 6 := ⟨fb_u5, rfl, Nat.le_of_ble_eq_true rfl, (fb_mem 92 (by decide +kernel) rfl)⟩
theorem fl_X5_9 : fb_FL RX5 9 5 0 RX5 TX5 6 := ⟨fb_u5, rfl, Nat.le_of_ble_eq_true rfl, (fb_mem 73 (by decide +kernel) rfl)⟩
theorem fl_X5_15 : fb_FL RX5 15 5 1 RX5 TX5 6 := ⟨fb_u5, rfl, Nat.le_of_ble_eq_true rfl, (fb_mem 76 (by decide +kernel) rfl)⟩
theorem fl_X5_18 : fb_FL RX5 18 5 2 RX5 TX5 6 := ⟨fb_u5, rfl, Nat.le_of_ble_eq_true rfl, (fb_mem 79 (by decide +kernel) rfl)⟩
theorem fl_X5_21 : fb_FL RX5 21 5 3 RX5 TX5 6 := ⟨fb_u5, rfl, Nat.le_of_ble_eq_true rfl, (fb_mem 83 (by decide +kernel) rfl)⟩
theorem fl_X5_25 : fb_FL RX5 25 5 4 RX5 TX5 6 := ⟨fb_u5, rfl, Nat.le_of_ble_eq_true rfl, (fb_mem 89 (by decide +kernel) rfl)⟩
theorem fl_X5_28 : fb_FL RX5 28 5 5 RX5 TX5 6 := ⟨fb_u5, rfl, Nat.le_of_ble_eq_true rfl, (fb_mem 94 (by decide +kernel) rfl)⟩
theorem fl_X6_10 : fb_FL RX6 10 6 0 RX6 TX6 11 := ⟨fb_u6, rfl, Nat.le_of_ble_eq_true rfl, (fb_mem 261 (by decide +kernel) rfl)⟩
theorem fl_X6_19 : fb_FL RX6 19 6 1 RX6 TX6 11 := ⟨fb_u6, rfl, Nat.le_of_ble_eq_true rfl, (fb_mem 262 (by decide +kernel) rfl)⟩
theorem fl_X6_26 : fb_FL RX6 26 6 2 RX6 TX6 11 := ⟨fb_u6, rfl, Nat.le_of_ble_eq_true rfl, (fb_mem 263 (by decide +kernel) rfl)⟩
theorem fl_X6_33 : fb_FL RX6 33 6 3 RX6 TX6 11 := ⟨fb_u6, rfl, Nat.le_of_ble_eq_true rfl, (fb_mem 264 (by decide +kernel) rfl)⟩
theorem fl_X6_37 : fb_FL RX6 37 6 4 RX6 TX6 11 := ⟨fb_u6, rfl, Nat.le_of_ble_eq_true rfl, (fb_mem 265 (by decide +kernel) rfl)⟩
theorem fl_X6_43 : fb_FL RX6 43 6 5 RX6 TX6 11 := ⟨fb_u6, rfl, Nat.le_of_ble_eq_true rfl, (fb_mem 266 (by decide +kernel) rfl)⟩
theorem fl_X6_47 : fb_FL RX6 47 6 6 RX6 TX6 11 := ⟨fb_u6, rfl, Nat.le_of_ble_eq_true rfl, (fb_mem 267 (by decide +kernel) rfl)⟩
theorem fl_X6_51 : fb_FL RX6 51 6 7 RX6 TX6 11 := ⟨fb_u6, rfl, Nat.le_of_ble_eq_true rfl, (fb_mem 268 (by decide +kernel) rfl)⟩
theorem fl_X6_54 : fb_FL RX6 54 6 8 RX6 TX6 11 := ⟨fb_u6, rfl, Nat.le_of_ble_eq_true rfl, (fb_mem 269 (by decide +kernel) rfl)⟩
theorem fl_X6_58 : fb_FL RX6 58 6 9 RX6 TX6 11 := ⟨fb_u6, rfl, Nat.le_of_ble_eq_true rfl, (fb_mem 270 (by decide +kernel) rfl)⟩
theorem fl_X6_61 : fb_FL RX6 61 6 10 RX6 TX6 11 := ⟨fb_u6, rfl, Nat.le_of_ble_eq_true rfl, (fb_mem 271 (by decide +kernel) rfl)⟩
theorem fl_X6_90 : fb_FL RX6 90 5 3 RX5 TX5 6 := ⟨fb_u5, rfl, Nat.le_of_ble_eq_true rfl, (fb_mem 87 (by decide +kernel) rfl)⟩
theorem fl_X6_94 : fb_FL RX6 94 5 4 RX5 TX5 6 := ⟨fb_u5, rfl, Nat.le_of_ble_eq_true rfl, (fb_mem 93 (by decide +kernel) rfl)⟩
theorem fl_X6_114 : fb_FL RX6 114 0 0 RX0 TX0 5 := ⟨fb_u0, rfl, Nat.le_of_ble_eq_true rfl, (fb_mem 152 (by decide +kernel) rfl)⟩
theorem fl_X6_117 : fb_FL RX6 117 0 1 RX0 TX0 5 := ⟨fb_u0, rfl, Nat.le_of_ble_eq_true rfl, (fb_mem 154 (by decide +kernel) rfl)⟩
theorem fl_X6_120 : fb_FL RX6 120 0 2 RX0 TX0 5 := ⟨fb_u0, rfl, Nat.le_of_ble_eq_true rfl, (fb_mem 156 (by decide +kernel) rfl)⟩
theorem fl_X6_127 : fb_FL RX6 127 3 1 RX3 TX3 12 := ⟨fb_u3, rfl, Nat.le_of_ble_eq_true rfl, (fb_mem 179 (by decide +kernel) rfl)⟩
theorem fl_X6_128 : fb_FL RX6 128 3 0 RX3 TX3 12 := ⟨fb_u3, rfl, Nat.le_of_ble_eq_true rfl, (fb_mem 177 (by decide +kernel) rfl)⟩
theorem fl_X6_138 : fb_FL RX6 138 3 2 RX3 TX3 12 := ⟨fb_u3, rfl, Nat.le_of_ble_eq_true rfl, (fb_mem 181 (by decide +kernel) rfl)⟩
theorem fl_X6_141 : fb_FL RX6 141 3 3 RX3 TX3 12 := ⟨fb_u3, rfl, Nat.le_of_ble_eq_true rfl, (fb_mem 183 (by decide +kernel) rfl)⟩
theorem fl_X6_148 : fb_FL RX6 148 3 4 RX3 TX3 12 := ⟨fb_u3, rfl, Nat.le_of_ble_eq_true rfl, (fb_mem 185 (by decide +kernel) rfl)⟩
theorem fl_X6_171 : fb_FL RX6 171 4 0 RX4 TX4 3 := ⟨fb_u4, rfl, Nat.le_of_ble_eq_true rfl, (fb_mem 116 (by decide +kernel) rfl)⟩
theorem fl_X6_181 : fb_FL RX6 181 5 0 RX5 TX5 6 := ⟨fb_u5, rfl, Nat.le_of_ble_eq_true rfl, (fb_mem 75 (by decide +kernel) rfl)⟩
theorem fl_X6_184 : fb_FL RX6 184 5 1 RX5 TX5 6 := ⟨fb_u5, rfl, Nat.le_of_ble_eq_true rfl, (fb_mem 78 (by decide +kernel) rfl)⟩
theorem fl_X6_203 : fb_FL RX6 203 1 0 RX1 TX1 7 := ⟨fb_u1, rfl, Nat.le_of_ble_eq_true rfl, (fb_mem 226 (by decide +kernel) rfl)⟩
theorem fl_X6_214 : fb_FL RX6 214 1 1 RX1 TX1 7 := ⟨fb_u1, rfl, Nat.le_of_ble_eq_true rfl, (fb_mem 228 (by decide +kernel) rfl)⟩
theorem fl_X6_217 : fb_FL RX6 217 1 2 RX1 TX1 7 := ⟨fb_u1, rfl, Nat.le_of_ble_eq_true rfl, (fb_mem 230 (by decide +kernel) rfl)⟩
theorem fl_X6_227 : fb_FL RX6 227 5 2 RX5 TX5 6 := ⟨fb_u5, rfl, Nat.le_of_ble_eq_true rfl, (fb_mem 82 (by decide +kernel) rfl)⟩
theorem fl_X7_7 : fb_FL RX7 7 7 0 RX7 TX7 20 := ⟨fb_u7, rfl, Nat.le_of_ble_eq_true rfl, (fb_mem 600 (by decide +kernel) rfl)⟩
theorem fl_X7_13 : fb_FL RX7 13 7 1 RX7 TX7 20 := ⟨fb_u7, rfl, Nat.le_of_ble_eq_true rfl, (fb_mem 601 (by decide +kernel) rfl)⟩
theorem fl_X7_16 : fb_FL RX7 16 7 2 RX7 TX7 20 := ⟨fb_u7, rfl, Nat.le_of_ble_eq_true rfl, (fb_mem 602 (by decide +kernel) rfl)⟩
theorem fl_X7_20 : fb_FL RX7 20 7 3 RX7 TX7 20 := ⟨fb_u7, rfl, Nat.le_of_ble_eq_true rfl, (fb_mem 603 (by decide +kernel) rfl)⟩
theorem fl_X7_23 : fb_FL RX7 23 7 4 RX7 TX7 20 := ⟨fb_u7, rfl, Nat.le_of_ble_eq_true rfl, (fb_mem 604 (by decide +kernel) rfl)⟩
theorem fl_X7_26 : fb_FL RX7 26 7 5 RX7 TX7 20 := ⟨fb_u7, rfl, Nat.le_of_ble_eq_true rfl, (fb_mem 605 (by decide +kernel) rfl)⟩
theorem fl_X7_29 : fb_FL RX7 29 7 6 RX7 TX7 20 := ⟨fb_u7, rfl, Nat.le_of_ble_eq_true rfl, (fb_mem 606 (by decide +kernel) rfl)⟩
theorem fl_X7_32 : fb_FL RX7 32 7 7 RX7 TX7 20 := ⟨fb_u7, rfl, Nat.le_of_ble_eq_true rfl, (fb_mem 607 (by decide +kernel) rfl)⟩
theorem fl_X7_35 : fb_FL RX7 35 7 8 RX7 TX7 20 := ⟨fb_u7, rfl, Nat.le_of_ble_eq_true rfl, (fb_mem 608 (by decide +kernel) rfl)⟩
theorem fl_X7_38 : fb_FL RX7 38 7 9 RX7 TX7 20 := ⟨fb_u7, rfl, Nat.le_of_ble_eq_true rfl, (fb_mem 609 (by decide +kernel) rfl)⟩
theorem fl_X7_41 : fb_FL RX7 41 7 10 RX7 TX7 20 := ⟨fb_u7, rfl, Nat.le_of_ble_eq_true rfl, (fb_mem 610 (by decide +kernel) rfl)⟩
theorem fl_X7_44 : fb_FL RX7 44 7 12 RX7 TX7 20 := ⟨fb_u7, rfl, Nat.le_of_ble_eq_true rfl, (fb_mem 612 (by decide +kernel) rfl)⟩
theorem fl_X7_47 : fb_FL RX7 47 7 13 RX7 TX7 20 := ⟨fb_u7, rfl, Nat.le_of_ble_eq_true rfl, (fb_mem 613 (by decide +kernel) rfl)⟩
theorem fl_X7_50 : fb_FL RX7 50 7 14 RX7 TX7 20 := ⟨fb_u7, rfl, Nat.le_of_ble_eq_true rfl, (fb_mem 614 (by decide +kernel) rfl)⟩
theorem fl_X7_53 : fb_FL RX7 53 7 15 RX7 TX7 20 := ⟨fb_u7, rfl, Nat.le_of_ble_eq_true rfl, (fb_mem 615 (by decide +kernel) rfl)⟩
theorem fl_X7_56 : fb_FL RX7 56 7 16 RX7 TX7 20 := ⟨fb_u7, rfl, Nat.le_of_ble_eq_true rfl, (fb_mem 616 (by decide +kernel) rfl)⟩
theorem fl_X7_59 : fb_FL RX7 59 7 18 RX7 TX7 20 := ⟨fb_u7, rfl, Nat.le_of_ble_eq_true rfl, (fb_mem 618 (by decide +kernel) rfl)⟩
theorem fl_X7_62 : fb_FL RX7 62 7 19 RX7 TX7 20 := ⟨fb_u7, rfl, Nat.le_of_ble_eq_true rfl, (fb_mem 619 (by decide +kernel) rfl)⟩
theorem fl_X7_101 : fb_FL RX7 101 7 11 RX7 TX7 20 := ⟨fb_u7, rfl, Nat.le_of_ble_eq_true rfl, (fb_mem 611 (by decide +kernel) rfl)⟩
theorem fl_X7_134 : fb_FL RX7 134 7 17 RX7 TX7 20 := ⟨fb_u7, rfl, Nat.le_of_ble_eq_true rfl, (fb_mem 617 (by decide +kernel) rfl)⟩
theorem mv_X0_31 : fb_LV RX0 31 RX2 yX2_empty cX2_empty 1 none 0 := fb_LVmk (fb_mem 401 (by decide +kernel) rfl) (fb_mem 402 (by decide +kernel) rfl) (fb_mem 403 (by decide +kernel) rfl) (fb_mem 52 (by decide +kernel) rfl) (fb_mem 404 (by decide +kernel) rfl) (by decide +kernel)
theorem mv_X0_34 : fb_LV RX0 34 RX0 yX0_startAtMarks cX0_startAtMarks 4 none 1 := fb_LVmk (fb_mem 406 (by decide +kernel) rfl) (fb_mem 408 (by decide +kernel) rfl) (fb_mem 5 (by decide +kernel) rfl) (fb_mem 51 (by decide +kernel) rfl) (fb_mem 409 (by decide +kernel) rfl) (by decide +kernel)
theorem mv_X0_47 : fb_LV RX0 47 RX0 yX0_lineUpAround cX0_lineUpAround 5 none 2 := fb_LVmk (fb_mem 410 (by decide +kernel) rfl) (fb_mem 412 (by decide +kernel) rfl) (fb_mem 6 (by decide +kernel) rfl) (fb_mem 51 (by decide +kernel) rfl) (fb_mem 413 (by decide +kernel) rfl) (by decide +kernel)
theorem mv_X0_51 : fb_LV RX0 51 RX2 yX2_take cX2_take 2 (some .int) 0 := fb_LVmk (fb_mem 420 (by decide +kernel) rfl) (fb_mem 421 (by decide +kernel) rfl) (fb_mem 422 (by decide +kernel) rfl) (fb_mem 52 (by decide +kernel) rfl) (fb_mem 423 (by decide +kernel) rfl) (by decide +kernel)
theorem mv_X0_55 : fb_LV RX0 55 RX5 yX5_onlyBasinAround cX5_onlyBasinAround 6 (some .int) 2 := fb_LVmk (fb_mem 424 (by decide +kernel) rfl) (fb_mem 425 (by decide +kernel) rfl) (fb_mem 426 (by decide +kernel) rfl) (fb_mem 49 (by decide +kernel) rfl) (fb_mem 427 (by decide +kernel) rfl) (by decide +kernel)
theorem mv_X0_62 : fb_LV RX0 62 RX5 yX5_neighbour cX5_neighbour 3 (some .int) 2 := fb_LVmk (fb_mem 414 (by decide +kernel) rfl) (fb_mem 338 (by decide +kernel) rfl) (fb_mem 339 (by decide +kernel) rfl) (fb_mem 49 (by decide +kernel) rfl) (fb_mem 340 (by decide +kernel) rfl) (by decide +kernel)
theorem mv_X0_71 : fb_LV RX0 71 RX2 yX2_add cX2_add 3 none 2 := fb_LVmk (fb_mem 416 (by decide +kernel) rfl) (fb_mem 417 (by decide +kernel) rfl) (fb_mem 418 (by decide +kernel) rfl) (fb_mem 52 (by decide +kernel) rfl) (fb_mem 419 (by decide +kernel) rfl) (by decide +kernel)
theorem mv_X1_47 : fb_LV RX1 47 RX5 yX5_shape cX5_shape 6 none 2 := fb_LVmk (fb_mem 593 (by decide +kernel) rfl) (fb_mem 251 (by decide +kernel) rfl) (fb_mem 252 (by decide +kernel) rfl) (fb_mem 49 (by decide +kernel) rfl) (fb_mem 253 (by decide +kernel) rfl) (by decide +kernel)
theorem mv_X3_55 : fb_LV RX3 55 RX3 yX3_measure cX3_measure 4 none 1 := fb_LVmk (fb_mem 443 (by decide +kernel) rfl) (fb_mem 445 (by decide +kernel) rfl) (fb_mem 8 (by decide +kernel) rfl) (fb_mem 53 (by decide +kernel) rfl) (fb_mem 446 (by decide +kernel) rfl) (by decide +kernel)
theorem mv_X3_59 : fb_LV RX3 59 RX3 yX3_nextToPour cX3_nextToPour 6 (some .int) 2 := fb_LVmk (fb_mem 472 (by decide +kernel) rfl) (fb_mem 474 (by decide +kernel) rfl) (fb_mem 14 (by decide +kernel) rfl) (fb_mem 53 (by decide +kernel) rfl) (fb_mem 475 (by decide +kernel) rfl) (by decide +kernel)
theorem mv_X3_63 : fb_LV RX3 63 RX3 yX3_pourOut cX3_pourOut 5 none 2 := fb_LVmk (fb_mem 480 (by decide +kernel) rfl) (fb_mem 482 (by decide +kernel) rfl) (fb_mem 15 (by decide +kernel) rfl) (fb_mem 53 (by decide +kernel) rfl) (fb_mem 483 (by decide +kernel) rfl) (by decide +kernel)
theorem mv_X3_67 : fb_LV RX3 67 RX3 yX3_breakDams cX3_breakDams 5 (some .int) 1 := fb_LVmk (fb_mem 484 (by decide +kernel) rfl) (fb_mem 486 (by decide +kernel) rfl) (fb_mem 16 (by decide +kernel) rfl) (fb_mem 53 (by decide +kernel) rfl) (fb_mem 487 (by decide +kernel) rfl) (by decide +kernel)
theorem mv_X3_88 : fb_LV RX3 88 RX3 yX3_touches cX3_touches 5 (some .boolean) 3 := fb_LVmk (fb_mem 514 (by decide +kernel) rfl) (fb_mem 516 (by decide +kernel) rfl) (fb_mem 17 (by decide +kernel) rfl) (fb_mem 53 (by decide +kernel) rfl) (fb_mem 517 (by decide +kernel) rfl) (by decide +kernel)
theorem mv_X3_95 : fb_LV RX3 95 RX5 yX5_neighbour cX5_neighbour 3 (some .int) 2 := fb_LVmk (fb_mem 466 (by decide +kernel) rfl) (fb_mem 338 (by decide +kernel) rfl) (fb_mem 339 (by decide +kernel) rfl) (fb_mem 49 (by decide +kernel) rfl) (fb_mem 340 (by decide +kernel) rfl) (by decide +kernel)
theorem mv_X3_98 : fb_LV RX3 98 RX5 yX5_basinBeside cX5_basinBeside 5 (some .int) 3 := fb_LVmk (fb_mem 452 (by decide +kernel) rfl) (fb_mem 429 (by decide +kernel) rfl) (fb_mem 430 (by decide +kernel) rfl) (fb_mem 49 (by decide +kernel) rfl) (fb_mem 431 (by decide +kernel) rfl) (by decide +kernel)
theorem mv_X3_108 : fb_LV RX3 108 RX3 yX3_passesOverDam cX3_passesOverDam 7 none 2 := fb_LVmk (fb_mem 448 (by decide +kernel) rfl) (fb_mem 450 (by decide +kernel) rfl) (fb_mem 9 (by decide +kernel) rfl) (fb_mem 53 (by decide +kernel) rfl) (fb_mem 451 (by decide +kernel) rfl) (by decide +kernel)
theorem mv_X3_111 : fb_LV RX3 111 RX3 yX3_passesBeside cX3_passesBeside 6 none 2 := fb_LVmk (fb_mem 462 (by decide +kernel) rfl) (fb_mem 464 (by decide +kernel) rfl) (fb_mem 12 (by decide +kernel) rfl) (fb_mem 53 (by decide +kernel) rfl) (fb_mem 465 (by decide +kernel) rfl) (by decide +kernel)
theorem mv_X3_114 : fb_LV RX3 114 RX3 yX3_fillWaters cX3_fillWaters 4 none 1 := fb_LVmk (fb_mem 468 (by decide +kernel) rfl) (fb_mem 470 (by decide +kernel) rfl) (fb_mem 13 (by decide +kernel) rfl) (fb_mem 53 (by decide +kernel) rfl) (fb_mem 471 (by decide +kernel) rfl) (by decide +kernel)
theorem mv_X3_117 : fb_LV RX3 117 RX3 yX3_notePass cX3_notePass 4 none 3 := fb_LVmk (fb_mem 453 (by decide +kernel) rfl) (fb_mem 455 (by decide +kernel) rfl) (fb_mem 10 (by decide +kernel) rfl) (fb_mem 53 (by decide +kernel) rfl) (fb_mem 456 (by decide +kernel) rfl) (by decide +kernel)
theorem mv_X3_121 : fb_LV RX3 121 RX3 yX3_noteWayOut cX3_noteWayOut 5 none 3 := fb_LVmk (fb_mem 457 (by decide +kernel) rfl) (fb_mem 459 (by decide +kernel) rfl) (fb_mem 11 (by decide +kernel) rfl) (fb_mem 53 (by decide +kernel) rfl) (fb_mem 460 (by decide +kernel) rfl) (by decide +kernel)
theorem mv_X3_124 : fb_LV RX3 124 RX3 yX3_sizeOf cX3_sizeOf 3 (some .int) 2 := fb_LVmk (fb_mem 476 (by decide +kernel) rfl) (fb_mem 477 (by decide +kernel) rfl) (fb_mem 478 (by decide +kernel) rfl) (fb_mem 53 (by decide +kernel) rfl) (fb_mem 479 (by decide +kernel) rfl) (by decide +kernel)
theorem mv_X3_127 : fb_LV RX3 127 RX5 yX5_onlyBasinAround cX5_onlyBasinAround 6 (some .int) 2 := fb_LVmk (fb_mem 488 (by decide +kernel) rfl) (fb_mem 425 (by decide +kernel) rfl) (fb_mem 426 (by decide +kernel) rfl) (fb_mem 49 (by decide +kernel) rfl) (fb_mem 427 (by decide +kernel) rfl) (by decide +kernel)
theorem mv_X4_28 : fb_LV RX4 28 RX4 yX4_reach cX4_reach 5 none 4 := fb_LVmk (fb_mem 332 (by decide +kernel) rfl) (fb_mem 334 (by decide +kernel) rfl) (fb_mem 3 (by decide +kernel) rfl) (fb_mem 50 (by decide +kernel) rfl) (fb_mem 335 (by decide +kernel) rfl) (by decide +kernel)
theorem mv_X4_32 : fb_LV RX4 32 RX5 yX5_neighbour cX5_neighbour 3 (some .int) 2 := fb_LVmk (fb_mem 337 (by decide +kernel) rfl) (fb_mem 338 (by decide +kernel) rfl) (fb_mem 339 (by decide +kernel) rfl) (fb_mem 49 (by decide +kernel) rfl) (fb_mem 340 (by decide +kernel) rfl) (by decide +kernel)
theorem mv_X5_31 : fb_LV RX5 31 RX5 yX5_dotAt cX5_dotAt 3 (some .int) 2 := fb_LVmk (fb_mem 254 (by decide +kernel) rfl) (fb_mem 255 (by decide +kernel) rfl) (fb_mem 256 (by decide +kernel) rfl) (fb_mem 49 (by decide +kernel) rfl) (fb_mem 257 (by decide +kernel) rfl) (by decide +kernel)
theorem mv_X5_57 : fb_LV RX5 57 RX5 yX5_basinBeside cX5_basinBeside 5 (some .int) 3 := fb_LVmk (fb_mem 428 (by decide +kernel) rfl) (fb_mem 429 (by decide +kernel) rfl) (fb_mem 430 (by decide +kernel) rfl) (fb_mem 49 (by decide +kernel) rfl) (fb_mem 431 (by decide +kernel) rfl) (by decide +kernel)
theorem mv_X6_64 : fb_LV RX6 64 RX5 yX5_shape cX5_shape 6 none 2 := fb_LVmk (fb_mem 250 (by decide +kernel) rfl) (fb_mem 251 (by decide +kernel) rfl) (fb_mem 252 (by decide +kernel) rfl) (fb_mem 49 (by decide +kernel) rfl) (fb_mem 253 (by decide +kernel) rfl) (by decide +kernel)
theorem mv_X6_72 : fb_LV RX6 72 RX5 yX5_clear cX5_clear 1 none 0 := fb_LVmk (fb_mem 300 (by decide +kernel) rfl) (fb_mem 301 (by decide +kernel) rfl) (fb_mem 302 (by decide +kernel) rfl) (fb_mem 49 (by decide +kernel) rfl) (fb_mem 303 (by decide +kernel) rfl) (by decide +kernel)
theorem mv_X6_75 : fb_LV RX6 75 RX6 yX6_pitsAfterChange cX6_pitsAfterChange 1 (some .int) 0 := fb_LVmk (fb_mem 307 (by decide +kernel) rfl) (fb_mem 309 (by decide +kernel) rfl) (fb_mem 0 (by decide +kernel) rfl) (fb_mem 48 (by decide +kernel) rfl) (fb_mem 310 (by decide +kernel) rfl) (by decide +kernel)
theorem mv_X6_79 : fb_LV RX6 79 RX5 yX5_ripple cX5_ripple 7 none 4 := fb_LVmk (fb_mem 356 (by decide +kernel) rfl) (fb_mem 357 (by decide +kernel) rfl) (fb_mem 358 (by decide +kernel) rfl) (fb_mem 49 (by decide +kernel) rfl) (fb_mem 359 (by decide +kernel) rfl) (by decide +kernel)
theorem mv_X6_83 : fb_LV RX6 83 RX5 yX5_dotAt cX5_dotAt 3 (some .int) 2 := fb_LVmk (fb_mem 364 (by decide +kernel) rfl) (fb_mem 255 (by decide +kernel) rfl) (fb_mem 256 (by decide +kernel) rfl) (fb_mem 49 (by decide +kernel) rfl) (fb_mem 257 (by decide +kernel) rfl) (by decide +kernel)
theorem mv_X6_87 : fb_LV RX6 87 RX5 yX5_raise cX5_raise 11 none 4 := fb_LVmk (fb_mem 365 (by decide +kernel) rfl) (fb_mem 366 (by decide +kernel) rfl) (fb_mem 367 (by decide +kernel) rfl) (fb_mem 49 (by decide +kernel) rfl) (fb_mem 368 (by decide +kernel) rfl) (by decide +kernel)
theorem mv_X6_97 : fb_LV RX6 97 RX6 yX6_nothingStands cX6_nothingStands 1 none 0 := fb_LVmk (fb_mem 311 (by decide +kernel) rfl) (fb_mem 313 (by decide +kernel) rfl) (fb_mem 1 (by decide +kernel) rfl) (fb_mem 48 (by decide +kernel) rfl) (fb_mem 314 (by decide +kernel) rfl) (by decide +kernel)
theorem mv_X6_106 : fb_LV RX6 106 RX6 yX6_findPits cX6_findPits 5 (some .int) 1 := fb_LVmk (fb_mem 315 (by decide +kernel) rfl) (fb_mem 317 (by decide +kernel) rfl) (fb_mem 2 (by decide +kernel) rfl) (fb_mem 48 (by decide +kernel) rfl) (fb_mem 318 (by decide +kernel) rfl) (by decide +kernel)
theorem mv_X6_110 : fb_LV RX6 110 RX6 yX6_standingFlood cX6_standingFlood 1 (some (.object "FloodBasins$Flood")) 0 := fb_LVmk (fb_mem 393 (by decide +kernel) rfl) (fb_mem 395 (by decide +kernel) rfl) (fb_mem 4 (by decide +kernel) rfl) (fb_mem 48 (by decide +kernel) rfl) (fb_mem 396 (by decide +kernel) rfl) (by decide +kernel)
theorem mv_X6_123 : fb_LV RX6 123 RX6 yX6_standingPour cX6_standingPour 1 (some (.object "FloodBasins$Pour")) 0 := fb_LVmk (fb_mem 432 (by decide +kernel) rfl) (fb_mem 434 (by decide +kernel) rfl) (fb_mem 7 (by decide +kernel) rfl) (fb_mem 48 (by decide +kernel) rfl) (fb_mem 435 (by decide +kernel) rfl) (by decide +kernel)
theorem mv_X6_131 : fb_LV RX6 131 RX3 yX3_hasBasin cX3_hasBasin 2 (some .boolean) 1 := fb_LVmk (fb_mem 497 (by decide +kernel) rfl) (fb_mem 498 (by decide +kernel) rfl) (fb_mem 499 (by decide +kernel) rfl) (fb_mem 53 (by decide +kernel) rfl) (fb_mem 500 (by decide +kernel) rfl) (by decide +kernel)
theorem mv_X6_135 : fb_LV RX6 135 RX3 yX3_sizeOf cX3_sizeOf 3 (some .int) 2 := fb_LVmk (fb_mem 502 (by decide +kernel) rfl) (fb_mem 477 (by decide +kernel) rfl) (fb_mem 478 (by decide +kernel) rfl) (fb_mem 53 (by decide +kernel) rfl) (fb_mem 479 (by decide +kernel) rfl) (by decide +kernel)
theorem mv_X6_151 : fb_LV RX6 151 RX3 yX3_passBetween cX3_passBetween 9 (some .int) 3 := fb_LVmk (fb_mem 510 (by decide +kernel) rfl) (fb_mem 511 (by decide +kernel) rfl) (fb_mem 512 (by decide +kernel) rfl) (fb_mem 53 (by decide +kernel) rfl) (fb_mem 513 (by decide +kernel) rfl) (by decide +kernel)
theorem mv_X6_155 : fb_LV RX6 155 RX3 yX3_told cX3_told 3 (some .int) 2 := fb_LVmk (fb_mem 522 (by decide +kernel) rfl) (fb_mem 523 (by decide +kernel) rfl) (fb_mem 524 (by decide +kernel) rfl) (fb_mem 53 (by decide +kernel) rfl) (fb_mem 525 (by decide +kernel) rfl) (by decide +kernel)
theorem mv_X6_158 : fb_LV RX6 158 RX6 yX6_standingTree cX6_standingTree 1 (some (.object "FloodBasins$Pour")) 0 := fb_LVmk (fb_mem 530 (by decide +kernel) rfl) (fb_mem 532 (by decide +kernel) rfl) (fb_mem 18 (by decide +kernel) rfl) (fb_mem 48 (by decide +kernel) rfl) (fb_mem 533 (by decide +kernel) rfl) (by decide +kernel)
theorem mv_X6_161 : fb_LV RX6 161 RX6 yX6_leastLevelBetween cX6_leastLevelBetween 7 (some .int) 2 := fb_LVmk (fb_mem 538 (by decide +kernel) rfl) (fb_mem 540 (by decide +kernel) rfl) (fb_mem 19 (by decide +kernel) rfl) (fb_mem 48 (by decide +kernel) rfl) (fb_mem 541 (by decide +kernel) rfl) (by decide +kernel)
theorem mv_X6_164 : fb_LV RX6 164 RX4 yX4_forget cX4_forget 1 none 0 := fb_LVmk (fb_mem 319 (by decide +kernel) rfl) (fb_mem 320 (by decide +kernel) rfl) (fb_mem 321 (by decide +kernel) rfl) (fb_mem 50 (by decide +kernel) rfl) (fb_mem 322 (by decide +kernel) rfl) (by decide +kernel)
theorem mv_X6_167 : fb_LV RX6 167 RX4 yX4_from cX4_from 7 none 4 := fb_LVmk (fb_mem 328 (by decide +kernel) rfl) (fb_mem 329 (by decide +kernel) rfl) (fb_mem 330 (by decide +kernel) rfl) (fb_mem 50 (by decide +kernel) rfl) (fb_mem 331 (by decide +kernel) rfl) (by decide +kernel)
theorem mv_X6_174 : fb_LV RX6 174 RX4 yX4_waterBelow cX4_waterBelow 5 (some .int) 2 := fb_LVmk (fb_mem 547 (by decide +kernel) rfl) (fb_mem 548 (by decide +kernel) rfl) (fb_mem 549 (by decide +kernel) rfl) (fb_mem 50 (by decide +kernel) rfl) (fb_mem 550 (by decide +kernel) rfl) (by decide +kernel)
theorem mv_X6_178 : fb_LV RX6 178 RX4 yX4_lowestAround cX4_lowestAround 8 (some .int) 3 := fb_LVmk (fb_mem 341 (by decide +kernel) rfl) (fb_mem 342 (by decide +kernel) rfl) (fb_mem 343 (by decide +kernel) rfl) (fb_mem 50 (by decide +kernel) rfl) (fb_mem 344 (by decide +kernel) rfl) (by decide +kernel)
theorem mv_X6_187 : fb_LV RX6 187 RX5 yX5_countMarks cX5_countMarks 3 (some .int) 0 := fb_LVmk (fb_mem 555 (by decide +kernel) rfl) (fb_mem 556 (by decide +kernel) rfl) (fb_mem 557 (by decide +kernel) rfl) (fb_mem 49 (by decide +kernel) rfl) (fb_mem 558 (by decide +kernel) rfl) (by decide +kernel)
theorem mv_X6_190 : fb_LV RX6 190 RX0 yX0_countBasins cX0_countBasins 5 (some .int) 1 := fb_LVmk (fb_mem 559 (by decide +kernel) rfl) (fb_mem 560 (by decide +kernel) rfl) (fb_mem 561 (by decide +kernel) rfl) (fb_mem 51 (by decide +kernel) rfl) (fb_mem 562 (by decide +kernel) rfl) (by decide +kernel)
theorem mv_X6_194 : fb_LV RX6 194 RX3 yX3_countBasins cX3_countBasins 3 (some .int) 0 := fb_LVmk (fb_mem 564 (by decide +kernel) rfl) (fb_mem 565 (by decide +kernel) rfl) (fb_mem 566 (by decide +kernel) rfl) (fb_mem 53 (by decide +kernel) rfl) (fb_mem 567 (by decide +kernel) rfl) (by decide +kernel)
theorem mv_X6_196 : fb_LV RX6 196 RX5 yX5_countDams cX5_countDams 4 (some .int) 1 := fb_LVmk (fb_mem 568 (by decide +kernel) rfl) (fb_mem 569 (by decide +kernel) rfl) (fb_mem 570 (by decide +kernel) rfl) (fb_mem 49 (by decide +kernel) rfl) (fb_mem 571 (by decide +kernel) rfl) (by decide +kernel)
theorem mv_X6_200 : fb_LV RX6 200 RX0 yX0_greatestLevel cX0_greatestLevel 4 (some .int) 1 := fb_LVmk (fb_mem 572 (by decide +kernel) rfl) (fb_mem 573 (by decide +kernel) rfl) (fb_mem 574 (by decide +kernel) rfl) (fb_mem 51 (by decide +kernel) rfl) (fb_mem 575 (by decide +kernel) rfl) (by decide +kernel)
theorem mv_X6_206 : fb_LV RX6 206 RX1 yX1_keep cX1_keep 4 none 3 := fb_LVmk (fb_mem 580 (by decide +kernel) rfl) (fb_mem 581 (by decide +kernel) rfl) (fb_mem 582 (by decide +kernel) rfl) (fb_mem 54 (by decide +kernel) rfl) (fb_mem 583 (by decide +kernel) rfl) (by decide +kernel)
theorem mv_X6_210 : fb_LV RX6 210 RX1 yX1_giveBack cX1_giveBack 2 none 1 := fb_LVmk (fb_mem 589 (by decide +kernel) rfl) (fb_mem 590 (by decide +kernel) rfl) (fb_mem 591 (by decide +kernel) rfl) (fb_mem 54 (by decide +kernel) rfl) (fb_mem 592 (by decide +kernel) rfl) (by decide +kernel)
theorem mv_X6_220 : fb_LV RX6 220 RX0 yX0_rise cX0_rise 4 none 1 := fb_LVmk (fb_mem 397 (by decide +kernel) rfl) (fb_mem 398 (by decide +kernel) rfl) (fb_mem 399 (by decide +kernel) rfl) (fb_mem 51 (by decide +kernel) rfl) (fb_mem 400 (by decide +kernel) rfl) (by decide +kernel)
theorem mv_X6_223 : fb_LV RX6 223 RX3 yX3_run cX3_run 7 none 4 := fb_LVmk (fb_mem 436 (by decide +kernel) rfl) (fb_mem 437 (by decide +kernel) rfl) (fb_mem 438 (by decide +kernel) rfl) (fb_mem 53 (by decide +kernel) rfl) (fb_mem 439 (by decide +kernel) rfl) (by decide +kernel)
theorem mv_X6_230 : fb_LV RX6 230 RX4 yX4_cameTo cX4_cameTo 2 (some .boolean) 1 := fb_LVmk (fb_mem 324 (by decide +kernel) rfl) (fb_mem 325 (by decide +kernel) rfl) (fb_mem 326 (by decide +kernel) rfl) (fb_mem 50 (by decide +kernel) rfl) (fb_mem 327 (by decide +kernel) rfl) (by decide +kernel)
theorem mv_X6_233 : fb_LV RX6 233 RX4 yX4_markAll cX4_markAll 4 none 2 := fb_LVmk (fb_mem 348 (by decide +kernel) rfl) (fb_mem 349 (by decide +kernel) rfl) (fb_mem 350 (by decide +kernel) rfl) (fb_mem 50 (by decide +kernel) rfl) (fb_mem 351 (by decide +kernel) rfl) (by decide +kernel)
theorem mv_X7_69 : fb_LV RX7 69 RX7 yX7_isDot cX7_isDot 3 (some .boolean) 2 := fb_LVmk (fb_mem 685 (by decide +kernel) rfl) (fb_mem 687 (by decide +kernel) rfl) (fb_mem 24 (by decide +kernel) rfl) (fb_mem 55 (by decide +kernel) rfl) (fb_mem 688 (by decide +kernel) rfl) (by decide +kernel)
theorem mv_X7_73 : fb_LV RX7 73 RX7 yX7_at cX7_at 3 (some .int) 2 := fb_LVmk (fb_mem 689 (by decide +kernel) rfl) (fb_mem 691 (by decide +kernel) rfl) (fb_mem 25 (by decide +kernel) rfl) (fb_mem 55 (by decide +kernel) rfl) (fb_mem 692 (by decide +kernel) rfl) (by decide +kernel)
theorem mv_X7_77 : fb_LV RX7 77 RX7 yX7_beside cX7_beside 5 (some .int) 2 := fb_LVmk (fb_mem 681 (by decide +kernel) rfl) (fb_mem 683 (by decide +kernel) rfl) (fb_mem 23 (by decide +kernel) rfl) (fb_mem 55 (by decide +kernel) rfl) (fb_mem 684 (by decide +kernel) rfl) (by decide +kernel)
theorem mv_X7_80 : fb_LV RX7 80 RX7 yX7_dots cX7_dots 1 (some .int) 0 := fb_LVmk (fb_mem 673 (by decide +kernel) rfl) (fb_mem 675 (by decide +kernel) rfl) (fb_mem 21 (by decide +kernel) rfl) (fb_mem 55 (by decide +kernel) rfl) (fb_mem 676 (by decide +kernel) rfl) (by decide +kernel)
theorem mv_X7_84 : fb_LV RX7 84 RX7 yX7_spread cX7_spread 8 (some .int) 3 := fb_LVmk (fb_mem 677 (by decide +kernel) rfl) (fb_mem 679 (by decide +kernel) rfl) (fb_mem 22 (by decide +kernel) rfl) (fb_mem 55 (by decide +kernel) rfl) (fb_mem 680 (by decide +kernel) rfl) (by decide +kernel)
theorem mv_X7_88 : fb_LV RX7 88 RX7 yX7_leastBeside cX7_leastBeside 6 (some .int) 1 := fb_LVmk (fb_mem 693 (by decide +kernel) rfl) (fb_mem 695 (by decide +kernel) rfl) (fb_mem 26 (by decide +kernel) rfl) (fb_mem 55 (by decide +kernel) rfl) (fb_mem 696 (by decide +kernel) rfl) (by decide +kernel)
theorem mv_X7_92 : fb_LV RX7 92 RX7 yX7_layPits cX7_layPits 6 (some .int) 0 := fb_LVmk (fb_mem 669 (by decide +kernel) rfl) (fb_mem 671 (by decide +kernel) rfl) (fb_mem 20 (by decide +kernel) rfl) (fb_mem 55 (by decide +kernel) rfl) (fb_mem 672 (by decide +kernel) rfl) (by decide +kernel)
theorem mv_X7_105 : fb_LV RX7 105 RX7 yX7_spill cX7_spill 4 none 1 := fb_LVmk (fb_mem 739 (by decide +kernel) rfl) (fb_mem 741 (by decide +kernel) rfl) (fb_mem 30 (by decide +kernel) rfl) (fb_mem 55 (by decide +kernel) rfl) (fb_mem 742 (by decide +kernel) rfl) (by decide +kernel)
theorem mv_X7_109 : fb_LV RX7 109 RX7 yX7_first cX7_first 3 (some .int) 0 := fb_LVmk (fb_mem 743 (by decide +kernel) rfl) (fb_mem 745 (by decide +kernel) rfl) (fb_mem 31 (by decide +kernel) rfl) (fb_mem 55 (by decide +kernel) rfl) (fb_mem 746 (by decide +kernel) rfl) (by decide +kernel)
theorem mv_X7_112 : fb_LV RX7 112 RX7 yX7_basinBeside cX7_basinBeside 7 (some .int) 2 := fb_LVmk (fb_mem 747 (by decide +kernel) rfl) (fb_mem 749 (by decide +kernel) rfl) (fb_mem 32 (by decide +kernel) rfl) (fb_mem 55 (by decide +kernel) rfl) (fb_mem 750 (by decide +kernel) rfl) (by decide +kernel)
theorem mv_X7_116 : fb_LV RX7 116 RX7 yX7_hasBeside cX7_hasBeside 6 (some .boolean) 2 := fb_LVmk (fb_mem 763 (by decide +kernel) rfl) (fb_mem 765 (by decide +kernel) rfl) (fb_mem 36 (by decide +kernel) rfl) (fb_mem 55 (by decide +kernel) rfl) (fb_mem 766 (by decide +kernel) rfl) (by decide +kernel)
theorem mv_X7_122 : fb_LV RX7 122 RX7 yX7_layPasses cX7_layPasses 6 none 1 := fb_LVmk (fb_mem 759 (by decide +kernel) rfl) (fb_mem 761 (by decide +kernel) rfl) (fb_mem 35 (by decide +kernel) rfl) (fb_mem 55 (by decide +kernel) rfl) (fb_mem 762 (by decide +kernel) rfl) (by decide +kernel)
theorem mv_X7_125 : fb_LV RX7 125 RX7 yX7_dotsOf cX7_dotsOf 5 (some .int) 2 := fb_LVmk (fb_mem 751 (by decide +kernel) rfl) (fb_mem 753 (by decide +kernel) rfl) (fb_mem 33 (by decide +kernel) rfl) (fb_mem 55 (by decide +kernel) rfl) (fb_mem 754 (by decide +kernel) rfl) (by decide +kernel)
theorem mv_X7_128 : fb_LV RX7 128 RX7 yX7_leastHeight cX7_leastHeight 4 (some .int) 1 := fb_LVmk (fb_mem 774 (by decide +kernel) rfl) (fb_mem 776 (by decide +kernel) rfl) (fb_mem 38 (by decide +kernel) rfl) (fb_mem 55 (by decide +kernel) rfl) (fb_mem 777 (by decide +kernel) rfl) (by decide +kernel)
theorem mv_X7_131 : fb_LV RX7 131 RX7 yX7_flood cX7_flood 4 none 0 := fb_LVmk (fb_mem 735 (by decide +kernel) rfl) (fb_mem 737 (by decide +kernel) rfl) (fb_mem 29 (by decide +kernel) rfl) (fb_mem 55 (by decide +kernel) rfl) (fb_mem 738 (by decide +kernel) rfl) (by decide +kernel)
theorem mv_X7_137 : fb_LV RX7 137 RX7 yX7_wayOut cX7_wayOut 4 (some .int) 1 := fb_LVmk (fb_mem 755 (by decide +kernel) rfl) (fb_mem 757 (by decide +kernel) rfl) (fb_mem 34 (by decide +kernel) rfl) (fb_mem 55 (by decide +kernel) rfl) (fb_mem 758 (by decide +kernel) rfl) (by decide +kernel)
theorem mv_X7_140 : fb_LV RX7 140 RX7 yX7_sizeOf cX7_sizeOf 6 (some .int) 3 := fb_LVmk (fb_mem 770 (by decide +kernel) rfl) (fb_mem 772 (by decide +kernel) rfl) (fb_mem 37 (by decide +kernel) rfl) (fb_mem 55 (by decide +kernel) rfl) (fb_mem 773 (by decide +kernel) rfl) (by decide +kernel)
theorem mv_X7_144 : fb_LV RX7 144 RX7 yX7_pourOne cX7_pourOne 5 (some .int) 2 := fb_LVmk (fb_mem 778 (by decide +kernel) rfl) (fb_mem 780 (by decide +kernel) rfl) (fb_mem 39 (by decide +kernel) rfl) (fb_mem 55 (by decide +kernel) rfl) (fb_mem 781 (by decide +kernel) rfl) (by decide +kernel)
theorem mv_X7_147 : fb_LV RX7 147 RX7 yX7_pour cX7_pour 10 none 2 := fb_LVmk (fb_mem 731 (by decide +kernel) rfl) (fb_mem 733 (by decide +kernel) rfl) (fb_mem 28 (by decide +kernel) rfl) (fb_mem 55 (by decide +kernel) rfl) (fb_mem 734 (by decide +kernel) rfl) (by decide +kernel)
theorem mv_X7_151 : fb_LV RX7 151 RX7 yX7_pourAsTold cX7_pourAsTold 1 none 0 := fb_LVmk (fb_mem 727 (by decide +kernel) rfl) (fb_mem 729 (by decide +kernel) rfl) (fb_mem 27 (by decide +kernel) rfl) (fb_mem 55 (by decide +kernel) rfl) (fb_mem 730 (by decide +kernel) rfl) (by decide +kernel)
theorem mv_X7_154 : fb_LV RX7 154 RX7 yX7_isBasin cX7_isBasin 2 (some .boolean) 1 := fb_LVmk (fb_mem 790 (by decide +kernel) rfl) (fb_mem 792 (by decide +kernel) rfl) (fb_mem 40 (by decide +kernel) rfl) (fb_mem 55 (by decide +kernel) rfl) (fb_mem 793 (by decide +kernel) rfl) (by decide +kernel)
theorem mv_X7_158 : fb_LV RX7 158 RX7 yX7_passOf cX7_passOf 7 (some .int) 2 := fb_LVmk (fb_mem 798 (by decide +kernel) rfl) (fb_mem 800 (by decide +kernel) rfl) (fb_mem 41 (by decide +kernel) rfl) (fb_mem 55 (by decide +kernel) rfl) (fb_mem 801 (by decide +kernel) rfl) (by decide +kernel)
theorem mv_X7_161 : fb_LV RX7 161 RX7 yX7_told cX7_told 3 (some .int) 2 := fb_LVmk (fb_mem 806 (by decide +kernel) rfl) (fb_mem 808 (by decide +kernel) rfl) (fb_mem 42 (by decide +kernel) rfl) (fb_mem 55 (by decide +kernel) rfl) (fb_mem 809 (by decide +kernel) rfl) (by decide +kernel)
theorem mv_X7_164 : fb_LV RX7 164 RX7 yX7_marked cX7_marked 3 (some .int) 0 := fb_LVmk (fb_mem 826 (by decide +kernel) rfl) (fb_mem 828 (by decide +kernel) rfl) (fb_mem 43 (by decide +kernel) rfl) (fb_mem 55 (by decide +kernel) rfl) (fb_mem 829 (by decide +kernel) rfl) (by decide +kernel)
theorem mv_X7_167 : fb_LV RX7 167 RX7 yX7_basins cX7_basins 4 (some .int) 1 := fb_LVmk (fb_mem 830 (by decide +kernel) rfl) (fb_mem 832 (by decide +kernel) rfl) (fb_mem 44 (by decide +kernel) rfl) (fb_mem 55 (by decide +kernel) rfl) (fb_mem 833 (by decide +kernel) rfl) (by decide +kernel)
theorem mv_X7_171 : fb_LV RX7 171 RX7 yX7_greatestLevel cX7_greatestLevel 3 (some .int) 0 := fb_LVmk (fb_mem 834 (by decide +kernel) rfl) (fb_mem 836 (by decide +kernel) rfl) (fb_mem 45 (by decide +kernel) rfl) (fb_mem 55 (by decide +kernel) rfl) (fb_mem 837 (by decide +kernel) rfl) (by decide +kernel)
theorem mv_X7_174 : fb_LV RX7 174 RX7 yX7_treeSize cX7_treeSize 1 (some .int) 0 := fb_LVmk (fb_mem 838 (by decide +kernel) rfl) (fb_mem 840 (by decide +kernel) rfl) (fb_mem 46 (by decide +kernel) rfl) (fb_mem 55 (by decide +kernel) rfl) (fb_mem 841 (by decide +kernel) rfl) (by decide +kernel)
theorem ms_X0_75 : fb_LS RX0 75 yJ7_fill_53178 cJ7_fill_53178 4 none 2 := fb_LSmk (fb_mem 563 (by decide +kernel) rfl) (fb_mem 305 (by decide +kernel) rfl) (fb_mem 56 (by decide +kernel) rfl) (fb_mem 306 (by decide +kernel) rfl) (by decide +kernel)
theorem ms_X2_25 : fb_LS RX2 25 yJ7_fill_53178 cJ7_fill_53178 4 none 2 := fb_LSmk (fb_mem 405 (by decide +kernel) rfl) (fb_mem 305 (by decide +kernel) rfl) (fb_mem 56 (by decide +kernel) rfl) (fb_mem 306 (by decide +kernel) rfl) (by decide +kernel)
theorem ms_X3_102 : fb_LS RX3 102 yJ7_fill_53178 cJ7_fill_53178 4 none 2 := fb_LSmk (fb_mem 447 (by decide +kernel) rfl) (fb_mem 305 (by decide +kernel) rfl) (fb_mem 56 (by decide +kernel) rfl) (fb_mem 306 (by decide +kernel) rfl) (by decide +kernel)
theorem ms_X4_22 : fb_LS RX4 22 yJ7_fill_53178 cJ7_fill_53178 4 none 2 := fb_LSmk (fb_mem 323 (by decide +kernel) rfl) (fb_mem 305 (by decide +kernel) rfl) (fb_mem 56 (by decide +kernel) rfl) (fb_mem 306 (by decide +kernel) rfl) (by decide +kernel)
theorem ms_X5_35 : fb_LS RX5 35 yJ7_fill_53178 cJ7_fill_53178 4 none 2 := fb_LSmk (fb_mem 304 (by decide +kernel) rfl) (fb_mem 305 (by decide +kernel) rfl) (fb_mem 56 (by decide +kernel) rfl) (fb_mem 306 (by decide +kernel) rfl) (by decide +kernel)
theorem ms_X6_68 : fb_LS RX6 68 yX6_within cX6_within 3 (some .boolean) 3 := fb_LSmk (fb_mem 299 (by decide +kernel) rfl) (fb_mem 259 (by decide +kernel) rfl) (fb_mem 48 (by decide +kernel) rfl) (fb_mem 260 (by decide +kernel) rfl) (by decide +kernel)
theorem ms_X6_100 : fb_LS RX6 100 yJ7_fill_53178 cJ7_fill_53178 4 none 2 := fb_LSmk (fb_mem 388 (by decide +kernel) rfl) (fb_mem 305 (by decide +kernel) rfl) (fb_mem 56 (by decide +kernel) rfl) (fb_mem 306 (by decide +kernel) rfl) (by decide +kernel)
theorem ms_X6_144 : fb_LS RX6 144 yX6_heightOrNone cX6_heightOrNone 1 (some .int) 1 := fb_LSmk (fb_mem 503 (by decide +kernel) rfl) (fb_mem 504 (by decide +kernel) rfl) (fb_mem 48 (by decide +kernel) rfl) (fb_mem 505 (by decide +kernel) rfl) (by decide +kernel)
theorem ms_X7_65 : fb_LS RX7 65 yX7_in cX7_in 3 (some .boolean) 3 := fb_LSmk (fb_mem 666 (by decide +kernel) rfl) (fb_mem 667 (by decide +kernel) rfl) (fb_mem 55 (by decide +kernel) rfl) (fb_mem 668 (by decide +kernel) rfl) (by decide +kernel)
theorem ms_X7_95 : fb_LS RX7 95 yX7_size cX7_size 1 (some .int) 1 := fb_LSmk (fb_mem 705 (by decide +kernel) rfl) (fb_mem 706 (by decide +kernel) rfl) (fb_mem 55 (by decide +kernel) rfl) (fb_mem 707 (by decide +kernel) rfl) (by decide +kernel)
theorem ms_X7_98 : fb_LS RX7 98 yX7_greater cX7_greater 2 (some .int) 2 := fb_LSmk (fb_mem 708 (by decide +kernel) rfl) (fb_mem 709 (by decide +kernel) rfl) (fb_mem 55 (by decide +kernel) rfl) (fb_mem 710 (by decide +kernel) rfl) (by decide +kernel)
theorem ms_X7_119 : fb_LS RX7 119 yX7_lesser cX7_lesser 2 (some .int) 2 := fb_LSmk (fb_mem 767 (by decide +kernel) rfl) (fb_mem 768 (by decide +kernel) rfl) (fb_mem 55 (by decide +kernel) rfl) (fb_mem 769 (by decide +kernel) rfl) (by decide +kernel)
theorem mn_X6_within : fb_LN yX6_within cX6_within 3 (some .boolean) 3 := fb_LNmk (fb_mem 259 (by decide +kernel) rfl) (fb_mem 48 (by decide +kernel) rfl) (fb_mem 260 (by decide +kernel) rfl) (by decide +kernel)
theorem ml_X0_66 : fb_LM RX0 66 Lib.Math.max.name Lib.Math.max.code 2 := ⟨(fb_mem 415 (by decide +kernel) rfl), (fb_mem 373 (by decide +kernel) rfl), (fb_mem 57 (by decide +kernel) rfl), (fb_mem 374 (by decide +kernel) rfl)⟩
theorem ml_X3_75 : fb_LM RX3 75 Lib.Math.max.name Lib.Math.max.code 2 := ⟨(fb_mem 467 (by decide +kernel) rfl), (fb_mem 373 (by decide +kernel) rfl), (fb_mem 57 (by decide +kernel) rfl), (fb_mem 374 (by decide +kernel) rfl)⟩
theorem ml_X3_92 : fb_LM RX3 92 Lib.Math.min.name Lib.Math.min.code 2 := ⟨(fb_mem 461 (by decide +kernel) rfl), (fb_mem 346 (by decide +kernel) rfl), (fb_mem 57 (by decide +kernel) rfl), (fb_mem 347 (by decide +kernel) rfl)⟩
theorem ml_X4_48 : fb_LM RX4 48 Lib.Math.min.name Lib.Math.min.code 2 := ⟨(fb_mem 345 (by decide +kernel) rfl), (fb_mem 346 (by decide +kernel) rfl), (fb_mem 57 (by decide +kernel) rfl), (fb_mem 347 (by decide +kernel) rfl)⟩
theorem ml_X5_45 : fb_LM RX5 45 Lib.Math.abs.name Lib.Math.abs.code 1 := ⟨(fb_mem 369 (by decide +kernel) rfl), (fb_mem 370 (by decide +kernel) rfl), (fb_mem 57 (by decide +kernel) rfl), (fb_mem 371 (by decide +kernel) rfl)⟩
theorem ml_X5_51 : fb_LM RX5 51 Lib.Math.max.name Lib.Math.max.code 2 := ⟨(fb_mem 372 (by decide +kernel) rfl), (fb_mem 373 (by decide +kernel) rfl), (fb_mem 57 (by decide +kernel) rfl), (fb_mem 374 (by decide +kernel) rfl)⟩
theorem ml_X5_54 : fb_LM RX5 54 Lib.Math.min.name Lib.Math.min.code 2 := ⟨(fb_mem 375 (by decide +kernel) rfl), (fb_mem 346 (by decide +kernel) rfl), (fb_mem 57 (by decide +kernel) rfl), (fb_mem 347 (by decide +kernel) rfl)⟩
theorem ml_X6_237 : fb_LM RX6 237 Lib.Math.max.name Lib.Math.max.code 2 := ⟨(fb_mem 542 (by decide +kernel) rfl), (fb_mem 373 (by decide +kernel) rfl), (fb_mem 57 (by decide +kernel) rfl), (fb_mem 374 (by decide +kernel) rfl)⟩
theorem mc_X1_40 : fb_LC RX1 40 := ⟨(fb_mem 584 (by decide +kernel) rfl), (fb_mem 442 (by decide +kernel) rfl), (fb_mem 441 (by decide +kernel) rfl), (fb_mem 58 (by decide +kernel) rfl)⟩
theorem mc_X3_49 : fb_LC RX3 49 := ⟨(fb_mem 440 (by decide +kernel) rfl), (fb_mem 442 (by decide +kernel) rfl), (fb_mem 441 (by decide +kernel) rfl), (fb_mem 58 (by decide +kernel) rfl)⟩
end
section
def rm_X6_within : Room := { frames := 0, cells := 0, slots := 0, locals := 0 }
def wj_X6_within_15 (Q : Int → fb_St → Prop) (s0 : Int) (σ : fb_St) : Prop :=
  fb_B (s0) ∧ Q s0 σ
def wj_X6_within_14 (Q : Int → fb_St → Prop) (σ : fb_St) : Prop :=
  wj_X6_within_15 Q 0 σ
def wp_X6_within (x0 x1 x2 : Int) (σ : fb_St) (Q : Int → fb_St → Prop) : Prop :=
  (x0 < x1 →
    wj_X6_within_14 Q σ) ∧
  (¬ x0 < x1 →
    (x2 < x0 →
      wj_X6_within_14 Q σ) ∧
    (¬ x2 < x0 →
      wj_X6_within_15 Q 1 σ))
def rm_X5_dotAt : Room := { frames := 1, cells := 0, slots := 0, locals := 22 }
def wj_X5_dotAt_40 (Q : Int → fb_St → Prop) (s0 : Int) (σ : fb_St) : Prop :=
  Q s0 σ
def wj_X5_dotAt_39 (Q : Int → fb_St → Prop) (σ : fb_St) : Prop :=
  wj_X5_dotAt_40 Q (-1) σ
def wp_X5_dotAt (x1 x2 : Int) (σ : fb_St) (Q : Int → fb_St → Prop) : Prop :=
  fb_in ((σ 1 0) - 1) ∧
  wp_X6_within x1 0 ((σ 1 0) - 1) σ (fun a3 σ3 =>
    (a3 = 0 →
      wj_X5_dotAt_39 Q σ3) ∧
    (¬ a3 = 0 →
      fb_in ((σ3 1 1) - 1) ∧
      wp_X6_within x2 0 ((σ3 1 1) - 1) σ3 (fun a7 σ7 =>
        (a7 = 0 →
          wj_X5_dotAt_39 Q σ7) ∧
        (¬ a7 = 0 →
          fb_in (x2 * (σ7 1 0)) ∧
          fb_in ((x2 * (σ7 1 0)) + x1) ∧
          wj_X5_dotAt_40 Q ((x2 * (σ7 1 0)) + x1) σ7))))
def rm_X5_shape : Room := { frames := 2, cells := 0, slots := 0, locals := 44 }
def wb_X5_shape_30 (r19 : Int → fb_St → Prop) (r30 : Int → Int → fb_St → Prop) (Q : Int → fb_St → Prop) (x3 x4 : Int) (σ : fb_St) : Prop :=
  (x4 < σ 1 0 →
    fb_in (x3 * (σ 1 0)) ∧
    fb_in ((x3 * (σ 1 0)) + x4) ∧
    fb_in (((x3 * (σ 1 0)) + x4) * 4) ∧
    ∀ v14 : Int, v14 = ((x3 * (σ 1 0)) + x4) * 4 →
    fb_in (x4 + 1) ∧
    wp_X5_dotAt (x4 + 1) x3 σ (fun a16 σ16 =>
      0 ≤ v14 ∧ v14 < 576 ∧
      ∀ σ19 : fb_St, σ19 = fb_up σ16 4 v14 a16 →
      fb_in (v14 + 1) ∧
      fb_in (x3 + 1) ∧
      wp_X5_dotAt x4 (x3 + 1) σ19 (fun a22 σ22 =>
        0 ≤ v14 + 1 ∧ v14 + 1 < 576 ∧
        ∀ σ25 : fb_St, σ25 = fb_up σ22 4 (v14 + 1) a22 →
        fb_in (v14 + 2) ∧
        fb_in (x4 - 1) ∧
        wp_X5_dotAt (x4 - 1) x3 σ25 (fun a28 σ28 =>
          0 ≤ v14 + 2 ∧ v14 + 2 < 576 ∧
          ∀ σ31 : fb_St, σ31 = fb_up σ28 4 (v14 + 2) a28 →
          fb_in (v14 + 3) ∧
          fb_in (x3 - 1) ∧
          wp_X5_dotAt x4 (x3 - 1) σ31 (fun a34 σ34 =>
            0 ≤ v14 + 3 ∧ v14 + 3 < 576 ∧
            ∀ σ37 : fb_St, σ37 = fb_up σ34 4 (v14 + 3) a34 →
            fb_in (x4 + 1) ∧
            r30 x3 (x4 + 1) σ37))))) ∧
  (¬ x4 < σ 1 0 →
    fb_in (x3 + 1) ∧
    r19 (x3 + 1) σ)
def wl_X5_shape_30 (r19 : Int → fb_St → Prop) (Q : Int → fb_St → Prop) : Nat → Int → Int → fb_St → Prop := fb_Lp (fun _ _ _ => False) (fun r => wb_X5_shape_30 r19 r Q)
def wb_X5_shape_19 (r19 : Int → fb_St → Prop) (Q : Int → fb_St → Prop) (x3 : Int) (σ : fb_St) : Prop :=
  (x3 < σ 1 1 →
    ∃ n, wl_X5_shape_30 r19 Q n x3 0 σ) ∧
  (¬ x3 < σ 1 1 →
    Q 0 σ)
def wl_X5_shape_19 (Q : Int → fb_St → Prop) : Nat → Int → fb_St → Prop := fb_Lp (fun _ _ => False) (fun r => wb_X5_shape_19 r Q)
def wp_X5_shape (x1 x2 : Int) (σ : fb_St) (Q : Int → fb_St → Prop) : Prop :=
  ∀ σ1 : fb_St, σ1 = fb_up σ 1 0 x1 →
  ∀ σ2 : fb_St, σ2 = fb_up σ1 1 1 x2 →
  fb_in (x1 * x2) ∧
  ∀ σ4 : fb_St, σ4 = fb_up σ2 1 2 (x1 * x2) →
  ∃ n, wl_X5_shape_19 Q n 0 σ4
def rm_X5_clear : Room := { frames := 1, cells := 0, slots := 0, locals := 23 }
def wp_X5_clear (σ : fb_St) (Q : Int → fb_St → Prop) : Prop :=
  ∀ σ1 : fb_St, σ1 = fb_fill σ 2 0 →
  ∀ σ2 : fb_St, σ2 = fb_fill σ1 3 0 →
  Q 0 σ2
def rm_X6_nothingStands : Room := { frames := 0, cells := 0, slots := 0, locals := 0 }
def wp_X6_nothingStands (σ : fb_St) (Q : Int → fb_St → Prop) : Prop :=
  ∀ σ1 : fb_St, σ1 = fb_up σ 0 8 0 →
  ∀ σ2 : fb_St, σ2 = fb_up σ1 0 9 0 →
  ∀ σ3 : fb_St, σ3 = fb_up σ2 0 10 0 →
  Q 0 σ3
def rm_X4_forget : Room := { frames := 1, cells := 0, slots := 0, locals := 23 }
def wp_X4_forget (σ : fb_St) (Q : Int → fb_St → Prop) : Prop :=
  ∀ σ1 : fb_St, σ1 = fb_fill σ 7 0 →
  Q 0 σ1
def rm_X4_cameTo : Room := { frames := 0, cells := 0, slots := 0, locals := 0 }
def wj_X4_cameTo_14 (Q : Int → fb_St → Prop) (s0 : Int) (σ : fb_St) : Prop :=
  fb_B (s0) ∧ Q s0 σ
def wp_X4_cameTo (x1 : Int) (σ : fb_St) (Q : Int → fb_St → Prop) : Prop :=
  0 ≤ x1 ∧ x1 < 144 ∧
  (σ 7 x1 = 0 →
    wj_X4_cameTo_14 Q 0 σ) ∧
  (¬ σ 7 x1 = 0 →
    wj_X4_cameTo_14 Q 1 σ)
def rm_X4_reach : Room := { frames := 1, cells := 0, slots := 0, locals := 22 }
def wj_X4_reach_24 (Q : Int → fb_St → Prop) (σ : fb_St) : Prop :=
  Q 0 σ
def wj_X4_reach_67 (Q : Int → fb_St → Prop) (σ : fb_St) : Prop :=
  Q 0 σ
def wp_X4_reach (x2 x3 x4 : Int) (σ : fb_St) (Q : Int → fb_St → Prop) : Prop :=
  (x2 = (-1) →
    wj_X4_reach_24 Q σ) ∧
  (¬ x2 = (-1) →
    0 ≤ x2 ∧ x2 < 144 ∧
    (σ 7 x2 = 0 →
      (σ 5 0 < 144 →
        0 ≤ x2 ∧ x2 < 144 ∧
        wp_X6_within (σ 2 x2) x3 x4 σ (fun a11 σ11 =>
          (a11 = 0 →
            wj_X4_reach_67 Q σ11) ∧
          (¬ a11 = 0 →
            0 ≤ x2 ∧ x2 < 144 ∧
            ∀ σ15 : fb_St, σ15 = fb_up σ11 7 x2 1 →
            0 ≤ σ15 5 0 ∧ σ15 5 0 < 144 ∧
            ∀ σ19 : fb_St, σ19 = fb_up σ15 6 (σ15 5 0) x2 →
            fb_in ((σ19 5 0) + 1) ∧
            ∀ σ22 : fb_St, σ22 = fb_up σ19 5 0 ((σ19 5 0) + 1) →
            wj_X4_reach_67 Q σ22))) ∧
      (¬ σ 5 0 < 144 →
        wj_X4_reach_24 Q σ)) ∧
    (¬ σ 7 x2 = 0 →
      wj_X4_reach_24 Q σ))
def rm_X5_neighbour : Room := { frames := 0, cells := 0, slots := 0, locals := 0 }
def wp_X5_neighbour (x1 x2 : Int) (σ : fb_St) (Q : Int → fb_St → Prop) : Prop :=
  fb_in (x1 * 4) ∧
  fb_in ((x1 * 4) + x2) ∧
  0 ≤ (x1 * 4) + x2 ∧ (x1 * 4) + x2 < 576 ∧
  Q (σ 4 ((x1 * 4) + x2)) σ
def rm_X4_from : Room := { frames := 2, cells := 0, slots := 0, locals := 46 }
def wb_X4_from_37 (r17 : Int → Int → Int → fb_St → Prop) (r37 : Int → Int → Int → Int → fb_St → Prop) (Q : Int → fb_St → Prop) (x3 x4 x5 x6 : Int) (σ : fb_St) : Prop :=
  (x6 < 4 →
    0 ≤ x5 ∧ x5 < 144 ∧
    wp_X5_neighbour (σ 6 x5) x6 σ (fun a11 σ11 =>
      wp_X4_reach a11 x3 x4 σ11 (fun _ σ12 =>
        fb_in (x6 + 1) ∧
        r37 x3 x4 x5 (x6 + 1) σ12))) ∧
  (¬ x6 < 4 →
    fb_in (x5 + 1) ∧
    r17 x3 x4 (x5 + 1) σ)
def wl_X4_from_37 (r17 : Int → Int → Int → fb_St → Prop) (Q : Int → fb_St → Prop) : Nat → Int → Int → Int → Int → fb_St → Prop := fb_Lp (fun _ _ _ _ _ => False) (fun r => wb_X4_from_37 r17 r Q)
def wj_X4_from_76 (Q : Int → fb_St → Prop) (σ : fb_St) : Prop :=
  Q 0 σ
def wb_X4_from_17 (r17 : Int → Int → Int → fb_St → Prop) (Q : Int → fb_St → Prop) (x3 x4 x5 : Int) (σ : fb_St) : Prop :=
  (x5 < σ 5 0 →
    (x5 < 144 →
      ∃ n, wl_X4_from_37 r17 Q n x3 x4 x5 0 σ) ∧
    (¬ x5 < 144 →
      wj_X4_from_76 Q σ)) ∧
  (¬ x5 < σ 5 0 →
    wj_X4_from_76 Q σ)
def wl_X4_from_17 (Q : Int → fb_St → Prop) : Nat → Int → Int → Int → fb_St → Prop := fb_Lp (fun _ _ _ _ => False) (fun r => wb_X4_from_17 r Q)
def wp_X4_from (x2 x3 x4 : Int) (σ : fb_St) (Q : Int → fb_St → Prop) : Prop :=
  ∀ σ1 : fb_St, σ1 = fb_up σ 5 0 0 →
  wp_X4_reach x2 x3 x4 σ1 (fun _ σ2 =>
    ∃ n, wl_X4_from_17 Q n x3 x4 0 σ2)
def rm_X4_lowestAround : Room := { frames := 1, cells := 0, slots := 0, locals := 22 }
def wj_X4_lowestAround_75 (r7 : Int → Int → Int → Int → fb_St → Prop) (r19 : Int → Int → Int → Int → Int → fb_St → Prop) (Q : Int → fb_St → Prop) (x2 x3 x4 x5 x6 : Int) (σ : fb_St) : Prop :=
  fb_in (x6 + 1) ∧
  r19 x2 x3 x4 x5 (x6 + 1) σ
def wb_X4_lowestAround_19 (r7 : Int → Int → Int → Int → fb_St → Prop) (r19 : Int → Int → Int → Int → Int → fb_St → Prop) (Q : Int → fb_St → Prop) (x2 x3 x4 x5 x6 : Int) (σ : fb_St) : Prop :=
  (x6 < 4 →
    0 ≤ x5 ∧ x5 < 144 ∧
    wp_X5_neighbour (σ 6 x5) x6 σ (fun a8 σ8 =>
      (a8 = (-1) →
        wj_X4_lowestAround_75 r7 r19 Q x2 x3 x4 x5 x6 σ8) ∧
      (¬ a8 = (-1) →
        0 ≤ a8 ∧ a8 < 144 ∧
        wp_X6_within (σ8 2 a8) x2 x3 σ8 (fun a13 σ13 =>
          (a13 = 0 →
            0 ≤ a8 ∧ a8 < 144 ∧
            ∀ v18 : Int, v18 = (min x4 (σ13 2 a8)) →
            wj_X4_lowestAround_75 r7 r19 Q x2 x3 v18 x5 x6 σ13) ∧
          (¬ a13 = 0 →
            wj_X4_lowestAround_75 r7 r19 Q x2 x3 x4 x5 x6 σ13))))) ∧
  (¬ x6 < 4 →
    fb_in (x5 + 1) ∧
    r7 x2 x3 x4 (x5 + 1) σ)
def wl_X4_lowestAround_19 (r7 : Int → Int → Int → Int → fb_St → Prop) (Q : Int → fb_St → Prop) : Nat → Int → Int → Int → Int → Int → fb_St → Prop := fb_Lp (fun _ _ _ _ _ _ => False) (fun r => wb_X4_lowestAround_19 r7 r Q)
def wb_X4_lowestAround_7 (r7 : Int → Int → Int → Int → fb_St → Prop) (Q : Int → fb_St → Prop) (x2 x3 x4 x5 : Int) (σ : fb_St) : Prop :=
  (x5 < σ 5 0 →
    ∃ n, wl_X4_lowestAround_19 r7 Q n x2 x3 x4 x5 0 σ) ∧
  (¬ x5 < σ 5 0 →
    Q x4 σ)
def wl_X4_lowestAround_7 (Q : Int → fb_St → Prop) : Nat → Int → Int → Int → Int → fb_St → Prop := fb_Lp (fun _ _ _ _ _ => False) (fun r => wb_X4_lowestAround_7 r Q)
def wp_X4_lowestAround (x2 x3 : Int) (σ : fb_St) (Q : Int → fb_St → Prop) : Prop :=
  ∃ n, wl_X4_lowestAround_7 Q n x2 x3 100 0 σ
def rm_X4_markAll : Room := { frames := 0, cells := 0, slots := 0, locals := 0 }
def wb_X4_markAll_2 (r2 : Int → Int → fb_St → Prop) (Q : Int → fb_St → Prop) (x2 x3 : Int) (σ : fb_St) : Prop :=
  (x3 < σ 5 0 →
    0 ≤ x3 ∧ x3 < 144 ∧
    0 ≤ σ 6 x3 ∧ σ 6 x3 < 144 ∧
    ∀ σ8 : fb_St, σ8 = fb_up σ 3 (σ 6 x3) x2 →
    fb_in (x3 + 1) ∧
    r2 x2 (x3 + 1) σ8) ∧
  (¬ x3 < σ 5 0 →
    Q 0 σ)
def wl_X4_markAll_2 (Q : Int → fb_St → Prop) : Nat → Int → Int → fb_St → Prop := fb_Lp (fun _ _ _ => False) (fun r => wb_X4_markAll_2 r Q)
def wp_X4_markAll (x2 : Int) (σ : fb_St) (Q : Int → fb_St → Prop) : Prop :=
  ∃ n, wl_X4_markAll_2 Q n x2 0 σ
def rm_X6_findPits : Room := { frames := 3, cells := 0, slots := 0, locals := 72 }
def wj_X6_findPits_105 (r11 : Int → Int → Int → fb_St → Prop) (Q : Int → fb_St → Prop) (x1 x2 x3 : Int) (σ : fb_St) : Prop :=
  fb_in (x3 + 1) ∧
  r11 x1 x2 (x3 + 1) σ
def wb_X6_findPits_11 (r11 : Int → Int → Int → fb_St → Prop) (Q : Int → fb_St → Prop) (x1 x2 x3 : Int) (σ : fb_St) : Prop :=
  (x3 < σ 1 2 →
    wp_X4_cameTo x3 σ (fun a4 σ4 =>
      (a4 = 0 →
        0 ≤ x3 ∧ x3 < 144 ∧
        ∀ v9 : Int, v9 = σ4 2 x3 →
        wp_X4_from x3 v9 v9 σ4 (fun _ σ10 =>
          wp_X4_lowestAround v9 v9 σ10 (fun a11 σ11 =>
            (a11 < v9 →
              wj_X6_findPits_105 r11 Q x1 x2 x3 σ11) ∧
            (¬ a11 < v9 →
              fb_in (x2 + 1) ∧
              (x1 = 0 →
                wj_X6_findPits_105 r11 Q x1 (x2 + 1) x3 σ11) ∧
              (¬ x1 = 0 →
                wp_X4_markAll (x2 + 1) σ11 (fun _ σ15 =>
                  wj_X6_findPits_105 r11 Q x1 (x2 + 1) x3 σ15)))))) ∧
      (¬ a4 = 0 →
        wj_X6_findPits_105 r11 Q x1 x2 x3 σ4))) ∧
  (¬ x3 < σ 1 2 →
    Q x2 σ)
def wl_X6_findPits_11 (Q : Int → fb_St → Prop) : Nat → Int → Int → Int → fb_St → Prop := fb_Lp (fun _ _ _ _ => False) (fun r => wb_X6_findPits_11 r Q)
def wp_X6_findPits (x1 : Int) (σ : fb_St) (Q : Int → fb_St → Prop) : Prop :=
  wp_X4_forget σ (fun _ σ1 =>
    ∃ n, wl_X6_findPits_11 Q n x1 0 0 σ1)
def rm_X6_pitsAfterChange : Room := { frames := 4, cells := 0, slots := 0, locals := 96 }
def wp_X6_pitsAfterChange (σ : fb_St) (Q : Int → fb_St → Prop) : Prop :=
  wp_X6_nothingStands σ (fun _ σ1 =>
    wp_X6_findPits 0 σ1 (fun a2 σ2 =>
      Q a2 σ2))
def rm_X6_land : Room := { frames := 5, cells := 0, slots := 0, locals := 116 }
def wj_X6_land_20 (Q : Int → fb_St → Prop) (σ : fb_St) : Prop :=
  Q (-2) σ
def wp_X6_land (x1 x2 : Int) (σ : fb_St) (Q : Int → fb_St → Prop) : Prop :=
  wp_X6_within x1 1 12 σ (fun a1 σ1 =>
    (a1 = 0 →
      wj_X6_land_20 Q σ1) ∧
    (¬ a1 = 0 →
      wp_X6_within x2 1 12 σ1 (fun a3 σ3 =>
        (a3 = 0 →
          wj_X6_land_20 Q σ3) ∧
        (¬ a3 = 0 →
          wp_X5_shape x1 x2 σ3 (fun _ σ5 =>
            wp_X5_clear σ5 (fun _ σ6 =>
              wp_X6_pitsAfterChange σ6 (fun a7 σ7 =>
                Q a7 σ7)))))))
def rm_X5_ripple : Room := { frames := 0, cells := 0, slots := 0, locals := 0 }
def wb_X5_ripple_15 (r3 : Int → Int → Int → Int → Int → fb_St → Prop) (r15 : Int → Int → Int → Int → Int → Int → fb_St → Prop) (Q : Int → fb_St → Prop) (x1 x2 x3 x4 x5 x6 : Int) (σ : fb_St) : Prop :=
  (x6 < σ 1 0 →
    fb_in (x5 * (σ 1 0)) ∧
    fb_in ((x5 * (σ 1 0)) + x6) ∧
    fb_in (x1 * x6) ∧
    fb_in (x2 * x5) ∧
    fb_in ((x1 * x6) + (x2 * x5)) ∧
    fb_in (x3 * x6) ∧
    fb_in ((x3 * x6) * x5) ∧
    fb_in (((x1 * x6) + (x2 * x5)) + ((x3 * x6) * x5)) ∧
    0 ≤ ((x1 * x6) + (x2 * x5)) + ((x3 * x6) * x5) ∧ 0 < x4 ∧ fb_in ((((x1 * x6) + (x2 * x5)) + ((x3 * x6) * x5)) % x4) ∧
    0 ≤ (x5 * (σ 1 0)) + x6 ∧ (x5 * (σ 1 0)) + x6 < 144 ∧
    ∀ σ20 : fb_St, σ20 = fb_up σ 2 ((x5 * (σ 1 0)) + x6) ((((x1 * x6) + (x2 * x5)) + ((x3 * x6) * x5)) % x4) →
    fb_in (x6 + 1) ∧
    r15 x1 x2 x3 x4 x5 (x6 + 1) σ20) ∧
  (¬ x6 < σ 1 0 →
    fb_in (x5 + 1) ∧
    r3 x1 x2 x3 x4 (x5 + 1) σ)
def wl_X5_ripple_15 (r3 : Int → Int → Int → Int → Int → fb_St → Prop) (Q : Int → fb_St → Prop) : Nat → Int → Int → Int → Int → Int → Int → fb_St → Prop := fb_Lp (fun _ _ _ _ _ _ _ => False) (fun r => wb_X5_ripple_15 r3 r Q)
def wb_X5_ripple_3 (r3 : Int → Int → Int → Int → Int → fb_St → Prop) (Q : Int → fb_St → Prop) (x1 x2 x3 x4 x5 : Int) (σ : fb_St) : Prop :=
  (x5 < σ 1 1 →
    ∃ n, wl_X5_ripple_15 r3 Q n x1 x2 x3 x4 x5 0 σ) ∧
  (¬ x5 < σ 1 1 →
    Q 0 σ)
def wl_X5_ripple_3 (Q : Int → fb_St → Prop) : Nat → Int → Int → Int → Int → Int → fb_St → Prop := fb_Lp (fun _ _ _ _ _ _ => False) (fun r => wb_X5_ripple_3 r Q)
def wp_X5_ripple (x1 x2 x3 x4 : Int) (σ : fb_St) (Q : Int → fb_St → Prop) : Prop :=
  ∃ n, wl_X5_ripple_3 Q n x1 x2 x3 x4 0 σ
def rm_X6_wave : Room := { frames := 5, cells := 0, slots := 0, locals := 116 }
def wj_X6_wave_53 (Q : Int → fb_St → Prop) (σ : fb_St) : Prop :=
  Q (-2) σ
def wj_X6_wave_35 (Q : Int → fb_St → Prop) (x1 x2 x3 x4 s0 : Int) (σ : fb_St) : Prop :=
  (s0 = 0 →
    wj_X6_wave_53 Q σ) ∧
  (¬ s0 = 0 →
    wp_X6_within x4 1 100 σ (fun a8 σ8 =>
      (a8 = 0 →
        wj_X6_wave_53 Q σ8) ∧
      (¬ a8 = 0 →
        wp_X5_ripple x1 x2 x3 x4 σ8 (fun _ σ10 =>
          wp_X6_pitsAfterChange σ10 (fun a11 σ11 =>
            Q a11 σ11)))))
def wj_X6_wave_34 (Q : Int → fb_St → Prop) (x1 x2 x3 x4 : Int) (σ : fb_St) : Prop :=
  wj_X6_wave_35 Q x1 x2 x3 x4 0 σ
def wp_X6_wave (x1 x2 x3 x4 : Int) (σ : fb_St) (Q : Int → fb_St → Prop) : Prop :=
  wp_X6_within x1 0 50 σ (fun a1 σ1 =>
    (a1 = 0 →
      wj_X6_wave_34 Q x1 x2 x3 x4 σ1) ∧
    (¬ a1 = 0 →
      wp_X6_within x2 0 50 σ1 (fun a3 σ3 =>
        (a3 = 0 →
          wj_X6_wave_34 Q x1 x2 x3 x4 σ3) ∧
        (¬ a3 = 0 →
          wp_X6_within x3 0 50 σ3 (fun a5 σ5 =>
            (a5 = 0 →
              wj_X6_wave_34 Q x1 x2 x3 x4 σ5) ∧
            (¬ a5 = 0 →
              wj_X6_wave_35 Q x1 x2 x3 x4 1 σ5))))))
def rm_X5_raise : Room := { frames := 1, cells := 0, slots := 0, locals := 15 }
def wj_X5_raise_96 (r3 : Int → Int → Int → Int → Int → fb_St → Prop) (r15 : Int → Int → Int → Int → Int → Int → fb_St → Prop) (Q : Int → fb_St → Prop) (x1 x2 x3 x4 x5 x6 x9 s0 : Int) (σ : fb_St) : Prop :=
  0 ≤ x9 ∧ x9 < 144 ∧
  ∀ σ31 : fb_St, σ31 = fb_up σ 2 x9 (min (max s0 0) 99) →
  fb_in (x6 + 1) ∧
  r15 x1 x2 x3 x4 x5 (x6 + 1) σ31
def wb_X5_raise_15 (r3 : Int → Int → Int → Int → Int → fb_St → Prop) (r15 : Int → Int → Int → Int → Int → Int → fb_St → Prop) (Q : Int → fb_St → Prop) (x1 x2 x3 x4 x5 x6 : Int) (σ : fb_St) : Prop :=
  (x6 < σ 1 0 →
    fb_in (x6 - x1) ∧
    fb_in (max (x6 - x1) (-(x6 - x1))) ∧
    fb_in (x5 - x2) ∧
    fb_in (max (x5 - x2) (-(x5 - x2))) ∧
    fb_in ((max (x6 - x1) (-(x6 - x1))) + (max (x5 - x2) (-(x5 - x2)))) ∧
    ∀ v11 : Int, v11 = (max (x6 - x1) (-(x6 - x1))) + (max (x5 - x2) (-(x5 - x2))) →
    fb_in (max x3 (-x3)) ∧
    fb_in (x4 * v11) ∧
    fb_in ((max x3 (-x3)) - (x4 * v11)) ∧
    ∀ v15 : Int, v15 = (max ((max x3 (-x3)) - (x4 * v11)) 0) →
    fb_in (x5 * (σ 1 0)) ∧
    fb_in ((x5 * (σ 1 0)) + x6) ∧
    ∀ v19 : Int, v19 = (x5 * (σ 1 0)) + x6 →
    (x3 < 0 →
      0 ≤ v19 ∧ v19 < 144 ∧
      fb_in ((σ 2 v19) - v15) ∧
      wj_X5_raise_96 r3 r15 Q x1 x2 x3 x4 x5 x6 v19 ((σ 2 v19) - v15) σ) ∧
    (¬ x3 < 0 →
      0 ≤ v19 ∧ v19 < 144 ∧
      fb_in ((σ 2 v19) + v15) ∧
      wj_X5_raise_96 r3 r15 Q x1 x2 x3 x4 x5 x6 v19 ((σ 2 v19) + v15) σ)) ∧
  (¬ x6 < σ 1 0 →
    fb_in (x5 + 1) ∧
    r3 x1 x2 x3 x4 (x5 + 1) σ)
def wl_X5_raise_15 (r3 : Int → Int → Int → Int → Int → fb_St → Prop) (Q : Int → fb_St → Prop) : Nat → Int → Int → Int → Int → Int → Int → fb_St → Prop := fb_Lp (fun _ _ _ _ _ _ _ => False) (fun r => wb_X5_raise_15 r3 r Q)
def wb_X5_raise_3 (r3 : Int → Int → Int → Int → Int → fb_St → Prop) (Q : Int → fb_St → Prop) (x1 x2 x3 x4 x5 : Int) (σ : fb_St) : Prop :=
  (x5 < σ 1 1 →
    ∃ n, wl_X5_raise_15 r3 Q n x1 x2 x3 x4 x5 0 σ) ∧
  (¬ x5 < σ 1 1 →
    Q 0 σ)
def wl_X5_raise_3 (Q : Int → fb_St → Prop) : Nat → Int → Int → Int → Int → Int → fb_St → Prop := fb_Lp (fun _ _ _ _ _ _ => False) (fun r => wb_X5_raise_3 r Q)
def wp_X5_raise (x1 x2 x3 x4 : Int) (σ : fb_St) (Q : Int → fb_St → Prop) : Prop :=
  ∃ n, wl_X5_raise_3 Q n x1 x2 x3 x4 0 σ
def rm_X6_heap : Room := { frames := 5, cells := 0, slots := 0, locals := 116 }
def wj_X6_heap_47 (Q : Int → fb_St → Prop) (σ : fb_St) : Prop :=
  Q (-2) σ
def wj_X6_heap_27 (Q : Int → fb_St → Prop) (x1 x2 x3 x4 s0 : Int) (σ : fb_St) : Prop :=
  wp_X5_dotAt x1 x2 σ (fun a5 σ5 =>
    (a5 = (-1) →
      wj_X6_heap_47 Q σ5) ∧
    (¬ a5 = (-1) →
      (s0 = 0 →
        wj_X6_heap_47 Q σ5) ∧
      (¬ s0 = 0 →
        wp_X5_raise x1 x2 x3 x4 σ5 (fun _ σ8 =>
          wp_X6_pitsAfterChange σ8 (fun a9 σ9 =>
            Q a9 σ9)))))
def wj_X6_heap_26 (Q : Int → fb_St → Prop) (x1 x2 x3 x4 : Int) (σ : fb_St) : Prop :=
  wj_X6_heap_27 Q x1 x2 x3 x4 0 σ
def wp_X6_heap (x1 x2 x3 x4 : Int) (σ : fb_St) (Q : Int → fb_St → Prop) : Prop :=
  wp_X6_within x3 (-99) 99 σ (fun a1 σ1 =>
    (a1 = 0 →
      wj_X6_heap_26 Q x1 x2 x3 x4 σ1) ∧
    (¬ a1 = 0 →
      wp_X6_within x4 0 50 σ1 (fun a3 σ3 =>
        (a3 = 0 →
          wj_X6_heap_26 Q x1 x2 x3 x4 σ3) ∧
        (¬ a3 = 0 →
          wj_X6_heap_27 Q x1 x2 x3 x4 1 σ3))))
def rm_X6_put : Room := { frames := 5, cells := 0, slots := 0, locals := 116 }
def wj_X6_put_27 (Q : Int → fb_St → Prop) (σ : fb_St) : Prop :=
  Q (-2) σ
def wp_X6_put (x1 x2 x3 : Int) (σ : fb_St) (Q : Int → fb_St → Prop) : Prop :=
  wp_X5_dotAt x1 x2 σ (fun a1 σ1 =>
    (a1 = (-1) →
      wj_X6_put_27 Q σ1) ∧
    (¬ a1 = (-1) →
      wp_X6_within x3 0 99 σ1 (fun a3 σ3 =>
        (a3 = 0 →
          wj_X6_put_27 Q σ3) ∧
        (¬ a3 = 0 →
          0 ≤ a1 ∧ a1 < 144 ∧
          ∀ σ7 : fb_St, σ7 = fb_up σ3 2 a1 x3 →
          wp_X6_pitsAfterChange σ7 (fun a8 σ8 =>
            Q a8 σ8)))))
def rm_X6_mark : Room := { frames := 2, cells := 0, slots := 0, locals := 44 }
def wj_X6_mark_27 (Q : Int → fb_St → Prop) (σ : fb_St) : Prop :=
  Q (-2) σ
def wp_X6_mark (x1 x2 x3 : Int) (σ : fb_St) (Q : Int → fb_St → Prop) : Prop :=
  wp_X5_dotAt x1 x2 σ (fun a1 σ1 =>
    (a1 = (-1) →
      wj_X6_mark_27 Q σ1) ∧
    (¬ a1 = (-1) →
      wp_X6_within x3 0 99 σ1 (fun a3 σ3 =>
        (a3 = 0 →
          wj_X6_mark_27 Q σ3) ∧
        (¬ a3 = 0 →
          0 ≤ a1 ∧ a1 < 144 ∧
          ∀ v8 : Int, v8 = σ3 3 a1 →
          0 ≤ a1 ∧ a1 < 144 ∧
          ∀ σ11 : fb_St, σ11 = fb_up σ3 3 a1 x3 →
          wp_X6_nothingStands σ11 (fun _ σ12 =>
            Q v8 σ12)))))
def rm_X6_pits : Room := { frames := 4, cells := 0, slots := 0, locals := 96 }
def wp_X6_pits (σ : fb_St) (Q : Int → fb_St → Prop) : Prop :=
  ∀ σ1 : fb_St, σ1 = fb_fill σ 3 0 →
  wp_X6_nothingStands σ1 (fun _ σ2 =>
    wp_X6_findPits 1 σ2 (fun a3 σ3 =>
      Q a3 σ3))
def rm_X2_empty : Room := { frames := 1, cells := 0, slots := 0, locals := 23 }
def wp_X2_empty (σ : fb_St) (Q : Int → fb_St → Prop) : Prop :=
  ∀ σ1 : fb_St, σ1 = fb_fill σ 14 (-1) →
  ∀ σ2 : fb_St, σ2 = fb_fill σ1 15 (-1) →
  ∀ σ3 : fb_St, σ3 = fb_up σ2 13 3 0 →
  Q 0 σ3
def rm_X0_startAtMarks : Room := { frames := 0, cells := 0, slots := 0, locals := 0 }
def wj_X0_startAtMarks_82 (r2 : Int → fb_St → Prop) (Q : Int → fb_St → Prop) (x2 s0 s1 : Int) (σ : fb_St) : Prop :=
  0 ≤ s1 ∧ s1 < 144 ∧
  ∀ σ24 : fb_St, σ24 = fb_up σ 11 s1 s0 →
  fb_in (x2 + 1) ∧
  r2 (x2 + 1) σ24
def wj_X0_startAtMarks_66 (r2 : Int → fb_St → Prop) (Q : Int → fb_St → Prop) (x2 x3 s0 s1 : Int) (σ : fb_St) : Prop :=
  0 ≤ s1 ∧ s1 < 144 ∧
  ∀ σ20 : fb_St, σ20 = fb_up σ 10 s1 s0 →
  (x3 = 0 →
    wj_X0_startAtMarks_82 r2 Q x2 (-6) x2 σ20) ∧
  (¬ x3 = 0 →
    wj_X0_startAtMarks_82 r2 Q x2 0 x2 σ20)
def wj_X0_startAtMarks_45 (r2 : Int → fb_St → Prop) (Q : Int → fb_St → Prop) (x2 x3 s0 s1 : Int) (σ : fb_St) : Prop :=
  0 ≤ s1 ∧ s1 < 144 ∧
  ∀ σ13 : fb_St, σ13 = fb_up σ 9 s1 s0 →
  (x3 = 0 →
    wj_X0_startAtMarks_66 r2 Q x2 x3 (-6) x2 σ13) ∧
  (¬ x3 = 0 →
    0 ≤ x2 ∧ x2 < 144 ∧
    wj_X0_startAtMarks_66 r2 Q x2 x3 (σ13 2 x2) x2 σ13)
def wj_X0_startAtMarks_24 (r2 : Int → fb_St → Prop) (Q : Int → fb_St → Prop) (x2 s0 : Int) (σ : fb_St) : Prop :=
  (s0 = 0 →
    wj_X0_startAtMarks_45 r2 Q x2 s0 (-6) x2 σ) ∧
  (¬ s0 = 0 →
    0 ≤ x2 ∧ x2 < 144 ∧
    wj_X0_startAtMarks_45 r2 Q x2 s0 (σ 3 x2) x2 σ)
def wb_X0_startAtMarks_2 (r2 : Int → fb_St → Prop) (Q : Int → fb_St → Prop) (x2 : Int) (σ : fb_St) : Prop :=
  (x2 < σ 1 2 →
    0 ≤ x2 ∧ x2 < 144 ∧
    (0 < σ 3 x2 →
      wj_X0_startAtMarks_24 r2 Q x2 1 σ) ∧
    (¬ 0 < σ 3 x2 →
      wj_X0_startAtMarks_24 r2 Q x2 0 σ)) ∧
  (¬ x2 < σ 1 2 →
    Q 0 σ)
def wl_X0_startAtMarks_2 (Q : Int → fb_St → Prop) : Nat → Int → fb_St → Prop := fb_Lp (fun _ _ => False) (fun r => wb_X0_startAtMarks_2 r Q)
def wp_X0_startAtMarks (σ : fb_St) (Q : Int → fb_St → Prop) : Prop :=
  ∃ n, wl_X0_startAtMarks_2 Q n 0 σ
def rm_X2_add : Room := { frames := 0, cells := 0, slots := 0, locals := 0 }
def wj_X2_add_39 (Q : Int → fb_St → Prop) (x1 x2 : Int) (σ : fb_St) : Prop :=
  0 ≤ x2 ∧ x2 < 100 ∧
  ∀ σ19 : fb_St, σ19 = fb_up σ 15 x2 x1 →
  Q 0 σ19
def wp_X2_add (x1 x2 : Int) (σ : fb_St) (Q : Int → fb_St → Prop) : Prop :=
  0 ≤ x1 ∧ x1 < 144 ∧
  ∀ σ3 : fb_St, σ3 = fb_up σ 16 x1 (-1) →
  0 ≤ x2 ∧ x2 < 100 ∧
  (σ3 14 x2 = (-1) →
    0 ≤ x2 ∧ x2 < 100 ∧
    ∀ σ16 : fb_St, σ16 = fb_up σ3 14 x2 x1 →
    wj_X2_add_39 Q x1 x2 σ16) ∧
  (¬ σ3 14 x2 = (-1) →
    0 ≤ x2 ∧ x2 < 100 ∧
    0 ≤ σ3 15 x2 ∧ σ3 15 x2 < 144 ∧
    ∀ σ13 : fb_St, σ13 = fb_up σ3 16 (σ3 15 x2) x1 →
    wj_X2_add_39 Q x1 x2 σ13)
def rm_X0_lineUpAround : Room := { frames := 1, cells := 0, slots := 0, locals := 22 }
def wj_X0_lineUpAround_72 (r2 : Int → Int → fb_St → Prop) (Q : Int → fb_St → Prop) (x2 x3 : Int) (σ : fb_St) : Prop :=
  fb_in (x3 + 1) ∧
  r2 x2 (x3 + 1) σ
def wb_X0_lineUpAround_2 (r2 : Int → Int → fb_St → Prop) (Q : Int → fb_St → Prop) (x2 x3 : Int) (σ : fb_St) : Prop :=
  (x3 < 4 →
    wp_X5_neighbour x2 x3 σ (fun a2 σ2 =>
      (a2 = (-1) →
        wj_X0_lineUpAround_72 r2 Q x2 x3 σ2) ∧
      (¬ a2 = (-1) →
        0 ≤ a2 ∧ a2 < 144 ∧
        (σ2 10 a2 = (-6) →
          0 ≤ a2 ∧ a2 < 144 ∧
          0 ≤ x2 ∧ x2 < 144 ∧
          0 ≤ a2 ∧ a2 < 144 ∧
          ∀ σ16 : fb_St, σ16 = fb_up σ2 10 a2 (max (σ2 2 a2) (σ2 10 x2)) →
          0 ≤ a2 ∧ a2 < 144 ∧
          wp_X2_add a2 (σ16 10 a2) σ16 (fun _ σ20 =>
            wj_X0_lineUpAround_72 r2 Q x2 x3 σ20)) ∧
        (¬ σ2 10 a2 = (-6) →
          wj_X0_lineUpAround_72 r2 Q x2 x3 σ2)))) ∧
  (¬ x3 < 4 →
    Q 0 σ)
def wl_X0_lineUpAround_2 (Q : Int → fb_St → Prop) : Nat → Int → Int → fb_St → Prop := fb_Lp (fun _ _ _ => False) (fun r => wb_X0_lineUpAround_2 r Q)
def wp_X0_lineUpAround (x2 : Int) (σ : fb_St) (Q : Int → fb_St → Prop) : Prop :=
  ∃ n, wl_X0_lineUpAround_2 Q n x2 0 σ
def rm_X2_take : Room := { frames := 0, cells := 0, slots := 0, locals := 0 }
def wj_X2_take_65 (Q : Int → fb_St → Prop) (x1 : Int) (σ : fb_St) : Prop :=
  Q x1 σ
def wj_X2_take_35 (Q : Int → fb_St → Prop) (σ : fb_St) : Prop :=
  0 ≤ σ 13 3 ∧ σ 13 3 < 100 ∧
  ∀ v15 : Int, v15 = σ 14 (σ 13 3) →
  (v15 = (-1) →
    wj_X2_take_65 Q v15 σ) ∧
  (¬ v15 = (-1) →
    0 ≤ v15 ∧ v15 < 144 ∧
    0 ≤ σ 13 3 ∧ σ 13 3 < 100 ∧
    ∀ σ23 : fb_St, σ23 = fb_up σ 14 (σ 13 3) (σ 16 v15) →
    wj_X2_take_65 Q v15 σ23)
def wb_X2_take_0 (r0 : fb_St → Prop) (Q : Int → fb_St → Prop) (σ : fb_St) : Prop :=
  (σ 13 3 < 99 →
    0 ≤ σ 13 3 ∧ σ 13 3 < 100 ∧
    (σ 14 (σ 13 3) = (-1) →
      fb_in ((σ 13 3) + 1) ∧
      ∀ σ10 : fb_St, σ10 = fb_up σ 13 3 ((σ 13 3) + 1) →
      r0 σ10) ∧
    (¬ σ 14 (σ 13 3) = (-1) →
      wj_X2_take_35 Q σ)) ∧
  (¬ σ 13 3 < 99 →
    wj_X2_take_35 Q σ)
def wl_X2_take_0 (Q : Int → fb_St → Prop) : Nat → fb_St → Prop := fb_Lp (fun _ => False) (fun r => wb_X2_take_0 r Q)
def wp_X2_take (σ : fb_St) (Q : Int → fb_St → Prop) : Prop :=
  ∃ n, wl_X2_take_0 Q n σ
def rm_X5_basinBeside : Room := { frames := 0, cells := 0, slots := 0, locals := 0 }
def wj_X5_basinBeside_34 (oo : Nat) (Q : Int → fb_St → Prop) (s0 : Int) (σ : fb_St) : Prop :=
  Q s0 σ
def wj_X5_basinBeside_32 (oo : Nat) (Q : Int → fb_St → Prop) (σ : fb_St) : Prop :=
  wj_X5_basinBeside_34 oo Q (-6) σ
def wp_X5_basinBeside (oo : Nat) (x1 x2 : Int) (σ : fb_St) (Q : Int → fb_St → Prop) : Prop :=
  fb_in (x1 * 4) ∧
  fb_in ((x1 * 4) + x2) ∧
  0 ≤ (x1 * 4) + x2 ∧ (x1 * 4) + x2 < 576 ∧
  ∀ v6 : Int, v6 = σ 4 ((x1 * 4) + x2) →
  (v6 = (-1) →
    wj_X5_basinBeside_32 oo Q σ) ∧
  (¬ v6 = (-1) →
    0 ≤ v6 ∧ v6 < 144 ∧
    (0 < σ oo v6 →
      0 ≤ v6 ∧ v6 < 144 ∧
      wj_X5_basinBeside_34 oo Q (σ oo v6) σ) ∧
    (¬ 0 < σ oo v6 →
      wj_X5_basinBeside_32 oo Q σ))
def rm_X5_onlyBasinAround : Room := { frames := 1, cells := 0, slots := 0, locals := 24 }
def wj_X5_onlyBasinAround_49 (oo : Nat) (r6 : Int → Int → Int → fb_St → Prop) (Q : Int → fb_St → Prop) (x1 x3 x4 : Int) (σ : fb_St) : Prop :=
  fb_in (x4 + 1) ∧
  r6 x1 x3 (x4 + 1) σ
def wb_X5_onlyBasinAround_6 (oo : Nat) (r6 : Int → Int → Int → fb_St → Prop) (Q : Int → fb_St → Prop) (x1 x3 x4 : Int) (σ : fb_St) : Prop :=
  (x4 < 4 →
    wp_X5_basinBeside oo x1 x4 σ (fun a2 σ2 =>
      (a2 = (-6) →
        wj_X5_onlyBasinAround_49 oo r6 Q x1 x3 x4 σ2) ∧
      (¬ a2 = (-6) →
        (a2 = x3 →
          wj_X5_onlyBasinAround_49 oo r6 Q x1 x3 x4 σ2) ∧
        (¬ a2 = x3 →
          (x3 = (-6) →
            wj_X5_onlyBasinAround_49 oo r6 Q x1 a2 x4 σ2) ∧
          (¬ x3 = (-6) →
            Q 0 σ2))))) ∧
  (¬ x4 < 4 →
    Q x3 σ)
def wl_X5_onlyBasinAround_6 (oo : Nat) (Q : Int → fb_St → Prop) : Nat → Int → Int → Int → fb_St → Prop := fb_Lp (fun _ _ _ _ => False) (fun r => wb_X5_onlyBasinAround_6 oo r Q)
def wp_X5_onlyBasinAround (oo : Nat) (x1 : Int) (σ : fb_St) (Q : Int → fb_St → Prop) : Prop :=
  ∃ n, wl_X5_onlyBasinAround_6 oo Q n x1 (-6) 0 σ
def rm_X0_rise : Room := { frames := 2, cells := 0, slots := 0, locals := 49 }
def wj_X0_rise_37 (r14 : Int → fb_St → Prop) (Q : Int → fb_St → Prop) (x2 : Int) (σ : fb_St) : Prop :=
  fb_in (x2 + 1) ∧
  r14 (x2 + 1) σ
def wj_X0_rise_104 (r45 : Int → fb_St → Prop) (Q : Int → fb_St → Prop) (x2 : Int) (σ : fb_St) : Prop :=
  fb_in (x2 + 1) ∧
  r45 (x2 + 1) σ
def wb_X0_rise_45 (r45 : Int → fb_St → Prop) (Q : Int → fb_St → Prop) (x2 : Int) (σ : fb_St) : Prop :=
  (σ 1 2 < x2 →
    Q 0 σ) ∧
  (¬ σ 1 2 < x2 →
    wp_X2_take σ (fun a12 σ12 =>
      (a12 = (-1) →
        Q 0 σ12) ∧
      (¬ a12 = (-1) →
        0 ≤ a12 ∧ a12 < 144 ∧
        ∀ σ16 : fb_St, σ16 = fb_up σ12 11 a12 x2 →
        wp_X5_onlyBasinAround 9 a12 σ16 (fun a17 σ17 =>
          0 ≤ a12 ∧ a12 < 144 ∧
          ∀ σ20 : fb_St, σ20 = fb_up σ17 9 a12 a17 →
          0 ≤ a12 ∧ a12 < 144 ∧
          (0 < σ20 9 a12 →
            wp_X0_lineUpAround a12 σ20 (fun _ σ25 =>
              wj_X0_rise_104 r45 Q x2 σ25)) ∧
          (¬ 0 < σ20 9 a12 →
            wj_X0_rise_104 r45 Q x2 σ20)))))
def wl_X0_rise_45 (Q : Int → fb_St → Prop) : Nat → Int → fb_St → Prop := fb_Lp (fun _ _ => False) (fun r => wb_X0_rise_45 r Q)
def wb_X0_rise_14 (r14 : Int → fb_St → Prop) (Q : Int → fb_St → Prop) (x2 : Int) (σ : fb_St) : Prop :=
  (x2 < σ 1 2 →
    0 ≤ x2 ∧ x2 < 144 ∧
    (0 < σ 3 x2 →
      wp_X0_lineUpAround x2 σ (fun _ σ9 =>
        wj_X0_rise_37 r14 Q x2 σ9)) ∧
    (¬ 0 < σ 3 x2 →
      wj_X0_rise_37 r14 Q x2 σ)) ∧
  (¬ x2 < σ 1 2 →
    ∃ n, wl_X0_rise_45 Q n 1 σ)
def wl_X0_rise_14 (Q : Int → fb_St → Prop) : Nat → Int → fb_St → Prop := fb_Lp (fun _ _ => False) (fun r => wb_X0_rise_14 r Q)
def wp_X0_rise (σ : fb_St) (Q : Int → fb_St → Prop) : Prop :=
  wp_X2_empty σ (fun _ σ1 =>
    wp_X0_startAtMarks σ1 (fun _ σ2 =>
      ∃ n, wl_X0_rise_14 Q n 0 σ2))
def rm_X6_standingFlood : Room := { frames := 3, cells := 0, slots := 0, locals := 72 }
def wj_X6_standingFlood_23 (Q : Int → fb_St → Prop) (σ : fb_St) : Prop :=
  Q 0 σ
def wp_X6_standingFlood (σ : fb_St) (Q : Int → fb_St → Prop) : Prop :=
  (σ 0 8 = 0 →
    wp_X0_rise σ (fun _ σ3 =>
      ∀ σ4 : fb_St, σ4 = fb_up σ3 0 8 1 →
      wj_X6_standingFlood_23 Q σ4)) ∧
  (¬ σ 0 8 = 0 →
    wj_X6_standingFlood_23 Q σ)
def rm_X3_noteWayOut : Room := { frames := 0, cells := 0, slots := 0, locals := 0 }
def wj_X3_noteWayOut_56 (pp : Nat) (Q : Int → fb_St → Prop) (σ : fb_St) : Prop :=
  Q 0 σ
def wj_X3_noteWayOut_42 (pp : Nat) (Q : Int → fb_St → Prop) (x1 x2 x3 : Int) (σ : fb_St) : Prop :=
  0 ≤ x1 ∧ x1 < 100 ∧
  ∀ σ16 : fb_St, σ16 = fb_up σ (pp+3) x1 x3 →
  0 ≤ x1 ∧ x1 < 100 ∧
  ∀ σ19 : fb_St, σ19 = fb_up σ16 (pp+4) x1 x2 →
  wj_X3_noteWayOut_56 pp Q σ19
def wj_X3_noteWayOut_15 (pp : Nat) (Q : Int → fb_St → Prop) (x1 x2 x3 s0 : Int) (σ : fb_St) : Prop :=
  (s0 = 0 →
    0 ≤ x1 ∧ x1 < 100 ∧
    (x3 = σ (pp+3) x1 →
      0 ≤ x1 ∧ x1 < 100 ∧
      (x2 < σ (pp+4) x1 →
        wj_X3_noteWayOut_42 pp Q x1 x2 x3 σ) ∧
      (¬ x2 < σ (pp+4) x1 →
        wj_X3_noteWayOut_56 pp Q σ)) ∧
    (¬ x3 = σ (pp+3) x1 →
      wj_X3_noteWayOut_56 pp Q σ)) ∧
  (¬ s0 = 0 →
    wj_X3_noteWayOut_42 pp Q x1 x2 x3 σ)
def wp_X3_noteWayOut (pp : Nat) (x1 x2 x3 : Int) (σ : fb_St) (Q : Int → fb_St → Prop) : Prop :=
  0 ≤ x1 ∧ x1 < 100 ∧
  (x3 < σ (pp+3) x1 →
    wj_X3_noteWayOut_15 pp Q x1 x2 x3 1 σ) ∧
  (¬ x3 < σ (pp+3) x1 →
    wj_X3_noteWayOut_15 pp Q x1 x2 x3 0 σ)
def rm_X3_notePass : Room := { frames := 1, cells := 0, slots := 0, locals := 24 }
def wj_X3_notePass_27 (pp : Nat) (Q : Int → fb_St → Prop) (σ : fb_St) : Prop :=
  Q 0 σ
def wp_X3_notePass (pp : Nat) (x1 x2 x3 : Int) (σ : fb_St) (Q : Int → fb_St → Prop) : Prop :=
  (0 < x1 →
    (0 < x2 →
      (x1 = x2 →
        wj_X3_notePass_27 pp Q σ) ∧
      (¬ x1 = x2 →
        wp_X3_noteWayOut pp x1 x2 x3 σ (fun _ σ4 =>
          wp_X3_noteWayOut pp x2 x1 x3 σ4 (fun _ σ5 =>
            wj_X3_notePass_27 pp Q σ5)))) ∧
    (¬ 0 < x2 →
      wj_X3_notePass_27 pp Q σ)) ∧
  (¬ 0 < x1 →
    wj_X3_notePass_27 pp Q σ)
def rm_X3_passesOverDam : Room := { frames := 2, cells := 0, slots := 0, locals := 47 }
def wj_X3_passesOverDam_72 (pp : Nat) (r10 : Int → Int → Int → fb_St → Prop) (Q : Int → fb_St → Prop) (x2 x3 x4 : Int) (σ : fb_St) : Prop :=
  fb_in (x4 + 1) ∧
  r10 x2 x3 (x4 + 1) σ
def wb_X3_passesOverDam_35 (pp : Nat) (r10 : Int → Int → Int → fb_St → Prop) (r35 : Int → Int → Int → Int → Int → fb_St → Prop) (Q : Int → fb_St → Prop) (x2 x3 x4 x5 x6 : Int) (σ : fb_St) : Prop :=
  (x5 = (-6) →
    wj_X3_passesOverDam_72 pp r10 Q x2 x3 x4 σ) ∧
  (¬ x5 = (-6) →
    (x6 < 4 →
      wp_X5_basinBeside (pp+1) x2 x6 σ (fun a10 σ10 =>
        wp_X3_notePass pp x5 a10 x3 σ10 (fun _ σ11 =>
          fb_in (x6 + 1) ∧
          r35 x2 x3 x4 x5 (x6 + 1) σ11))) ∧
    (¬ x6 < 4 →
      wj_X3_passesOverDam_72 pp r10 Q x2 x3 x4 σ))
def wl_X3_passesOverDam_35 (pp : Nat) (r10 : Int → Int → Int → fb_St → Prop) (Q : Int → fb_St → Prop) : Nat → Int → Int → Int → Int → Int → fb_St → Prop := fb_Lp (fun _ _ _ _ _ _ => False) (fun r => wb_X3_passesOverDam_35 pp r10 r Q)
def wb_X3_passesOverDam_10 (pp : Nat) (r10 : Int → Int → Int → fb_St → Prop) (Q : Int → fb_St → Prop) (x2 x3 x4 : Int) (σ : fb_St) : Prop :=
  (x4 < 4 →
    wp_X5_basinBeside (pp+1) x2 x4 σ (fun a6 σ6 =>
      fb_in (x4 + 1) ∧
      ∃ n, wl_X3_passesOverDam_35 pp r10 Q n x2 x3 x4 a6 (x4 + 1) σ6)) ∧
  (¬ x4 < 4 →
    Q 0 σ)
def wl_X3_passesOverDam_10 (pp : Nat) (Q : Int → fb_St → Prop) : Nat → Int → Int → Int → fb_St → Prop := fb_Lp (fun _ _ _ _ => False) (fun r => wb_X3_passesOverDam_10 pp r Q)
def wp_X3_passesOverDam (pp : Nat) (x2 : Int) (σ : fb_St) (Q : Int → fb_St → Prop) : Prop :=
  0 ≤ x2 ∧ x2 < 144 ∧
  ∀ v4 : Int, v4 = σ 2 x2 →
  ∃ n, wl_X3_passesOverDam_10 pp Q n x2 v4 0 σ
def rm_X3_passesBeside : Room := { frames := 2, cells := 0, slots := 0, locals := 47 }
def wj_X3_passesBeside_58 (pp : Nat) (r2 : Int → Int → fb_St → Prop) (Q : Int → fb_St → Prop) (x2 x3 : Int) (σ : fb_St) : Prop :=
  fb_in (x3 + 1) ∧
  r2 x2 (x3 + 1) σ
def wb_X3_passesBeside_2 (pp : Nat) (r2 : Int → Int → fb_St → Prop) (Q : Int → fb_St → Prop) (x2 x3 : Int) (σ : fb_St) : Prop :=
  (x3 < 2 →
    wp_X5_neighbour x2 x3 σ (fun a2 σ2 =>
      (a2 = (-1) →
        wj_X3_passesBeside_58 pp r2 Q x2 x3 σ2) ∧
      (¬ a2 = (-1) →
        0 ≤ x2 ∧ x2 < 144 ∧
        0 ≤ a2 ∧ a2 < 144 ∧
        ∀ v10 : Int, v10 = (max (σ2 2 x2) (σ2 2 a2)) →
        0 ≤ x2 ∧ x2 < 144 ∧
        0 ≤ a2 ∧ a2 < 144 ∧
        wp_X3_notePass pp (σ2 (pp+1) x2) (σ2 (pp+1) a2) v10 σ2 (fun _ σ17 =>
          wj_X3_passesBeside_58 pp r2 Q x2 x3 σ17)))) ∧
  (¬ x3 < 2 →
    Q 0 σ)
def wl_X3_passesBeside_2 (pp : Nat) (Q : Int → fb_St → Prop) : Nat → Int → Int → fb_St → Prop := fb_Lp (fun _ _ _ => False) (fun r => wb_X3_passesBeside_2 pp r Q)
def wp_X3_passesBeside (pp : Nat) (x2 : Int) (σ : fb_St) (Q : Int → fb_St → Prop) : Prop :=
  ∃ n, wl_X3_passesBeside_2 pp Q n x2 0 σ
def rm_X3_fillWaters : Room := { frames := 1, cells := 0, slots := 0, locals := 16 }
def wj_X3_fillWaters_58 (pp : Nat) (r2 : Int → fb_St → Prop) (Q : Int → fb_St → Prop) (x2 : Int) (σ : fb_St) : Prop :=
  fb_in (x2 + 1) ∧
  r2 (x2 + 1) σ
def wb_X3_fillWaters_2 (pp : Nat) (r2 : Int → fb_St → Prop) (Q : Int → fb_St → Prop) (x2 : Int) (σ : fb_St) : Prop :=
  (x2 < σ 1 2 →
    0 ≤ x2 ∧ x2 < 144 ∧
    ∀ v6 : Int, v6 = σ (pp+1) x2 →
    (0 < v6 →
      0 ≤ v6 ∧ v6 < 100 ∧
      (σ (pp+3) v6 = 100 →
        wj_X3_fillWaters_58 pp r2 Q x2 σ) ∧
      (¬ σ (pp+3) v6 = 100 →
        0 ≤ v6 ∧ v6 < 100 ∧
        0 ≤ v6 ∧ v6 < 100 ∧
        0 ≤ x2 ∧ x2 < 144 ∧
        fb_in ((σ (pp+3) v6) - (σ 2 x2)) ∧
        fb_in ((σ (pp+6) v6) + (max ((σ (pp+3) v6) - (σ 2 x2)) 0)) ∧
        0 ≤ v6 ∧ v6 < 100 ∧
        ∀ σ25 : fb_St, σ25 = fb_up σ (pp+6) v6 ((σ (pp+6) v6) + (max ((σ (pp+3) v6) - (σ 2 x2)) 0)) →
        wj_X3_fillWaters_58 pp r2 Q x2 σ25)) ∧
    (¬ 0 < v6 →
      wj_X3_fillWaters_58 pp r2 Q x2 σ)) ∧
  (¬ x2 < σ 1 2 →
    Q 0 σ)
def wl_X3_fillWaters_2 (pp : Nat) (Q : Int → fb_St → Prop) : Nat → Int → fb_St → Prop := fb_Lp (fun _ _ => False) (fun r => wb_X3_fillWaters_2 pp r Q)
def wp_X3_fillWaters (pp : Nat) (σ : fb_St) (Q : Int → fb_St → Prop) : Prop :=
  ∃ n, wl_X3_fillWaters_2 pp Q n 0 σ
def rm_X3_measure : Room := { frames := 3, cells := 0, slots := 0, locals := 73 }
def wj_X3_measure_114 (pp : Nat) (r45 : Int → fb_St → Prop) (Q : Int → fb_St → Prop) (x2 : Int) (σ : fb_St) : Prop :=
  fb_in (x2 + 1) ∧
  r45 (x2 + 1) σ
def wb_X3_measure_45 (pp : Nat) (r45 : Int → fb_St → Prop) (Q : Int → fb_St → Prop) (x2 : Int) (σ : fb_St) : Prop :=
  (x2 < σ 1 2 →
    0 ≤ x2 ∧ x2 < 144 ∧
    ∀ v12 : Int, v12 = σ (pp+1) x2 →
    (v12 = 0 →
      wp_X3_passesOverDam pp x2 σ (fun _ σ32 =>
        wj_X3_measure_114 pp r45 Q x2 σ32)) ∧
    (¬ v12 = 0 →
      (0 < v12 →
        0 ≤ v12 ∧ v12 < 100 ∧
        fb_in ((σ (pp+5) v12) + 1) ∧
        0 ≤ v12 ∧ v12 < 100 ∧
        ∀ σ21 : fb_St, σ21 = fb_up σ (pp+5) v12 ((σ (pp+5) v12) + 1) →
        0 ≤ v12 ∧ v12 < 100 ∧
        0 ≤ x2 ∧ x2 < 144 ∧
        0 ≤ v12 ∧ v12 < 100 ∧
        ∀ σ30 : fb_St, σ30 = fb_up σ21 (pp+2) v12 (min (σ21 (pp+2) v12) (σ21 2 x2)) →
        wp_X3_passesBeside pp x2 σ30 (fun _ σ31 =>
          wj_X3_measure_114 pp r45 Q x2 σ31)) ∧
      (¬ 0 < v12 →
        wj_X3_measure_114 pp r45 Q x2 σ))) ∧
  (¬ x2 < σ 1 2 →
    wp_X3_fillWaters pp σ (fun _ σ8 =>
      Q 0 σ8))
def wl_X3_measure_45 (pp : Nat) (Q : Int → fb_St → Prop) : Nat → Int → fb_St → Prop := fb_Lp (fun _ _ => False) (fun r => wb_X3_measure_45 pp r Q)
def wp_X3_measure (pp : Nat) (σ : fb_St) (Q : Int → fb_St → Prop) : Prop :=
  ∀ σ1 : fb_St, σ1 = fb_fill σ (pp+5) 0 →
  ∀ σ2 : fb_St, σ2 = fb_fill σ1 (pp+6) 0 →
  ∀ σ3 : fb_St, σ3 = fb_fill σ2 (pp+2) 100 →
  ∀ σ4 : fb_St, σ4 = fb_fill σ3 (pp+3) 100 →
  ∀ σ5 : fb_St, σ5 = fb_fill σ4 (pp+4) (-6) →
  ∃ n, wl_X3_measure_45 pp Q n 0 σ5
def rm_X3_sizeOf : Room := { frames := 1, cells := 0, slots := 0, locals := 13 }
def wj_X3_sizeOf_55 (pp : Nat) (Q : Int → fb_St → Prop) (s0 : Int) (σ : fb_St) : Prop :=
  Q s0 σ
def wp_X3_sizeOf (pp : Nat) (x1 x2 : Int) (σ : fb_St) (Q : Int → fb_St → Prop) : Prop :=
  (x2 = 0 →
    0 ≤ x1 ∧ x1 < 100 ∧
    Q (σ (pp+5) x1) σ) ∧
  (¬ x2 = 0 →
    0 ≤ x1 ∧ x1 < 100 ∧
    (σ (pp+3) x1 = 100 →
      Q 0 σ) ∧
    (¬ σ (pp+3) x1 = 100 →
      (x2 = 1 →
        0 ≤ x1 ∧ x1 < 100 ∧
        0 ≤ x1 ∧ x1 < 100 ∧
        fb_in ((σ (pp+3) x1) - (σ (pp+2) x1)) ∧
        wj_X3_sizeOf_55 pp Q (max ((σ (pp+3) x1) - (σ (pp+2) x1)) 0) σ) ∧
      (¬ x2 = 1 →
        0 ≤ x1 ∧ x1 < 100 ∧
        wj_X3_sizeOf_55 pp Q (σ (pp+6) x1) σ)))
def rm_X3_nextToPour : Room := { frames := 2, cells := 0, slots := 0, locals := 35 }
def wj_X3_nextToPour_52 (pp : Nat) (r10 : Int → Int → Int → Int → Int → fb_St → Prop) (Q : Int → fb_St → Prop) (x1 x2 x3 x4 x5 : Int) (σ : fb_St) : Prop :=
  fb_in (x5 + 1) ∧
  r10 x1 x2 x3 x4 (x5 + 1) σ
def wb_X3_nextToPour_10 (pp : Nat) (r10 : Int → Int → Int → Int → Int → fb_St → Prop) (Q : Int → fb_St → Prop) (x1 x2 x3 x4 x5 : Int) (σ : fb_St) : Prop :=
  (99 < x5 →
    Q x3 σ) ∧
  (¬ 99 < x5 →
    0 ≤ x5 ∧ x5 < 100 ∧
    (σ (pp+3) x5 < x4 →
      wp_X3_sizeOf pp x5 x1 σ (fun a6 σ6 =>
        (a6 < x2 →
          0 ≤ x5 ∧ x5 < 100 ∧
          ∀ v11 : Int, v11 = σ6 (pp+3) x5 →
          wj_X3_nextToPour_52 pp r10 Q x1 x2 x5 v11 x5 σ6) ∧
        (¬ a6 < x2 →
          wj_X3_nextToPour_52 pp r10 Q x1 x2 x3 x4 x5 σ6))) ∧
    (¬ σ (pp+3) x5 < x4 →
      wj_X3_nextToPour_52 pp r10 Q x1 x2 x3 x4 x5 σ))
def wl_X3_nextToPour_10 (pp : Nat) (Q : Int → fb_St → Prop) : Nat → Int → Int → Int → Int → Int → fb_St → Prop := fb_Lp (fun _ _ _ _ _ _ => False) (fun r => wb_X3_nextToPour_10 pp r Q)
def wp_X3_nextToPour (pp : Nat) (x1 x2 : Int) (σ : fb_St) (Q : Int → fb_St → Prop) : Prop :=
  ∃ n, wl_X3_nextToPour_10 pp Q n x1 x2 (-6) 100 1 σ
def rm_X3_pourOut : Room := { frames := 0, cells := 0, slots := 0, locals := 0 }
def wj_X3_pourOut_38 (pp : Nat) (r10 : Int → Int → Int → fb_St → Prop) (Q : Int → fb_St → Prop) (x2 x3 x4 : Int) (σ : fb_St) : Prop :=
  fb_in (x4 + 1) ∧
  r10 x2 x3 (x4 + 1) σ
def wb_X3_pourOut_10 (pp : Nat) (r10 : Int → Int → Int → fb_St → Prop) (Q : Int → fb_St → Prop) (x2 x3 x4 : Int) (σ : fb_St) : Prop :=
  (x4 < σ 1 2 →
    0 ≤ x4 ∧ x4 < 144 ∧
    (σ (pp+1) x4 = x2 →
      0 ≤ x4 ∧ x4 < 144 ∧
      ∀ σ28 : fb_St, σ28 = fb_up σ (pp+1) x4 x3 →
      wj_X3_pourOut_38 pp r10 Q x2 x3 x4 σ28) ∧
    (¬ σ (pp+1) x4 = x2 →
      wj_X3_pourOut_38 pp r10 Q x2 x3 x4 σ)) ∧
  (¬ x4 < σ 1 2 →
    0 ≤ σ pp 0 ∧ σ pp 0 < 99 ∧
    ∀ σ10 : fb_St, σ10 = fb_up σ (pp+7) (σ pp 0) x2 →
    0 ≤ σ10 pp 0 ∧ σ10 pp 0 < 99 ∧
    ∀ σ14 : fb_St, σ14 = fb_up σ10 (pp+8) (σ10 pp 0) x3 →
    0 ≤ x2 ∧ x2 < 100 ∧
    0 ≤ σ14 pp 0 ∧ σ14 pp 0 < 99 ∧
    ∀ σ21 : fb_St, σ21 = fb_up σ14 (pp+9) (σ14 pp 0) (σ14 (pp+3) x2) →
    Q 0 σ21)
def wl_X3_pourOut_10 (pp : Nat) (Q : Int → fb_St → Prop) : Nat → Int → Int → Int → fb_St → Prop := fb_Lp (fun _ _ _ _ => False) (fun r => wb_X3_pourOut_10 pp r Q)
def wp_X3_pourOut (pp : Nat) (x2 : Int) (σ : fb_St) (Q : Int → fb_St → Prop) : Prop :=
  0 ≤ x2 ∧ x2 < 100 ∧
  ∀ v4 : Int, v4 = σ (pp+4) x2 →
  ∃ n, wl_X3_pourOut_10 pp Q n x2 v4 0 σ
def rm_X3_breakDams : Room := { frames := 2, cells := 0, slots := 0, locals := 49 }
def wj_X3_breakDams_60 (pp : Nat) (r4 : Int → Int → fb_St → Prop) (Q : Int → fb_St → Prop) (x2 x3 : Int) (σ : fb_St) : Prop :=
  fb_in (x3 + 1) ∧
  r4 x2 (x3 + 1) σ
def wb_X3_breakDams_4 (pp : Nat) (r4 : Int → Int → fb_St → Prop) (Q : Int → fb_St → Prop) (x2 x3 : Int) (σ : fb_St) : Prop :=
  (x3 < σ 1 2 →
    0 ≤ x3 ∧ x3 < 144 ∧
    0 ≤ x3 ∧ x3 < 144 ∧
    ∀ σ13 : fb_St, σ13 = fb_up σ (pp+11) x3 (σ (pp+1) x3) →
    0 ≤ x3 ∧ x3 < 144 ∧
    (σ13 (pp+1) x3 = 0 →
      wp_X5_onlyBasinAround (pp+1) x3 σ13 (fun a18 σ18 =>
        (0 < a18 →
          0 ≤ x3 ∧ x3 < 144 ∧
          ∀ σ22 : fb_St, σ22 = fb_up σ18 (pp+11) x3 a18 →
          fb_in (x2 + 1) ∧
          wj_X3_breakDams_60 pp r4 Q (x2 + 1) x3 σ22) ∧
        (¬ 0 < a18 →
          wj_X3_breakDams_60 pp r4 Q x2 x3 σ18))) ∧
    (¬ σ13 (pp+1) x3 = 0 →
      wj_X3_breakDams_60 pp r4 Q x2 x3 σ13)) ∧
  (¬ x3 < σ 1 2 →
    0 ≤ σ 1 2 ∧ σ 1 2 ≤ 144 ∧ σ 1 2 ≤ 144 ∧
    ∀ σ7 : fb_St, σ7 = fb_cp σ (pp+11) (pp+1) (σ 1 2) →
    Q x2 σ7)
def wl_X3_breakDams_4 (pp : Nat) (Q : Int → fb_St → Prop) : Nat → Int → Int → fb_St → Prop := fb_Lp (fun _ _ _ => False) (fun r => wb_X3_breakDams_4 pp r Q)
def wp_X3_breakDams (pp : Nat) (σ : fb_St) (Q : Int → fb_St → Prop) : Prop :=
  ∃ n, wl_X3_breakDams_4 pp Q n 0 0 σ
def rm_X3_run : Room := { frames := 4, cells := 0, slots := 0, locals := 96 }
def wb_X3_run_21 (pp : Nat) (r21 : Int → Int → Int → fb_St → Prop) (Q : Int → fb_St → Prop) (x3 x4 x5 : Int) (σ : fb_St) : Prop :=
  (x5 < 99 →
    wp_X3_measure pp σ (fun _ σ4 =>
      wp_X3_nextToPour pp x3 x4 σ4 (fun a5 σ5 =>
        (a5 = (-6) →
          Q 0 σ5) ∧
        (¬ a5 = (-6) →
          wp_X3_pourOut pp a5 σ5 (fun _ σ7 =>
            wp_X3_breakDams pp σ7 (fun a9 σ9 =>
              0 ≤ σ7 pp 0 ∧ σ7 pp 0 < 99 ∧
              ∀ σ12 : fb_St, σ12 = fb_up σ9 (pp+10) (σ7 pp 0) a9 →
              fb_in ((σ12 pp 0) + 1) ∧
              ∀ σ15 : fb_St, σ15 = fb_up σ12 pp 0 ((σ12 pp 0) + 1) →
              fb_in (x5 + 1) ∧
              r21 x3 x4 (x5 + 1) σ15)))))) ∧
  (¬ x5 < 99 →
    Q 0 σ)
def wl_X3_run_21 (pp : Nat) (Q : Int → fb_St → Prop) : Nat → Int → Int → Int → fb_St → Prop := fb_Lp (fun _ _ _ _ => False) (fun r => wb_X3_run_21 pp r Q)
def wp_X3_run (pp : Nat) (x3 x4 : Int) (σ : fb_St) (Q : Int → fb_St → Prop) : Prop :=
  ∀ σ1 : fb_St, σ1 = fb_cp σ 9 (pp+1) 144 →
  ∀ σ2 : fb_St, σ2 = fb_up σ1 pp 0 0 →
  ∃ n, wl_X3_run_21 pp Q n x3 x4 0 σ2
def rm_X6_standingPour : Room := { frames := 5, cells := 0, slots := 0, locals := 122 }
def wj_X6_standingPour_38 (Q : Int → fb_St → Prop) (σ : fb_St) : Prop :=
  Q 0 σ
def wp_X6_standingPour (σ : fb_St) (Q : Int → fb_St → Prop) : Prop :=
  (σ 0 9 = 0 →
    wp_X6_standingFlood σ (fun _ σ3 =>
      wp_X3_run 17 (σ3 0 6) (σ3 0 7) σ3 (fun _ σ6 =>
        ∀ σ7 : fb_St, σ7 = fb_up σ6 0 9 1 →
        wj_X6_standingPour_38 Q σ7))) ∧
  (¬ σ 0 9 = 0 →
    wj_X6_standingPour_38 Q σ)
def rm_X6_dot : Room := { frames := 6, cells := 0, slots := 0, locals := 142 }
def wp_X6_dot (x1 x2 x3 : Int) (σ : fb_St) (Q : Int → fb_St → Prop) : Prop :=
  wp_X5_dotAt x1 x2 σ (fun a1 σ1 =>
    (a1 = (-1) →
      Q (-2) σ1) ∧
    (¬ a1 = (-1) →
      (x3 = 0 →
        0 ≤ a1 ∧ a1 < 144 ∧
        Q (σ1 2 a1) σ1) ∧
      (x3 = 1 →
        0 ≤ a1 ∧ a1 < 144 ∧
        Q (σ1 3 a1) σ1) ∧
      (x3 = 2 →
        wp_X6_standingFlood σ1 (fun _ σ12 =>
          0 ≤ a1 ∧ a1 < 144 ∧
          Q (σ12 9 a1) σ12)) ∧
      (x3 = 3 →
        wp_X6_standingFlood σ1 (fun _ σ17 =>
          0 ≤ a1 ∧ a1 < 144 ∧
          Q (σ17 10 a1) σ17)) ∧
      (x3 = 4 →
        wp_X6_standingFlood σ1 (fun _ σ22 =>
          0 ≤ a1 ∧ a1 < 144 ∧
          Q (σ22 11 a1) σ22)) ∧
      (x3 = 5 →
        wp_X6_standingPour σ1 (fun _ σ27 =>
          0 ≤ a1 ∧ a1 < 144 ∧
          Q (σ27 18 a1) σ27)) ∧
      (x3 < 0 ∨ 5 < x3 →
        Q (-2) σ1)))
def rm_X6_bound : Room := { frames := 6, cells := 0, slots := 0, locals := 142 }
def wj_X6_bound_20 (Q : Int → fb_St → Prop) (σ : fb_St) : Prop :=
  Q (-2) σ
def wp_X6_bound (x1 x2 : Int) (σ : fb_St) (Q : Int → fb_St → Prop) : Prop :=
  wp_X6_within x1 0 2 σ (fun a1 σ1 =>
    (a1 = 0 →
      wj_X6_bound_20 Q σ1) ∧
    (¬ a1 = 0 →
      wp_X6_within x2 0 2000 σ1 (fun a3 σ3 =>
        (a3 = 0 →
          wj_X6_bound_20 Q σ3) ∧
        (¬ a3 = 0 →
          ∀ σ5 : fb_St, σ5 = fb_up σ3 0 6 x1 →
          ∀ σ6 : fb_St, σ6 = fb_up σ5 0 7 x2 →
          ∀ σ7 : fb_St, σ7 = fb_up σ6 0 9 0 →
          wp_X6_standingPour σ7 (fun _ σ8 =>
            Q (σ8 17 0) σ8)))))
def rm_X3_hasBasin : Room := { frames := 1, cells := 0, slots := 0, locals := 22 }
def wj_X3_hasBasin_24 (pp : Nat) (Q : Int → fb_St → Prop) (s0 : Int) (σ : fb_St) : Prop :=
  fb_B (s0) ∧ Q s0 σ
def wj_X3_hasBasin_23 (pp : Nat) (Q : Int → fb_St → Prop) (σ : fb_St) : Prop :=
  wj_X3_hasBasin_24 pp Q 0 σ
def wp_X3_hasBasin (pp : Nat) (x1 : Int) (σ : fb_St) (Q : Int → fb_St → Prop) : Prop :=
  wp_X6_within x1 1 99 σ (fun a1 σ1 =>
    (a1 = 0 →
      wj_X3_hasBasin_23 pp Q σ1) ∧
    (¬ a1 = 0 →
      0 ≤ x1 ∧ x1 < 100 ∧
      (0 < σ1 (pp+5) x1 →
        wj_X3_hasBasin_24 pp Q 1 σ1) ∧
      (¬ 0 < σ1 (pp+5) x1 →
        wj_X3_hasBasin_23 pp Q σ1)))
def rm_X6_heightOrNone : Room := { frames := 0, cells := 0, slots := 0, locals := 0 }
def wj_X6_heightOrNone_12 (Q : Int → fb_St → Prop) (s0 : Int) (σ : fb_St) : Prop :=
  Q s0 σ
def wp_X6_heightOrNone (x0 : Int) (σ : fb_St) (Q : Int → fb_St → Prop) : Prop :=
  (x0 = 100 →
    wj_X6_heightOrNone_12 Q (-6) σ) ∧
  (¬ x0 = 100 →
    wj_X6_heightOrNone_12 Q x0 σ)
def rm_X6_basin : Room := { frames := 6, cells := 0, slots := 0, locals := 142 }
def wp_X6_basin (x1 x2 : Int) (σ : fb_St) (Q : Int → fb_St → Prop) : Prop :=
  wp_X6_standingPour σ (fun _ σ1 =>
    wp_X3_hasBasin 17 x1 σ1 (fun a2 σ2 =>
      (a2 = 0 →
        Q (-1) σ2) ∧
      (¬ a2 = 0 →
        (x2 = 0 →
          wp_X3_sizeOf 17 x1 x2 σ2 (fun a5 σ5 =>
            Q a5 σ5)) ∧
        (x2 = 1 →
          wp_X3_sizeOf 17 x1 x2 σ2 (fun a7 σ7 =>
            Q a7 σ7)) ∧
        (x2 = 2 →
          wp_X3_sizeOf 17 x1 x2 σ2 (fun a9 σ9 =>
            Q a9 σ9)) ∧
        (x2 = 3 →
          0 ≤ x1 ∧ x1 < 100 ∧
          Q (σ2 19 x1) σ2) ∧
        (x2 = 4 →
          0 ≤ x1 ∧ x1 < 100 ∧
          wp_X6_heightOrNone (σ2 20 x1) σ2 (fun a18 σ18 =>
            Q a18 σ18)) ∧
        (x2 = 5 →
          0 ≤ x1 ∧ x1 < 100 ∧
          Q (σ2 21 x1) σ2) ∧
        (x2 < 0 ∨ 5 < x2 →
          Q (-2) σ2))))
def rm_X3_touches : Room := { frames := 1, cells := 0, slots := 0, locals := 24 }
def wb_X3_touches_3 (pp : Nat) (r3 : Int → Int → Int → fb_St → Prop) (Q : Int → fb_St → Prop) (x2 x3 x4 : Int) (σ : fb_St) : Prop :=
  (x4 < 4 →
    wp_X5_basinBeside (pp+1) x2 x4 σ (fun a2 σ2 =>
      (a2 = x3 →
        Q 1 σ2) ∧
      (¬ a2 = x3 →
        fb_in (x4 + 1) ∧
        r3 x2 x3 (x4 + 1) σ2))) ∧
  (¬ x4 < 4 →
    Q 0 σ)
def wl_X3_touches_3 (pp : Nat) (Q : Int → fb_St → Prop) : Nat → Int → Int → Int → fb_St → Prop := fb_Lp (fun _ _ _ _ => False) (fun r => wb_X3_touches_3 pp r Q)
def wp_X3_touches (pp : Nat) (x2 x3 : Int) (σ : fb_St) (Q : Int → fb_St → Prop) : Prop :=
  ∃ n, wl_X3_touches_3 pp Q n x2 x3 0 σ
def rm_X3_passBetween : Room := { frames := 2, cells := 0, slots := 0, locals := 48 }
def wj_X3_passBetween_135 (pp : Nat) (r7 : Int → Int → Int → Int → fb_St → Prop) (r83 : Int → Int → Int → Int → Int → Int → fb_St → Prop) (Q : Int → fb_St → Prop) (x2 x3 x4 x5 x6 x7 : Int) (σ : fb_St) : Prop :=
  fb_in (x7 + 1) ∧
  r83 x2 x3 x4 x5 x6 (x7 + 1) σ
def wj_X3_passBetween_141 (pp : Nat) (r7 : Int → Int → Int → Int → fb_St → Prop) (Q : Int → fb_St → Prop) (x2 x3 x4 x5 : Int) (σ : fb_St) : Prop :=
  fb_in (x5 + 1) ∧
  r7 x2 x3 x4 (x5 + 1) σ
def wb_X3_passBetween_83 (pp : Nat) (r7 : Int → Int → Int → Int → fb_St → Prop) (r83 : Int → Int → Int → Int → Int → Int → fb_St → Prop) (Q : Int → fb_St → Prop) (x2 x3 x4 x5 x6 x7 : Int) (σ : fb_St) : Prop :=
  (x7 < 4 →
    wp_X5_neighbour x5 x7 σ (fun a22 σ22 =>
      (a22 = (-1) →
        wj_X3_passBetween_135 pp r7 r83 Q x2 x3 x4 x5 x6 x7 σ22) ∧
      (¬ a22 = (-1) →
        0 ≤ a22 ∧ a22 < 144 ∧
        (σ22 (pp+1) a22 = x3 →
          0 ≤ a22 ∧ a22 < 144 ∧
          ∀ v31 : Int, v31 = (min x4 (max x6 (σ22 2 a22))) →
          wj_X3_passBetween_135 pp r7 r83 Q x2 x3 v31 x5 x6 x7 σ22) ∧
        (¬ σ22 (pp+1) a22 = x3 →
          wj_X3_passBetween_135 pp r7 r83 Q x2 x3 x4 x5 x6 x7 σ22)))) ∧
  (¬ x7 < 4 →
    wj_X3_passBetween_141 pp r7 Q x2 x3 x4 x5 σ)
def wl_X3_passBetween_83 (pp : Nat) (r7 : Int → Int → Int → Int → fb_St → Prop) (Q : Int → fb_St → Prop) : Nat → Int → Int → Int → Int → Int → Int → fb_St → Prop := fb_Lp (fun _ _ _ _ _ _ _ => False) (fun r => wb_X3_passBetween_83 pp r7 r Q)
def wb_X3_passBetween_7 (pp : Nat) (r7 : Int → Int → Int → Int → fb_St → Prop) (Q : Int → fb_St → Prop) (x2 x3 x4 x5 : Int) (σ : fb_St) : Prop :=
  (x5 < σ 1 2 →
    0 ≤ x5 ∧ x5 < 144 ∧
    ∀ v6 : Int, v6 = σ 2 x5 →
    0 ≤ x5 ∧ x5 < 144 ∧
    (σ (pp+1) x5 = 0 →
      wp_X3_touches pp x5 x2 σ (fun a15 σ15 =>
        (a15 = 0 →
          wj_X3_passBetween_141 pp r7 Q x2 x3 x4 x5 σ15) ∧
        (¬ a15 = 0 →
          wp_X3_touches pp x5 x3 σ15 (fun a17 σ17 =>
            (a17 = 0 →
              wj_X3_passBetween_141 pp r7 Q x2 x3 x4 x5 σ17) ∧
            (¬ a17 = 0 →
              ∀ v19 : Int, v19 = (min x4 v6) →
              wj_X3_passBetween_141 pp r7 Q x2 x3 v19 x5 σ17))))) ∧
    (¬ σ (pp+1) x5 = 0 →
      0 ≤ x5 ∧ x5 < 144 ∧
      (σ (pp+1) x5 = x2 →
        ∃ n, wl_X3_passBetween_83 pp r7 Q n x2 x3 x4 x5 v6 0 σ) ∧
      (¬ σ (pp+1) x5 = x2 →
        wj_X3_passBetween_141 pp r7 Q x2 x3 x4 x5 σ))) ∧
  (¬ x5 < σ 1 2 →
    Q x4 σ)
def wl_X3_passBetween_7 (pp : Nat) (Q : Int → fb_St → Prop) : Nat → Int → Int → Int → Int → fb_St → Prop := fb_Lp (fun _ _ _ _ _ => False) (fun r => wb_X3_passBetween_7 pp r Q)
def wp_X3_passBetween (pp : Nat) (x2 x3 : Int) (σ : fb_St) (Q : Int → fb_St → Prop) : Prop :=
  ∃ n, wl_X3_passBetween_7 pp Q n x2 x3 100 0 σ
def rm_X6_pass : Room := { frames := 6, cells := 0, slots := 0, locals := 142 }
def wj_X6_pass_21 (Q : Int → fb_St → Prop) (σ : fb_St) : Prop :=
  Q (-1) σ
def wp_X6_pass (x1 x2 : Int) (σ : fb_St) (Q : Int → fb_St → Prop) : Prop :=
  wp_X6_standingPour σ (fun _ σ1 =>
    wp_X3_hasBasin 17 x1 σ1 (fun a2 σ2 =>
      (a2 = 0 →
        wj_X6_pass_21 Q σ2) ∧
      (¬ a2 = 0 →
        wp_X3_hasBasin 17 x2 σ2 (fun a4 σ4 =>
          (a4 = 0 →
            wj_X6_pass_21 Q σ4) ∧
          (¬ a4 = 0 →
            (x1 = x2 →
              Q (-2) σ4) ∧
            (¬ x1 = x2 →
              wp_X3_passBetween 17 x1 x2 σ4 (fun a7 σ7 =>
                wp_X6_heightOrNone a7 σ7 (fun a8 σ8 =>
                  Q a8 σ8))))))))
def rm_X3_told : Room := { frames := 1, cells := 0, slots := 0, locals := 22 }
def wp_X3_told (pp : Nat) (x1 x2 : Int) (σ : fb_St) (Q : Int → fb_St → Prop) : Prop :=
  wp_X6_within x2 0 3 σ (fun a1 σ1 =>
    (a1 = 0 →
      Q (-2) σ1) ∧
    (¬ a1 = 0 →
      fb_in ((σ1 pp 0) - 1) ∧
      wp_X6_within x1 0 ((σ1 pp 0) - 1) σ1 (fun a5 σ5 =>
        (a5 = 0 →
          Q (-6) σ5) ∧
        (¬ a5 = 0 →
          (x2 = 0 →
            0 ≤ x1 ∧ x1 < 99 ∧
            Q (σ5 (pp+7) x1) σ5) ∧
          (x2 = 1 →
            0 ≤ x1 ∧ x1 < 99 ∧
            Q (σ5 (pp+8) x1) σ5) ∧
          (x2 = 2 →
            0 ≤ x1 ∧ x1 < 99 ∧
            Q (σ5 (pp+9) x1) σ5) ∧
          (x2 < 0 ∨ 2 < x2 →
            0 ≤ x1 ∧ x1 < 99 ∧
            Q (σ5 (pp+10) x1) σ5)))))
def rm_X6_poured : Room := { frames := 6, cells := 0, slots := 0, locals := 142 }
def wp_X6_poured (x1 x2 : Int) (σ : fb_St) (Q : Int → fb_St → Prop) : Prop :=
  wp_X6_standingPour σ (fun _ σ1 =>
    wp_X3_told 17 x1 x2 σ1 (fun a2 σ2 =>
      Q a2 σ2))
def rm_X6_standingTree : Room := { frames := 5, cells := 0, slots := 0, locals := 122 }
def wj_X6_standingTree_34 (Q : Int → fb_St → Prop) (σ : fb_St) : Prop :=
  Q 0 σ
def wp_X6_standingTree (σ : fb_St) (Q : Int → fb_St → Prop) : Prop :=
  (σ 0 10 = 0 →
    wp_X6_standingFlood σ (fun _ σ3 =>
      wp_X3_run 29 0 145 σ3 (fun _ σ4 =>
        ∀ σ5 : fb_St, σ5 = fb_up σ4 0 10 1 →
        wj_X6_standingTree_34 Q σ5))) ∧
  (¬ σ 0 10 = 0 →
    wj_X6_standingTree_34 Q σ)
def rm_X6_tree : Room := { frames := 6, cells := 0, slots := 0, locals := 142 }
def wp_X6_tree (x1 x2 : Int) (σ : fb_St) (Q : Int → fb_St → Prop) : Prop :=
  wp_X6_standingTree σ (fun _ σ1 =>
    wp_X3_told 29 x1 x2 σ1 (fun a2 σ2 =>
      Q a2 σ2))
def rm_X6_leastLevelBetween : Room := { frames := 3, cells := 0, slots := 0, locals := 72 }
def wj_X6_leastLevelBetween_95 (r29 : Int → Int → Int → Int → Int → fb_St → Prop) (Q : Int → fb_St → Prop) (x1 x2 x3 x4 x5 : Int) (σ : fb_St) : Prop :=
  fb_in (x5 + 1) ∧
  r29 x1 x2 x3 x4 (x5 + 1) σ
def wj_X6_leastLevelBetween_101 (Q : Int → fb_St → Prop) (x3 : Int) (σ : fb_St) : Prop :=
  Q x3 σ
def wb_X6_leastLevelBetween_29 (r29 : Int → Int → Int → Int → Int → fb_St → Prop) (Q : Int → fb_St → Prop) (x1 x2 x3 x4 x5 : Int) (σ : fb_St) : Prop :=
  (x5 < 7 →
    (x3 < x4 →
      fb_in (x3 + x4) ∧
      0 ≤ x3 + x4 ∧ 0 < 2 ∧ fb_in ((x3 + x4) / 2) ∧
      ∀ v14 : Int, v14 = (x3 + x4) / 2 →
      wp_X4_forget σ (fun _ σ15 =>
        wp_X4_from x1 0 v14 σ15 (fun _ σ16 =>
          wp_X4_cameTo x2 σ16 (fun a17 σ17 =>
            (a17 = 0 →
              fb_in (v14 + 1) ∧
              wj_X6_leastLevelBetween_95 r29 Q x1 x2 (v14 + 1) x4 x5 σ17) ∧
            (¬ a17 = 0 →
              wj_X6_leastLevelBetween_95 r29 Q x1 x2 x3 v14 x5 σ17))))) ∧
    (¬ x3 < x4 →
      wj_X6_leastLevelBetween_101 Q x3 σ)) ∧
  (¬ x5 < 7 →
    wj_X6_leastLevelBetween_101 Q x3 σ)
def wl_X6_leastLevelBetween_29 (Q : Int → fb_St → Prop) : Nat → Int → Int → Int → Int → Int → fb_St → Prop := fb_Lp (fun _ _ _ _ _ _ => False) (fun r => wb_X6_leastLevelBetween_29 r Q)
def wp_X6_leastLevelBetween (x1 x2 : Int) (σ : fb_St) (Q : Int → fb_St → Prop) : Prop :=
  0 ≤ x1 ∧ x1 < 144 ∧
  0 ≤ x2 ∧ x2 < 144 ∧
  ∀ v7 : Int, v7 = (max (σ 2 x1) (σ 2 x2)) →
  ∃ n, wl_X6_leastLevelBetween_29 Q n x1 x2 v7 99 0 σ
def rm_X6_over : Room := { frames := 4, cells := 0, slots := 0, locals := 98 }
def wj_X6_over_35 (Q : Int → fb_St → Prop) (σ : fb_St) : Prop :=
  Q (-2) σ
def wp_X6_over (x1 x2 x3 x4 : Int) (σ : fb_St) (Q : Int → fb_St → Prop) : Prop :=
  wp_X5_dotAt x1 x2 σ (fun a1 σ1 =>
    wp_X5_dotAt x3 x4 σ1 (fun a2 σ2 =>
      (a1 = (-1) →
        wj_X6_over_35 Q σ2) ∧
      (¬ a1 = (-1) →
        (a2 = (-1) →
          wj_X6_over_35 Q σ2) ∧
        (¬ a2 = (-1) →
          wp_X6_leastLevelBetween a1 a2 σ2 (fun a5 σ5 =>
            Q a5 σ5)))))
def rm_X4_waterBelow : Room := { frames := 0, cells := 0, slots := 0, locals := 0 }
def wb_X4_waterBelow_5 (r5 : Int → Int → Int → fb_St → Prop) (Q : Int → fb_St → Prop) (x2 x3 x4 : Int) (σ : fb_St) : Prop :=
  (x4 < σ 5 0 →
    0 ≤ x4 ∧ x4 < 144 ∧
    0 ≤ σ 6 x4 ∧ σ 6 x4 < 144 ∧
    fb_in (x2 - (σ 2 (σ 6 x4))) ∧
    fb_in (x3 + (x2 - (σ 2 (σ 6 x4)))) ∧
    ∀ v11 : Int, v11 = x3 + (x2 - (σ 2 (σ 6 x4))) →
    fb_in (x4 + 1) ∧
    r5 x2 v11 (x4 + 1) σ) ∧
  (¬ x4 < σ 5 0 →
    Q x3 σ)
def wl_X4_waterBelow_5 (Q : Int → fb_St → Prop) : Nat → Int → Int → Int → fb_St → Prop := fb_Lp (fun _ _ _ _ => False) (fun r => wb_X4_waterBelow_5 r Q)
def wp_X4_waterBelow (x2 : Int) (σ : fb_St) (Q : Int → fb_St → Prop) : Prop :=
  ∃ n, wl_X4_waterBelow_5 Q n x2 0 0 σ
def rm_X6_wet : Room := { frames := 3, cells := 0, slots := 0, locals := 72 }
def wj_X6_wet_37 (Q : Int → fb_St → Prop) (σ : fb_St) : Prop :=
  Q (-2) σ
def wp_X6_wet (x1 x2 x3 x4 : Int) (σ : fb_St) (Q : Int → fb_St → Prop) : Prop :=
  wp_X5_dotAt x1 x2 σ (fun a1 σ1 =>
    (a1 = (-1) →
      wj_X6_wet_37 Q σ1) ∧
    (¬ a1 = (-1) →
      wp_X6_within x3 0 99 σ1 (fun a3 σ3 =>
        (a3 = 0 →
          wj_X6_wet_37 Q σ3) ∧
        (¬ a3 = 0 →
          wp_X6_within x4 0 2 σ3 (fun a5 σ5 =>
            (a5 = 0 →
              wj_X6_wet_37 Q σ5) ∧
            (¬ a5 = 0 →
              wp_X4_forget σ5 (fun _ σ7 =>
                wp_X4_from a1 0 x3 σ7 (fun _ σ8 =>
                  (x4 = 0 →
                    Q (σ8 5 0) σ8) ∧
                  (x4 = 1 →
                    wp_X4_waterBelow x3 σ8 (fun a12 σ12 =>
                      Q a12 σ12)) ∧
                  (¬ x4 = 0 ∧ ¬ x4 = 1 →
                    wp_X4_lowestAround 0 x3 σ8 (fun a13 σ13 =>
                      wp_X6_heightOrNone a13 σ13 (fun a14 σ14 =>
                        Q a14 σ14)))))))))))
def rm_X5_countMarks : Room := { frames := 0, cells := 0, slots := 0, locals := 0 }
def wj_X5_countMarks_24 (r4 : Int → Int → fb_St → Prop) (Q : Int → fb_St → Prop) (x1 x2 : Int) (σ : fb_St) : Prop :=
  fb_in (x2 + 1) ∧
  r4 x1 (x2 + 1) σ
def wb_X5_countMarks_4 (r4 : Int → Int → fb_St → Prop) (Q : Int → fb_St → Prop) (x1 x2 : Int) (σ : fb_St) : Prop :=
  (x2 < σ 1 2 →
    0 ≤ x2 ∧ x2 < 144 ∧
    (0 < σ 3 x2 →
      fb_in (x1 + 1) ∧
      wj_X5_countMarks_24 r4 Q (x1 + 1) x2 σ) ∧
    (¬ 0 < σ 3 x2 →
      wj_X5_countMarks_24 r4 Q x1 x2 σ)) ∧
  (¬ x2 < σ 1 2 →
    Q x1 σ)
def wl_X5_countMarks_4 (Q : Int → fb_St → Prop) : Nat → Int → Int → fb_St → Prop := fb_Lp (fun _ _ _ => False) (fun r => wb_X5_countMarks_4 r Q)
def wp_X5_countMarks (σ : fb_St) (Q : Int → fb_St → Prop) : Prop :=
  ∃ n, wl_X5_countMarks_4 Q n 0 0 σ
def rm_X0_countBasins : Room := { frames := 1, cells := 0, slots := 0, locals := 23 }
def wj_X0_countBasins_54 (r12 : Int → Int → fb_St → Prop) (Q : Int → fb_St → Prop) (x2 x3 : Int) (σ : fb_St) : Prop :=
  fb_in (x3 + 1) ∧
  r12 x2 (x3 + 1) σ
def wb_X0_countBasins_12 (r12 : Int → Int → fb_St → Prop) (Q : Int → fb_St → Prop) (x2 x3 : Int) (σ : fb_St) : Prop :=
  (x3 < σ 1 2 →
    0 ≤ x3 ∧ x3 < 144 ∧
    ∀ v7 : Int, v7 = σ 3 x3 →
    (0 < v7 →
      0 ≤ v7 ∧ v7 < 100 ∧
      (σ 12 v7 = 0 →
        0 ≤ v7 ∧ v7 < 100 ∧
        ∀ σ15 : fb_St, σ15 = fb_up σ 12 v7 1 →
        fb_in (x2 + 1) ∧
        wj_X0_countBasins_54 r12 Q (x2 + 1) x3 σ15) ∧
      (¬ σ 12 v7 = 0 →
        wj_X0_countBasins_54 r12 Q x2 x3 σ)) ∧
    (¬ 0 < v7 →
      wj_X0_countBasins_54 r12 Q x2 x3 σ)) ∧
  (¬ x3 < σ 1 2 →
    Q x2 σ)
def wl_X0_countBasins_12 (Q : Int → fb_St → Prop) : Nat → Int → Int → fb_St → Prop := fb_Lp (fun _ _ _ => False) (fun r => wb_X0_countBasins_12 r Q)
def wp_X0_countBasins (σ : fb_St) (Q : Int → fb_St → Prop) : Prop :=
  ∀ σ1 : fb_St, σ1 = fb_fill σ 12 0 →
  ∃ n, wl_X0_countBasins_12 Q n 0 0 σ1
def rm_X3_countBasins : Room := { frames := 0, cells := 0, slots := 0, locals := 0 }
def wj_X3_countBasins_22 (pp : Nat) (r4 : Int → Int → fb_St → Prop) (Q : Int → fb_St → Prop) (x1 x2 : Int) (σ : fb_St) : Prop :=
  fb_in (x2 + 1) ∧
  r4 x1 (x2 + 1) σ
def wb_X3_countBasins_4 (pp : Nat) (r4 : Int → Int → fb_St → Prop) (Q : Int → fb_St → Prop) (x1 x2 : Int) (σ : fb_St) : Prop :=
  (99 < x2 →
    Q x1 σ) ∧
  (¬ 99 < x2 →
    0 ≤ x2 ∧ x2 < 100 ∧
    (0 < σ (pp+5) x2 →
      fb_in (x1 + 1) ∧
      wj_X3_countBasins_22 pp r4 Q (x1 + 1) x2 σ) ∧
    (¬ 0 < σ (pp+5) x2 →
      wj_X3_countBasins_22 pp r4 Q x1 x2 σ))
def wl_X3_countBasins_4 (pp : Nat) (Q : Int → fb_St → Prop) : Nat → Int → Int → fb_St → Prop := fb_Lp (fun _ _ _ => False) (fun r => wb_X3_countBasins_4 pp r Q)
def wp_X3_countBasins (pp : Nat) (σ : fb_St) (Q : Int → fb_St → Prop) : Prop :=
  ∃ n, wl_X3_countBasins_4 pp Q n 0 1 σ
def rm_X5_countDams : Room := { frames := 0, cells := 0, slots := 0, locals := 0 }
def wj_X5_countDams_21 (oo : Nat) (r4 : Int → Int → fb_St → Prop) (Q : Int → fb_St → Prop) (x2 x3 : Int) (σ : fb_St) : Prop :=
  fb_in (x3 + 1) ∧
  r4 x2 (x3 + 1) σ
def wb_X5_countDams_4 (oo : Nat) (r4 : Int → Int → fb_St → Prop) (Q : Int → fb_St → Prop) (x2 x3 : Int) (σ : fb_St) : Prop :=
  (x3 < σ 1 2 →
    0 ≤ x3 ∧ x3 < 144 ∧
    (σ oo x3 = 0 →
      fb_in (x2 + 1) ∧
      wj_X5_countDams_21 oo r4 Q (x2 + 1) x3 σ) ∧
    (¬ σ oo x3 = 0 →
      wj_X5_countDams_21 oo r4 Q x2 x3 σ)) ∧
  (¬ x3 < σ 1 2 →
    Q x2 σ)
def wl_X5_countDams_4 (oo : Nat) (Q : Int → fb_St → Prop) : Nat → Int → Int → fb_St → Prop := fb_Lp (fun _ _ _ => False) (fun r => wb_X5_countDams_4 oo r Q)
def wp_X5_countDams (oo : Nat) (σ : fb_St) (Q : Int → fb_St → Prop) : Prop :=
  ∃ n, wl_X5_countDams_4 oo Q n 0 0 σ
def rm_X0_greatestLevel : Room := { frames := 1, cells := 0, slots := 0, locals := 13 }
def wb_X0_greatestLevel_5 (r5 : Int → Int → fb_St → Prop) (Q : Int → fb_St → Prop) (x2 x3 : Int) (σ : fb_St) : Prop :=
  (x3 < σ 1 2 →
    0 ≤ x3 ∧ x3 < 144 ∧
    ∀ v6 : Int, v6 = (max x2 (σ 10 x3)) →
    fb_in (x3 + 1) ∧
    r5 v6 (x3 + 1) σ) ∧
  (¬ x3 < σ 1 2 →
    Q x2 σ)
def wl_X0_greatestLevel_5 (Q : Int → fb_St → Prop) : Nat → Int → Int → fb_St → Prop := fb_Lp (fun _ _ _ => False) (fun r => wb_X0_greatestLevel_5 r Q)
def wp_X0_greatestLevel (σ : fb_St) (Q : Int → fb_St → Prop) : Prop :=
  ∃ n, wl_X0_greatestLevel_5 Q n (-6) 0 σ
def rm_X6_count : Room := { frames := 6, cells := 0, slots := 0, locals := 142 }
def wj_X6_count_212 (Q : Int → fb_St → Prop) (s0 s1 : Int) (σ : fb_St) : Prop :=
  fb_in (s1 + s0) ∧
  Q (s1 + s0) σ
def wj_X6_count_195 (Q : Int → fb_St → Prop) (s0 : Int) (σ : fb_St) : Prop :=
  (σ 45 0 = 0 →
    wj_X6_count_212 Q 0 s0 σ) ∧
  (¬ σ 45 0 = 0 →
    wj_X6_count_212 Q 2 s0 σ)
def wp_X6_count (x1 : Int) (σ : fb_St) (Q : Int → fb_St → Prop) : Prop :=
  (x1 = 0 →
    Q (σ 1 0) σ) ∧
  (x1 = 1 →
    Q (σ 1 1) σ) ∧
  (x1 = 2 →
    wp_X6_findPits 0 σ (fun a6 σ6 =>
      Q a6 σ6)) ∧
  (x1 = 3 →
    wp_X5_countMarks σ (fun a8 σ8 =>
      Q a8 σ8)) ∧
  (x1 = 4 →
    wp_X6_standingFlood σ (fun _ σ10 =>
      wp_X0_countBasins σ10 (fun a11 σ11 =>
        Q a11 σ11))) ∧
  (x1 = 5 →
    wp_X6_standingPour σ (fun _ σ13 =>
      wp_X3_countBasins 17 σ13 (fun a14 σ14 =>
        Q a14 σ14))) ∧
  (x1 = 6 →
    wp_X6_standingFlood σ (fun _ σ16 =>
      wp_X5_countDams 9 σ16 (fun a17 σ17 =>
        Q a17 σ17))) ∧
  (x1 = 7 →
    wp_X6_standingPour σ (fun _ σ19 =>
      wp_X5_countDams 18 σ19 (fun a20 σ20 =>
        Q a20 σ20))) ∧
  (x1 = 8 →
    wp_X6_standingFlood σ (fun _ σ22 =>
      wp_X0_greatestLevel σ22 (fun a23 σ23 =>
        Q a23 σ23))) ∧
  (x1 = 9 →
    Q (σ 0 6) σ) ∧
  (x1 = 10 →
    Q (σ 0 7) σ) ∧
  (x1 = 11 →
    wp_X6_standingTree σ (fun _ σ29 =>
      Q (σ29 29 0) σ29)) ∧
  (x1 = 12 →
    (σ 42 0 = 0 →
      wj_X6_count_195 Q 0 σ) ∧
    (¬ σ 42 0 = 0 →
      wj_X6_count_195 Q 1 σ)) ∧
  (x1 < 0 ∨ 12 < x1 →
    Q (-2) σ)
def rm_X1_keep : Room := { frames := 1, cells := 0, slots := 0, locals := 18 }
def wp_X1_keep (gg : Nat) (x2 x3 : Int) (σ : fb_St) (Q : Int → fb_St → Prop) : Prop :=
  ∀ σ1 : fb_St, σ1 = fb_up σ gg 0 1 →
  ∀ σ2 : fb_St, σ2 = fb_up σ1 gg 1 x2 →
  ∀ σ3 : fb_St, σ3 = fb_up σ2 gg 2 x3 →
  ∀ σ5 : fb_St, σ5 = fb_up σ3 gg 3 (σ3 1 0) →
  ∀ σ7 : fb_St, σ7 = fb_up σ5 gg 4 (σ5 1 1) →
  ∀ σ8 : fb_St, σ8 = fb_cp σ7 2 (gg+1) 144 →
  ∀ σ9 : fb_St, σ9 = fb_cp σ8 3 (gg+2) 144 →
  Q 0 σ9
def rm_X6_image : Room := { frames := 2, cells := 0, slots := 0, locals := 41 }
def wp_X6_image (x1 : Int) (σ : fb_St) (Q : Int → fb_St → Prop) : Prop :=
  wp_X6_within x1 0 1 σ (fun a1 σ1 =>
    (a1 = 0 →
      Q (-2) σ1) ∧
    (¬ a1 = 0 →
      (x1 = 0 →
        wp_X1_keep 42 (σ1 0 6) (σ1 0 7) σ1 (fun _ σ6 =>
          Q 1 σ6)) ∧
      (x1 = 1 →
        wp_X1_keep 45 (σ1 0 6) (σ1 0 7) σ1 (fun _ σ9 =>
          Q 1 σ9)) ∧
      (x1 = 0 ∨ x1 = 1)))
def rm_X1_giveBack : Room := { frames := 3, cells := 0, slots := 0, locals := 69 }
def wp_X1_giveBack (gg : Nat) (σ : fb_St) (Q : Int → fb_St → Prop) : Prop :=
  wp_X5_shape (σ gg 3) (σ gg 4) σ (fun _ σ3 =>
    ∀ σ4 : fb_St, σ4 = fb_cp σ3 (gg+1) 2 144 →
    ∀ σ5 : fb_St, σ5 = fb_cp σ4 (gg+2) 3 144 →
    Q 0 σ5)
def rm_X6_restore : Room := { frames := 4, cells := 0, slots := 0, locals := 90 }
def wp_X6_restore (x1 : Int) (σ : fb_St) (Q : Int → fb_St → Prop) : Prop :=
  wp_X6_within x1 0 1 σ (fun a1 σ1 =>
    (a1 = 0 →
      Q (-2) σ1) ∧
    (¬ a1 = 0 →
      (x1 = 0 →
        (σ1 42 0 = 0 →
          Q (-3) σ1) ∧
        (¬ σ1 42 0 = 0 →
          wp_X1_giveBack 42 σ1 (fun _ σ6 =>
            ∀ σ8 : fb_St, σ8 = fb_up σ6 0 6 (σ6 42 1) →
            ∀ σ10 : fb_St, σ10 = fb_up σ8 0 7 (σ8 42 2) →
            wp_X6_nothingStands σ10 (fun _ σ11 =>
              Q 1 σ11)))) ∧
      (x1 = 1 →
        (σ1 45 0 = 0 →
          Q (-3) σ1) ∧
        (¬ σ1 45 0 = 0 →
          wp_X1_giveBack 45 σ1 (fun _ σ14 =>
            ∀ σ16 : fb_St, σ16 = fb_up σ14 0 6 (σ14 45 1) →
            ∀ σ18 : fb_St, σ18 = fb_up σ16 0 7 (σ16 45 2) →
            wp_X6_nothingStands σ18 (fun _ σ19 =>
              Q 1 σ19)))) ∧
      (x1 = 0 ∨ x1 = 1)))
end
section
def rm_X7_in : Room := { frames := 0, cells := 0, slots := 0, locals := 0 }
def wj_X7_in_15 (Q : Int → fb_St → Prop) (s0 : Int) (σ : fb_St) : Prop :=
  fb_B (s0) ∧ Q s0 σ
def wj_X7_in_14 (Q : Int → fb_St → Prop) (σ : fb_St) : Prop :=
  wj_X7_in_15 Q 0 σ
def wp_X7_in (x0 x1 x2 : Int) (σ : fb_St) (Q : Int → fb_St → Prop) : Prop :=
  (x0 < x1 →
    wj_X7_in_14 Q σ) ∧
  (¬ x0 < x1 →
    (x2 < x0 →
      wj_X7_in_14 Q σ) ∧
    (¬ x2 < x0 →
      wj_X7_in_15 Q 1 σ))
def rm_X7_isDot : Room := { frames := 1, cells := 0, slots := 0, locals := 22 }
def wj_X7_isDot_41 (Q : Int → fb_St → Prop) (s0 : Int) (σ : fb_St) : Prop :=
  fb_B (s0) ∧ Q s0 σ
def wj_X7_isDot_40 (Q : Int → fb_St → Prop) (σ : fb_St) : Prop :=
  wj_X7_isDot_41 Q 0 σ
def wp_X7_isDot (x1 x2 : Int) (σ : fb_St) (Q : Int → fb_St → Prop) : Prop :=
  fb_in ((σ 49 288) - 1) ∧
  wp_X7_in x1 0 ((σ 49 288) - 1) σ (fun a3 σ3 =>
    (a3 = 0 →
      wj_X7_isDot_40 Q σ3) ∧
    (¬ a3 = 0 →
      fb_in ((σ3 49 289) - 1) ∧
      wp_X7_in x2 0 ((σ3 49 289) - 1) σ3 (fun a7 σ7 =>
        (a7 = 0 →
          wj_X7_isDot_40 Q σ7) ∧
        (¬ a7 = 0 →
          wj_X7_isDot_41 Q 1 σ7))))
def rm_X7_dots : Room := { frames := 0, cells := 0, slots := 0, locals := 0 }
def wp_X7_dots (σ : fb_St) (Q : Int → fb_St → Prop) : Prop :=
  fb_in ((σ 49 288) * (σ 49 289)) ∧
  Q ((σ 49 288) * (σ 49 289)) σ
def rm_X7_at : Room := { frames := 0, cells := 0, slots := 0, locals := 0 }
def wp_X7_at (x1 x2 : Int) (σ : fb_St) (Q : Int → fb_St → Prop) : Prop :=
  fb_in ((σ 49 288) * x2) ∧
  fb_in (((σ 49 288) * x2) + x1) ∧
  Q (((σ 49 288) * x2) + x1) σ
def rm_X7_beside : Room := { frames := 2, cells := 0, slots := 0, locals := 44 }
def wj_X7_beside_84 (Q : Int → fb_St → Prop) (s0 : Int) (σ : fb_St) : Prop :=
  Q s0 σ
def wj_X7_beside_59 (Q : Int → fb_St → Prop) (x3 s0 s1 : Int) (σ : fb_St) : Prop :=
  fb_in (s1 + s0) ∧
  ∀ v16 : Int, v16 = s1 + s0 →
  wp_X7_isDot x3 v16 σ (fun a17 σ17 =>
    (a17 = 0 →
      wj_X7_beside_84 Q (-6) σ17) ∧
    (¬ a17 = 0 →
      wp_X7_at x3 v16 σ17 (fun a19 σ19 =>
        wj_X7_beside_84 Q a19 σ19)))
def wj_X7_beside_28 (Q : Int → fb_St → Prop) (x1 x2 s0 s1 : Int) (σ : fb_St) : Prop :=
  fb_in (s1 + s0) ∧
  ∀ v8 : Int, v8 = s1 + s0 →
  0 ≤ x1 ∧ 0 < σ 49 288 ∧ fb_in (x1 / (σ 49 288)) ∧
  (x2 = 1 →
    wj_X7_beside_59 Q v8 1 (x1 / (σ 49 288)) σ) ∧
  (¬ x2 = 1 →
    (x2 = 3 →
      wj_X7_beside_59 Q v8 (-1) (x1 / (σ 49 288)) σ) ∧
    (¬ x2 = 3 →
      wj_X7_beside_59 Q v8 0 (x1 / (σ 49 288)) σ))
def wp_X7_beside (x1 x2 : Int) (σ : fb_St) (Q : Int → fb_St → Prop) : Prop :=
  0 ≤ x1 ∧ 0 < σ 49 288 ∧ fb_in (x1 % (σ 49 288)) ∧
  (x2 = 0 →
    wj_X7_beside_28 Q x1 x2 1 (x1 % (σ 49 288)) σ) ∧
  (¬ x2 = 0 →
    (x2 = 2 →
      wj_X7_beside_28 Q x1 x2 (-1) (x1 % (σ 49 288)) σ) ∧
    (¬ x2 = 2 →
      wj_X7_beside_28 Q x1 x2 0 (x1 % (σ 49 288)) σ))
def rm_X7_greater : Room := { frames := 0, cells := 0, slots := 0, locals := 0 }
def wj_X7_greater_10 (Q : Int → fb_St → Prop) (s0 : Int) (σ : fb_St) : Prop :=
  Q s0 σ
def wp_X7_greater (x0 x1 : Int) (σ : fb_St) (Q : Int → fb_St → Prop) : Prop :=
  (x1 < x0 →
    wj_X7_greater_10 Q x0 σ) ∧
  (¬ x1 < x0 →
    wj_X7_greater_10 Q x1 σ)
def rm_X7_size : Room := { frames := 0, cells := 0, slots := 0, locals := 0 }
def wj_X7_size_10 (Q : Int → fb_St → Prop) (s0 : Int) (σ : fb_St) : Prop :=
  Q s0 σ
def wp_X7_size (x0 : Int) (σ : fb_St) (Q : Int → fb_St → Prop) : Prop :=
  (x0 < 0 →
    fb_in (-x0) ∧
    wj_X7_size_10 Q (-x0) σ) ∧
  (¬ x0 < 0 →
    wj_X7_size_10 Q x0 σ)
def rm_X7_spread : Room := { frames := 3, cells := 0, slots := 0, locals := 68 }
def wj_X7_spread_140 (r45 : Int → Int → Int → Int → fb_St → Prop) (r55 : Int → Int → Int → Int → Int → fb_St → Prop) (Q : Int → fb_St → Prop) (x2 x3 x4 x5 x6 : Int) (σ : fb_St) : Prop :=
  fb_in (x6 + 1) ∧
  r55 x2 x3 x4 x5 (x6 + 1) σ
def wj_X7_spread_120 (r45 : Int → Int → Int → Int → fb_St → Prop) (r55 : Int → Int → Int → Int → Int → fb_St → Prop) (Q : Int → fb_St → Prop) (x2 x3 x4 x5 x6 x7 : Int) (σ : fb_St) : Prop :=
  0 ≤ x7 ∧ x7 < 144 ∧
  ∀ σ34 : fb_St, σ34 = fb_up σ 54 x7 1 →
  0 ≤ x4 ∧ x4 < 144 ∧
  ∀ σ37 : fb_St, σ37 = fb_up σ34 53 x4 x7 →
  fb_in (x4 + 1) ∧
  wj_X7_spread_140 r45 r55 Q x2 x3 (x4 + 1) x5 x6 σ37
def wb_X7_spread_55 (r45 : Int → Int → Int → Int → fb_St → Prop) (r55 : Int → Int → Int → Int → Int → fb_St → Prop) (Q : Int → fb_St → Prop) (x2 x3 x4 x5 x6 : Int) (σ : fb_St) : Prop :=
  (x6 < 4 →
    0 ≤ x5 ∧ x5 < 144 ∧
    wp_X7_beside (σ 53 x5) x6 σ (fun a16 σ16 =>
      (a16 < 0 →
        wj_X7_spread_140 r45 r55 Q x2 x3 x4 x5 x6 σ16) ∧
      (¬ a16 < 0 →
        0 ≤ a16 ∧ a16 < 144 ∧
        (σ16 54 a16 = 0 →
          (x3 = 0 →
            0 ≤ a16 ∧ a16 < 292 ∧
            (x2 < σ16 49 a16 →
              wj_X7_spread_140 r45 r55 Q x2 x3 x4 x5 x6 σ16) ∧
            (¬ x2 < σ16 49 a16 →
              wj_X7_spread_120 r45 r55 Q x2 x3 x4 x5 x6 a16 σ16)) ∧
          (¬ x3 = 0 →
            0 ≤ a16 ∧ a16 < 292 ∧
            (σ16 49 a16 = x2 →
              wj_X7_spread_120 r45 r55 Q x2 x3 x4 x5 x6 a16 σ16) ∧
            (¬ σ16 49 a16 = x2 →
              wj_X7_spread_140 r45 r55 Q x2 x3 x4 x5 x6 σ16))) ∧
        (¬ σ16 54 a16 = 0 →
          wj_X7_spread_140 r45 r55 Q x2 x3 x4 x5 x6 σ16)))) ∧
  (¬ x6 < 4 →
    fb_in (x5 + 1) ∧
    r45 x2 x3 x4 (x5 + 1) σ)
def wl_X7_spread_55 (r45 : Int → Int → Int → Int → fb_St → Prop) (Q : Int → fb_St → Prop) : Nat → Int → Int → Int → Int → Int → fb_St → Prop := fb_Lp (fun _ _ _ _ _ _ => False) (fun r => wb_X7_spread_55 r45 r Q)
def wb_X7_spread_45 (r45 : Int → Int → Int → Int → fb_St → Prop) (Q : Int → fb_St → Prop) (x2 x3 x4 x5 : Int) (σ : fb_St) : Prop :=
  (x5 < x4 →
    ∃ n, wl_X7_spread_55 r45 Q n x2 x3 x4 x5 0 σ) ∧
  (¬ x5 < x4 →
    Q x4 σ)
def wl_X7_spread_45 (Q : Int → fb_St → Prop) : Nat → Int → Int → Int → Int → fb_St → Prop := fb_Lp (fun _ _ _ _ _ => False) (fun r => wb_X7_spread_45 r Q)
def wb_X7_spread_3 (r3 : Int → Int → Int → Int → fb_St → Prop) (Q : Int → fb_St → Prop) (x1 x2 x3 x4 : Int) (σ : fb_St) : Prop :=
  (x4 < 144 →
    0 ≤ x4 ∧ x4 < 144 ∧
    ∀ σ8 : fb_St, σ8 = fb_up σ 54 x4 0 →
    fb_in (x4 + 1) ∧
    r3 x1 x2 x3 (x4 + 1) σ8) ∧
  (¬ x4 < 144 →
    ∀ σ2 : fb_St, σ2 = fb_up σ 53 0 x1 →
    0 ≤ x1 ∧ x1 < 144 ∧
    ∀ σ5 : fb_St, σ5 = fb_up σ2 54 x1 1 →
    ∃ n, wl_X7_spread_45 Q n x2 x3 1 0 σ5)
def wl_X7_spread_3 (Q : Int → fb_St → Prop) : Nat → Int → Int → Int → Int → fb_St → Prop := fb_Lp (fun _ _ _ _ _ => False) (fun r => wb_X7_spread_3 r Q)
def wp_X7_spread (x1 x2 x3 : Int) (σ : fb_St) (Q : Int → fb_St → Prop) : Prop :=
  ∃ n, wl_X7_spread_3 Q n x1 x2 x3 0 σ
def rm_X7_leastBeside : Room := { frames := 3, cells := 0, slots := 0, locals := 68 }
def wj_X7_leastBeside_71 (r5 : Int → Int → Int → fb_St → Prop) (r13 : Int → Int → Int → Int → fb_St → Prop) (Q : Int → fb_St → Prop) (x1 x2 x3 x4 : Int) (σ : fb_St) : Prop :=
  fb_in (x4 + 1) ∧
  r13 x1 x2 x3 (x4 + 1) σ
def wj_X7_leastBeside_63 (r5 : Int → Int → Int → fb_St → Prop) (r13 : Int → Int → Int → Int → fb_St → Prop) (Q : Int → fb_St → Prop) (x1 x3 x4 x5 : Int) (σ : fb_St) : Prop :=
  0 ≤ x5 ∧ x5 < 292 ∧
  ∀ v22 : Int, v22 = σ 49 x5 →
  wj_X7_leastBeside_71 r5 r13 Q x1 v22 x3 x4 σ
def wb_X7_leastBeside_13 (r5 : Int → Int → Int → fb_St → Prop) (r13 : Int → Int → Int → Int → fb_St → Prop) (Q : Int → fb_St → Prop) (x1 x2 x3 x4 : Int) (σ : fb_St) : Prop :=
  (x4 < 4 →
    0 ≤ x3 ∧ x3 < 144 ∧
    wp_X7_beside (σ 53 x3) x4 σ (fun a7 σ7 =>
      (a7 < 0 →
        wj_X7_leastBeside_71 r5 r13 Q x1 x2 x3 x4 σ7) ∧
      (¬ a7 < 0 →
        0 ≤ a7 ∧ a7 < 144 ∧
        (σ7 54 a7 = 0 →
          (x2 < 0 →
            wj_X7_leastBeside_63 r5 r13 Q x1 x3 x4 a7 σ7) ∧
          (¬ x2 < 0 →
            0 ≤ a7 ∧ a7 < 292 ∧
            (σ7 49 a7 < x2 →
              wj_X7_leastBeside_63 r5 r13 Q x1 x3 x4 a7 σ7) ∧
            (¬ σ7 49 a7 < x2 →
              wj_X7_leastBeside_71 r5 r13 Q x1 x2 x3 x4 σ7))) ∧
        (¬ σ7 54 a7 = 0 →
          wj_X7_leastBeside_71 r5 r13 Q x1 x2 x3 x4 σ7)))) ∧
  (¬ x4 < 4 →
    fb_in (x3 + 1) ∧
    r5 x1 x2 (x3 + 1) σ)
def wl_X7_leastBeside_13 (r5 : Int → Int → Int → fb_St → Prop) (Q : Int → fb_St → Prop) : Nat → Int → Int → Int → Int → fb_St → Prop := fb_Lp (fun _ _ _ _ _ => False) (fun r => wb_X7_leastBeside_13 r5 r Q)
def wb_X7_leastBeside_5 (r5 : Int → Int → Int → fb_St → Prop) (Q : Int → fb_St → Prop) (x1 x2 x3 : Int) (σ : fb_St) : Prop :=
  (x3 < x1 →
    ∃ n, wl_X7_leastBeside_13 r5 Q n x1 x2 x3 0 σ) ∧
  (¬ x3 < x1 →
    Q x2 σ)
def wl_X7_leastBeside_5 (Q : Int → fb_St → Prop) : Nat → Int → Int → Int → fb_St → Prop := fb_Lp (fun _ _ _ _ => False) (fun r => wb_X7_leastBeside_5 r Q)
def wp_X7_leastBeside (x1 : Int) (σ : fb_St) (Q : Int → fb_St → Prop) : Prop :=
  ∃ n, wl_X7_leastBeside_5 Q n x1 (-6) 0 σ
def rm_X7_layPits : Room := { frames := 4, cells := 0, slots := 0, locals := 95 }
def wj_X7_layPits_113 (r27 : Int → Int → fb_St → Prop) (Q : Int → fb_St → Prop) (x1 x2 : Int) (σ : fb_St) : Prop :=
  fb_in (x2 + 1) ∧
  r27 x1 (x2 + 1) σ
def wb_X7_layPits_85 (r27 : Int → Int → fb_St → Prop) (r85 : Int → Int → Int → Int → fb_St → Prop) (Q : Int → fb_St → Prop) (x1 x2 x3 x5 : Int) (σ : fb_St) : Prop :=
  (x5 < x3 →
    0 ≤ x5 ∧ x5 < 144 ∧
    0 ≤ σ 53 x5 ∧ σ 53 x5 < 144 ∧
    ∀ σ30 : fb_St, σ30 = fb_up σ 52 (σ 53 x5) x1 →
    fb_in (x5 + 1) ∧
    r85 x1 x2 x3 (x5 + 1) σ30) ∧
  (¬ x5 < x3 →
    fb_in (x1 + 1) ∧
    wj_X7_layPits_113 r27 Q (x1 + 1) x2 σ)
def wl_X7_layPits_85 (r27 : Int → Int → fb_St → Prop) (Q : Int → fb_St → Prop) : Nat → Int → Int → Int → Int → fb_St → Prop := fb_Lp (fun _ _ _ _ _ => False) (fun r => wb_X7_layPits_85 r27 r Q)
def wj_X7_layPits_82 (r27 : Int → Int → fb_St → Prop) (Q : Int → fb_St → Prop) (x1 x2 x3 : Int) (σ : fb_St) : Prop :=
  ∃ n, wl_X7_layPits_85 r27 Q n x1 x2 x3 0 σ
def wb_X7_layPits_27 (r27 : Int → Int → fb_St → Prop) (Q : Int → fb_St → Prop) (x1 x2 : Int) (σ : fb_St) : Prop :=
  wp_X7_dots σ (fun a6 σ6 =>
    (x2 < a6 →
      0 ≤ x2 ∧ x2 < 144 ∧
      (σ6 52 x2 = (-6) →
        0 ≤ x2 ∧ x2 < 292 ∧
        wp_X7_spread x2 (σ6 49 x2) 1 σ6 (fun a15 σ15 =>
          wp_X7_leastBeside a15 σ15 (fun a16 σ16 =>
            (a16 < 0 →
              wj_X7_layPits_82 r27 Q x1 x2 a15 σ16) ∧
            (¬ a16 < 0 →
              0 ≤ x2 ∧ x2 < 292 ∧
              (σ16 49 x2 < a16 →
                wj_X7_layPits_82 r27 Q x1 x2 a15 σ16) ∧
              (¬ σ16 49 x2 < a16 →
                wj_X7_layPits_113 r27 Q x1 x2 σ16))))) ∧
      (¬ σ6 52 x2 = (-6) →
        wj_X7_layPits_113 r27 Q x1 x2 σ6)) ∧
    (¬ x2 < a6 →
      Q x1 σ6))
def wl_X7_layPits_27 (Q : Int → fb_St → Prop) : Nat → Int → Int → fb_St → Prop := fb_Lp (fun _ _ _ => False) (fun r => wb_X7_layPits_27 r Q)
def wb_X7_layPits_2 (r2 : Int → fb_St → Prop) (Q : Int → fb_St → Prop) (x1 : Int) (σ : fb_St) : Prop :=
  (x1 < 144 →
    0 ≤ x1 ∧ x1 < 144 ∧
    ∀ σ4 : fb_St, σ4 = fb_up σ 52 x1 (-6) →
    fb_in (x1 + 1) ∧
    r2 (x1 + 1) σ4) ∧
  (¬ x1 < 144 →
    ∃ n, wl_X7_layPits_27 Q n 0 0 σ)
def wl_X7_layPits_2 (Q : Int → fb_St → Prop) : Nat → Int → fb_St → Prop := fb_Lp (fun _ _ => False) (fun r => wb_X7_layPits_2 r Q)
def wp_X7_layPits (σ : fb_St) (Q : Int → fb_St → Prop) : Prop :=
  ∃ n, wl_X7_layPits_2 Q n 0 σ
def rm_X7_land : Room := { frames := 5, cells := 0, slots := 0, locals := 120 }
def wj_X7_land_20 (Q : Int → fb_St → Prop) (σ : fb_St) : Prop :=
  Q (-2) σ
def wb_X7_land_25 (r25 : Int → Int → Int → fb_St → Prop) (Q : Int → fb_St → Prop) (x1 x2 x3 : Int) (σ : fb_St) : Prop :=
  (x3 < 144 →
    0 ≤ x3 ∧ x3 < 292 ∧
    ∀ σ11 : fb_St, σ11 = fb_up σ 49 x3 0 →
    fb_in (144 + x3) ∧
    0 ≤ 144 + x3 ∧ 144 + x3 < 292 ∧
    ∀ σ15 : fb_St, σ15 = fb_up σ11 49 (144 + x3) 0 →
    fb_in (x3 + 1) ∧
    r25 x1 x2 (x3 + 1) σ15) ∧
  (¬ x3 < 144 →
    ∀ σ6 : fb_St, σ6 = fb_up σ 49 288 x1 →
    ∀ σ7 : fb_St, σ7 = fb_up σ6 49 289 x2 →
    wp_X7_layPits σ7 (fun a8 σ8 =>
      Q a8 σ8))
def wl_X7_land_25 (Q : Int → fb_St → Prop) : Nat → Int → Int → Int → fb_St → Prop := fb_Lp (fun _ _ _ _ => False) (fun r => wb_X7_land_25 r Q)
def wp_X7_land (x1 x2 : Int) (σ : fb_St) (Q : Int → fb_St → Prop) : Prop :=
  wp_X7_in x1 1 12 σ (fun a1 σ1 =>
    (a1 = 0 →
      wj_X7_land_20 Q σ1) ∧
    (¬ a1 = 0 →
      wp_X7_in x2 1 12 σ1 (fun a3 σ3 =>
        (a3 = 0 →
          wj_X7_land_20 Q σ3) ∧
        (¬ a3 = 0 →
          ∃ n, wl_X7_land_25 Q n x1 x2 0 σ3))))
def rm_X7_wave : Room := { frames := 5, cells := 0, slots := 0, locals := 120 }
def wj_X7_wave_41 (Q : Int → fb_St → Prop) (σ : fb_St) : Prop :=
  Q (-2) σ
def wb_X7_wave_47 (r47 : Int → Int → Int → Int → Int → fb_St → Prop) (Q : Int → fb_St → Prop) (x1 x2 x3 x4 x5 : Int) (σ : fb_St) : Prop :=
  wp_X7_dots σ (fun a9 σ9 =>
    (x5 < a9 →
      0 ≤ x5 ∧ 0 < σ9 49 288 ∧ fb_in (x5 % (σ9 49 288)) ∧
      ∀ v16 : Int, v16 = x5 % (σ9 49 288) →
      0 ≤ x5 ∧ 0 < σ9 49 288 ∧ fb_in (x5 / (σ9 49 288)) ∧
      ∀ v21 : Int, v21 = x5 / (σ9 49 288) →
      fb_in (x1 * v16) ∧
      fb_in (x2 * v21) ∧
      fb_in ((x1 * v16) + (x2 * v21)) ∧
      fb_in (x3 * v16) ∧
      fb_in ((x3 * v16) * v21) ∧
      fb_in (((x1 * v16) + (x2 * v21)) + ((x3 * v16) * v21)) ∧
      0 ≤ ((x1 * v16) + (x2 * v21)) + ((x3 * v16) * v21) ∧ 0 < x4 ∧ fb_in ((((x1 * v16) + (x2 * v21)) + ((x3 * v16) * v21)) % x4) ∧
      0 ≤ x5 ∧ x5 < 292 ∧
      ∀ σ33 : fb_St, σ33 = fb_up σ9 49 x5 ((((x1 * v16) + (x2 * v21)) + ((x3 * v16) * v21)) % x4) →
      fb_in (x5 + 1) ∧
      r47 x1 x2 x3 x4 (x5 + 1) σ33) ∧
    (¬ x5 < a9 →
      wp_X7_layPits σ9 (fun a11 σ11 =>
        Q a11 σ11)))
def wl_X7_wave_47 (Q : Int → fb_St → Prop) : Nat → Int → Int → Int → Int → Int → fb_St → Prop := fb_Lp (fun _ _ _ _ _ _ => False) (fun r => wb_X7_wave_47 r Q)
def wp_X7_wave (x1 x2 x3 x4 : Int) (σ : fb_St) (Q : Int → fb_St → Prop) : Prop :=
  wp_X7_in x1 0 50 σ (fun a1 σ1 =>
    (a1 = 0 →
      wj_X7_wave_41 Q σ1) ∧
    (¬ a1 = 0 →
      wp_X7_in x2 0 50 σ1 (fun a3 σ3 =>
        (a3 = 0 →
          wj_X7_wave_41 Q σ3) ∧
        (¬ a3 = 0 →
          wp_X7_in x3 0 50 σ3 (fun a5 σ5 =>
            (a5 = 0 →
              wj_X7_wave_41 Q σ5) ∧
            (¬ a5 = 0 →
              wp_X7_in x4 1 100 σ5 (fun a7 σ7 =>
                (a7 = 0 →
                  wj_X7_wave_41 Q σ7) ∧
                (¬ a7 = 0 →
                  ∃ n, wl_X7_wave_47 Q n x1 x2 x3 x4 0 σ7))))))))
def rm_X7_heap : Room := { frames := 5, cells := 0, slots := 0, locals := 120 }
def wj_X7_heap_31 (Q : Int → fb_St → Prop) (σ : fb_St) : Prop :=
  Q (-2) σ
def wj_X7_heap_148 (r37 : Int → Int → Int → Int → Int → fb_St → Prop) (Q : Int → fb_St → Prop) (x1 x2 x3 x4 x5 s0 s1 : Int) (σ : fb_St) : Prop :=
  0 ≤ s1 ∧ s1 < 292 ∧
  ∀ σ39 : fb_St, σ39 = fb_up σ 49 s1 s0 →
  fb_in (x5 + 1) ∧
  r37 x1 x2 x3 x4 (x5 + 1) σ39
def wj_X7_heap_116 (r37 : Int → Int → Int → Int → Int → fb_St → Prop) (Q : Int → fb_St → Prop) (x1 x2 x3 x4 x5 s0 s1 : Int) (σ : fb_St) : Prop :=
  fb_in (s1 + s0) ∧
  ∀ v34 : Int, v34 = s1 + s0 →
  (v34 < 0 →
    wj_X7_heap_148 r37 Q x1 x2 x3 x4 x5 0 x5 σ) ∧
  (¬ v34 < 0 →
    (99 < v34 →
      wj_X7_heap_148 r37 Q x1 x2 x3 x4 x5 99 x5 σ) ∧
    (¬ 99 < v34 →
      wj_X7_heap_148 r37 Q x1 x2 x3 x4 x5 v34 x5 σ))
def wb_X7_heap_37 (r37 : Int → Int → Int → Int → Int → fb_St → Prop) (Q : Int → fb_St → Prop) (x1 x2 x3 x4 x5 : Int) (σ : fb_St) : Prop :=
  wp_X7_dots σ (fun a7 σ7 =>
    (x5 < a7 →
      0 ≤ x5 ∧ 0 < σ7 49 288 ∧ fb_in (x5 % (σ7 49 288)) ∧
      fb_in ((x5 % (σ7 49 288)) - x1) ∧
      wp_X7_size ((x5 % (σ7 49 288)) - x1) σ7 (fun a15 σ15 =>
        0 ≤ x5 ∧ 0 < σ15 49 288 ∧ fb_in (x5 / (σ15 49 288)) ∧
        fb_in ((x5 / (σ15 49 288)) - x2) ∧
        wp_X7_size ((x5 / (σ15 49 288)) - x2) σ15 (fun a21 σ21 =>
          fb_in (a15 + a21) ∧
          ∀ v23 : Int, v23 = a15 + a21 →
          wp_X7_size x3 σ21 (fun a24 σ24 =>
            fb_in (x4 * v23) ∧
            fb_in (a24 - (x4 * v23)) ∧
            wp_X7_greater (a24 - (x4 * v23)) 0 σ24 (fun a27 σ27 =>
              0 ≤ x5 ∧ x5 < 292 ∧
              (x3 < 0 →
                fb_in (-a27) ∧
                wj_X7_heap_116 r37 Q x1 x2 x3 x4 x5 (-a27) (σ27 49 x5) σ27) ∧
              (¬ x3 < 0 →
                wj_X7_heap_116 r37 Q x1 x2 x3 x4 x5 a27 (σ27 49 x5) σ27)))))) ∧
    (¬ x5 < a7 →
      wp_X7_layPits σ7 (fun a9 σ9 =>
        Q a9 σ9)))
def wl_X7_heap_37 (Q : Int → fb_St → Prop) : Nat → Int → Int → Int → Int → Int → fb_St → Prop := fb_Lp (fun _ _ _ _ _ _ => False) (fun r => wb_X7_heap_37 r Q)
def wp_X7_heap (x1 x2 x3 x4 : Int) (σ : fb_St) (Q : Int → fb_St → Prop) : Prop :=
  wp_X7_isDot x1 x2 σ (fun a1 σ1 =>
    (a1 = 0 →
      wj_X7_heap_31 Q σ1) ∧
    (¬ a1 = 0 →
      wp_X7_in x3 (-99) 99 σ1 (fun a3 σ3 =>
        (a3 = 0 →
          wj_X7_heap_31 Q σ3) ∧
        (¬ a3 = 0 →
          wp_X7_in x4 0 50 σ3 (fun a5 σ5 =>
            (a5 = 0 →
              wj_X7_heap_31 Q σ5) ∧
            (¬ a5 = 0 →
              ∃ n, wl_X7_heap_37 Q n x1 x2 x3 x4 0 σ5))))))
def rm_X7_put : Room := { frames := 5, cells := 0, slots := 0, locals := 120 }
def wj_X7_put_19 (Q : Int → fb_St → Prop) (σ : fb_St) : Prop :=
  Q (-2) σ
def wp_X7_put (x1 x2 x3 : Int) (σ : fb_St) (Q : Int → fb_St → Prop) : Prop :=
  wp_X7_isDot x1 x2 σ (fun a1 σ1 =>
    (a1 = 0 →
      wj_X7_put_19 Q σ1) ∧
    (¬ a1 = 0 →
      wp_X7_in x3 0 99 σ1 (fun a3 σ3 =>
        (a3 = 0 →
          wj_X7_put_19 Q σ3) ∧
        (¬ a3 = 0 →
          wp_X7_at x1 x2 σ3 (fun a5 σ5 =>
            0 ≤ a5 ∧ a5 < 292 ∧
            ∀ σ8 : fb_St, σ8 = fb_up σ5 49 a5 x3 →
            wp_X7_layPits σ8 (fun a9 σ9 =>
              Q a9 σ9))))))
def rm_X7_mark : Room := { frames := 2, cells := 0, slots := 0, locals := 44 }
def wj_X7_mark_19 (Q : Int → fb_St → Prop) (σ : fb_St) : Prop :=
  Q (-2) σ
def wp_X7_mark (x1 x2 x3 : Int) (σ : fb_St) (Q : Int → fb_St → Prop) : Prop :=
  wp_X7_isDot x1 x2 σ (fun a1 σ1 =>
    (a1 = 0 →
      wj_X7_mark_19 Q σ1) ∧
    (¬ a1 = 0 →
      wp_X7_in x3 0 99 σ1 (fun a3 σ3 =>
        (a3 = 0 →
          wj_X7_mark_19 Q σ3) ∧
        (¬ a3 = 0 →
          wp_X7_at x1 x2 σ3 (fun a5 σ5 =>
            fb_in (144 + a5) ∧
            0 ≤ 144 + a5 ∧ 144 + a5 < 292 ∧
            ∀ v10 : Int, v10 = σ5 49 (144 + a5) →
            wp_X7_at x1 x2 σ5 (fun a11 σ11 =>
              fb_in (144 + a11) ∧
              0 ≤ 144 + a11 ∧ 144 + a11 < 292 ∧
              ∀ σ15 : fb_St, σ15 = fb_up σ11 49 (144 + a11) x3 →
              Q v10 σ15))))))
def rm_X7_pits : Room := { frames := 5, cells := 0, slots := 0, locals := 120 }
def wj_X7_pits_46 (r7 : Int → Int → fb_St → Prop) (Q : Int → fb_St → Prop) (x1 x2 s0 s1 : Int) (σ : fb_St) : Prop :=
  0 ≤ s1 ∧ s1 < 292 ∧
  ∀ σ14 : fb_St, σ14 = fb_up σ 49 s1 s0 →
  fb_in (x2 + 1) ∧
  r7 x1 (x2 + 1) σ14
def wb_X7_pits_7 (r7 : Int → Int → fb_St → Prop) (Q : Int → fb_St → Prop) (x1 x2 : Int) (σ : fb_St) : Prop :=
  (x2 < 144 →
    fb_in (144 + x2) ∧
    0 ≤ x2 ∧ x2 < 144 ∧
    (σ 52 x2 = (-6) →
      wj_X7_pits_46 r7 Q x1 x2 0 (144 + x2) σ) ∧
    (¬ σ 52 x2 = (-6) →
      0 ≤ x2 ∧ x2 < 144 ∧
      fb_in ((σ 52 x2) + 1) ∧
      wj_X7_pits_46 r7 Q x1 x2 ((σ 52 x2) + 1) (144 + x2) σ)) ∧
  (¬ x2 < 144 →
    Q x1 σ)
def wl_X7_pits_7 (Q : Int → fb_St → Prop) : Nat → Int → Int → fb_St → Prop := fb_Lp (fun _ _ _ => False) (fun r => wb_X7_pits_7 r Q)
def wp_X7_pits (σ : fb_St) (Q : Int → fb_St → Prop) : Prop :=
  wp_X7_layPits σ (fun a1 σ1 =>
    ∃ n, wl_X7_pits_7 Q n a1 0 σ1)
def rm_X7_spill : Room := { frames := 3, cells := 0, slots := 0, locals := 68 }
def wj_X7_spill_91 (r2 : Int → Int → fb_St → Prop) (Q : Int → fb_St → Prop) (x1 x2 : Int) (σ : fb_St) : Prop :=
  fb_in (x2 + 1) ∧
  r2 x1 (x2 + 1) σ
def wb_X7_spill_2 (r2 : Int → Int → fb_St → Prop) (Q : Int → fb_St → Prop) (x1 x2 : Int) (σ : fb_St) : Prop :=
  (x2 < 4 →
    wp_X7_beside x1 x2 σ (fun a2 σ2 =>
      (a2 < 0 →
        wj_X7_spill_91 r2 Q x1 x2 σ2) ∧
      (¬ a2 < 0 →
        0 ≤ a2 ∧ a2 < 144 ∧
        (σ2 55 a2 = (-6) →
          0 ≤ a2 ∧ a2 < 144 ∧
          (σ2 56 a2 = (-6) →
            0 ≤ a2 ∧ a2 < 292 ∧
            0 ≤ x1 ∧ x1 < 144 ∧
            wp_X7_greater (σ2 49 a2) (σ2 56 x1) σ2 (fun a18 σ18 =>
              0 ≤ a2 ∧ a2 < 144 ∧
              ∀ σ21 : fb_St, σ21 = fb_up σ18 56 a2 a18 →
              0 ≤ σ21 48 11 ∧ σ21 48 11 < 144 ∧
              ∀ σ25 : fb_St, σ25 = fb_up σ21 58 (σ21 48 11) a2 →
              0 ≤ σ25 48 11 ∧ σ25 48 11 < 144 ∧
              ∀ σ29 : fb_St, σ29 = fb_up σ25 59 (σ25 48 11) 0 →
              fb_in ((σ29 48 11) + 1) ∧
              ∀ σ32 : fb_St, σ32 = fb_up σ29 48 11 ((σ29 48 11) + 1) →
              wj_X7_spill_91 r2 Q x1 x2 σ32)) ∧
          (¬ σ2 56 a2 = (-6) →
            wj_X7_spill_91 r2 Q x1 x2 σ2)) ∧
        (¬ σ2 55 a2 = (-6) →
          wj_X7_spill_91 r2 Q x1 x2 σ2)))) ∧
  (¬ x2 < 4 →
    Q 0 σ)
def wl_X7_spill_2 (Q : Int → fb_St → Prop) : Nat → Int → Int → fb_St → Prop := fb_Lp (fun _ _ _ => False) (fun r => wb_X7_spill_2 r Q)
def wp_X7_spill (x1 : Int) (σ : fb_St) (Q : Int → fb_St → Prop) : Prop :=
  ∃ n, wl_X7_spill_2 Q n x1 0 σ
def rm_X7_first : Room := { frames := 0, cells := 0, slots := 0, locals := 0 }
def wj_X7_first_53 (r5 : Int → Int → fb_St → Prop) (Q : Int → fb_St → Prop) (x1 x2 : Int) (σ : fb_St) : Prop :=
  fb_in (x2 + 1) ∧
  r5 x1 (x2 + 1) σ
def wj_X7_first_51 (r5 : Int → Int → fb_St → Prop) (Q : Int → fb_St → Prop) (x2 : Int) (σ : fb_St) : Prop :=
  wj_X7_first_53 r5 Q x2 x2 σ
def wb_X7_first_5 (r5 : Int → Int → fb_St → Prop) (Q : Int → fb_St → Prop) (x1 x2 : Int) (σ : fb_St) : Prop :=
  (x2 < σ 48 11 →
    0 ≤ x2 ∧ x2 < 144 ∧
    (σ 59 x2 = 0 →
      (x1 < 0 →
        wj_X7_first_51 r5 Q x2 σ) ∧
      (¬ x1 < 0 →
        0 ≤ x2 ∧ x2 < 144 ∧
        0 ≤ σ 58 x2 ∧ σ 58 x2 < 144 ∧
        0 ≤ x1 ∧ x1 < 144 ∧
        0 ≤ σ 58 x1 ∧ σ 58 x1 < 144 ∧
        (σ 56 (σ 58 x2) < σ 56 (σ 58 x1) →
          wj_X7_first_51 r5 Q x2 σ) ∧
        (¬ σ 56 (σ 58 x2) < σ 56 (σ 58 x1) →
          wj_X7_first_53 r5 Q x1 x2 σ))) ∧
    (¬ σ 59 x2 = 0 →
      wj_X7_first_53 r5 Q x1 x2 σ)) ∧
  (¬ x2 < σ 48 11 →
    Q x1 σ)
def wl_X7_first_5 (Q : Int → fb_St → Prop) : Nat → Int → Int → fb_St → Prop := fb_Lp (fun _ _ _ => False) (fun r => wb_X7_first_5 r Q)
def wp_X7_first (σ : fb_St) (Q : Int → fb_St → Prop) : Prop :=
  ∃ n, wl_X7_first_5 Q n (-6) 0 σ
def rm_X7_basinBeside : Room := { frames := 3, cells := 0, slots := 0, locals := 68 }
def wj_X7_basinBeside_61 (oo : Nat) (r6 : Int → Int → Int → fb_St → Prop) (Q : Int → fb_St → Prop) (x2 x3 x4 : Int) (σ : fb_St) : Prop :=
  fb_in (x4 + 1) ∧
  r6 x2 x3 (x4 + 1) σ
def wj_X7_basinBeside_60 (oo : Nat) (r6 : Int → Int → Int → fb_St → Prop) (Q : Int → fb_St → Prop) (x2 x4 s0 : Int) (σ : fb_St) : Prop :=
  wj_X7_basinBeside_61 oo r6 Q x2 s0 x4 σ
def wj_X7_basinBeside_54 (oo : Nat) (r6 : Int → Int → Int → fb_St → Prop) (Q : Int → fb_St → Prop) (x2 x4 x6 : Int) (σ : fb_St) : Prop :=
  wj_X7_basinBeside_60 oo r6 Q x2 x4 x6 σ
def wj_X7_basinBeside_35 (oo : Nat) (r6 : Int → Int → Int → fb_St → Prop) (Q : Int → fb_St → Prop) (x2 x3 x4 s0 : Int) (σ : fb_St) : Prop :=
  (0 < s0 →
    (x3 = (-6) →
      wj_X7_basinBeside_54 oo r6 Q x2 x4 s0 σ) ∧
    (¬ x3 = (-6) →
      (x3 = s0 →
        wj_X7_basinBeside_54 oo r6 Q x2 x4 s0 σ) ∧
      (¬ x3 = s0 →
        wj_X7_basinBeside_60 oo r6 Q x2 x4 0 σ))) ∧
  (¬ 0 < s0 →
    wj_X7_basinBeside_61 oo r6 Q x2 x3 x4 σ)
def wb_X7_basinBeside_6 (oo : Nat) (r6 : Int → Int → Int → fb_St → Prop) (Q : Int → fb_St → Prop) (x2 x3 x4 : Int) (σ : fb_St) : Prop :=
  (x4 < 4 →
    wp_X7_beside x2 x4 σ (fun a2 σ2 =>
      (a2 < 0 →
        wj_X7_basinBeside_35 oo r6 Q x2 x3 x4 (-6) σ2) ∧
      (¬ a2 < 0 →
        0 ≤ a2 ∧ a2 < 144 ∧
        wj_X7_basinBeside_35 oo r6 Q x2 x3 x4 (σ2 oo a2) σ2))) ∧
  (¬ x4 < 4 →
    Q x3 σ)
def wl_X7_basinBeside_6 (oo : Nat) (Q : Int → fb_St → Prop) : Nat → Int → Int → Int → fb_St → Prop := fb_Lp (fun _ _ _ _ => False) (fun r => wb_X7_basinBeside_6 oo r Q)
def wp_X7_basinBeside (oo : Nat) (x2 : Int) (σ : fb_St) (Q : Int → fb_St → Prop) : Prop :=
  ∃ n, wl_X7_basinBeside_6 oo Q n x2 (-6) 0 σ
def rm_X7_flood : Room := { frames := 4, cells := 0, slots := 0, locals := 94 }
def wj_X7_flood_102 (r7 : Int → fb_St → Prop) (Q : Int → fb_St → Prop) (x1 s0 s1 : Int) (σ : fb_St) : Prop :=
  0 ≤ s1 ∧ s1 < 144 ∧
  ∀ σ60 : fb_St, σ60 = fb_up σ 57 s1 s0 →
  fb_in (x1 + 1) ∧
  r7 (x1 + 1) σ60
def wj_X7_flood_86 (r7 : Int → fb_St → Prop) (Q : Int → fb_St → Prop) (x1 x2 s0 s1 : Int) (σ : fb_St) : Prop :=
  0 ≤ s1 ∧ s1 < 144 ∧
  ∀ σ56 : fb_St, σ56 = fb_up σ 56 s1 s0 →
  (x2 = 0 →
    wj_X7_flood_102 r7 Q x1 (-6) x1 σ56) ∧
  (¬ x2 = 0 →
    wj_X7_flood_102 r7 Q x1 0 x1 σ56)
def wj_X7_flood_65 (r7 : Int → fb_St → Prop) (Q : Int → fb_St → Prop) (x1 x2 s0 s1 : Int) (σ : fb_St) : Prop :=
  0 ≤ s1 ∧ s1 < 144 ∧
  ∀ σ48 : fb_St, σ48 = fb_up σ 55 s1 s0 →
  (x2 = 0 →
    wj_X7_flood_86 r7 Q x1 x2 (-6) x1 σ48) ∧
  (¬ x2 = 0 →
    0 ≤ x1 ∧ x1 < 292 ∧
    wj_X7_flood_86 r7 Q x1 x2 (σ48 49 x1) x1 σ48)
def wj_X7_flood_40 (r7 : Int → fb_St → Prop) (Q : Int → fb_St → Prop) (x1 s0 : Int) (σ : fb_St) : Prop :=
  (s0 = 0 →
    wj_X7_flood_65 r7 Q x1 s0 (-6) x1 σ) ∧
  (¬ s0 = 0 →
    fb_in (144 + x1) ∧
    0 ≤ 144 + x1 ∧ 144 + x1 < 292 ∧
    wj_X7_flood_65 r7 Q x1 s0 (σ 49 (144 + x1)) x1 σ)
def wj_X7_flood_39 (r7 : Int → fb_St → Prop) (Q : Int → fb_St → Prop) (x1 : Int) (σ : fb_St) : Prop :=
  wj_X7_flood_40 r7 Q x1 0 σ
def wj_X7_flood_137 (r111 : Int → fb_St → Prop) (Q : Int → fb_St → Prop) (x1 : Int) (σ : fb_St) : Prop :=
  fb_in (x1 + 1) ∧
  r111 (x1 + 1) σ
def wj_X7_flood_207 (r150 : Int → Int → fb_St → Prop) (Q : Int → fb_St → Prop) (x2 : Int) (σ : fb_St) : Prop :=
  wp_X7_first σ (fun a53 σ53 =>
    r150 a53 x2 σ53)
def wb_X7_flood_150 (r150 : Int → Int → fb_St → Prop) (Q : Int → fb_St → Prop) (x1 x2 : Int) (σ : fb_St) : Prop :=
  (x1 < 0 →
    Q 0 σ) ∧
  (¬ x1 < 0 →
    0 ≤ x1 ∧ x1 < 144 ∧
    ∀ σ27 : fb_St, σ27 = fb_up σ 59 x1 1 →
    fb_in (x2 + 1) ∧
    0 ≤ x1 ∧ x1 < 144 ∧
    ∀ v32 : Int, v32 = σ27 58 x1 →
    0 ≤ v32 ∧ v32 < 144 ∧
    ∀ σ35 : fb_St, σ35 = fb_up σ27 57 v32 (x2 + 1) →
    wp_X7_basinBeside 55 v32 σ35 (fun a36 σ36 =>
      0 ≤ v32 ∧ v32 < 144 ∧
      ∀ σ39 : fb_St, σ39 = fb_up σ36 55 v32 a36 →
      0 ≤ v32 ∧ v32 < 144 ∧
      (0 < σ39 55 v32 →
        wp_X7_spill v32 σ39 (fun _ σ44 =>
          wj_X7_flood_207 r150 Q (x2 + 1) σ44)) ∧
      (¬ 0 < σ39 55 v32 →
        wj_X7_flood_207 r150 Q (x2 + 1) σ39)))
def wl_X7_flood_150 (Q : Int → fb_St → Prop) : Nat → Int → Int → fb_St → Prop := fb_Lp (fun _ _ _ => False) (fun r => wb_X7_flood_150 r Q)
def wb_X7_flood_111 (r111 : Int → fb_St → Prop) (Q : Int → fb_St → Prop) (x1 : Int) (σ : fb_St) : Prop :=
  wp_X7_dots σ (fun a10 σ10 =>
    (x1 < a10 →
      fb_in (144 + x1) ∧
      0 ≤ 144 + x1 ∧ 144 + x1 < 292 ∧
      (0 < σ10 49 (144 + x1) →
        wp_X7_spill x1 σ10 (fun _ σ18 =>
          wj_X7_flood_137 r111 Q x1 σ18)) ∧
      (¬ 0 < σ10 49 (144 + x1) →
        wj_X7_flood_137 r111 Q x1 σ10)) ∧
    (¬ x1 < a10 →
      wp_X7_first σ10 (fun a12 σ12 =>
        ∃ n, wl_X7_flood_150 Q n a12 0 σ12)))
def wl_X7_flood_111 (Q : Int → fb_St → Prop) : Nat → Int → fb_St → Prop := fb_Lp (fun _ _ => False) (fun r => wb_X7_flood_111 r Q)
def wb_X7_flood_7 (r7 : Int → fb_St → Prop) (Q : Int → fb_St → Prop) (x1 : Int) (σ : fb_St) : Prop :=
  (x1 < 144 →
    wp_X7_dots σ (fun a3 σ3 =>
      (x1 < a3 →
        fb_in (144 + x1) ∧
        0 ≤ 144 + x1 ∧ 144 + x1 < 292 ∧
        (0 < σ3 49 (144 + x1) →
          wj_X7_flood_40 r7 Q x1 1 σ3) ∧
        (¬ 0 < σ3 49 (144 + x1) →
          wj_X7_flood_39 r7 Q x1 σ3)) ∧
      (¬ x1 < a3 →
        wj_X7_flood_39 r7 Q x1 σ3))) ∧
  (¬ x1 < 144 →
    ∃ n, wl_X7_flood_111 Q n 0 σ)
def wl_X7_flood_7 (Q : Int → fb_St → Prop) : Nat → Int → fb_St → Prop := fb_Lp (fun _ _ => False) (fun r => wb_X7_flood_7 r Q)
def wp_X7_flood (σ : fb_St) (Q : Int → fb_St → Prop) : Prop :=
  ∀ σ1 : fb_St, σ1 = fb_up σ 48 11 0 →
  ∃ n, wl_X7_flood_7 Q n 0 σ1
def rm_X7_dotsOf : Room := { frames := 1, cells := 0, slots := 0, locals := 20 }
def wj_X7_dotsOf_28 (oo : Nat) (r5 : Int → Int → Int → fb_St → Prop) (Q : Int → fb_St → Prop) (x2 x4 s0 s1 : Int) (σ : fb_St) : Prop :=
  fb_in (s1 + s0) ∧
  ∀ v8 : Int, v8 = s1 + s0 →
  fb_in (x4 + 1) ∧
  r5 x2 v8 (x4 + 1) σ
def wb_X7_dotsOf_5 (oo : Nat) (r5 : Int → Int → Int → fb_St → Prop) (Q : Int → fb_St → Prop) (x2 x3 x4 : Int) (σ : fb_St) : Prop :=
  wp_X7_dots σ (fun a1 σ1 =>
    (x4 < a1 →
      0 ≤ x4 ∧ x4 < 144 ∧
      (σ1 oo x4 = x2 →
        wj_X7_dotsOf_28 oo r5 Q x2 x4 1 x3 σ1) ∧
      (¬ σ1 oo x4 = x2 →
        wj_X7_dotsOf_28 oo r5 Q x2 x4 0 x3 σ1)) ∧
    (¬ x4 < a1 →
      Q x3 σ1))
def wl_X7_dotsOf_5 (oo : Nat) (Q : Int → fb_St → Prop) : Nat → Int → Int → Int → fb_St → Prop := fb_Lp (fun _ _ _ _ => False) (fun r => wb_X7_dotsOf_5 oo r Q)
def wp_X7_dotsOf (oo : Nat) (x2 : Int) (σ : fb_St) (Q : Int → fb_St → Prop) : Prop :=
  ∃ n, wl_X7_dotsOf_5 oo Q n x2 0 0 σ
def rm_X7_hasBeside : Room := { frames := 3, cells := 0, slots := 0, locals := 68 }
def wj_X7_hasBeside_45 (r5 : Int → Int → Int → Int → fb_St → Prop) (Q : Int → fb_St → Prop) (x1 x2 x4 s0 : Int) (σ : fb_St) : Prop :=
  fb_in (x4 + 1) ∧
  r5 x1 x2 s0 (x4 + 1) σ
def wj_X7_hasBeside_40 (r5 : Int → Int → Int → Int → fb_St → Prop) (Q : Int → fb_St → Prop) (x1 x2 x4 : Int) (σ : fb_St) : Prop :=
  wj_X7_hasBeside_45 r5 Q x1 x2 x4 1 σ
def wj_X7_hasBeside_44 (r5 : Int → Int → Int → Int → fb_St → Prop) (Q : Int → fb_St → Prop) (x1 x2 x4 : Int) (σ : fb_St) : Prop :=
  wj_X7_hasBeside_45 r5 Q x1 x2 x4 0 σ
def wb_X7_hasBeside_5 (r5 : Int → Int → Int → Int → fb_St → Prop) (Q : Int → fb_St → Prop) (x1 x2 x3 x4 : Int) (σ : fb_St) : Prop :=
  (x4 < 4 →
    wp_X7_beside x1 x4 σ (fun a3 σ3 =>
      (x3 = 0 →
        (a3 < 0 →
          wj_X7_hasBeside_44 r5 Q x1 x2 x4 σ3) ∧
        (¬ a3 < 0 →
          0 ≤ a3 ∧ a3 < 144 ∧
          (σ3 60 a3 = x2 →
            wj_X7_hasBeside_40 r5 Q x1 x2 x4 σ3) ∧
          (¬ σ3 60 a3 = x2 →
            wj_X7_hasBeside_44 r5 Q x1 x2 x4 σ3))) ∧
      (¬ x3 = 0 →
        wj_X7_hasBeside_40 r5 Q x1 x2 x4 σ3))) ∧
  (¬ x4 < 4 →
    fb_B (x3) ∧ Q x3 σ)
def wl_X7_hasBeside_5 (Q : Int → fb_St → Prop) : Nat → Int → Int → Int → Int → fb_St → Prop := fb_Lp (fun _ _ _ _ _ => False) (fun r => wb_X7_hasBeside_5 r Q)
def wp_X7_hasBeside (x1 x2 : Int) (σ : fb_St) (Q : Int → fb_St → Prop) : Prop :=
  ∃ n, wl_X7_hasBeside_5 Q n x1 x2 0 0 σ
def rm_X7_lesser : Room := { frames := 0, cells := 0, slots := 0, locals := 0 }
def wj_X7_lesser_18 (Q : Int → fb_St → Prop) (s0 : Int) (σ : fb_St) : Prop :=
  Q s0 σ
def wj_X7_lesser_13 (Q : Int → fb_St → Prop) (x1 : Int) (σ : fb_St) : Prop :=
  wj_X7_lesser_18 Q x1 σ
def wj_X7_lesser_17 (Q : Int → fb_St → Prop) (x0 : Int) (σ : fb_St) : Prop :=
  wj_X7_lesser_18 Q x0 σ
def wp_X7_lesser (x0 x1 : Int) (σ : fb_St) (Q : Int → fb_St → Prop) : Prop :=
  (x0 < 0 →
    wj_X7_lesser_13 Q x1 σ) ∧
  (¬ x0 < 0 →
    (x1 < 0 →
      wj_X7_lesser_17 Q x0 σ) ∧
    (¬ x1 < 0 →
      (x1 < x0 →
        wj_X7_lesser_13 Q x1 σ) ∧
      (¬ x1 < x0 →
        wj_X7_lesser_17 Q x0 σ)))
def rm_X7_passOf : Room := { frames := 4, cells := 0, slots := 0, locals := 93 }
def wj_X7_passOf_125 (r6 : Int → Int → Int → Int → fb_St → Prop) (r60 : Int → Int → Int → Int → Int → fb_St → Prop) (Q : Int → fb_St → Prop) (x1 x2 x3 x4 x5 : Int) (σ : fb_St) : Prop :=
  fb_in (x5 + 1) ∧
  r60 x1 x2 x3 x4 (x5 + 1) σ
def wj_X7_passOf_131 (r6 : Int → Int → Int → Int → fb_St → Prop) (Q : Int → fb_St → Prop) (x1 x2 x3 x4 : Int) (σ : fb_St) : Prop :=
  fb_in (x4 + 1) ∧
  r6 x1 x2 x3 (x4 + 1) σ
def wb_X7_passOf_60 (r6 : Int → Int → Int → Int → fb_St → Prop) (r60 : Int → Int → Int → Int → Int → fb_St → Prop) (Q : Int → fb_St → Prop) (x1 x2 x3 x4 x5 : Int) (σ : fb_St) : Prop :=
  (x5 < 4 →
    0 ≤ x4 ∧ x4 < 144 ∧
    (σ 60 x4 = x1 →
      wp_X7_beside x4 x5 σ (fun a20 σ20 =>
        (a20 < 0 →
          wj_X7_passOf_125 r6 r60 Q x1 x2 x3 x4 x5 σ20) ∧
        (¬ a20 < 0 →
          0 ≤ a20 ∧ a20 < 144 ∧
          (σ20 60 a20 = x2 →
            0 ≤ x4 ∧ x4 < 292 ∧
            0 ≤ a20 ∧ a20 < 292 ∧
            wp_X7_greater (σ20 49 x4) (σ20 49 a20) σ20 (fun a32 σ32 =>
              wp_X7_lesser x3 a32 σ32 (fun a33 σ33 =>
                wj_X7_passOf_125 r6 r60 Q x1 x2 a33 x4 x5 σ33))) ∧
          (¬ σ20 60 a20 = x2 →
            wj_X7_passOf_125 r6 r60 Q x1 x2 x3 x4 x5 σ20)))) ∧
    (¬ σ 60 x4 = x1 →
      wj_X7_passOf_131 r6 Q x1 x2 x3 x4 σ)) ∧
  (¬ x5 < 4 →
    wj_X7_passOf_131 r6 Q x1 x2 x3 x4 σ)
def wl_X7_passOf_60 (r6 : Int → Int → Int → Int → fb_St → Prop) (Q : Int → fb_St → Prop) : Nat → Int → Int → Int → Int → Int → fb_St → Prop := fb_Lp (fun _ _ _ _ _ _ => False) (fun r => wb_X7_passOf_60 r6 r Q)
def wj_X7_passOf_57 (r6 : Int → Int → Int → Int → fb_St → Prop) (Q : Int → fb_St → Prop) (x1 x2 x3 x4 : Int) (σ : fb_St) : Prop :=
  ∃ n, wl_X7_passOf_60 r6 Q n x1 x2 x3 x4 0 σ
def wb_X7_passOf_6 (r6 : Int → Int → Int → Int → fb_St → Prop) (Q : Int → fb_St → Prop) (x1 x2 x3 x4 : Int) (σ : fb_St) : Prop :=
  wp_X7_dots σ (fun a1 σ1 =>
    (x4 < a1 →
      0 ≤ x4 ∧ x4 < 144 ∧
      (σ1 60 x4 = 0 →
        wp_X7_hasBeside x4 x1 σ1 (fun a7 σ7 =>
          (a7 = 0 →
            wj_X7_passOf_57 r6 Q x1 x2 x3 x4 σ7) ∧
          (¬ a7 = 0 →
            wp_X7_hasBeside x4 x2 σ7 (fun a9 σ9 =>
              (a9 = 0 →
                wj_X7_passOf_57 r6 Q x1 x2 x3 x4 σ9) ∧
              (¬ a9 = 0 →
                0 ≤ x4 ∧ x4 < 292 ∧
                wp_X7_lesser x3 (σ9 49 x4) σ9 (fun a14 σ14 =>
                  wj_X7_passOf_57 r6 Q x1 x2 a14 x4 σ14)))))) ∧
      (¬ σ1 60 x4 = 0 →
        wj_X7_passOf_57 r6 Q x1 x2 x3 x4 σ1)) ∧
    (¬ x4 < a1 →
      Q x3 σ1))
def wl_X7_passOf_6 (Q : Int → fb_St → Prop) : Nat → Int → Int → Int → Int → fb_St → Prop := fb_Lp (fun _ _ _ _ _ => False) (fun r => wb_X7_passOf_6 r Q)
def wp_X7_passOf (x1 x2 : Int) (σ : fb_St) (Q : Int → fb_St → Prop) : Prop :=
  ∃ n, wl_X7_passOf_6 Q n x1 x2 (-6) 0 σ
def rm_X7_layPasses : Room := { frames := 4, cells := 0, slots := 0, locals := 93 }
def wj_X7_layPasses_170 (r24 : Int → Int → fb_St → Prop) (r59 : Int → Int → Int → Int → fb_St → Prop) (Q : Int → fb_St → Prop) (x1 x2 x3 x4 : Int) (σ : fb_St) : Prop :=
  fb_in (x4 + 1) ∧
  r59 x1 x2 x3 (x4 + 1) σ
def wj_X7_layPasses_166 (r24 : Int → Int → fb_St → Prop) (r59 : Int → Int → Int → Int → fb_St → Prop) (Q : Int → fb_St → Prop) (x1 x2 x3 x4 s0 s1 s2 : Int) (σ : fb_St) : Prop :=
  wp_X7_lesser s1 s0 σ (fun a52 σ52 =>
    0 ≤ s2 ∧ s2 < 100 ∧
    ∀ σ55 : fb_St, σ55 = fb_up σ52 65 s2 a52 →
    wj_X7_layPasses_170 r24 r59 Q x1 x2 x3 x4 σ55)
def wj_X7_layPasses_79 (r24 : Int → Int → fb_St → Prop) (r59 : Int → Int → Int → Int → fb_St → Prop) (Q : Int → fb_St → Prop) (x1 x2 x3 x4 : Int) (σ : fb_St) : Prop :=
  wp_X7_beside x2 x4 σ (fun a21 σ21 =>
    (a21 < 0 →
      wj_X7_layPasses_170 r24 r59 Q x1 x2 x3 x4 σ21) ∧
    (¬ a21 < 0 →
      0 ≤ a21 ∧ a21 < 144 ∧
      (0 < σ21 60 a21 →
        0 ≤ a21 ∧ a21 < 144 ∧
        (σ21 60 a21 = x1 →
          wj_X7_layPasses_170 r24 r59 Q x1 x2 x3 x4 σ21) ∧
        (¬ σ21 60 a21 = x1 →
          0 ≤ a21 ∧ a21 < 144 ∧
          0 ≤ a21 ∧ a21 < 144 ∧
          0 ≤ σ21 60 a21 ∧ σ21 60 a21 < 100 ∧
          (x3 = 0 →
            0 ≤ x2 ∧ x2 < 292 ∧
            0 ≤ a21 ∧ a21 < 292 ∧
            wp_X7_greater (σ21 49 x2) (σ21 49 a21) σ21 (fun a47 σ47 =>
              wj_X7_layPasses_166 r24 r59 Q x1 x2 x3 x4 a47 (σ21 65 (σ21 60 a21)) (σ21 60 a21) σ47)) ∧
          (¬ x3 = 0 →
            0 ≤ x2 ∧ x2 < 292 ∧
            wj_X7_layPasses_166 r24 r59 Q x1 x2 x3 x4 (σ21 49 x2) (σ21 65 (σ21 60 a21)) (σ21 60 a21) σ21))) ∧
      (¬ 0 < σ21 60 a21 →
        wj_X7_layPasses_170 r24 r59 Q x1 x2 x3 x4 σ21)))
def wj_X7_layPasses_176 (r24 : Int → Int → fb_St → Prop) (Q : Int → fb_St → Prop) (x1 x2 : Int) (σ : fb_St) : Prop :=
  fb_in (x2 + 1) ∧
  r24 x1 (x2 + 1) σ
def wb_X7_layPasses_59 (r24 : Int → Int → fb_St → Prop) (r59 : Int → Int → Int → Int → fb_St → Prop) (Q : Int → fb_St → Prop) (x1 x2 x3 x4 : Int) (σ : fb_St) : Prop :=
  (x4 < 4 →
    (x3 = 0 →
      0 ≤ x2 ∧ x2 < 144 ∧
      (σ 60 x2 = x1 →
        wj_X7_layPasses_79 r24 r59 Q x1 x2 x3 x4 σ) ∧
      (¬ σ 60 x2 = x1 →
        wj_X7_layPasses_176 r24 Q x1 x2 σ)) ∧
    (¬ x3 = 0 →
      wj_X7_layPasses_79 r24 r59 Q x1 x2 x3 x4 σ)) ∧
  (¬ x4 < 4 →
    wj_X7_layPasses_176 r24 Q x1 x2 σ)
def wl_X7_layPasses_59 (r24 : Int → Int → fb_St → Prop) (Q : Int → fb_St → Prop) : Nat → Int → Int → Int → Int → fb_St → Prop := fb_Lp (fun _ _ _ _ _ => False) (fun r => wb_X7_layPasses_59 r24 r Q)
def wj_X7_layPasses_55 (r24 : Int → Int → fb_St → Prop) (Q : Int → fb_St → Prop) (x1 x2 s0 : Int) (σ : fb_St) : Prop :=
  ∃ n, wl_X7_layPasses_59 r24 Q n x1 x2 s0 0 σ
def wj_X7_layPasses_54 (r24 : Int → Int → fb_St → Prop) (Q : Int → fb_St → Prop) (x1 x2 : Int) (σ : fb_St) : Prop :=
  wj_X7_layPasses_55 r24 Q x1 x2 0 σ
def wb_X7_layPasses_24 (r24 : Int → Int → fb_St → Prop) (Q : Int → fb_St → Prop) (x1 x2 : Int) (σ : fb_St) : Prop :=
  wp_X7_dots σ (fun a6 σ6 =>
    (x2 < a6 →
      0 ≤ x2 ∧ x2 < 144 ∧
      (σ6 60 x2 = 0 →
        wp_X7_hasBeside x2 x1 σ6 (fun a12 σ12 =>
          (a12 = 0 →
            wj_X7_layPasses_54 r24 Q x1 x2 σ12) ∧
          (¬ a12 = 0 →
            wj_X7_layPasses_55 r24 Q x1 x2 1 σ12))) ∧
      (¬ σ6 60 x2 = 0 →
        wj_X7_layPasses_54 r24 Q x1 x2 σ6)) ∧
    (¬ x2 < a6 →
      Q 0 σ6))
def wl_X7_layPasses_24 (Q : Int → fb_St → Prop) : Nat → Int → Int → fb_St → Prop := fb_Lp (fun _ _ _ => False) (fun r => wb_X7_layPasses_24 r Q)
def wb_X7_layPasses_2 (r2 : Int → Int → fb_St → Prop) (Q : Int → fb_St → Prop) (x1 x2 : Int) (σ : fb_St) : Prop :=
  (x2 < 100 →
    0 ≤ x2 ∧ x2 < 100 ∧
    ∀ σ4 : fb_St, σ4 = fb_up σ 65 x2 (-6) →
    fb_in (x2 + 1) ∧
    r2 x1 (x2 + 1) σ4) ∧
  (¬ x2 < 100 →
    ∃ n, wl_X7_layPasses_24 Q n x1 0 σ)
def wl_X7_layPasses_2 (Q : Int → fb_St → Prop) : Nat → Int → Int → fb_St → Prop := fb_Lp (fun _ _ _ => False) (fun r => wb_X7_layPasses_2 r Q)
def wp_X7_layPasses (x1 : Int) (σ : fb_St) (Q : Int → fb_St → Prop) : Prop :=
  ∃ n, wl_X7_layPasses_2 Q n x1 1 σ
def rm_X7_wayOut : Room := { frames := 5, cells := 0, slots := 0, locals := 118 }
def wj_X7_wayOut_49 (r10 : Int → Int → fb_St → Prop) (Q : Int → fb_St → Prop) (x3 s0 : Int) (σ : fb_St) : Prop :=
  fb_in (x3 + 1) ∧
  r10 s0 (x3 + 1) σ
def wj_X7_wayOut_44 (r10 : Int → Int → fb_St → Prop) (Q : Int → fb_St → Prop) (x3 : Int) (σ : fb_St) : Prop :=
  wj_X7_wayOut_49 r10 Q x3 x3 σ
def wj_X7_wayOut_48 (r10 : Int → Int → fb_St → Prop) (Q : Int → fb_St → Prop) (x2 x3 : Int) (σ : fb_St) : Prop :=
  wj_X7_wayOut_49 r10 Q x3 x2 σ
def wb_X7_wayOut_10 (r10 : Int → Int → fb_St → Prop) (Q : Int → fb_St → Prop) (x2 x3 : Int) (σ : fb_St) : Prop :=
  (x3 < 100 →
    0 ≤ x3 ∧ x3 < 100 ∧
    (σ 65 x3 < 0 →
      wj_X7_wayOut_48 r10 Q x2 x3 σ) ∧
    (¬ σ 65 x3 < 0 →
      (x2 < 0 →
        wj_X7_wayOut_44 r10 Q x3 σ) ∧
      (¬ x2 < 0 →
        0 ≤ x3 ∧ x3 < 100 ∧
        0 ≤ x2 ∧ x2 < 100 ∧
        (σ 65 x3 < σ 65 x2 →
          wj_X7_wayOut_44 r10 Q x3 σ) ∧
        (¬ σ 65 x3 < σ 65 x2 →
          wj_X7_wayOut_48 r10 Q x2 x3 σ)))) ∧
  (¬ x3 < 100 →
    Q x2 σ)
def wl_X7_wayOut_10 (Q : Int → fb_St → Prop) : Nat → Int → Int → fb_St → Prop := fb_Lp (fun _ _ _ => False) (fun r => wb_X7_wayOut_10 r Q)
def wp_X7_wayOut (x1 : Int) (σ : fb_St) (Q : Int → fb_St → Prop) : Prop :=
  wp_X7_layPasses x1 σ (fun _ σ1 =>
    ∃ n, wl_X7_wayOut_10 Q n (-6) 1 σ1)
def rm_X7_leastHeight : Room := { frames := 1, cells := 0, slots := 0, locals := 21 }
def wj_X7_leastHeight_37 (r5 : Int → Int → Int → fb_St → Prop) (Q : Int → fb_St → Prop) (x1 x3 s0 : Int) (σ : fb_St) : Prop :=
  fb_in (x3 + 1) ∧
  r5 x1 s0 (x3 + 1) σ
def wb_X7_leastHeight_5 (r5 : Int → Int → Int → fb_St → Prop) (Q : Int → fb_St → Prop) (x1 x2 x3 : Int) (σ : fb_St) : Prop :=
  wp_X7_dots σ (fun a1 σ1 =>
    (x3 < a1 →
      0 ≤ x3 ∧ x3 < 144 ∧
      (σ1 60 x3 = x1 →
        0 ≤ x3 ∧ x3 < 292 ∧
        wp_X7_lesser x2 (σ1 49 x3) σ1 (fun a10 σ10 =>
          wj_X7_leastHeight_37 r5 Q x1 x3 a10 σ10)) ∧
      (¬ σ1 60 x3 = x1 →
        wj_X7_leastHeight_37 r5 Q x1 x3 x2 σ1)) ∧
    (¬ x3 < a1 →
      Q x2 σ1))
def wl_X7_leastHeight_5 (Q : Int → fb_St → Prop) : Nat → Int → Int → Int → fb_St → Prop := fb_Lp (fun _ _ _ _ => False) (fun r => wb_X7_leastHeight_5 r Q)
def wp_X7_leastHeight (x1 : Int) (σ : fb_St) (Q : Int → fb_St → Prop) : Prop :=
  ∃ n, wl_X7_leastHeight_5 Q n x1 (-6) 0 σ
def rm_X7_sizeOf : Room := { frames := 2, cells := 0, slots := 0, locals := 44 }
def wj_X7_sizeOf_82 (r43 : Int → Int → Int → Int → fb_St → Prop) (Q : Int → fb_St → Prop) (x1 x3 x5 s0 s1 : Int) (σ : fb_St) : Prop :=
  fb_in (s1 + s0) ∧
  ∀ v20 : Int, v20 = s1 + s0 →
  fb_in (x5 + 1) ∧
  r43 x1 x3 v20 (x5 + 1) σ
def wb_X7_sizeOf_43 (r43 : Int → Int → Int → Int → fb_St → Prop) (Q : Int → fb_St → Prop) (x1 x3 x4 x5 : Int) (σ : fb_St) : Prop :=
  wp_X7_dots σ (fun a8 σ8 =>
    (x5 < a8 →
      0 ≤ x5 ∧ x5 < 144 ∧
      (σ8 60 x5 = x1 →
        0 ≤ x5 ∧ x5 < 292 ∧
        fb_in (x3 - (σ8 49 x5)) ∧
        wp_X7_greater (x3 - (σ8 49 x5)) 0 σ8 (fun a18 σ18 =>
          wj_X7_sizeOf_82 r43 Q x1 x3 x5 a18 x4 σ18)) ∧
      (¬ σ8 60 x5 = x1 →
        wj_X7_sizeOf_82 r43 Q x1 x3 x5 0 x4 σ8)) ∧
    (¬ x5 < a8 →
      Q x4 σ8))
def wl_X7_sizeOf_43 (Q : Int → fb_St → Prop) : Nat → Int → Int → Int → Int → fb_St → Prop := fb_Lp (fun _ _ _ _ _ => False) (fun r => wb_X7_sizeOf_43 r Q)
def wp_X7_sizeOf (x1 x2 x3 : Int) (σ : fb_St) (Q : Int → fb_St → Prop) : Prop :=
  (x2 = 0 →
    wp_X7_dotsOf 60 x1 σ (fun a7 σ7 =>
      Q a7 σ7)) ∧
  (¬ x2 = 0 →
    (x3 < 0 →
      Q 0 σ) ∧
    (¬ x3 < 0 →
      (x2 = 1 →
        wp_X7_leastHeight x1 σ (fun a4 σ4 =>
          fb_in (x3 - a4) ∧
          wp_X7_greater (x3 - a4) 0 σ4 (fun a6 σ6 =>
            Q a6 σ6))) ∧
      (¬ x2 = 1 →
        ∃ n, wl_X7_sizeOf_43 Q n x1 x3 0 0 σ)))
def rm_X7_pourOne : Room := { frames := 4, cells := 0, slots := 0, locals := 94 }
def wj_X7_pourOne_35 (r2 : Int → Int → Int → fb_St → Prop) (Q : Int → fb_St → Prop) (x1 x2 x3 s0 s1 : Int) (σ : fb_St) : Prop :=
  0 ≤ s1 ∧ s1 < 144 ∧
  ∀ σ31 : fb_St, σ31 = fb_up σ 60 s1 s0 →
  fb_in (x3 + 1) ∧
  r2 x1 x2 (x3 + 1) σ31
def wj_X7_pourOne_113 (r47 : Int → Int → fb_St → Prop) (Q : Int → fb_St → Prop) (x3 x4 : Int) (σ : fb_St) : Prop :=
  fb_in (x4 + 1) ∧
  r47 x3 (x4 + 1) σ
def wb_X7_pourOne_122 (r122 : Int → Int → fb_St → Prop) (Q : Int → fb_St → Prop) (x3 x4 : Int) (σ : fb_St) : Prop :=
  wp_X7_dots σ (fun a33 σ33 =>
    (x4 < a33 →
      0 ≤ x4 ∧ x4 < 144 ∧
      0 ≤ x4 ∧ x4 < 144 ∧
      ∀ σ40 : fb_St, σ40 = fb_up σ33 60 x4 (σ33 66 x4) →
      fb_in (x4 + 1) ∧
      r122 x3 (x4 + 1) σ40) ∧
    (¬ x4 < a33 →
      Q x3 σ33))
def wl_X7_pourOne_122 (Q : Int → fb_St → Prop) : Nat → Int → Int → fb_St → Prop := fb_Lp (fun _ _ _ => False) (fun r => wb_X7_pourOne_122 r Q)
def wb_X7_pourOne_47 (r47 : Int → Int → fb_St → Prop) (Q : Int → fb_St → Prop) (x3 x4 : Int) (σ : fb_St) : Prop :=
  wp_X7_dots σ (fun a10 σ10 =>
    (x4 < a10 →
      0 ≤ x4 ∧ x4 < 144 ∧
      0 ≤ x4 ∧ x4 < 144 ∧
      ∀ σ17 : fb_St, σ17 = fb_up σ10 66 x4 (σ10 60 x4) →
      0 ≤ x4 ∧ x4 < 144 ∧
      (σ17 60 x4 = 0 →
        wp_X7_basinBeside 60 x4 σ17 (fun a22 σ22 =>
          (0 < a22 →
            wp_X7_basinBeside 60 x4 σ22 (fun a24 σ24 =>
              0 ≤ x4 ∧ x4 < 144 ∧
              ∀ σ27 : fb_St, σ27 = fb_up σ24 66 x4 a24 →
              fb_in (x3 + 1) ∧
              wj_X7_pourOne_113 r47 Q (x3 + 1) x4 σ27)) ∧
          (¬ 0 < a22 →
            wj_X7_pourOne_113 r47 Q x3 x4 σ22))) ∧
      (¬ σ17 60 x4 = 0 →
        wj_X7_pourOne_113 r47 Q x3 x4 σ17)) ∧
    (¬ x4 < a10 →
      ∃ n, wl_X7_pourOne_122 Q n x3 0 σ10))
def wl_X7_pourOne_47 (Q : Int → fb_St → Prop) : Nat → Int → Int → fb_St → Prop := fb_Lp (fun _ _ _ => False) (fun r => wb_X7_pourOne_47 r Q)
def wb_X7_pourOne_2 (r2 : Int → Int → Int → fb_St → Prop) (Q : Int → fb_St → Prop) (x1 x2 x3 : Int) (σ : fb_St) : Prop :=
  wp_X7_dots σ (fun a1 σ1 =>
    (x3 < a1 →
      0 ≤ x3 ∧ x3 < 144 ∧
      (σ1 60 x3 = x1 →
        wj_X7_pourOne_35 r2 Q x1 x2 x3 x2 x3 σ1) ∧
      (¬ σ1 60 x3 = x1 →
        0 ≤ x3 ∧ x3 < 144 ∧
        wj_X7_pourOne_35 r2 Q x1 x2 x3 (σ1 60 x3) x3 σ1)) ∧
    (¬ x3 < a1 →
      ∃ n, wl_X7_pourOne_47 Q n 0 0 σ1))
def wl_X7_pourOne_2 (Q : Int → fb_St → Prop) : Nat → Int → Int → Int → fb_St → Prop := fb_Lp (fun _ _ _ _ => False) (fun r => wb_X7_pourOne_2 r Q)
def wp_X7_pourOne (x1 x2 : Int) (σ : fb_St) (Q : Int → fb_St → Prop) : Prop :=
  ∃ n, wl_X7_pourOne_2 Q n x1 x2 0 σ
def rm_X7_pour : Room := { frames := 6, cells := 0, slots := 0, locals := 141 }
def wj_X7_pour_145 (r38 : Int → Int → Int → fb_St → Prop) (r57 : Int → Int → Int → Int → Int → Int → fb_St → Prop) (Q : Int → fb_St → Prop) (x1 x2 x4 x5 x6 x7 : Int) (σ : fb_St) : Prop :=
  fb_in (x7 + 1) ∧
  r57 x1 x2 x4 x5 x6 (x7 + 1) σ
def wj_X7_pour_133 (r38 : Int → Int → Int → fb_St → Prop) (r57 : Int → Int → Int → Int → Int → Int → fb_St → Prop) (Q : Int → fb_St → Prop) (x1 x2 x7 x8 x9 : Int) (σ : fb_St) : Prop :=
  wj_X7_pour_145 r38 r57 Q x1 x2 x7 x8 x9 x7 σ
def wj_X7_pour_121 (r38 : Int → Int → Int → fb_St → Prop) (r57 : Int → Int → Int → Int → Int → Int → fb_St → Prop) (Q : Int → fb_St → Prop) (x1 x2 x4 x5 x6 x7 x8 x9 : Int) (σ : fb_St) : Prop :=
  (x4 < 0 →
    wj_X7_pour_133 r38 r57 Q x1 x2 x7 x8 x9 σ) ∧
  (¬ x4 < 0 →
    (x9 < x6 →
      wj_X7_pour_133 r38 r57 Q x1 x2 x7 x8 x9 σ) ∧
    (¬ x9 < x6 →
      wj_X7_pour_145 r38 r57 Q x1 x2 x4 x5 x6 x7 σ))
def wj_X7_pour_88 (r38 : Int → Int → Int → fb_St → Prop) (r57 : Int → Int → Int → Int → Int → Int → fb_St → Prop) (Q : Int → fb_St → Prop) (x1 x2 x4 x5 x6 x7 s0 : Int) (σ : fb_St) : Prop :=
  (s0 < 0 →
    wj_X7_pour_145 r38 r57 Q x1 x2 x4 x5 x6 x7 σ) ∧
  (¬ s0 < 0 →
    0 ≤ s0 ∧ s0 < 100 ∧
    ∀ v42 : Int, v42 = σ 65 s0 →
    (x2 < 0 →
      wj_X7_pour_121 r38 r57 Q x1 x2 x4 x5 x6 x7 s0 v42 σ) ∧
    (¬ x2 < 0 →
      wp_X7_sizeOf x7 x1 v42 σ (fun a44 σ44 =>
        (a44 < x2 →
          wj_X7_pour_121 r38 r57 Q x1 x2 x4 x5 x6 x7 s0 v42 σ44) ∧
        (¬ a44 < x2 →
          wj_X7_pour_145 r38 r57 Q x1 x2 x4 x5 x6 x7 σ44))))
def wj_X7_pour_226 (r38 : Int → Int → Int → fb_St → Prop) (Q : Int → fb_St → Prop) (x1 x2 x3 : Int) (σ : fb_St) : Prop :=
  r38 x1 x2 x3 σ
def wj_X7_pour_161 (r38 : Int → Int → Int → fb_St → Prop) (Q : Int → fb_St → Prop) (x1 x2 x4 x5 x6 s0 : Int) (σ : fb_St) : Prop :=
  (s0 = 0 →
    wj_X7_pour_226 r38 Q x1 x2 s0 σ) ∧
  (¬ s0 = 0 →
    0 ≤ σ 48 17 ∧ σ 48 17 < 100 ∧
    ∀ σ21 : fb_St, σ21 = fb_up σ 61 (σ 48 17) x4 →
    0 ≤ σ21 48 17 ∧ σ21 48 17 < 100 ∧
    ∀ σ25 : fb_St, σ25 = fb_up σ21 62 (σ21 48 17) x5 →
    0 ≤ σ25 48 17 ∧ σ25 48 17 < 100 ∧
    ∀ σ29 : fb_St, σ29 = fb_up σ25 63 (σ25 48 17) x6 →
    wp_X7_pourOne x4 x5 σ29 (fun a31 σ31 =>
      0 ≤ σ29 48 17 ∧ σ29 48 17 < 100 ∧
      ∀ σ34 : fb_St, σ34 = fb_up σ31 64 (σ29 48 17) a31 →
      fb_in ((σ34 48 17) + 1) ∧
      ∀ σ37 : fb_St, σ37 = fb_up σ34 48 17 ((σ34 48 17) + 1) →
      wj_X7_pour_226 r38 Q x1 x2 s0 σ37))
def wb_X7_pour_57 (r38 : Int → Int → Int → fb_St → Prop) (r57 : Int → Int → Int → Int → Int → Int → fb_St → Prop) (Q : Int → fb_St → Prop) (x1 x2 x4 x5 x6 x7 : Int) (σ : fb_St) : Prop :=
  (x7 < 100 →
    wp_X7_dotsOf 60 x7 σ (fun a14 σ14 =>
      (0 < a14 →
        wp_X7_wayOut x7 σ14 (fun a16 σ16 =>
          wj_X7_pour_88 r38 r57 Q x1 x2 x4 x5 x6 x7 a16 σ16)) ∧
      (¬ 0 < a14 →
        wj_X7_pour_88 r38 r57 Q x1 x2 x4 x5 x6 x7 (-6) σ14))) ∧
  (¬ x7 < 100 →
    (x4 < 0 →
      wj_X7_pour_161 r38 Q x1 x2 x4 x5 x6 0 σ) ∧
    (¬ x4 < 0 →
      wj_X7_pour_161 r38 Q x1 x2 x4 x5 x6 1 σ))
def wl_X7_pour_57 (r38 : Int → Int → Int → fb_St → Prop) (Q : Int → fb_St → Prop) : Nat → Int → Int → Int → Int → Int → Int → fb_St → Prop := fb_Lp (fun _ _ _ _ _ _ _ => False) (fun r => wb_X7_pour_57 r38 r Q)
def wb_X7_pour_38 (r38 : Int → Int → Int → fb_St → Prop) (Q : Int → fb_St → Prop) (x1 x2 x3 : Int) (σ : fb_St) : Prop :=
  (x3 = 0 →
    Q 0 σ) ∧
  (¬ x3 = 0 →
    ∃ n, wl_X7_pour_57 r38 Q n x1 x2 (-6) (-6) (-6) 1 σ)
def wl_X7_pour_38 (Q : Int → fb_St → Prop) : Nat → Int → Int → Int → fb_St → Prop := fb_Lp (fun _ _ _ _ => False) (fun r => wb_X7_pour_38 r Q)
def wb_X7_pour_6 (r6 : Int → Int → Int → fb_St → Prop) (Q : Int → fb_St → Prop) (x1 x2 x3 : Int) (σ : fb_St) : Prop :=
  (x3 < 144 →
    0 ≤ x3 ∧ x3 < 144 ∧
    0 ≤ x3 ∧ x3 < 144 ∧
    ∀ σ9 : fb_St, σ9 = fb_up σ 60 x3 (σ 55 x3) →
    fb_in (x3 + 1) ∧
    r6 x1 x2 (x3 + 1) σ9) ∧
  (¬ x3 < 144 →
    ∀ σ3 : fb_St, σ3 = fb_up σ 48 17 0 →
    ∃ n, wl_X7_pour_38 Q n x1 x2 1 σ3)
def wl_X7_pour_6 (Q : Int → fb_St → Prop) : Nat → Int → Int → Int → fb_St → Prop := fb_Lp (fun _ _ _ _ => False) (fun r => wb_X7_pour_6 r Q)
def wp_X7_pour (x1 x2 : Int) (σ : fb_St) (Q : Int → fb_St → Prop) : Prop :=
  wp_X7_flood σ (fun _ σ1 =>
    ∃ n, wl_X7_pour_6 Q n x1 x2 0 σ1)
def rm_X7_pourAsTold : Room := { frames := 7, cells := 0, slots := 0, locals := 170 }
def wp_X7_pourAsTold (σ : fb_St) (Q : Int → fb_St → Prop) : Prop :=
  wp_X7_pour (σ 49 290) (σ 49 291) σ (fun _ σ3 =>
    Q 0 σ3)
def rm_X7_dot : Room := { frames := 8, cells := 0, slots := 0, locals := 190 }
def wj_X7_dot_18 (Q : Int → fb_St → Prop) (σ : fb_St) : Prop :=
  Q (-2) σ
def wp_X7_dot (x1 x2 x3 : Int) (σ : fb_St) (Q : Int → fb_St → Prop) : Prop :=
  wp_X7_isDot x1 x2 σ (fun a1 σ1 =>
    (a1 = 0 →
      wj_X7_dot_18 Q σ1) ∧
    (¬ a1 = 0 →
      wp_X7_in x3 0 5 σ1 (fun a3 σ3 =>
        (a3 = 0 →
          wj_X7_dot_18 Q σ3) ∧
        (¬ a3 = 0 →
          wp_X7_at x1 x2 σ3 (fun a5 σ5 =>
            wp_X7_pourAsTold σ5 (fun _ σ6 =>
              (x3 = 0 →
                0 ≤ a5 ∧ a5 < 292 ∧
                Q (σ6 49 a5) σ6) ∧
              (x3 = 1 →
                fb_in (144 + a5) ∧
                0 ≤ 144 + a5 ∧ 144 + a5 < 292 ∧
                Q (σ6 49 (144 + a5)) σ6) ∧
              (x3 = 2 →
                0 ≤ a5 ∧ a5 < 144 ∧
                Q (σ6 55 a5) σ6) ∧
              (x3 = 3 →
                0 ≤ a5 ∧ a5 < 144 ∧
                Q (σ6 56 a5) σ6) ∧
              (x3 = 4 →
                0 ≤ a5 ∧ a5 < 144 ∧
                Q (σ6 57 a5) σ6) ∧
              (x3 < 0 ∨ 4 < x3 →
                0 ≤ a5 ∧ a5 < 144 ∧
                Q (σ6 60 a5) σ6)))))))
def rm_X7_bound : Room := { frames := 8, cells := 0, slots := 0, locals := 190 }
def wj_X7_bound_20 (Q : Int → fb_St → Prop) (σ : fb_St) : Prop :=
  Q (-2) σ
def wp_X7_bound (x1 x2 : Int) (σ : fb_St) (Q : Int → fb_St → Prop) : Prop :=
  wp_X7_in x1 0 2 σ (fun a1 σ1 =>
    (a1 = 0 →
      wj_X7_bound_20 Q σ1) ∧
    (¬ a1 = 0 →
      wp_X7_in x2 0 2000 σ1 (fun a3 σ3 =>
        (a3 = 0 →
          wj_X7_bound_20 Q σ3) ∧
        (¬ a3 = 0 →
          ∀ σ5 : fb_St, σ5 = fb_up σ3 49 290 x1 →
          ∀ σ6 : fb_St, σ6 = fb_up σ5 49 291 x2 →
          wp_X7_pourAsTold σ6 (fun _ σ7 =>
            Q (σ7 48 17) σ7)))))
def rm_X7_isBasin : Room := { frames := 2, cells := 0, slots := 0, locals := 44 }
def wj_X7_isBasin_27 (Q : Int → fb_St → Prop) (s0 : Int) (σ : fb_St) : Prop :=
  fb_B (s0) ∧ Q s0 σ
def wj_X7_isBasin_26 (Q : Int → fb_St → Prop) (σ : fb_St) : Prop :=
  wj_X7_isBasin_27 Q 0 σ
def wp_X7_isBasin (x1 : Int) (σ : fb_St) (Q : Int → fb_St → Prop) : Prop :=
  wp_X7_in x1 1 99 σ (fun a1 σ1 =>
    (a1 = 0 →
      wj_X7_isBasin_26 Q σ1) ∧
    (¬ a1 = 0 →
      wp_X7_dotsOf 60 x1 σ1 (fun a3 σ3 =>
        (0 < a3 →
          wj_X7_isBasin_27 Q 1 σ3) ∧
        (¬ 0 < a3 →
          wj_X7_isBasin_26 Q σ3))))
def rm_X7_basin : Room := { frames := 8, cells := 0, slots := 0, locals := 190 }
def wj_X7_basin_89 (Q : Int → fb_St → Prop) (s0 : Int) (σ : fb_St) : Prop :=
  Q s0 σ
def wj_X7_basin_47 (Q : Int → fb_St → Prop) (x1 x2 x3 s0 : Int) (σ : fb_St) : Prop :=
  (x2 < 3 →
    wp_X7_sizeOf x1 x2 s0 σ (fun a15 σ15 =>
      wj_X7_basin_89 Q a15 σ15)) ∧
  (¬ x2 < 3 →
    (x2 = 3 →
      wp_X7_leastHeight x1 σ (fun a14 σ14 =>
        wj_X7_basin_89 Q a14 σ14)) ∧
    (¬ x2 = 3 →
      (x2 = 4 →
        wj_X7_basin_89 Q s0 σ) ∧
      (¬ x2 = 4 →
        wj_X7_basin_89 Q x3 σ)))
def wp_X7_basin (x1 x2 : Int) (σ : fb_St) (Q : Int → fb_St → Prop) : Prop :=
  wp_X7_pourAsTold σ (fun _ σ1 =>
    wp_X7_isBasin x1 σ1 (fun a2 σ2 =>
      (a2 = 0 →
        Q (-1) σ2) ∧
      (¬ a2 = 0 →
        wp_X7_in x2 0 5 σ2 (fun a4 σ4 =>
          (a4 = 0 →
            Q (-2) σ4) ∧
          (¬ a4 = 0 →
            wp_X7_wayOut x1 σ4 (fun a6 σ6 =>
              (a6 < 0 →
                wj_X7_basin_47 Q x1 x2 a6 (-6) σ6) ∧
              (¬ a6 < 0 →
                0 ≤ a6 ∧ a6 < 100 ∧
                wj_X7_basin_47 Q x1 x2 a6 (σ6 65 a6) σ6)))))))
def rm_X7_pass : Room := { frames := 8, cells := 0, slots := 0, locals := 190 }
def wj_X7_pass_20 (Q : Int → fb_St → Prop) (σ : fb_St) : Prop :=
  Q (-1) σ
def wj_X7_pass_38 (Q : Int → fb_St → Prop) (s0 : Int) (σ : fb_St) : Prop :=
  Q s0 σ
def wp_X7_pass (x1 x2 : Int) (σ : fb_St) (Q : Int → fb_St → Prop) : Prop :=
  wp_X7_pourAsTold σ (fun _ σ1 =>
    wp_X7_isBasin x1 σ1 (fun a2 σ2 =>
      (a2 = 0 →
        wj_X7_pass_20 Q σ2) ∧
      (¬ a2 = 0 →
        wp_X7_isBasin x2 σ2 (fun a4 σ4 =>
          (a4 = 0 →
            wj_X7_pass_20 Q σ4) ∧
          (¬ a4 = 0 →
            (x1 = x2 →
              wj_X7_pass_38 Q (-2) σ4) ∧
            (¬ x1 = x2 →
              wp_X7_passOf x1 x2 σ4 (fun a7 σ7 =>
                wj_X7_pass_38 Q a7 σ7)))))))
def rm_X7_told : Room := { frames := 1, cells := 0, slots := 0, locals := 22 }
def wj_X7_told_64 (Q : Int → fb_St → Prop) (s0 : Int) (σ : fb_St) : Prop :=
  Q s0 σ
def wp_X7_told (x1 x2 : Int) (σ : fb_St) (Q : Int → fb_St → Prop) : Prop :=
  fb_in ((σ 48 17) - 1) ∧
  wp_X7_in x1 0 ((σ 48 17) - 1) σ (fun a3 σ3 =>
    (a3 = 0 →
      Q (-6) σ3) ∧
    (¬ a3 = 0 →
      (x2 = 0 →
        0 ≤ x1 ∧ x1 < 100 ∧
        wj_X7_told_64 Q (σ3 61 x1) σ3) ∧
      (¬ x2 = 0 →
        (x2 = 1 →
          0 ≤ x1 ∧ x1 < 100 ∧
          wj_X7_told_64 Q (σ3 62 x1) σ3) ∧
        (¬ x2 = 1 →
          (x2 = 2 →
            0 ≤ x1 ∧ x1 < 100 ∧
            wj_X7_told_64 Q (σ3 63 x1) σ3) ∧
          (¬ x2 = 2 →
            0 ≤ x1 ∧ x1 < 100 ∧
            wj_X7_told_64 Q (σ3 64 x1) σ3)))))
def rm_X7_poured : Room := { frames := 8, cells := 0, slots := 0, locals := 190 }
def wp_X7_poured (x1 x2 : Int) (σ : fb_St) (Q : Int → fb_St → Prop) : Prop :=
  wp_X7_in x2 0 3 σ (fun a1 σ1 =>
    (a1 = 0 →
      Q (-2) σ1) ∧
    (¬ a1 = 0 →
      wp_X7_pourAsTold σ1 (fun _ σ3 =>
        wp_X7_told x1 x2 σ3 (fun a4 σ4 =>
          Q a4 σ4))))
def rm_X7_tree : Room := { frames := 7, cells := 0, slots := 0, locals := 170 }
def wp_X7_tree (x1 x2 : Int) (σ : fb_St) (Q : Int → fb_St → Prop) : Prop :=
  wp_X7_in x2 0 3 σ (fun a1 σ1 =>
    (a1 = 0 →
      Q (-2) σ1) ∧
    (¬ a1 = 0 →
      wp_X7_pour 0 (-6) σ1 (fun _ σ3 =>
        wp_X7_told x1 x2 σ3 (fun a4 σ4 =>
          Q a4 σ4))))
def rm_X7_over : Room := { frames := 4, cells := 0, slots := 0, locals := 95 }
def wj_X7_over_19 (Q : Int → fb_St → Prop) (σ : fb_St) : Prop :=
  Q (-2) σ
def wb_X7_over_68 (r68 : Int → Int → Int → fb_St → Prop) (Q : Int → fb_St → Prop) (x5 x6 x7 : Int) (σ : fb_St) : Prop :=
  0 ≤ x6 ∧ x6 < 144 ∧
  (σ 54 x6 = 0 →
    fb_in (x7 + 1) ∧
    wp_X7_spread x5 (x7 + 1) 0 σ (fun a20 σ20 =>
      r68 x5 x6 (x7 + 1) σ20)) ∧
  (¬ σ 54 x6 = 0 →
    Q x7 σ)
def wl_X7_over_68 (Q : Int → fb_St → Prop) : Nat → Int → Int → Int → fb_St → Prop := fb_Lp (fun _ _ _ _ => False) (fun r => wb_X7_over_68 r Q)
def wp_X7_over (x1 x2 x3 x4 : Int) (σ : fb_St) (Q : Int → fb_St → Prop) : Prop :=
  wp_X7_isDot x1 x2 σ (fun a1 σ1 =>
    (a1 = 0 →
      wj_X7_over_19 Q σ1) ∧
    (¬ a1 = 0 →
      wp_X7_isDot x3 x4 σ1 (fun a3 σ3 =>
        (a3 = 0 →
          wj_X7_over_19 Q σ3) ∧
        (¬ a3 = 0 →
          wp_X7_at x1 x2 σ3 (fun a5 σ5 =>
            wp_X7_at x3 x4 σ5 (fun a6 σ6 =>
              0 ≤ a5 ∧ a5 < 292 ∧
              0 ≤ a6 ∧ a6 < 292 ∧
              wp_X7_greater (σ6 49 a5) (σ6 49 a6) σ6 (fun a13 σ13 =>
                wp_X7_spread a5 a13 0 σ13 (fun a14 σ14 =>
                  ∃ n, wl_X7_over_68 Q n a5 a6 a13 σ14))))))))
def rm_X7_wet : Room := { frames := 4, cells := 0, slots := 0, locals := 95 }
def wj_X7_wet_29 (Q : Int → fb_St → Prop) (σ : fb_St) : Prop :=
  Q (-2) σ
def wj_X7_wet_63 (Q : Int → fb_St → Prop) (s0 : Int) (σ : fb_St) : Prop :=
  Q s0 σ
def wj_X7_wet_137 (Q : Int → fb_St → Prop) (s0 : Int) (σ : fb_St) : Prop :=
  Q s0 σ
def wb_X7_wet_93 (r93 : Int → Int → Int → Int → Int → fb_St → Prop) (Q : Int → fb_St → Prop) (x3 x4 x6 x7 x8 : Int) (σ : fb_St) : Prop :=
  (x8 < x6 →
    0 ≤ x8 ∧ x8 < 144 ∧
    0 ≤ σ 53 x8 ∧ σ 53 x8 < 292 ∧
    fb_in (x3 - (σ 49 (σ 53 x8))) ∧
    fb_in (x7 + (x3 - (σ 49 (σ 53 x8)))) ∧
    ∀ v26 : Int, v26 = x7 + (x3 - (σ 49 (σ 53 x8))) →
    fb_in (x8 + 1) ∧
    r93 x3 x4 x6 v26 (x8 + 1) σ) ∧
  (¬ x8 < x6 →
    (x4 = 0 →
      wj_X7_wet_137 Q x6 σ) ∧
    (¬ x4 = 0 →
      wj_X7_wet_137 Q x7 σ))
def wl_X7_wet_93 (Q : Int → fb_St → Prop) : Nat → Int → Int → Int → Int → Int → fb_St → Prop := fb_Lp (fun _ _ _ _ _ _ => False) (fun r => wb_X7_wet_93 r Q)
def wp_X7_wet (x1 x2 x3 x4 : Int) (σ : fb_St) (Q : Int → fb_St → Prop) : Prop :=
  wp_X7_isDot x1 x2 σ (fun a1 σ1 =>
    (a1 = 0 →
      wj_X7_wet_29 Q σ1) ∧
    (¬ a1 = 0 →
      wp_X7_in x3 0 99 σ1 (fun a3 σ3 =>
        (a3 = 0 →
          wj_X7_wet_29 Q σ3) ∧
        (¬ a3 = 0 →
          wp_X7_in x4 0 2 σ3 (fun a5 σ5 =>
            (a5 = 0 →
              wj_X7_wet_29 Q σ5) ∧
            (¬ a5 = 0 →
              wp_X7_at x1 x2 σ5 (fun a7 σ7 =>
                0 ≤ a7 ∧ a7 < 292 ∧
                (x3 < σ7 49 a7 →
                  (x4 = 2 →
                    wj_X7_wet_63 Q (-6) σ7) ∧
                  (¬ x4 = 2 →
                    wj_X7_wet_63 Q 0 σ7)) ∧
                (¬ x3 < σ7 49 a7 →
                  wp_X7_spread a7 x3 0 σ7 (fun a12 σ12 =>
                    (x4 = 2 →
                      wp_X7_leastBeside a12 σ12 (fun a14 σ14 =>
                        Q a14 σ14)) ∧
                    (¬ x4 = 2 →
                      ∃ n, wl_X7_wet_93 Q n x3 x4 a12 0 0 σ12))))))))))
def rm_X7_basins : Room := { frames := 2, cells := 0, slots := 0, locals := 44 }
def wj_X7_basins_25 (oo : Nat) (r4 : Int → Int → fb_St → Prop) (Q : Int → fb_St → Prop) (x3 s0 s1 : Int) (σ : fb_St) : Prop :=
  fb_in (s1 + s0) ∧
  ∀ v5 : Int, v5 = s1 + s0 →
  fb_in (x3 + 1) ∧
  r4 v5 (x3 + 1) σ
def wb_X7_basins_4 (oo : Nat) (r4 : Int → Int → fb_St → Prop) (Q : Int → fb_St → Prop) (x2 x3 : Int) (σ : fb_St) : Prop :=
  (x3 < 100 →
    wp_X7_dotsOf oo x3 σ (fun a2 σ2 =>
      (0 < a2 →
        wj_X7_basins_25 oo r4 Q x3 1 x2 σ2) ∧
      (¬ 0 < a2 →
        wj_X7_basins_25 oo r4 Q x3 0 x2 σ2))) ∧
  (¬ x3 < 100 →
    Q x2 σ)
def wl_X7_basins_4 (oo : Nat) (Q : Int → fb_St → Prop) : Nat → Int → Int → fb_St → Prop := fb_Lp (fun _ _ _ => False) (fun r => wb_X7_basins_4 oo r Q)
def wp_X7_basins (oo : Nat) (σ : fb_St) (Q : Int → fb_St → Prop) : Prop :=
  ∃ n, wl_X7_basins_4 oo Q n 0 1 σ
def rm_X7_greatestLevel : Room := { frames := 1, cells := 0, slots := 0, locals := 21 }
def wb_X7_greatestLevel_5 (r5 : Int → Int → fb_St → Prop) (Q : Int → fb_St → Prop) (x1 x2 : Int) (σ : fb_St) : Prop :=
  wp_X7_dots σ (fun a1 σ1 =>
    (x2 < a1 →
      0 ≤ x2 ∧ x2 < 144 ∧
      wp_X7_greater x1 (σ1 56 x2) σ1 (fun a6 σ6 =>
        fb_in (x2 + 1) ∧
        r5 a6 (x2 + 1) σ6)) ∧
    (¬ x2 < a1 →
      Q x1 σ1))
def wl_X7_greatestLevel_5 (Q : Int → fb_St → Prop) : Nat → Int → Int → fb_St → Prop := fb_Lp (fun _ _ _ => False) (fun r => wb_X7_greatestLevel_5 r Q)
def wp_X7_greatestLevel (σ : fb_St) (Q : Int → fb_St → Prop) : Prop :=
  ∃ n, wl_X7_greatestLevel_5 Q n (-6) 0 σ
def rm_X7_treeSize : Room := { frames := 7, cells := 0, slots := 0, locals := 170 }
def wp_X7_treeSize (σ : fb_St) (Q : Int → fb_St → Prop) : Prop :=
  wp_X7_pour 0 (-6) σ (fun _ σ1 =>
    Q (σ1 48 17) σ1)
def rm_X7_marked : Room := { frames := 1, cells := 0, slots := 0, locals := 20 }
def wj_X7_marked_31 (r4 : Int → Int → fb_St → Prop) (Q : Int → fb_St → Prop) (x2 s0 s1 : Int) (σ : fb_St) : Prop :=
  fb_in (s1 + s0) ∧
  ∀ v9 : Int, v9 = s1 + s0 →
  fb_in (x2 + 1) ∧
  r4 v9 (x2 + 1) σ
def wb_X7_marked_4 (r4 : Int → Int → fb_St → Prop) (Q : Int → fb_St → Prop) (x1 x2 : Int) (σ : fb_St) : Prop :=
  wp_X7_dots σ (fun a1 σ1 =>
    (x2 < a1 →
      fb_in (144 + x2) ∧
      0 ≤ 144 + x2 ∧ 144 + x2 < 292 ∧
      (0 < σ1 49 (144 + x2) →
        wj_X7_marked_31 r4 Q x2 1 x1 σ1) ∧
      (¬ 0 < σ1 49 (144 + x2) →
        wj_X7_marked_31 r4 Q x2 0 x1 σ1)) ∧
    (¬ x2 < a1 →
      Q x1 σ1))
def wl_X7_marked_4 (Q : Int → fb_St → Prop) : Nat → Int → Int → fb_St → Prop := fb_Lp (fun _ _ _ => False) (fun r => wb_X7_marked_4 r Q)
def wp_X7_marked (σ : fb_St) (Q : Int → fb_St → Prop) : Prop :=
  ∃ n, wl_X7_marked_4 Q n 0 0 σ
def rm_X7_count : Room := { frames := 8, cells := 0, slots := 0, locals := 190 }
def wj_X7_count_194 (Q : Int → fb_St → Prop) (s0 s1 : Int) (σ : fb_St) : Prop :=
  fb_in (s1 + s0) ∧
  Q (s1 + s0) σ
def wj_X7_count_180 (Q : Int → fb_St → Prop) (s0 : Int) (σ : fb_St) : Prop :=
  (σ 51 1 = 0 →
    wj_X7_count_194 Q 0 s0 σ) ∧
  (¬ σ 51 1 = 0 →
    wj_X7_count_194 Q 2 s0 σ)
def wp_X7_count (x1 : Int) (σ : fb_St) (Q : Int → fb_St → Prop) : Prop :=
  wp_X7_pourAsTold σ (fun _ σ1 =>
    (x1 = 0 →
      Q (σ1 49 288) σ1) ∧
    (x1 = 1 →
      Q (σ1 49 289) σ1) ∧
    (x1 = 2 →
      wp_X7_layPits σ1 (fun a7 σ7 =>
        Q a7 σ7)) ∧
    (x1 = 3 →
      wp_X7_marked σ1 (fun a9 σ9 =>
        Q a9 σ9)) ∧
    (x1 = 4 →
      wp_X7_basins 55 σ1 (fun a11 σ11 =>
        Q a11 σ11)) ∧
    (x1 = 5 →
      wp_X7_basins 60 σ1 (fun a13 σ13 =>
        Q a13 σ13)) ∧
    (x1 = 6 →
      wp_X7_dotsOf 55 0 σ1 (fun a15 σ15 =>
        Q a15 σ15)) ∧
    (x1 = 7 →
      wp_X7_dotsOf 60 0 σ1 (fun a17 σ17 =>
        Q a17 σ17)) ∧
    (x1 = 8 →
      wp_X7_greatestLevel σ1 (fun a19 σ19 =>
        Q a19 σ19)) ∧
    (x1 = 9 →
      Q (σ1 49 290) σ1) ∧
    (x1 = 10 →
      Q (σ1 49 291) σ1) ∧
    (x1 = 11 →
      wp_X7_treeSize σ1 (fun a25 σ25 =>
        Q a25 σ25)) ∧
    (x1 = 12 →
      (σ1 51 0 = 0 →
        wj_X7_count_180 Q 0 σ1) ∧
      (¬ σ1 51 0 = 0 →
        wj_X7_count_180 Q 1 σ1)) ∧
    (x1 < 0 ∨ 12 < x1 →
      Q (-2) σ1))
def rm_X7_image : Room := { frames := 1, cells := 0, slots := 0, locals := 22 }
def wb_X7_image_14 (r14 : Int → Int → fb_St → Prop) (Q : Int → fb_St → Prop) (x1 x2 : Int) (σ : fb_St) : Prop :=
  (x2 < 292 →
    fb_in (292 * x1) ∧
    fb_in ((292 * x1) + x2) ∧
    0 ≤ x2 ∧ x2 < 292 ∧
    0 ≤ (292 * x1) + x2 ∧ (292 * x1) + x2 < 584 ∧
    ∀ σ14 : fb_St, σ14 = fb_up σ 50 ((292 * x1) + x2) (σ 49 x2) →
    fb_in (x2 + 1) ∧
    r14 x1 (x2 + 1) σ14) ∧
  (¬ x2 < 292 →
    0 ≤ x1 ∧ x1 < 2 ∧
    ∀ σ6 : fb_St, σ6 = fb_up σ 51 x1 1 →
    Q 1 σ6)
def wl_X7_image_14 (Q : Int → fb_St → Prop) : Nat → Int → Int → fb_St → Prop := fb_Lp (fun _ _ _ => False) (fun r => wb_X7_image_14 r Q)
def wp_X7_image (x1 : Int) (σ : fb_St) (Q : Int → fb_St → Prop) : Prop :=
  wp_X7_in x1 0 1 σ (fun a1 σ1 =>
    (a1 = 0 →
      Q (-2) σ1) ∧
    (¬ a1 = 0 →
      ∃ n, wl_X7_image_14 Q n x1 0 σ1))
def rm_X7_restore : Room := { frames := 1, cells := 0, slots := 0, locals := 22 }
def wb_X7_restore_26 (r26 : Int → Int → fb_St → Prop) (Q : Int → fb_St → Prop) (x1 x2 : Int) (σ : fb_St) : Prop :=
  (x2 < 292 →
    fb_in (292 * x1) ∧
    fb_in ((292 * x1) + x2) ∧
    0 ≤ (292 * x1) + x2 ∧ (292 * x1) + x2 < 584 ∧
    0 ≤ x2 ∧ x2 < 292 ∧
    ∀ σ15 : fb_St, σ15 = fb_up σ 49 x2 (σ 50 ((292 * x1) + x2)) →
    fb_in (x2 + 1) ∧
    r26 x1 (x2 + 1) σ15) ∧
  (¬ x2 < 292 →
    Q 1 σ)
def wl_X7_restore_26 (Q : Int → fb_St → Prop) : Nat → Int → Int → fb_St → Prop := fb_Lp (fun _ _ _ => False) (fun r => wb_X7_restore_26 r Q)
def wp_X7_restore (x1 : Int) (σ : fb_St) (Q : Int → fb_St → Prop) : Prop :=
  wp_X7_in x1 0 1 σ (fun a1 σ1 =>
    (a1 = 0 →
      Q (-2) σ1) ∧
    (¬ a1 = 0 →
      0 ≤ x1 ∧ x1 < 2 ∧
      (σ1 51 x1 = 0 →
        Q (-3) σ1) ∧
      (¬ σ1 51 x1 = 0 →
        ∃ n, wl_X7_restore_26 Q n x1 0 σ1)))
end
section
section S_X6_within
variable {p : Program} {l : Launch} {e : Env} {s : State} {m : MethodId} {args : Array Value} {below : List Frame} {meth : Method} {c : Code} {Qm : State → Prop} {G : fb_G} {Q : Int → fb_St → Prop}
abbrev TT_X6_within_15 (p : Program) (l : Launch) (e : Env) (s : State) (m : MethodId) (args : Array Value) (below : List Frame) (meth : Method) (c : Code) (Qm : State → Prop) (G : fb_G) (r : Int → fb_St → Prop) : Prop := ∀ (s0 : Int) (σ : fb_St) (H : Heap) (locs : List Loc) (ls : Array Slot), fb_Wd G s σ H locs → lv_has ls 3 [] → fb_in s0 → r s0 σ → W p l e rm_X6_within s m args below meth c H locs 0 0 Qm (F0 m 15 ls [.int (fb_I s0)])
abbrev TT_X6_within_14 (p : Program) (l : Launch) (e : Env) (s : State) (m : MethodId) (args : Array Value) (below : List Frame) (meth : Method) (c : Code) (Qm : State → Prop) (G : fb_G) (r : fb_St → Prop) : Prop := ∀ (σ : fb_St) (H : Heap) (locs : List Loc) (ls : Array Slot), fb_Wd G s σ H locs → lv_has ls 3 [] → r σ → W p l e rm_X6_within s m args below meth c H locs 0 0 Qm (F0 m 14 ls [])
abbrev TT_X6_within_0 (p : Program) (l : Launch) (e : Env) (s : State) (m : MethodId) (args : Array Value) (below : List Frame) (meth : Method) (c : Code) (Qm : State → Prop) (G : fb_G) (r : Int → Int → Int → fb_St → Prop) : Prop := ∀ (x0 x1 x2 : Int) (σ : fb_St) (H : Heap) (locs : List Loc) (ls : Array Slot), fb_Wd G s σ H locs → lv_has ls 3 [(0, .int (fb_I x0)), (1, .int (fb_I x1)), (2, .int (fb_I x2))] → fb_in x0 → fb_in x1 → fb_in x2 → r x0 x1 x2 σ → W p l e rm_X6_within s m args below meth c H locs 0 0 Qm (F0 m 0 ls [])
set_option maxRecDepth 100000 in
set_option maxHeartbeats 4000000 in
theorem tw_X6_within_15 (C : fb_C p s m args meth c G RX6 cX6_within 3) (hret : fb_RZ p l e rm_X6_within s m args below meth c G cX6_within Qm Q) : TT_X6_within_15 p l e s m args below meth c Qm G (wj_X6_within_15 Q) := by
  intro s0 σ H locs ls w hl is0 h
  unfold wj_X6_within_15 at h
  obtain ⟨z3, h⟩ := h
  exact hret _ _ _ _ _ _ is0 z3 h w dX6_within_15
set_option maxRecDepth 100000 in
set_option maxHeartbeats 4000000 in
theorem tw_X6_within_14 (C : fb_C p s m args meth c G RX6 cX6_within 3) (hret : fb_RZ p l e rm_X6_within s m args below meth c G cX6_within Qm Q) : TT_X6_within_14 p l e s m args below meth c Qm G (wj_X6_within_14 Q) := by
  intro σ H locs ls w hl h
  unfold wj_X6_within_14 at h
  refine fb_iconst C dX6_within_14 ?_
  exact tw_X6_within_15 C hret 0 _ _ _ _ w (lv_sub hl [] rfl) (by decide) h
set_option maxRecDepth 100000 in
set_option maxHeartbeats 4000000 in
theorem tw_X6_within_0 (C : fb_C p s m args meth c G RX6 cX6_within 3) (hret : fb_RZ p l e rm_X6_within s m args below meth c G cX6_within Qm Q) : TT_X6_within_0 p l e s m args below meth c Qm G (fun x0 x1 x2 σ => wp_X6_within x0 x1 x2 σ Q) := by
  intro x0 x1 x2 σ H locs ls w hl ix0 ix1 ix2 h
  unfold wp_X6_within at h
  refine lv_iload_n C.1.1 C.1.2.1 dX6_within_0 rfl (lv_at hl 0 rfl) ?_
  refine lv_iload_n C.1.1 C.1.2.1 dX6_within_1 rfl (lv_at hl 1 rfl) ?_
  refine fb_icmp_lt (tgt := 14) C ix0 ix1 dX6_within_2 (by decide) (fun c1 => ?_) (fun c1 => ?_)
  · have h := h.1 c1
    exact tw_X6_within_14 C hret _ _ _ _ w (lv_sub hl [] rfl) h
  · have h := h.2 c1
    refine lv_iload_n C.1.1 C.1.2.1 dX6_within_5 rfl (lv_at hl 0 rfl) ?_
    refine lv_iload_n C.1.1 C.1.2.1 dX6_within_6 rfl (lv_at hl 2 rfl) ?_
    refine fb_icmp_gt (tgt := 14) C ix0 ix2 dX6_within_7 (by decide) (fun c2 => ?_) (fun c2 => ?_)
    · have h := h.1 c2
      exact tw_X6_within_14 C hret _ _ _ _ w (lv_sub hl [] rfl) h
    · have h := h.2 c2
      refine fb_iconst C dX6_within_10 ?_
      refine lv_goto (tgt := 15) C.1.1 C.1.2.1 dX6_within_11 (by decide) ?_
      exact tw_X6_within_15 C hret 1 _ _ _ _ w (lv_sub hl [] rfl) (by decide) h
theorem ct_X6_within (l : Launch) (G : fb_G) {x0 : Int} {x1 : Int} {x2 : Int} {σ : fb_St} (ix0 : fb_in x0) (ix1 : fb_in x1) (ix2 : fb_in x2) (h : wp_X6_within x0 x1 x2 σ Q) : fb_MI l G yX6_within cX6_within 3 (some .boolean) rm_X6_within [.int (fb_I x0), .int (fb_I x1), .int (fb_I x2)] σ Q := by
  refine fb_ofW (own := RX6) (by decide) (Nat.le_of_ble_eq_true rfl) rfl (fun p e s m args below meth c ls C hr hl w => ?_)
  exact tw_X6_within_0 C (fb_retz C hr) _ _ _ _ _ _ _ w hl ix0 ix1 ix2 h
end S_X6_within
section S_X5_dotAt
variable {p : Program} {l : Launch} {e : Env} {s : State} {m : MethodId} {args : Array Value} {below : List Frame} {meth : Method} {c : Code} {Qm : State → Prop} {G : fb_G} {Q : Int → fb_St → Prop}
abbrev TT_X5_dotAt_40 (p : Program) (l : Launch) (e : Env) (s : State) (m : MethodId) (args : Array Value) (below : List Frame) (meth : Method) (c : Code) (Qm : State → Prop) (G : fb_G) (r : Int → fb_St → Prop) : Prop := ∀ (s0 : Int) (σ : fb_St) (H : Heap) (locs : List Loc) (ls : Array Slot), fb_Wd G s σ H locs → lv_has ls 3 [] → fb_in s0 → r s0 σ → W p l e rm_X5_dotAt s m args below meth c H locs 0 0 Qm (F0 m 40 ls [.int (fb_I s0)])
abbrev TT_X5_dotAt_39 (p : Program) (l : Launch) (e : Env) (s : State) (m : MethodId) (args : Array Value) (below : List Frame) (meth : Method) (c : Code) (Qm : State → Prop) (G : fb_G) (r : fb_St → Prop) : Prop := ∀ (σ : fb_St) (H : Heap) (locs : List Loc) (ls : Array Slot), fb_Wd G s σ H locs → lv_has ls 3 [] → r σ → W p l e rm_X5_dotAt s m args below meth c H locs 0 0 Qm (F0 m 39 ls [])
abbrev TT_X5_dotAt_0 (p : Program) (l : Launch) (e : Env) (s : State) (m : MethodId) (args : Array Value) (below : List Frame) (meth : Method) (c : Code) (Qm : State → Prop) (G : fb_G) (r : Int → Int → fb_St → Prop) : Prop := ∀ (x1 x2 : Int) (σ : fb_St) (H : Heap) (locs : List Loc) (ls : Array Slot), fb_Wd G s σ H locs → lv_has ls 3 [(0, .ref (fb_ad G 1)), (1, .int (fb_I x1)), (2, .int (fb_I x2))] → fb_in x1 → fb_in x2 → r x1 x2 σ → W p l e rm_X5_dotAt s m args below meth c H locs 0 0 Qm (F0 m 0 ls [])
set_option maxRecDepth 100000 in
set_option maxHeartbeats 4000000 in
theorem tw_X5_dotAt_40 (C : fb_C p s m args meth c G RX5 cX5_dotAt 3) (hret : fb_RI p l e rm_X5_dotAt s m args below meth c G cX5_dotAt Qm Q) : TT_X5_dotAt_40 p l e s m args below meth c Qm G (wj_X5_dotAt_40 Q) := by
  intro s0 σ H locs ls w hl is0 h
  unfold wj_X5_dotAt_40 at h
  exact hret _ _ _ _ _ _ is0 h w dX5_dotAt_40
set_option maxRecDepth 100000 in
set_option maxHeartbeats 4000000 in
theorem tw_X5_dotAt_39 (C : fb_C p s m args meth c G RX5 cX5_dotAt 3) (hret : fb_RI p l e rm_X5_dotAt s m args below meth c G cX5_dotAt Qm Q) : TT_X5_dotAt_39 p l e s m args below meth c Qm G (wj_X5_dotAt_39 Q) := by
  intro σ H locs ls w hl h
  unfold wj_X5_dotAt_39 at h
  refine fb_iconst C dX5_dotAt_39 ?_
  exact tw_X5_dotAt_40 C hret (-1) _ _ _ _ w (lv_sub hl [] rfl) (by decide) h
set_option maxRecDepth 100000 in
set_option maxHeartbeats 4000000 in
theorem tw_X5_dotAt_0 (C : fb_C p s m args meth c G RX5 cX5_dotAt 3) (hret : fb_RI p l e rm_X5_dotAt s m args below meth c G cX5_dotAt Qm Q) : TT_X5_dotAt_0 p l e s m args below meth c Qm G (fun x1 x2 σ => wp_X5_dotAt x1 x2 σ Q) := by
  intro x1 x2 σ H locs ls w hl ix1 ix2 h
  unfold wp_X5_dotAt at h
  refine lv_iload_n C.1.1 C.1.2.1 dX5_dotAt_0 rfl (lv_at hl 1 rfl) ?_
  refine fb_iconst C dX5_dotAt_1 ?_
  refine lv_aload_n C.1.1 C.1.2.1 dX5_dotAt_2 rfl (lv_at hl 0 rfl) ?_
  refine fb_gi C w 0 (fb_k1 G) rfl rfl fl_X5_9 dX5_dotAt_3 ?_
  have i1 := w.2.2.2 1 0
  refine fb_iconst C dX5_dotAt_6 ?_
  obtain ⟨i2, h⟩ := h
  refine fb_isub C dX5_dotAt_7 ?_
  refine fb_callNi (As := [.int (fb_I x1), .int (fb_I 0), .int (fb_I ((σ 1 0) - 1))]) (rest := []) C w C.2.1.2.1 (ct_X6_within l G ix1 (by decide) i2 h) mn_X6_within ⟨rfl, rfl, Nat.le_of_ble_eq_true rfl, Nat.le_of_ble_eq_true rfl, Nat.zero_le _, Nat.zero_le _⟩ rfl hl.1 rfl (Nat.le_of_ble_eq_true rfl) dX5_dotAt_8 (fun a3 σ3 H locs h ia3 w => ?_)
  refine fb_if_eq (tgt := 39) C ia3 dX5_dotAt_11 (by decide) (fun c4 => ?_) (fun c4 => ?_)
  · have h := h.1 c4
    exact tw_X5_dotAt_39 C hret _ _ _ _ w (lv_sub hl [] rfl) h
  · have h := h.2 c4
    refine lv_iload_n C.1.1 C.1.2.1 dX5_dotAt_14 rfl (lv_at hl 2 rfl) ?_
    refine fb_iconst C dX5_dotAt_15 ?_
    refine lv_aload_n C.1.1 C.1.2.1 dX5_dotAt_16 rfl (lv_at hl 0 rfl) ?_
    refine fb_gi C w 1 (fb_k1 G) rfl rfl fl_X5_15 dX5_dotAt_17 ?_
    have i5 := w.2.2.2 1 1
    refine fb_iconst C dX5_dotAt_20 ?_
    obtain ⟨i6, h⟩ := h
    refine fb_isub C dX5_dotAt_21 ?_
    refine fb_callNi (As := [.int (fb_I x2), .int (fb_I 0), .int (fb_I ((σ3 1 1) - 1))]) (rest := []) C w C.2.1.2.1 (ct_X6_within l G ix2 (by decide) i6 h) mn_X6_within ⟨rfl, rfl, Nat.le_of_ble_eq_true rfl, Nat.le_of_ble_eq_true rfl, Nat.zero_le _, Nat.zero_le _⟩ rfl hl.1 rfl (Nat.le_of_ble_eq_true rfl) dX5_dotAt_22 (fun a7 σ7 H locs h ia7 w => ?_)
    refine fb_if_eq (tgt := 39) C ia7 dX5_dotAt_25 (by decide) (fun c8 => ?_) (fun c8 => ?_)
    · have h := h.1 c8
      exact tw_X5_dotAt_39 C hret _ _ _ _ w (lv_sub hl [] rfl) h
    · have h := h.2 c8
      refine lv_iload_n C.1.1 C.1.2.1 dX5_dotAt_28 rfl (lv_at hl 2 rfl) ?_
      refine lv_aload_n C.1.1 C.1.2.1 dX5_dotAt_29 rfl (lv_at hl 0 rfl) ?_
      refine fb_gi C w 0 (fb_k1 G) rfl rfl fl_X5_9 dX5_dotAt_30 ?_
      have i9 := w.2.2.2 1 0
      obtain ⟨i10, h⟩ := h
      refine fb_imul C dX5_dotAt_33 ?_
      refine lv_iload_n C.1.1 C.1.2.1 dX5_dotAt_34 rfl (lv_at hl 1 rfl) ?_
      obtain ⟨i11, h⟩ := h
      refine fb_iadd C dX5_dotAt_35 ?_
      refine lv_goto (tgt := 40) C.1.1 C.1.2.1 dX5_dotAt_36 (by decide) ?_
      exact tw_X5_dotAt_40 C hret ((x2 * (σ7 1 0)) + x1) _ _ _ _ w (lv_sub hl [] rfl) i11 h
theorem ct_X5_dotAt (l : Launch) (G : fb_G) {x1 : Int} {x2 : Int} {σ : fb_St} (ix1 : fb_in x1) (ix2 : fb_in x2) (h : wp_X5_dotAt x1 x2 σ Q) : fb_MI l G yX5_dotAt cX5_dotAt 3 (some .int) rm_X5_dotAt [.ref (fb_ad G 1), .int (fb_I x1), .int (fb_I x2)] σ Q := by
  refine fb_ofW (own := RX5) (by decide) (Nat.le_of_ble_eq_true rfl) rfl (fun p e s m args below meth c ls C hr hl w => ?_)
  exact tw_X5_dotAt_0 C (fb_reti C hr) _ _ _ _ _ _ w hl ix1 ix2 h
end S_X5_dotAt
section S_X5_shape
variable {p : Program} {l : Launch} {e : Env} {s : State} {m : MethodId} {args : Array Value} {below : List Frame} {meth : Method} {c : Code} {Qm : State → Prop} {G : fb_G} {Q : Int → fb_St → Prop}
abbrev TT_X5_shape_30 (p : Program) (l : Launch) (e : Env) (s : State) (m : MethodId) (args : Array Value) (below : List Frame) (meth : Method) (c : Code) (Qm : State → Prop) (G : fb_G) (r : Int → Int → fb_St → Prop) : Prop := ∀ (x3 x4 : Int) (σ : fb_St) (H : Heap) (locs : List Loc) (ls : Array Slot), fb_Wd G s σ H locs → lv_has ls 6 [(0, .ref (fb_ad G 1)), (3, .int (fb_I x3)), (4, .int (fb_I x4))] → fb_in x3 → fb_in x4 → r x3 x4 σ → W p l e rm_X5_shape s m args below meth c H locs 0 0 Qm (F0 m 30 ls [])
abbrev TT_X5_shape_19 (p : Program) (l : Launch) (e : Env) (s : State) (m : MethodId) (args : Array Value) (below : List Frame) (meth : Method) (c : Code) (Qm : State → Prop) (G : fb_G) (r : Int → fb_St → Prop) : Prop := ∀ (x3 : Int) (σ : fb_St) (H : Heap) (locs : List Loc) (ls : Array Slot), fb_Wd G s σ H locs → lv_has ls 6 [(0, .ref (fb_ad G 1)), (3, .int (fb_I x3))] → fb_in x3 → r x3 σ → W p l e rm_X5_shape s m args below meth c H locs 0 0 Qm (F0 m 19 ls [])
abbrev TT_X5_shape_0 (p : Program) (l : Launch) (e : Env) (s : State) (m : MethodId) (args : Array Value) (below : List Frame) (meth : Method) (c : Code) (Qm : State → Prop) (G : fb_G) (r : Int → Int → fb_St → Prop) : Prop := ∀ (x1 x2 : Int) (σ : fb_St) (H : Heap) (locs : List Loc) (ls : Array Slot), fb_Wd G s σ H locs → lv_has ls 6 [(0, .ref (fb_ad G 1)), (1, .int (fb_I x1)), (2, .int (fb_I x2))] → fb_in x1 → fb_in x2 → r x1 x2 σ → W p l e rm_X5_shape s m args below meth c H locs 0 0 Qm (F0 m 0 ls [])
set_option maxRecDepth 100000 in
set_option maxHeartbeats 4000000 in
theorem tw_X5_shape_30 (C : fb_C p s m args meth c G RX5 cX5_shape 6) (hret : fb_RV p l e rm_X5_shape s m args below meth c G cX5_shape Qm Q) {r19 : Int → fb_St → Prop} (h19 : TT_X5_shape_19 p l e s m args below meth c Qm G r19) {r30 : Int → Int → fb_St → Prop} (h30 : TT_X5_shape_30 p l e s m args below meth c Qm G r30) : TT_X5_shape_30 p l e s m args below meth c Qm G (wb_X5_shape_30 r19 r30 Q) := by
  intro x3 x4 σ H locs ls w hl ix3 ix4 h
  unfold wb_X5_shape_30 at h
  refine lv_iload C.1.1 C.1.2.1 dX5_shape_30 (lv_at hl 2 rfl) ?_
  refine lv_aload_n C.1.1 C.1.2.1 dX5_shape_32 rfl (lv_at hl 0 rfl) ?_
  refine fb_gi C w 0 (fb_k1 G) rfl rfl fl_X5_9 dX5_shape_33 ?_
  have i7 := w.2.2.2 1 0
  refine fb_icmp_ge (tgt := 128) C ix4 i7 dX5_shape_36 (by decide) (fun c8 => ?_) (fun c8 => ?_)
  · have h := h.2 c8
    obtain ⟨i9, h⟩ := h
    refine fb_iinc (b := x3 + 1) (k := 1) (lv' := [(3, .int (fb_I (x3 + 1))), (0, .ref (fb_ad G 1)), (4, .int (fb_I x4))]) C dX5_shape_128 hl rfl rfl (by decide) rfl (fun ls hl => ?_)
    refine lv_goto (tgt := 19) C.1.1 C.1.2.1 dX5_shape_131 (by decide) ?_
    exact h19 (x3 + 1) _ _ _ _ w (lv_sub hl [1, 0] rfl) i9 h
  · have h := h.1 c8
    refine lv_iload_n C.1.1 C.1.2.1 dX5_shape_39 rfl (lv_at hl 1 rfl) ?_
    refine lv_aload_n C.1.1 C.1.2.1 dX5_shape_40 rfl (lv_at hl 0 rfl) ?_
    refine fb_gi C w 0 (fb_k1 G) rfl rfl fl_X5_9 dX5_shape_41 ?_
    have i10 := w.2.2.2 1 0
    obtain ⟨i11, h⟩ := h
    refine fb_imul C dX5_shape_44 ?_
    refine lv_iload C.1.1 C.1.2.1 dX5_shape_45 (lv_at hl 2 rfl) ?_
    obtain ⟨i12, h⟩ := h
    refine fb_iadd C dX5_shape_47 ?_
    refine fb_iconst C dX5_shape_48 ?_
    obtain ⟨i13, h⟩ := h
    refine fb_imul C dX5_shape_49 ?_
    refine fb_top (fun v14 ev14 => ?_)
    have h := h v14 ev14
    have iv14 := fb_ie ev14 i13
    refine lv_istore (lv' := [(5, .int (fb_I v14)), (0, .ref (fb_ad G 1)), (3, .int (fb_I x3)), (4, .int (fb_I x4))]) C.1.1 C.1.2.1 dX5_shape_50 hl (by decide) rfl (fun ls hl => ?_)
    refine lv_aload_n C.1.1 C.1.2.1 dX5_shape_52 rfl (lv_at hl 1 rfl) ?_
    refine fb_getr (k2 := 4) C w (fb_k1 G) rfl fl_X5_28 dX5_shape_53 ?_
    refine lv_iload C.1.1 C.1.2.1 dX5_shape_56 (lv_at hl 0 rfl) ?_
    refine lv_aload_n C.1.1 C.1.2.1 dX5_shape_58 rfl (lv_at hl 1 rfl) ?_
    refine lv_iload C.1.1 C.1.2.1 dX5_shape_59 (lv_at hl 3 rfl) ?_
    refine fb_iconst C dX5_shape_61 ?_
    obtain ⟨i15, h⟩ := h
    refine fb_iadd C dX5_shape_62 ?_
    refine lv_iload_n C.1.1 C.1.2.1 dX5_shape_63 rfl (lv_at hl 2 rfl) ?_
    refine fb_callVi (As := [.int (fb_I (x4 + 1)), .int (fb_I x3)]) (rest := [.int (fb_I v14), .ref (fb_ad G 4)]) C w (ct_X5_dotAt l G i15 ix3 h) mv_X5_31 (fb_k1 G) rfl ⟨rfl, rfl, Nat.le_of_ble_eq_true rfl, Nat.le_of_ble_eq_true rfl, Nat.zero_le _, Nat.zero_le _⟩ rfl hl.1 rfl (Nat.le_of_ble_eq_true rfl) dX5_shape_64 (fun a16 σ16 H locs h ia16 w => ?_)
    obtain ⟨z17, z18, h⟩ := h
    refine fb_as C w 576 (fb_k4 G) rfl rfl ia16 z17 z18 dX5_shape_67 (fun σ19 H locs eσ19 w => ?_)
    have h := h σ19 eσ19
    refine lv_aload_n C.1.1 C.1.2.1 dX5_shape_68 rfl (lv_at hl 1 rfl) ?_
    refine fb_getr (k2 := 4) C w (fb_k1 G) rfl fl_X5_28 dX5_shape_69 ?_
    refine lv_iload C.1.1 C.1.2.1 dX5_shape_72 (lv_at hl 0 rfl) ?_
    refine fb_iconst C dX5_shape_74 ?_
    obtain ⟨i20, h⟩ := h
    refine fb_iadd C dX5_shape_75 ?_
    refine lv_aload_n C.1.1 C.1.2.1 dX5_shape_76 rfl (lv_at hl 1 rfl) ?_
    refine lv_iload C.1.1 C.1.2.1 dX5_shape_77 (lv_at hl 3 rfl) ?_
    refine lv_iload_n C.1.1 C.1.2.1 dX5_shape_79 rfl (lv_at hl 2 rfl) ?_
    refine fb_iconst C dX5_shape_80 ?_
    obtain ⟨i21, h⟩ := h
    refine fb_iadd C dX5_shape_81 ?_
    refine fb_callVi (As := [.int (fb_I x4), .int (fb_I (x3 + 1))]) (rest := [.int (fb_I (v14 + 1)), .ref (fb_ad G 4)]) C w (ct_X5_dotAt l G ix4 i21 h) mv_X5_31 (fb_k1 G) rfl ⟨rfl, rfl, Nat.le_of_ble_eq_true rfl, Nat.le_of_ble_eq_true rfl, Nat.zero_le _, Nat.zero_le _⟩ rfl hl.1 rfl (Nat.le_of_ble_eq_true rfl) dX5_shape_82 (fun a22 σ22 H locs h ia22 w => ?_)
    obtain ⟨z23, z24, h⟩ := h
    refine fb_as C w 576 (fb_k4 G) rfl rfl ia22 z23 z24 dX5_shape_85 (fun σ25 H locs eσ25 w => ?_)
    have h := h σ25 eσ25
    refine lv_aload_n C.1.1 C.1.2.1 dX5_shape_86 rfl (lv_at hl 1 rfl) ?_
    refine fb_getr (k2 := 4) C w (fb_k1 G) rfl fl_X5_28 dX5_shape_87 ?_
    refine lv_iload C.1.1 C.1.2.1 dX5_shape_90 (lv_at hl 0 rfl) ?_
    refine fb_iconst C dX5_shape_92 ?_
    obtain ⟨i26, h⟩ := h
    refine fb_iadd C dX5_shape_93 ?_
    refine lv_aload_n C.1.1 C.1.2.1 dX5_shape_94 rfl (lv_at hl 1 rfl) ?_
    refine lv_iload C.1.1 C.1.2.1 dX5_shape_95 (lv_at hl 3 rfl) ?_
    refine fb_iconst C dX5_shape_97 ?_
    obtain ⟨i27, h⟩ := h
    refine fb_isub C dX5_shape_98 ?_
    refine lv_iload_n C.1.1 C.1.2.1 dX5_shape_99 rfl (lv_at hl 2 rfl) ?_
    refine fb_callVi (As := [.int (fb_I (x4 - 1)), .int (fb_I x3)]) (rest := [.int (fb_I (v14 + 2)), .ref (fb_ad G 4)]) C w (ct_X5_dotAt l G i27 ix3 h) mv_X5_31 (fb_k1 G) rfl ⟨rfl, rfl, Nat.le_of_ble_eq_true rfl, Nat.le_of_ble_eq_true rfl, Nat.zero_le _, Nat.zero_le _⟩ rfl hl.1 rfl (Nat.le_of_ble_eq_true rfl) dX5_shape_100 (fun a28 σ28 H locs h ia28 w => ?_)
    obtain ⟨z29, z30, h⟩ := h
    refine fb_as C w 576 (fb_k4 G) rfl rfl ia28 z29 z30 dX5_shape_103 (fun σ31 H locs eσ31 w => ?_)
    have h := h σ31 eσ31
    refine lv_aload_n C.1.1 C.1.2.1 dX5_shape_104 rfl (lv_at hl 1 rfl) ?_
    refine fb_getr (k2 := 4) C w (fb_k1 G) rfl fl_X5_28 dX5_shape_105 ?_
    refine lv_iload C.1.1 C.1.2.1 dX5_shape_108 (lv_at hl 0 rfl) ?_
    refine fb_iconst C dX5_shape_110 ?_
    obtain ⟨i32, h⟩ := h
    refine fb_iadd C dX5_shape_111 ?_
    refine lv_aload_n C.1.1 C.1.2.1 dX5_shape_112 rfl (lv_at hl 1 rfl) ?_
    refine lv_iload C.1.1 C.1.2.1 dX5_shape_113 (lv_at hl 3 rfl) ?_
    refine lv_iload_n C.1.1 C.1.2.1 dX5_shape_115 rfl (lv_at hl 2 rfl) ?_
    refine fb_iconst C dX5_shape_116 ?_
    obtain ⟨i33, h⟩ := h
    refine fb_isub C dX5_shape_117 ?_
    refine fb_callVi (As := [.int (fb_I x4), .int (fb_I (x3 - 1))]) (rest := [.int (fb_I (v14 + 3)), .ref (fb_ad G 4)]) C w (ct_X5_dotAt l G ix4 i33 h) mv_X5_31 (fb_k1 G) rfl ⟨rfl, rfl, Nat.le_of_ble_eq_true rfl, Nat.le_of_ble_eq_true rfl, Nat.zero_le _, Nat.zero_le _⟩ rfl hl.1 rfl (Nat.le_of_ble_eq_true rfl) dX5_shape_118 (fun a34 σ34 H locs h ia34 w => ?_)
    obtain ⟨z35, z36, h⟩ := h
    refine fb_as C w 576 (fb_k4 G) rfl rfl ia34 z35 z36 dX5_shape_121 (fun σ37 H locs eσ37 w => ?_)
    have h := h σ37 eσ37
    obtain ⟨i38, h⟩ := h
    refine fb_iinc (b := x4 + 1) (k := 3) (lv' := [(4, .int (fb_I (x4 + 1))), (5, .int (fb_I v14)), (0, .ref (fb_ad G 1)), (3, .int (fb_I x3))]) C dX5_shape_122 hl rfl rfl (by decide) rfl (fun ls hl => ?_)
    refine lv_goto (tgt := 30) C.1.1 C.1.2.1 dX5_shape_125 (by decide) ?_
    exact h30 x3 (x4 + 1) _ _ _ _ w (lv_sub hl [2, 3, 0] rfl) ix3 i38 h
theorem tl_X5_shape_30 (C : fb_C p s m args meth c G RX5 cX5_shape 6) (hret : fb_RV p l e rm_X5_shape s m args below meth c G cX5_shape Qm Q) {r19 : Int → fb_St → Prop} (h19 : TT_X5_shape_19 p l e s m args below meth c Qm G r19) : ∀ n : Nat, TT_X5_shape_30 p l e s m args below meth c Qm G (wl_X5_shape_30 r19 Q n) := by
  intro n
  induction n with
  | zero => intro x3 x4 σ H locs ls w hl ix3 ix4 h; exact h.elim
  | succ n ih => exact tw_X5_shape_30 C hret h19 ih
set_option maxRecDepth 100000 in
set_option maxHeartbeats 4000000 in
theorem tw_X5_shape_19 (C : fb_C p s m args meth c G RX5 cX5_shape 6) (hret : fb_RV p l e rm_X5_shape s m args below meth c G cX5_shape Qm Q) {r19 : Int → fb_St → Prop} (h19 : TT_X5_shape_19 p l e s m args below meth c Qm G r19) : TT_X5_shape_19 p l e s m args below meth c Qm G (wb_X5_shape_19 r19 Q) := by
  intro x3 σ H locs ls w hl ix3 h
  unfold wb_X5_shape_19 at h
  refine lv_iload_n C.1.1 C.1.2.1 dX5_shape_19 rfl (lv_at hl 1 rfl) ?_
  refine lv_aload_n C.1.1 C.1.2.1 dX5_shape_20 rfl (lv_at hl 0 rfl) ?_
  refine fb_gi C w 1 (fb_k1 G) rfl rfl fl_X5_15 dX5_shape_21 ?_
  have i5 := w.2.2.2 1 1
  refine fb_icmp_ge (tgt := 134) C ix3 i5 dX5_shape_24 (by decide) (fun c6 => ?_) (fun c6 => ?_)
  · have h := h.2 c6
    exact hret _ _ _ _ _ h w dX5_shape_134
  · have h := h.1 c6
    refine fb_iconst C dX5_shape_27 ?_
    refine lv_istore (lv' := [(4, .int (fb_I 0)), (0, .ref (fb_ad G 1)), (3, .int (fb_I x3))]) C.1.1 C.1.2.1 dX5_shape_28 hl (by decide) rfl (fun ls hl => ?_)
    obtain ⟨n, h⟩ := h
    exact tl_X5_shape_30 C hret h19 n x3 0 _ _ _ _ w (lv_sub hl [1, 2, 0] rfl) ix3 (by decide) h
theorem tl_X5_shape_19 (C : fb_C p s m args meth c G RX5 cX5_shape 6) (hret : fb_RV p l e rm_X5_shape s m args below meth c G cX5_shape Qm Q) : ∀ n : Nat, TT_X5_shape_19 p l e s m args below meth c Qm G (wl_X5_shape_19 Q n) := by
  intro n
  induction n with
  | zero => intro x3 σ H locs ls w hl ix3 h; exact h.elim
  | succ n ih => exact tw_X5_shape_19 C hret ih
set_option maxRecDepth 100000 in
set_option maxHeartbeats 4000000 in
theorem tw_X5_shape_0 (C : fb_C p s m args meth c G RX5 cX5_shape 6) (hret : fb_RV p l e rm_X5_shape s m args below meth c G cX5_shape Qm Q) : TT_X5_shape_0 p l e s m args below meth c Qm G (fun x1 x2 σ => wp_X5_shape x1 x2 σ Q) := by
  intro x1 x2 σ H locs ls w hl ix1 ix2 h
  unfold wp_X5_shape at h
  refine lv_aload_n C.1.1 C.1.2.1 dX5_shape_0 rfl (lv_at hl 0 rfl) ?_
  refine lv_iload_n C.1.1 C.1.2.1 dX5_shape_1 rfl (lv_at hl 1 rfl) ?_
  refine fb_pi C w 0 (fb_k1 G) rfl rfl fl_X5_9 tyX5_ok nmX5 rfl ix1 rfl rfl dX5_shape_2 (fun σ1 H locs eσ1 w => ?_)
  have h := h σ1 eσ1
  refine lv_aload_n C.1.1 C.1.2.1 dX5_shape_5 rfl (lv_at hl 0 rfl) ?_
  refine lv_iload_n C.1.1 C.1.2.1 dX5_shape_6 rfl (lv_at hl 2 rfl) ?_
  refine fb_pi C w 1 (fb_k1 G) rfl rfl fl_X5_15 tyX5_ok nmX5 rfl ix2 rfl rfl dX5_shape_7 (fun σ2 H locs eσ2 w => ?_)
  have h := h σ2 eσ2
  refine lv_aload_n C.1.1 C.1.2.1 dX5_shape_10 rfl (lv_at hl 0 rfl) ?_
  refine lv_iload_n C.1.1 C.1.2.1 dX5_shape_11 rfl (lv_at hl 1 rfl) ?_
  refine lv_iload_n C.1.1 C.1.2.1 dX5_shape_12 rfl (lv_at hl 2 rfl) ?_
  obtain ⟨i3, h⟩ := h
  refine fb_imul C dX5_shape_13 ?_
  refine fb_pi C w 2 (fb_k1 G) rfl rfl fl_X5_18 tyX5_ok nmX5 rfl i3 rfl rfl dX5_shape_14 (fun σ4 H locs eσ4 w => ?_)
  have h := h σ4 eσ4
  refine fb_iconst C dX5_shape_17 ?_
  refine lv_istore_n (lv' := [(3, .int (fb_I 0)), (0, .ref (fb_ad G 1)), (1, .int (fb_I x1)), (2, .int (fb_I x2))]) C.1.1 C.1.2.1 dX5_shape_18 rfl hl (by decide) rfl (fun ls hl => ?_)
  obtain ⟨n, h⟩ := h
  exact tl_X5_shape_19 C hret n 0 _ _ _ _ w (lv_sub hl [1, 0] rfl) (by decide) h
theorem ct_X5_shape (l : Launch) (G : fb_G) {x1 : Int} {x2 : Int} {σ : fb_St} (ix1 : fb_in x1) (ix2 : fb_in x2) (h : wp_X5_shape x1 x2 σ Q) : fb_MV l G yX5_shape cX5_shape 6 rm_X5_shape [.ref (fb_ad G 1), .int (fb_I x1), .int (fb_I x2)] σ Q := by
  refine fb_ofW (own := RX5) (by decide) (Nat.le_of_ble_eq_true rfl) rfl (fun p e s m args below meth c ls C hr hl w => ?_)
  exact tw_X5_shape_0 C (fb_retv C hr) _ _ _ _ _ _ w hl ix1 ix2 h
end S_X5_shape
section S_X5_clear
variable {p : Program} {l : Launch} {e : Env} {s : State} {m : MethodId} {args : Array Value} {below : List Frame} {meth : Method} {c : Code} {Qm : State → Prop} {G : fb_G} {Q : Int → fb_St → Prop}
abbrev TT_X5_clear_0 (p : Program) (l : Launch) (e : Env) (s : State) (m : MethodId) (args : Array Value) (below : List Frame) (meth : Method) (c : Code) (Qm : State → Prop) (G : fb_G) (r : fb_St → Prop) : Prop := ∀ (σ : fb_St) (H : Heap) (locs : List Loc) (ls : Array Slot), fb_Wd G s σ H locs → lv_has ls 1 [(0, .ref (fb_ad G 1))] → r σ → W p l e rm_X5_clear s m args below meth c H locs 0 0 Qm (F0 m 0 ls [])
set_option maxRecDepth 100000 in
set_option maxHeartbeats 4000000 in
theorem tw_X5_clear_0 (C : fb_C p s m args meth c G RX5 cX5_clear 1) (hret : fb_RV p l e rm_X5_clear s m args below meth c G cX5_clear Qm Q) : TT_X5_clear_0 p l e s m args below meth c Qm G (fun σ => wp_X5_clear σ Q) := by
  intro σ H locs ls w hl h
  unfold wp_X5_clear at h
  refine lv_aload_n C.1.1 C.1.2.1 dX5_clear_0 rfl (lv_at hl 0 rfl) ?_
  refine fb_getr (k2 := 2) C w (fb_k1 G) rfl fl_X5_21 dX5_clear_1 ?_
  refine fb_iconst C dX5_clear_4 ?_
  refine fb_callSv (rest := []) C w (fb_fillM l G (Qp := fun _ q => q = fb_fill σ 2 0) (fb_k2 G) (Nat.le_of_ble_eq_true rfl) (by decide) rfl) ms_X5_35 ⟨rfl, rfl, Nat.le_of_ble_eq_true rfl, Nat.le_of_ble_eq_true rfl, Nat.zero_le _, Nat.zero_le _⟩ rfl hl.1 rfl (Nat.le_of_ble_eq_true rfl) dX5_clear_5 (fun σ1 H locs eσ1 w => ?_)
  have h := h σ1 eσ1
  refine lv_aload_n C.1.1 C.1.2.1 dX5_clear_8 rfl (lv_at hl 0 rfl) ?_
  refine fb_getr (k2 := 3) C w (fb_k1 G) rfl fl_X5_25 dX5_clear_9 ?_
  refine fb_iconst C dX5_clear_12 ?_
  refine fb_callSv (rest := []) C w (fb_fillM l G (Qp := fun _ q => q = fb_fill σ1 3 0) (fb_k3 G) (Nat.le_of_ble_eq_true rfl) (by decide) rfl) ms_X5_35 ⟨rfl, rfl, Nat.le_of_ble_eq_true rfl, Nat.le_of_ble_eq_true rfl, Nat.zero_le _, Nat.zero_le _⟩ rfl hl.1 rfl (Nat.le_of_ble_eq_true rfl) dX5_clear_13 (fun σ2 H locs eσ2 w => ?_)
  have h := h σ2 eσ2
  exact hret _ _ _ _ _ h w dX5_clear_16
theorem ct_X5_clear (l : Launch) (G : fb_G) {σ : fb_St} (h : wp_X5_clear σ Q) : fb_MV l G yX5_clear cX5_clear 1 rm_X5_clear [.ref (fb_ad G 1)] σ Q := by
  refine fb_ofW (own := RX5) (by decide) (Nat.le_of_ble_eq_true rfl) rfl (fun p e s m args below meth c ls C hr hl w => ?_)
  exact tw_X5_clear_0 C (fb_retv C hr) _ _ _ _ w hl h
end S_X5_clear
section S_X6_nothingStands
variable {p : Program} {l : Launch} {e : Env} {s : State} {m : MethodId} {args : Array Value} {below : List Frame} {meth : Method} {c : Code} {Qm : State → Prop} {G : fb_G} {Q : Int → fb_St → Prop}
abbrev TT_X6_nothingStands_0 (p : Program) (l : Launch) (e : Env) (s : State) (m : MethodId) (args : Array Value) (below : List Frame) (meth : Method) (c : Code) (Qm : State → Prop) (G : fb_G) (r : fb_St → Prop) : Prop := ∀ (σ : fb_St) (H : Heap) (locs : List Loc) (ls : Array Slot), fb_Wd G s σ H locs → lv_has ls 1 [(0, .ref (fb_ad G 0))] → r σ → W p l e rm_X6_nothingStands s m args below meth c H locs 0 0 Qm (F0 m 0 ls [])
set_option maxRecDepth 100000 in
set_option maxHeartbeats 4000000 in
theorem tw_X6_nothingStands_0 (C : fb_C p s m args meth c G RX6 cX6_nothingStands 1) (hret : fb_RV p l e rm_X6_nothingStands s m args below meth c G cX6_nothingStands Qm Q) : TT_X6_nothingStands_0 p l e s m args below meth c Qm G (fun σ => wp_X6_nothingStands σ Q) := by
  intro σ H locs ls w hl h
  unfold wp_X6_nothingStands at h
  refine lv_aload_n C.1.1 C.1.2.1 dX6_nothingStands_0 rfl (lv_at hl 0 rfl) ?_
  refine fb_iconst C dX6_nothingStands_1 ?_
  refine fb_pi C w 8 (fb_k0 G) rfl rfl fl_X6_54 tyX6_ok nmX6 rfl (by decide) (fb_nzb (by decide)) (fb_fzb (by decide)) dX6_nothingStands_2 (fun σ1 H locs eσ1 w => ?_)
  have h := h σ1 eσ1
  refine lv_aload_n C.1.1 C.1.2.1 dX6_nothingStands_5 rfl (lv_at hl 0 rfl) ?_
  refine fb_iconst C dX6_nothingStands_6 ?_
  refine fb_pi C w 9 (fb_k0 G) rfl rfl fl_X6_58 tyX6_ok nmX6 rfl (by decide) (fb_nzb (by decide)) (fb_fzb (by decide)) dX6_nothingStands_7 (fun σ2 H locs eσ2 w => ?_)
  have h := h σ2 eσ2
  refine lv_aload_n C.1.1 C.1.2.1 dX6_nothingStands_10 rfl (lv_at hl 0 rfl) ?_
  refine fb_iconst C dX6_nothingStands_11 ?_
  refine fb_pi C w 10 (fb_k0 G) rfl rfl fl_X6_61 tyX6_ok nmX6 rfl (by decide) (fb_nzb (by decide)) (fb_fzb (by decide)) dX6_nothingStands_12 (fun σ3 H locs eσ3 w => ?_)
  have h := h σ3 eσ3
  exact hret _ _ _ _ _ h w dX6_nothingStands_15
theorem ct_X6_nothingStands (l : Launch) (G : fb_G) {σ : fb_St} (h : wp_X6_nothingStands σ Q) : fb_MV l G yX6_nothingStands cX6_nothingStands 1 rm_X6_nothingStands [.ref (fb_ad G 0)] σ Q := by
  refine fb_ofW (own := RX6) (by decide) (Nat.le_of_ble_eq_true rfl) rfl (fun p e s m args below meth c ls C hr hl w => ?_)
  exact tw_X6_nothingStands_0 C (fb_retv C hr) _ _ _ _ w hl h
end S_X6_nothingStands
section S_X4_forget
variable {p : Program} {l : Launch} {e : Env} {s : State} {m : MethodId} {args : Array Value} {below : List Frame} {meth : Method} {c : Code} {Qm : State → Prop} {G : fb_G} {Q : Int → fb_St → Prop}
abbrev TT_X4_forget_0 (p : Program) (l : Launch) (e : Env) (s : State) (m : MethodId) (args : Array Value) (below : List Frame) (meth : Method) (c : Code) (Qm : State → Prop) (G : fb_G) (r : fb_St → Prop) : Prop := ∀ (σ : fb_St) (H : Heap) (locs : List Loc) (ls : Array Slot), fb_Wd G s σ H locs → lv_has ls 1 [(0, .ref (fb_ad G 5))] → r σ → W p l e rm_X4_forget s m args below meth c H locs 0 0 Qm (F0 m 0 ls [])
set_option maxRecDepth 100000 in
set_option maxHeartbeats 4000000 in
theorem tw_X4_forget_0 (C : fb_C p s m args meth c G RX4 cX4_forget 1) (hret : fb_RV p l e rm_X4_forget s m args below meth c G cX4_forget Qm Q) : TT_X4_forget_0 p l e s m args below meth c Qm G (fun σ => wp_X4_forget σ Q) := by
  intro σ H locs ls w hl h
  unfold wp_X4_forget at h
  refine lv_aload_n C.1.1 C.1.2.1 dX4_forget_0 rfl (lv_at hl 0 rfl) ?_
  refine fb_getr (k2 := 7) C w (fb_k5 G) rfl fl_X4_19 dX4_forget_1 ?_
  refine fb_iconst C dX4_forget_4 ?_
  refine fb_callSv (rest := []) C w (fb_fillM l G (Qp := fun _ q => q = fb_fill σ 7 0) (fb_k7 G) (Nat.le_of_ble_eq_true rfl) (by decide) rfl) ms_X4_22 ⟨rfl, rfl, Nat.le_of_ble_eq_true rfl, Nat.le_of_ble_eq_true rfl, Nat.zero_le _, Nat.zero_le _⟩ rfl hl.1 rfl (Nat.le_of_ble_eq_true rfl) dX4_forget_5 (fun σ1 H locs eσ1 w => ?_)
  have h := h σ1 eσ1
  exact hret _ _ _ _ _ h w dX4_forget_8
theorem ct_X4_forget (l : Launch) (G : fb_G) {σ : fb_St} (h : wp_X4_forget σ Q) : fb_MV l G yX4_forget cX4_forget 1 rm_X4_forget [.ref (fb_ad G 5)] σ Q := by
  refine fb_ofW (own := RX4) (by decide) (Nat.le_of_ble_eq_true rfl) rfl (fun p e s m args below meth c ls C hr hl w => ?_)
  exact tw_X4_forget_0 C (fb_retv C hr) _ _ _ _ w hl h
end S_X4_forget
section S_X4_cameTo
variable {p : Program} {l : Launch} {e : Env} {s : State} {m : MethodId} {args : Array Value} {below : List Frame} {meth : Method} {c : Code} {Qm : State → Prop} {G : fb_G} {Q : Int → fb_St → Prop}
abbrev TT_X4_cameTo_14 (p : Program) (l : Launch) (e : Env) (s : State) (m : MethodId) (args : Array Value) (below : List Frame) (meth : Method) (c : Code) (Qm : State → Prop) (G : fb_G) (r : Int → fb_St → Prop) : Prop := ∀ (s0 : Int) (σ : fb_St) (H : Heap) (locs : List Loc) (ls : Array Slot), fb_Wd G s σ H locs → lv_has ls 2 [] → fb_in s0 → r s0 σ → W p l e rm_X4_cameTo s m args below meth c H locs 0 0 Qm (F0 m 14 ls [.int (fb_I s0)])
abbrev TT_X4_cameTo_0 (p : Program) (l : Launch) (e : Env) (s : State) (m : MethodId) (args : Array Value) (below : List Frame) (meth : Method) (c : Code) (Qm : State → Prop) (G : fb_G) (r : Int → fb_St → Prop) : Prop := ∀ (x1 : Int) (σ : fb_St) (H : Heap) (locs : List Loc) (ls : Array Slot), fb_Wd G s σ H locs → lv_has ls 2 [(0, .ref (fb_ad G 5)), (1, .int (fb_I x1))] → fb_in x1 → r x1 σ → W p l e rm_X4_cameTo s m args below meth c H locs 0 0 Qm (F0 m 0 ls [])
set_option maxRecDepth 100000 in
set_option maxHeartbeats 4000000 in
theorem tw_X4_cameTo_14 (C : fb_C p s m args meth c G RX4 cX4_cameTo 2) (hret : fb_RZ p l e rm_X4_cameTo s m args below meth c G cX4_cameTo Qm Q) : TT_X4_cameTo_14 p l e s m args below meth c Qm G (wj_X4_cameTo_14 Q) := by
  intro s0 σ H locs ls w hl is0 h
  unfold wj_X4_cameTo_14 at h
  obtain ⟨z5, h⟩ := h
  exact hret _ _ _ _ _ _ is0 z5 h w dX4_cameTo_14
set_option maxRecDepth 100000 in
set_option maxHeartbeats 4000000 in
theorem tw_X4_cameTo_0 (C : fb_C p s m args meth c G RX4 cX4_cameTo 2) (hret : fb_RZ p l e rm_X4_cameTo s m args below meth c G cX4_cameTo Qm Q) : TT_X4_cameTo_0 p l e s m args below meth c Qm G (fun x1 σ => wp_X4_cameTo x1 σ Q) := by
  intro x1 σ H locs ls w hl ix1 h
  unfold wp_X4_cameTo at h
  refine lv_aload_n C.1.1 C.1.2.1 dX4_cameTo_0 rfl (lv_at hl 0 rfl) ?_
  refine fb_getr (k2 := 7) C w (fb_k5 G) rfl fl_X4_19 dX4_cameTo_1 ?_
  refine lv_iload_n C.1.1 C.1.2.1 dX4_cameTo_4 rfl (lv_at hl 1 rfl) ?_
  obtain ⟨z1, z2, h⟩ := h
  refine fb_al C w 144 (fb_k7 G) rfl rfl z1 z2 dX4_cameTo_5 ?_
  have i3 := w.2.2.2 7 x1
  refine fb_if_eq (tgt := 13) C i3 dX4_cameTo_6 (by decide) (fun c4 => ?_) (fun c4 => ?_)
  · have h := h.1 c4
    refine fb_iconst C dX4_cameTo_13 ?_
    exact tw_X4_cameTo_14 C hret 0 _ _ _ _ w (lv_sub hl [] rfl) (by decide) h
  · have h := h.2 c4
    refine fb_iconst C dX4_cameTo_9 ?_
    refine lv_goto (tgt := 14) C.1.1 C.1.2.1 dX4_cameTo_10 (by decide) ?_
    exact tw_X4_cameTo_14 C hret 1 _ _ _ _ w (lv_sub hl [] rfl) (by decide) h
theorem ct_X4_cameTo (l : Launch) (G : fb_G) {x1 : Int} {σ : fb_St} (ix1 : fb_in x1) (h : wp_X4_cameTo x1 σ Q) : fb_MI l G yX4_cameTo cX4_cameTo 2 (some .boolean) rm_X4_cameTo [.ref (fb_ad G 5), .int (fb_I x1)] σ Q := by
  refine fb_ofW (own := RX4) (by decide) (Nat.le_of_ble_eq_true rfl) rfl (fun p e s m args below meth c ls C hr hl w => ?_)
  exact tw_X4_cameTo_0 C (fb_retz C hr) _ _ _ _ _ w hl ix1 h
end S_X4_cameTo
section S_X4_reach
variable {p : Program} {l : Launch} {e : Env} {s : State} {m : MethodId} {args : Array Value} {below : List Frame} {meth : Method} {c : Code} {Qm : State → Prop} {G : fb_G} {Q : Int → fb_St → Prop}
abbrev TT_X4_reach_24 (p : Program) (l : Launch) (e : Env) (s : State) (m : MethodId) (args : Array Value) (below : List Frame) (meth : Method) (c : Code) (Qm : State → Prop) (G : fb_G) (r : fb_St → Prop) : Prop := ∀ (σ : fb_St) (H : Heap) (locs : List Loc) (ls : Array Slot), fb_Wd G s σ H locs → lv_has ls 5 [] → r σ → W p l e rm_X4_reach s m args below meth c H locs 0 0 Qm (F0 m 24 ls [])
abbrev TT_X4_reach_67 (p : Program) (l : Launch) (e : Env) (s : State) (m : MethodId) (args : Array Value) (below : List Frame) (meth : Method) (c : Code) (Qm : State → Prop) (G : fb_G) (r : fb_St → Prop) : Prop := ∀ (σ : fb_St) (H : Heap) (locs : List Loc) (ls : Array Slot), fb_Wd G s σ H locs → lv_has ls 5 [] → r σ → W p l e rm_X4_reach s m args below meth c H locs 0 0 Qm (F0 m 67 ls [])
abbrev TT_X4_reach_0 (p : Program) (l : Launch) (e : Env) (s : State) (m : MethodId) (args : Array Value) (below : List Frame) (meth : Method) (c : Code) (Qm : State → Prop) (G : fb_G) (r : Int → Int → Int → fb_St → Prop) : Prop := ∀ (x2 x3 x4 : Int) (σ : fb_St) (H : Heap) (locs : List Loc) (ls : Array Slot), fb_Wd G s σ H locs → lv_has ls 5 [(0, .ref (fb_ad G 5)), (1, .ref (fb_ad G 1)), (2, .int (fb_I x2)), (3, .int (fb_I x3)), (4, .int (fb_I x4))] → fb_in x2 → fb_in x3 → fb_in x4 → r x2 x3 x4 σ → W p l e rm_X4_reach s m args below meth c H locs 0 0 Qm (F0 m 0 ls [])
set_option maxRecDepth 100000 in
set_option maxHeartbeats 4000000 in
theorem tw_X4_reach_24 (C : fb_C p s m args meth c G RX4 cX4_reach 5) (hret : fb_RV p l e rm_X4_reach s m args below meth c G cX4_reach Qm Q) : TT_X4_reach_24 p l e s m args below meth c Qm G (wj_X4_reach_24 Q) := by
  intro σ H locs ls w hl h
  unfold wj_X4_reach_24 at h
  exact hret _ _ _ _ _ h w dX4_reach_24
set_option maxRecDepth 100000 in
set_option maxHeartbeats 4000000 in
theorem tw_X4_reach_67 (C : fb_C p s m args meth c G RX4 cX4_reach 5) (hret : fb_RV p l e rm_X4_reach s m args below meth c G cX4_reach Qm Q) : TT_X4_reach_67 p l e s m args below meth c Qm G (wj_X4_reach_67 Q) := by
  intro σ H locs ls w hl h
  unfold wj_X4_reach_67 at h
  exact hret _ _ _ _ _ h w dX4_reach_67
set_option maxRecDepth 100000 in
set_option maxHeartbeats 4000000 in
theorem tw_X4_reach_0 (C : fb_C p s m args meth c G RX4 cX4_reach 5) (hret : fb_RV p l e rm_X4_reach s m args below meth c G cX4_reach Qm Q) : TT_X4_reach_0 p l e s m args below meth c Qm G (fun x2 x3 x4 σ => wp_X4_reach x2 x3 x4 σ Q) := by
  intro x2 x3 x4 σ H locs ls w hl ix2 ix3 ix4 h
  unfold wp_X4_reach at h
  refine lv_iload_n C.1.1 C.1.2.1 dX4_reach_0 rfl (lv_at hl 2 rfl) ?_
  refine fb_iconst C dX4_reach_1 ?_
  refine fb_icmp_eq (tgt := 24) C ix2 (by decide) dX4_reach_2 (by decide) (fun c1 => ?_) (fun c1 => ?_)
  · have h := h.1 c1
    exact tw_X4_reach_24 C hret _ _ _ _ w (lv_sub hl [] rfl) h
  · have h := h.2 c1
    refine lv_aload_n C.1.1 C.1.2.1 dX4_reach_5 rfl (lv_at hl 0 rfl) ?_
    refine fb_getr (k2 := 7) C w (fb_k5 G) rfl fl_X4_19 dX4_reach_6 ?_
    refine lv_iload_n C.1.1 C.1.2.1 dX4_reach_9 rfl (lv_at hl 2 rfl) ?_
    obtain ⟨z2, z3, h⟩ := h
    refine fb_al C w 144 (fb_k7 G) rfl rfl z2 z3 dX4_reach_10 ?_
    have i4 := w.2.2.2 7 x2
    refine fb_if_ne (tgt := 24) C i4 dX4_reach_11 (by decide) (fun c5 => ?_) (fun c5 => ?_)
    · have h := h.2 c5
      exact tw_X4_reach_24 C hret _ _ _ _ w (lv_sub hl [] rfl) h
    · have h := h.1 c5
      refine lv_aload_n C.1.1 C.1.2.1 dX4_reach_14 rfl (lv_at hl 0 rfl) ?_
      refine fb_gi C w 0 (fb_k5 G) rfl rfl fl_X4_9 dX4_reach_15 ?_
      have i6 := w.2.2.2 5 0
      refine fb_sipush C dX4_reach_18 (by decide) ?_
      refine fb_icmp_lt (tgt := 25) C i6 (by decide) dX4_reach_21 (by decide) (fun c7 => ?_) (fun c7 => ?_)
      · have h := h.1 c7
        refine lv_aload_n C.1.1 C.1.2.1 dX4_reach_25 rfl (lv_at hl 1 rfl) ?_
        refine fb_getr (k2 := 2) C w (fb_k1 G) rfl fl_X4_38 dX4_reach_26 ?_
        refine lv_iload_n C.1.1 C.1.2.1 dX4_reach_29 rfl (lv_at hl 2 rfl) ?_
        obtain ⟨z8, z9, h⟩ := h
        refine fb_al C w 144 (fb_k2 G) rfl rfl z8 z9 dX4_reach_30 ?_
        have i10 := w.2.2.2 2 x2
        refine lv_iload_n C.1.1 C.1.2.1 dX4_reach_31 rfl (lv_at hl 3 rfl) ?_
        refine lv_iload C.1.1 C.1.2.1 dX4_reach_32 (lv_at hl 4 rfl) ?_
        refine fb_callNi (As := [.int (fb_I (σ 2 x2)), .int (fb_I x3), .int (fb_I x4)]) (rest := []) C w C.2.1.2.2.1 (ct_X6_within l G i10 ix3 ix4 h) mn_X6_within ⟨rfl, rfl, Nat.le_of_ble_eq_true rfl, Nat.le_of_ble_eq_true rfl, Nat.zero_le _, Nat.zero_le _⟩ rfl hl.1 rfl (Nat.le_of_ble_eq_true rfl) dX4_reach_34 (fun a11 σ11 H locs h ia11 w => ?_)
        refine fb_if_eq (tgt := 67) C ia11 dX4_reach_37 (by decide) (fun c12 => ?_) (fun c12 => ?_)
        · have h := h.1 c12
          exact tw_X4_reach_67 C hret _ _ _ _ w (lv_sub hl [] rfl) h
        · have h := h.2 c12
          refine lv_aload_n C.1.1 C.1.2.1 dX4_reach_40 rfl (lv_at hl 0 rfl) ?_
          refine fb_getr (k2 := 7) C w (fb_k5 G) rfl fl_X4_19 dX4_reach_41 ?_
          refine lv_iload_n C.1.1 C.1.2.1 dX4_reach_44 rfl (lv_at hl 2 rfl) ?_
          refine fb_iconst C dX4_reach_45 ?_
          obtain ⟨z13, z14, h⟩ := h
          refine fb_as C w 144 (fb_k7 G) rfl rfl (by decide) z13 z14 dX4_reach_46 (fun σ15 H locs eσ15 w => ?_)
          have h := h σ15 eσ15
          refine lv_aload_n C.1.1 C.1.2.1 dX4_reach_47 rfl (lv_at hl 0 rfl) ?_
          refine fb_getr (k2 := 6) C w (fb_k5 G) rfl fl_X4_15 dX4_reach_48 ?_
          refine lv_aload_n C.1.1 C.1.2.1 dX4_reach_51 rfl (lv_at hl 0 rfl) ?_
          refine fb_gi C w 0 (fb_k5 G) rfl rfl fl_X4_9 dX4_reach_52 ?_
          have i16 := w.2.2.2 5 0
          refine lv_iload_n C.1.1 C.1.2.1 dX4_reach_55 rfl (lv_at hl 2 rfl) ?_
          obtain ⟨z17, z18, h⟩ := h
          refine fb_as C w 144 (fb_k6 G) rfl rfl ix2 z17 z18 dX4_reach_56 (fun σ19 H locs eσ19 w => ?_)
          have h := h σ19 eσ19
          refine lv_aload_n C.1.1 C.1.2.1 dX4_reach_57 rfl (lv_at hl 0 rfl) ?_
          refine lv_dup C.1.1 C.1.2.1 dX4_reach_58 rfl ?_
          refine fb_gi C w 0 (fb_k5 G) rfl rfl fl_X4_9 dX4_reach_59 ?_
          have i20 := w.2.2.2 5 0
          refine fb_iconst C dX4_reach_62 ?_
          obtain ⟨i21, h⟩ := h
          refine fb_iadd C dX4_reach_63 ?_
          refine fb_pi C w 0 (fb_k5 G) rfl rfl fl_X4_9 tyX4_ok nmX4 rfl i21 rfl rfl dX4_reach_64 (fun σ22 H locs eσ22 w => ?_)
          have h := h σ22 eσ22
          exact tw_X4_reach_67 C hret _ _ _ _ w (lv_sub hl [] rfl) h
      · have h := h.2 c7
        exact tw_X4_reach_24 C hret _ _ _ _ w (lv_sub hl [] rfl) h
theorem ct_X4_reach (l : Launch) (G : fb_G) {x2 : Int} {x3 : Int} {x4 : Int} {σ : fb_St} (ix2 : fb_in x2) (ix3 : fb_in x3) (ix4 : fb_in x4) (h : wp_X4_reach x2 x3 x4 σ Q) : fb_MV l G yX4_reach cX4_reach 5 rm_X4_reach [.ref (fb_ad G 5), .ref (fb_ad G 1), .int (fb_I x2), .int (fb_I x3), .int (fb_I x4)] σ Q := by
  refine fb_ofW (own := RX4) (by decide) (Nat.le_of_ble_eq_true rfl) rfl (fun p e s m args below meth c ls C hr hl w => ?_)
  exact tw_X4_reach_0 C (fb_retv C hr) _ _ _ _ _ _ _ w hl ix2 ix3 ix4 h
end S_X4_reach
section S_X5_neighbour
variable {p : Program} {l : Launch} {e : Env} {s : State} {m : MethodId} {args : Array Value} {below : List Frame} {meth : Method} {c : Code} {Qm : State → Prop} {G : fb_G} {Q : Int → fb_St → Prop}
abbrev TT_X5_neighbour_0 (p : Program) (l : Launch) (e : Env) (s : State) (m : MethodId) (args : Array Value) (below : List Frame) (meth : Method) (c : Code) (Qm : State → Prop) (G : fb_G) (r : Int → Int → fb_St → Prop) : Prop := ∀ (x1 x2 : Int) (σ : fb_St) (H : Heap) (locs : List Loc) (ls : Array Slot), fb_Wd G s σ H locs → lv_has ls 3 [(0, .ref (fb_ad G 1)), (1, .int (fb_I x1)), (2, .int (fb_I x2))] → fb_in x1 → fb_in x2 → r x1 x2 σ → W p l e rm_X5_neighbour s m args below meth c H locs 0 0 Qm (F0 m 0 ls [])
set_option maxRecDepth 100000 in
set_option maxHeartbeats 4000000 in
theorem tw_X5_neighbour_0 (C : fb_C p s m args meth c G RX5 cX5_neighbour 3) (hret : fb_RI p l e rm_X5_neighbour s m args below meth c G cX5_neighbour Qm Q) : TT_X5_neighbour_0 p l e s m args below meth c Qm G (fun x1 x2 σ => wp_X5_neighbour x1 x2 σ Q) := by
  intro x1 x2 σ H locs ls w hl ix1 ix2 h
  unfold wp_X5_neighbour at h
  refine lv_aload_n C.1.1 C.1.2.1 dX5_neighbour_0 rfl (lv_at hl 0 rfl) ?_
  refine fb_getr (k2 := 4) C w (fb_k1 G) rfl fl_X5_28 dX5_neighbour_1 ?_
  refine lv_iload_n C.1.1 C.1.2.1 dX5_neighbour_4 rfl (lv_at hl 1 rfl) ?_
  refine fb_iconst C dX5_neighbour_5 ?_
  obtain ⟨i1, h⟩ := h
  refine fb_imul C dX5_neighbour_6 ?_
  refine lv_iload_n C.1.1 C.1.2.1 dX5_neighbour_7 rfl (lv_at hl 2 rfl) ?_
  obtain ⟨i2, h⟩ := h
  refine fb_iadd C dX5_neighbour_8 ?_
  obtain ⟨z3, z4, h⟩ := h
  refine fb_al C w 576 (fb_k4 G) rfl rfl z3 z4 dX5_neighbour_9 ?_
  have i5 := w.2.2.2 4 ((x1 * 4) + x2)
  exact hret _ _ _ _ _ _ i5 h w dX5_neighbour_10
theorem ct_X5_neighbour (l : Launch) (G : fb_G) {x1 : Int} {x2 : Int} {σ : fb_St} (ix1 : fb_in x1) (ix2 : fb_in x2) (h : wp_X5_neighbour x1 x2 σ Q) : fb_MI l G yX5_neighbour cX5_neighbour 3 (some .int) rm_X5_neighbour [.ref (fb_ad G 1), .int (fb_I x1), .int (fb_I x2)] σ Q := by
  refine fb_ofW (own := RX5) (by decide) (Nat.le_of_ble_eq_true rfl) rfl (fun p e s m args below meth c ls C hr hl w => ?_)
  exact tw_X5_neighbour_0 C (fb_reti C hr) _ _ _ _ _ _ w hl ix1 ix2 h
end S_X5_neighbour
section S_X4_from
variable {p : Program} {l : Launch} {e : Env} {s : State} {m : MethodId} {args : Array Value} {below : List Frame} {meth : Method} {c : Code} {Qm : State → Prop} {G : fb_G} {Q : Int → fb_St → Prop}
abbrev TT_X4_from_37 (p : Program) (l : Launch) (e : Env) (s : State) (m : MethodId) (args : Array Value) (below : List Frame) (meth : Method) (c : Code) (Qm : State → Prop) (G : fb_G) (r : Int → Int → Int → Int → fb_St → Prop) : Prop := ∀ (x3 x4 x5 x6 : Int) (σ : fb_St) (H : Heap) (locs : List Loc) (ls : Array Slot), fb_Wd G s σ H locs → lv_has ls 7 [(0, .ref (fb_ad G 5)), (1, .ref (fb_ad G 1)), (3, .int (fb_I x3)), (4, .int (fb_I x4)), (5, .int (fb_I x5)), (6, .int (fb_I x6))] → fb_in x3 → fb_in x4 → fb_in x5 → fb_in x6 → r x3 x4 x5 x6 σ → W p l e rm_X4_from s m args below meth c H locs 0 0 Qm (F0 m 37 ls [])
abbrev TT_X4_from_76 (p : Program) (l : Launch) (e : Env) (s : State) (m : MethodId) (args : Array Value) (below : List Frame) (meth : Method) (c : Code) (Qm : State → Prop) (G : fb_G) (r : fb_St → Prop) : Prop := ∀ (σ : fb_St) (H : Heap) (locs : List Loc) (ls : Array Slot), fb_Wd G s σ H locs → lv_has ls 7 [] → r σ → W p l e rm_X4_from s m args below meth c H locs 0 0 Qm (F0 m 76 ls [])
abbrev TT_X4_from_17 (p : Program) (l : Launch) (e : Env) (s : State) (m : MethodId) (args : Array Value) (below : List Frame) (meth : Method) (c : Code) (Qm : State → Prop) (G : fb_G) (r : Int → Int → Int → fb_St → Prop) : Prop := ∀ (x3 x4 x5 : Int) (σ : fb_St) (H : Heap) (locs : List Loc) (ls : Array Slot), fb_Wd G s σ H locs → lv_has ls 7 [(0, .ref (fb_ad G 5)), (1, .ref (fb_ad G 1)), (3, .int (fb_I x3)), (4, .int (fb_I x4)), (5, .int (fb_I x5))] → fb_in x3 → fb_in x4 → fb_in x5 → r x3 x4 x5 σ → W p l e rm_X4_from s m args below meth c H locs 0 0 Qm (F0 m 17 ls [])
abbrev TT_X4_from_0 (p : Program) (l : Launch) (e : Env) (s : State) (m : MethodId) (args : Array Value) (below : List Frame) (meth : Method) (c : Code) (Qm : State → Prop) (G : fb_G) (r : Int → Int → Int → fb_St → Prop) : Prop := ∀ (x2 x3 x4 : Int) (σ : fb_St) (H : Heap) (locs : List Loc) (ls : Array Slot), fb_Wd G s σ H locs → lv_has ls 7 [(0, .ref (fb_ad G 5)), (1, .ref (fb_ad G 1)), (2, .int (fb_I x2)), (3, .int (fb_I x3)), (4, .int (fb_I x4))] → fb_in x2 → fb_in x3 → fb_in x4 → r x2 x3 x4 σ → W p l e rm_X4_from s m args below meth c H locs 0 0 Qm (F0 m 0 ls [])
set_option maxRecDepth 100000 in
set_option maxHeartbeats 4000000 in
theorem tw_X4_from_37 (C : fb_C p s m args meth c G RX4 cX4_from 7) (hret : fb_RV p l e rm_X4_from s m args below meth c G cX4_from Qm Q) {r17 : Int → Int → Int → fb_St → Prop} (h17 : TT_X4_from_17 p l e s m args below meth c Qm G r17) {r37 : Int → Int → Int → Int → fb_St → Prop} (h37 : TT_X4_from_37 p l e s m args below meth c Qm G r37) : TT_X4_from_37 p l e s m args below meth c Qm G (wb_X4_from_37 r17 r37 Q) := by
  intro x3 x4 x5 x6 σ H locs ls w hl ix3 ix4 ix5 ix6 h
  unfold wb_X4_from_37 at h
  refine lv_iload C.1.1 C.1.2.1 dX4_from_37 (lv_at hl 5 rfl) ?_
  refine fb_iconst C dX4_from_39 ?_
  refine fb_icmp_ge (tgt := 70) C ix6 (by decide) dX4_from_40 (by decide) (fun c6 => ?_) (fun c6 => ?_)
  · have h := h.2 c6
    obtain ⟨i7, h⟩ := h
    refine fb_iinc (b := x5 + 1) (k := 4) (lv' := [(5, .int (fb_I (x5 + 1))), (0, .ref (fb_ad G 5)), (1, .ref (fb_ad G 1)), (3, .int (fb_I x3)), (4, .int (fb_I x4)), (6, .int (fb_I x6))]) C dX4_from_70 hl rfl rfl (by decide) rfl (fun ls hl => ?_)
    refine lv_goto (tgt := 17) C.1.1 C.1.2.1 dX4_from_73 (by decide) ?_
    exact h17 x3 x4 (x5 + 1) _ _ _ _ w (lv_sub hl [1, 2, 3, 4, 0] rfl) ix3 ix4 i7 h
  · have h := h.1 c6
    refine lv_aload_n C.1.1 C.1.2.1 dX4_from_43 rfl (lv_at hl 0 rfl) ?_
    refine lv_aload_n C.1.1 C.1.2.1 dX4_from_44 rfl (lv_at hl 1 rfl) ?_
    refine lv_aload_n C.1.1 C.1.2.1 dX4_from_45 rfl (lv_at hl 1 rfl) ?_
    refine lv_aload_n C.1.1 C.1.2.1 dX4_from_46 rfl (lv_at hl 0 rfl) ?_
    refine fb_getr (k2 := 6) C w (fb_k5 G) rfl fl_X4_15 dX4_from_47 ?_
    refine lv_iload C.1.1 C.1.2.1 dX4_from_50 (lv_at hl 4 rfl) ?_
    obtain ⟨z8, z9, h⟩ := h
    refine fb_al C w 144 (fb_k6 G) rfl rfl z8 z9 dX4_from_52 ?_
    have i10 := w.2.2.2 6 x5
    refine lv_iload C.1.1 C.1.2.1 dX4_from_53 (lv_at hl 5 rfl) ?_
    refine fb_callVi (As := [.int (fb_I (σ 6 x5)), .int (fb_I x6)]) (rest := [.ref (fb_ad G 1), .ref (fb_ad G 5)]) C w (ct_X5_neighbour l G i10 ix6 h) mv_X4_32 (fb_k1 G) rfl ⟨rfl, rfl, Nat.le_of_ble_eq_true rfl, Nat.le_of_ble_eq_true rfl, Nat.zero_le _, Nat.zero_le _⟩ rfl hl.1 rfl (Nat.le_of_ble_eq_true rfl) dX4_from_55 (fun a11 σ11 H locs h ia11 w => ?_)
    refine lv_iload_n C.1.1 C.1.2.1 dX4_from_58 rfl (lv_at hl 2 rfl) ?_
    refine lv_iload C.1.1 C.1.2.1 dX4_from_59 (lv_at hl 3 rfl) ?_
    refine fb_callVv (As := [.ref (fb_ad G 1), .int (fb_I a11), .int (fb_I x3), .int (fb_I x4)]) (rest := []) C w (ct_X4_reach l G ia11 ix3 ix4 h) mv_X4_28 (fb_k5 G) rfl ⟨rfl, rfl, Nat.le_of_ble_eq_true rfl, Nat.le_of_ble_eq_true rfl, Nat.zero_le _, Nat.zero_le _⟩ rfl hl.1 rfl (Nat.le_of_ble_eq_true rfl) dX4_from_61 (fun σ12 H locs h w => ?_)
    obtain ⟨i13, h⟩ := h
    refine fb_iinc (b := x6 + 1) (k := 5) (lv' := [(6, .int (fb_I (x6 + 1))), (0, .ref (fb_ad G 5)), (1, .ref (fb_ad G 1)), (3, .int (fb_I x3)), (4, .int (fb_I x4)), (5, .int (fb_I x5))]) C dX4_from_64 hl rfl rfl (by decide) rfl (fun ls hl => ?_)
    refine lv_goto (tgt := 37) C.1.1 C.1.2.1 dX4_from_67 (by decide) ?_
    exact h37 x3 x4 x5 (x6 + 1) _ _ _ _ w (lv_sub hl [1, 2, 3, 4, 5, 0] rfl) ix3 ix4 ix5 i13 h
theorem tl_X4_from_37 (C : fb_C p s m args meth c G RX4 cX4_from 7) (hret : fb_RV p l e rm_X4_from s m args below meth c G cX4_from Qm Q) {r17 : Int → Int → Int → fb_St → Prop} (h17 : TT_X4_from_17 p l e s m args below meth c Qm G r17) : ∀ n : Nat, TT_X4_from_37 p l e s m args below meth c Qm G (wl_X4_from_37 r17 Q n) := by
  intro n
  induction n with
  | zero => intro x3 x4 x5 x6 σ H locs ls w hl ix3 ix4 ix5 ix6 h; exact h.elim
  | succ n ih => exact tw_X4_from_37 C hret h17 ih
set_option maxRecDepth 100000 in
set_option maxHeartbeats 4000000 in
theorem tw_X4_from_76 (C : fb_C p s m args meth c G RX4 cX4_from 7) (hret : fb_RV p l e rm_X4_from s m args below meth c G cX4_from Qm Q) : TT_X4_from_76 p l e s m args below meth c Qm G (wj_X4_from_76 Q) := by
  intro σ H locs ls w hl h
  unfold wj_X4_from_76 at h
  exact hret _ _ _ _ _ h w dX4_from_76
set_option maxRecDepth 100000 in
set_option maxHeartbeats 4000000 in
theorem tw_X4_from_17 (C : fb_C p s m args meth c G RX4 cX4_from 7) (hret : fb_RV p l e rm_X4_from s m args below meth c G cX4_from Qm Q) {r17 : Int → Int → Int → fb_St → Prop} (h17 : TT_X4_from_17 p l e s m args below meth c Qm G r17) : TT_X4_from_17 p l e s m args below meth c Qm G (wb_X4_from_17 r17 Q) := by
  intro x3 x4 x5 σ H locs ls w hl ix3 ix4 ix5 h
  unfold wb_X4_from_17 at h
  refine lv_iload C.1.1 C.1.2.1 dX4_from_17 (lv_at hl 4 rfl) ?_
  refine lv_aload_n C.1.1 C.1.2.1 dX4_from_19 rfl (lv_at hl 0 rfl) ?_
  refine fb_gi C w 0 (fb_k5 G) rfl rfl fl_X4_9 dX4_from_20 ?_
  have i3 := w.2.2.2 5 0
  refine fb_icmp_ge (tgt := 76) C ix5 i3 dX4_from_23 (by decide) (fun c4 => ?_) (fun c4 => ?_)
  · have h := h.2 c4
    exact tw_X4_from_76 C hret _ _ _ _ w (lv_sub hl [] rfl) h
  · have h := h.1 c4
    refine lv_iload C.1.1 C.1.2.1 dX4_from_26 (lv_at hl 4 rfl) ?_
    refine fb_sipush C dX4_from_28 (by decide) ?_
    refine fb_icmp_ge (tgt := 76) C ix5 (by decide) dX4_from_31 (by decide) (fun c5 => ?_) (fun c5 => ?_)
    · have h := h.2 c5
      exact tw_X4_from_76 C hret _ _ _ _ w (lv_sub hl [] rfl) h
    · have h := h.1 c5
      refine fb_iconst C dX4_from_34 ?_
      refine lv_istore (lv' := [(6, .int (fb_I 0)), (0, .ref (fb_ad G 5)), (1, .ref (fb_ad G 1)), (3, .int (fb_I x3)), (4, .int (fb_I x4)), (5, .int (fb_I x5))]) C.1.1 C.1.2.1 dX4_from_35 hl (by decide) rfl (fun ls hl => ?_)
      obtain ⟨n, h⟩ := h
      exact tl_X4_from_37 C hret h17 n x3 x4 x5 0 _ _ _ _ w (lv_sub hl [1, 2, 3, 4, 5, 0] rfl) ix3 ix4 ix5 (by decide) h
theorem tl_X4_from_17 (C : fb_C p s m args meth c G RX4 cX4_from 7) (hret : fb_RV p l e rm_X4_from s m args below meth c G cX4_from Qm Q) : ∀ n : Nat, TT_X4_from_17 p l e s m args below meth c Qm G (wl_X4_from_17 Q n) := by
  intro n
  induction n with
  | zero => intro x3 x4 x5 σ H locs ls w hl ix3 ix4 ix5 h; exact h.elim
  | succ n ih => exact tw_X4_from_17 C hret ih
set_option maxRecDepth 100000 in
set_option maxHeartbeats 4000000 in
theorem tw_X4_from_0 (C : fb_C p s m args meth c G RX4 cX4_from 7) (hret : fb_RV p l e rm_X4_from s m args below meth c G cX4_from Qm Q) : TT_X4_from_0 p l e s m args below meth c Qm G (fun x2 x3 x4 σ => wp_X4_from x2 x3 x4 σ Q) := by
  intro x2 x3 x4 σ H locs ls w hl ix2 ix3 ix4 h
  unfold wp_X4_from at h
  refine lv_aload_n C.1.1 C.1.2.1 dX4_from_0 rfl (lv_at hl 0 rfl) ?_
  refine fb_iconst C dX4_from_1 ?_
  refine fb_pi C w 0 (fb_k5 G) rfl rfl fl_X4_9 tyX4_ok nmX4 rfl (by decide) rfl rfl dX4_from_2 (fun σ1 H locs eσ1 w => ?_)
  have h := h σ1 eσ1
  refine lv_aload_n C.1.1 C.1.2.1 dX4_from_5 rfl (lv_at hl 0 rfl) ?_
  refine lv_aload_n C.1.1 C.1.2.1 dX4_from_6 rfl (lv_at hl 1 rfl) ?_
  refine lv_iload_n C.1.1 C.1.2.1 dX4_from_7 rfl (lv_at hl 2 rfl) ?_
  refine lv_iload_n C.1.1 C.1.2.1 dX4_from_8 rfl (lv_at hl 3 rfl) ?_
  refine lv_iload C.1.1 C.1.2.1 dX4_from_9 (lv_at hl 4 rfl) ?_
  refine fb_callVv (As := [.ref (fb_ad G 1), .int (fb_I x2), .int (fb_I x3), .int (fb_I x4)]) (rest := []) C w (ct_X4_reach l G ix2 ix3 ix4 h) mv_X4_28 (fb_k5 G) rfl ⟨rfl, rfl, Nat.le_of_ble_eq_true rfl, Nat.le_of_ble_eq_true rfl, Nat.zero_le _, Nat.zero_le _⟩ rfl hl.1 rfl (Nat.le_of_ble_eq_true rfl) dX4_from_11 (fun σ2 H locs h w => ?_)
  refine fb_iconst C dX4_from_14 ?_
  refine lv_istore (lv' := [(5, .int (fb_I 0)), (0, .ref (fb_ad G 5)), (1, .ref (fb_ad G 1)), (2, .int (fb_I x2)), (3, .int (fb_I x3)), (4, .int (fb_I x4))]) C.1.1 C.1.2.1 dX4_from_15 hl (by decide) rfl (fun ls hl => ?_)
  obtain ⟨n, h⟩ := h
  exact tl_X4_from_17 C hret n x3 x4 0 _ _ _ _ w (lv_sub hl [1, 2, 4, 5, 0] rfl) ix3 ix4 (by decide) h
theorem ct_X4_from (l : Launch) (G : fb_G) {x2 : Int} {x3 : Int} {x4 : Int} {σ : fb_St} (ix2 : fb_in x2) (ix3 : fb_in x3) (ix4 : fb_in x4) (h : wp_X4_from x2 x3 x4 σ Q) : fb_MV l G yX4_from cX4_from 7 rm_X4_from [.ref (fb_ad G 5), .ref (fb_ad G 1), .int (fb_I x2), .int (fb_I x3), .int (fb_I x4)] σ Q := by
  refine fb_ofW (own := RX4) (by decide) (Nat.le_of_ble_eq_true rfl) rfl (fun p e s m args below meth c ls C hr hl w => ?_)
  exact tw_X4_from_0 C (fb_retv C hr) _ _ _ _ _ _ _ w hl ix2 ix3 ix4 h
end S_X4_from
section S_X4_lowestAround
variable {p : Program} {l : Launch} {e : Env} {s : State} {m : MethodId} {args : Array Value} {below : List Frame} {meth : Method} {c : Code} {Qm : State → Prop} {G : fb_G} {Q : Int → fb_St → Prop}
abbrev TT_X4_lowestAround_75 (p : Program) (l : Launch) (e : Env) (s : State) (m : MethodId) (args : Array Value) (below : List Frame) (meth : Method) (c : Code) (Qm : State → Prop) (G : fb_G) (r : Int → Int → Int → Int → Int → fb_St → Prop) : Prop := ∀ (x2 x3 x4 x5 x6 : Int) (σ : fb_St) (H : Heap) (locs : List Loc) (ls : Array Slot), fb_Wd G s σ H locs → lv_has ls 8 [(0, .ref (fb_ad G 5)), (1, .ref (fb_ad G 1)), (2, .int (fb_I x2)), (3, .int (fb_I x3)), (4, .int (fb_I x4)), (5, .int (fb_I x5)), (6, .int (fb_I x6))] → fb_in x2 → fb_in x3 → fb_in x4 → fb_in x5 → fb_in x6 → r x2 x3 x4 x5 x6 σ → W p l e rm_X4_lowestAround s m args below meth c H locs 0 0 Qm (F0 m 75 ls [])
abbrev TT_X4_lowestAround_19 (p : Program) (l : Launch) (e : Env) (s : State) (m : MethodId) (args : Array Value) (below : List Frame) (meth : Method) (c : Code) (Qm : State → Prop) (G : fb_G) (r : Int → Int → Int → Int → Int → fb_St → Prop) : Prop := ∀ (x2 x3 x4 x5 x6 : Int) (σ : fb_St) (H : Heap) (locs : List Loc) (ls : Array Slot), fb_Wd G s σ H locs → lv_has ls 8 [(0, .ref (fb_ad G 5)), (1, .ref (fb_ad G 1)), (2, .int (fb_I x2)), (3, .int (fb_I x3)), (4, .int (fb_I x4)), (5, .int (fb_I x5)), (6, .int (fb_I x6))] → fb_in x2 → fb_in x3 → fb_in x4 → fb_in x5 → fb_in x6 → r x2 x3 x4 x5 x6 σ → W p l e rm_X4_lowestAround s m args below meth c H locs 0 0 Qm (F0 m 19 ls [])
abbrev TT_X4_lowestAround_7 (p : Program) (l : Launch) (e : Env) (s : State) (m : MethodId) (args : Array Value) (below : List Frame) (meth : Method) (c : Code) (Qm : State → Prop) (G : fb_G) (r : Int → Int → Int → Int → fb_St → Prop) : Prop := ∀ (x2 x3 x4 x5 : Int) (σ : fb_St) (H : Heap) (locs : List Loc) (ls : Array Slot), fb_Wd G s σ H locs → lv_has ls 8 [(0, .ref (fb_ad G 5)), (1, .ref (fb_ad G 1)), (2, .int (fb_I x2)), (3, .int (fb_I x3)), (4, .int (fb_I x4)), (5, .int (fb_I x5))] → fb_in x2 → fb_in x3 → fb_in x4 → fb_in x5 → r x2 x3 x4 x5 σ → W p l e rm_X4_lowestAround s m args below meth c H locs 0 0 Qm (F0 m 7 ls [])
abbrev TT_X4_lowestAround_0 (p : Program) (l : Launch) (e : Env) (s : State) (m : MethodId) (args : Array Value) (below : List Frame) (meth : Method) (c : Code) (Qm : State → Prop) (G : fb_G) (r : Int → Int → fb_St → Prop) : Prop := ∀ (x2 x3 : Int) (σ : fb_St) (H : Heap) (locs : List Loc) (ls : Array Slot), fb_Wd G s σ H locs → lv_has ls 8 [(0, .ref (fb_ad G 5)), (1, .ref (fb_ad G 1)), (2, .int (fb_I x2)), (3, .int (fb_I x3))] → fb_in x2 → fb_in x3 → r x2 x3 σ → W p l e rm_X4_lowestAround s m args below meth c H locs 0 0 Qm (F0 m 0 ls [])
set_option maxRecDepth 100000 in
set_option maxHeartbeats 4000000 in
theorem tw_X4_lowestAround_75 (C : fb_C p s m args meth c G RX4 cX4_lowestAround 8) (hret : fb_RI p l e rm_X4_lowestAround s m args below meth c G cX4_lowestAround Qm Q) {r7 : Int → Int → Int → Int → fb_St → Prop} (h7 : TT_X4_lowestAround_7 p l e s m args below meth c Qm G r7) {r19 : Int → Int → Int → Int → Int → fb_St → Prop} (h19 : TT_X4_lowestAround_19 p l e s m args below meth c Qm G r19) : TT_X4_lowestAround_75 p l e s m args below meth c Qm G (wj_X4_lowestAround_75 r7 r19 Q) := by
  intro x2 x3 x4 x5 x6 σ H locs ls w hl ix2 ix3 ix4 ix5 ix6 h
  unfold wj_X4_lowestAround_75 at h
  obtain ⟨i19, h⟩ := h
  refine fb_iinc (b := x6 + 1) (k := 6) (lv' := [(6, .int (fb_I (x6 + 1))), (0, .ref (fb_ad G 5)), (1, .ref (fb_ad G 1)), (2, .int (fb_I x2)), (3, .int (fb_I x3)), (4, .int (fb_I x4)), (5, .int (fb_I x5))]) C dX4_lowestAround_75 hl rfl rfl (by decide) rfl (fun ls hl => ?_)
  refine lv_goto (tgt := 19) C.1.1 C.1.2.1 dX4_lowestAround_78 (by decide) ?_
  exact h19 x2 x3 x4 x5 (x6 + 1) _ _ _ _ w (lv_sub hl [1, 2, 3, 4, 5, 6, 0] rfl) ix2 ix3 ix4 ix5 i19 h
set_option maxRecDepth 100000 in
set_option maxHeartbeats 4000000 in
theorem tw_X4_lowestAround_19 (C : fb_C p s m args meth c G RX4 cX4_lowestAround 8) (hret : fb_RI p l e rm_X4_lowestAround s m args below meth c G cX4_lowestAround Qm Q) {r7 : Int → Int → Int → Int → fb_St → Prop} (h7 : TT_X4_lowestAround_7 p l e s m args below meth c Qm G r7) {r19 : Int → Int → Int → Int → Int → fb_St → Prop} (h19 : TT_X4_lowestAround_19 p l e s m args below meth c Qm G r19) : TT_X4_lowestAround_19 p l e s m args below meth c Qm G (wb_X4_lowestAround_19 r7 r19 Q) := by
  intro x2 x3 x4 x5 x6 σ H locs ls w hl ix2 ix3 ix4 ix5 ix6 h
  unfold wb_X4_lowestAround_19 at h
  refine lv_iload C.1.1 C.1.2.1 dX4_lowestAround_19 (lv_at hl 6 rfl) ?_
  refine fb_iconst C dX4_lowestAround_21 ?_
  refine fb_icmp_ge (tgt := 81) C ix6 (by decide) dX4_lowestAround_22 (by decide) (fun c3 => ?_) (fun c3 => ?_)
  · have h := h.2 c3
    obtain ⟨i4, h⟩ := h
    refine fb_iinc (b := x5 + 1) (k := 5) (lv' := [(5, .int (fb_I (x5 + 1))), (0, .ref (fb_ad G 5)), (1, .ref (fb_ad G 1)), (2, .int (fb_I x2)), (3, .int (fb_I x3)), (4, .int (fb_I x4)), (6, .int (fb_I x6))]) C dX4_lowestAround_81 hl rfl rfl (by decide) rfl (fun ls hl => ?_)
    refine lv_goto (tgt := 7) C.1.1 C.1.2.1 dX4_lowestAround_84 (by decide) ?_
    exact h7 x2 x3 x4 (x5 + 1) _ _ _ _ w (lv_sub hl [1, 2, 3, 4, 5, 0] rfl) ix2 ix3 ix4 i4 h
  · have h := h.1 c3
    refine lv_aload_n C.1.1 C.1.2.1 dX4_lowestAround_25 rfl (lv_at hl 1 rfl) ?_
    refine lv_aload_n C.1.1 C.1.2.1 dX4_lowestAround_26 rfl (lv_at hl 0 rfl) ?_
    refine fb_getr (k2 := 6) C w (fb_k5 G) rfl fl_X4_15 dX4_lowestAround_27 ?_
    refine lv_iload C.1.1 C.1.2.1 dX4_lowestAround_30 (lv_at hl 5 rfl) ?_
    obtain ⟨z5, z6, h⟩ := h
    refine fb_al C w 144 (fb_k6 G) rfl rfl z5 z6 dX4_lowestAround_32 ?_
    have i7 := w.2.2.2 6 x5
    refine lv_iload C.1.1 C.1.2.1 dX4_lowestAround_33 (lv_at hl 6 rfl) ?_
    refine fb_callVi (As := [.int (fb_I (σ 6 x5)), .int (fb_I x6)]) (rest := []) C w (ct_X5_neighbour l G i7 ix6 h) mv_X4_32 (fb_k1 G) rfl ⟨rfl, rfl, Nat.le_of_ble_eq_true rfl, Nat.le_of_ble_eq_true rfl, Nat.zero_le _, Nat.zero_le _⟩ rfl hl.1 rfl (Nat.le_of_ble_eq_true rfl) dX4_lowestAround_35 (fun a8 σ8 H locs h ia8 w => ?_)
    refine lv_istore (lv' := [(7, .int (fb_I a8)), (0, .ref (fb_ad G 5)), (1, .ref (fb_ad G 1)), (2, .int (fb_I x2)), (3, .int (fb_I x3)), (4, .int (fb_I x4)), (5, .int (fb_I x5)), (6, .int (fb_I x6))]) C.1.1 C.1.2.1 dX4_lowestAround_38 hl (by decide) rfl (fun ls hl => ?_)
    refine lv_iload C.1.1 C.1.2.1 dX4_lowestAround_40 (lv_at hl 0 rfl) ?_
    refine fb_iconst C dX4_lowestAround_42 ?_
    refine fb_icmp_eq (tgt := 75) C ia8 (by decide) dX4_lowestAround_43 (by decide) (fun c9 => ?_) (fun c9 => ?_)
    · have h := h.1 c9
      exact tw_X4_lowestAround_75 C hret h7 h19 x2 x3 x4 x5 x6 _ _ _ _ w (lv_sub hl [1, 2, 3, 4, 5, 6, 7] rfl) ix2 ix3 ix4 ix5 ix6 h
    · have h := h.2 c9
      refine lv_aload_n C.1.1 C.1.2.1 dX4_lowestAround_46 rfl (lv_at hl 2 rfl) ?_
      refine fb_getr (k2 := 2) C w (fb_k1 G) rfl fl_X4_38 dX4_lowestAround_47 ?_
      refine lv_iload C.1.1 C.1.2.1 dX4_lowestAround_50 (lv_at hl 0 rfl) ?_
      obtain ⟨z10, z11, h⟩ := h
      refine fb_al C w 144 (fb_k2 G) rfl rfl z10 z11 dX4_lowestAround_52 ?_
      have i12 := w.2.2.2 2 a8
      refine lv_iload_n C.1.1 C.1.2.1 dX4_lowestAround_53 rfl (lv_at hl 3 rfl) ?_
      refine lv_iload_n C.1.1 C.1.2.1 dX4_lowestAround_54 rfl (lv_at hl 4 rfl) ?_
      refine fb_callNi (As := [.int (fb_I (σ8 2 a8)), .int (fb_I x2), .int (fb_I x3)]) (rest := []) C w C.2.1.2.2.1 (ct_X6_within l G i12 ix2 ix3 h) mn_X6_within ⟨rfl, rfl, Nat.le_of_ble_eq_true rfl, Nat.le_of_ble_eq_true rfl, Nat.zero_le _, Nat.zero_le _⟩ rfl hl.1 rfl (Nat.le_of_ble_eq_true rfl) dX4_lowestAround_55 (fun a13 σ13 H locs h ia13 w => ?_)
      refine fb_if_ne (tgt := 75) C ia13 dX4_lowestAround_58 (by decide) (fun c14 => ?_) (fun c14 => ?_)
      · have h := h.2 c14
        exact tw_X4_lowestAround_75 C hret h7 h19 x2 x3 x4 x5 x6 _ _ _ _ w (lv_sub hl [1, 2, 3, 4, 5, 6, 7] rfl) ix2 ix3 ix4 ix5 ix6 h
      · have h := h.1 c14
        refine lv_iload C.1.1 C.1.2.1 dX4_lowestAround_61 (lv_at hl 5 rfl) ?_
        refine lv_aload_n C.1.1 C.1.2.1 dX4_lowestAround_63 rfl (lv_at hl 2 rfl) ?_
        refine fb_getr (k2 := 2) C w (fb_k1 G) rfl fl_X4_38 dX4_lowestAround_64 ?_
        refine lv_iload C.1.1 C.1.2.1 dX4_lowestAround_67 (lv_at hl 0 rfl) ?_
        obtain ⟨z15, z16, h⟩ := h
        refine fb_al C w 144 (fb_k2 G) rfl rfl z15 z16 dX4_lowestAround_69 ?_
        have i17 := w.2.2.2 2 a8
        refine fb_mmin C ix4 i17 ml_X4_48 ⟨Nat.le_of_ble_eq_true rfl, Nat.le_of_ble_eq_true rfl, Nat.zero_le _, Nat.zero_le _⟩ hl.1 dX4_lowestAround_70 ?_
        refine fb_top (fun v18 ev18 => ?_)
        have h := h v18 ev18
        have iv18 := fb_ie ev18 (fb_in_min ix4 i17)
        refine lv_istore (lv' := [(4, .int (fb_I v18)), (7, .int (fb_I a8)), (0, .ref (fb_ad G 5)), (1, .ref (fb_ad G 1)), (2, .int (fb_I x2)), (3, .int (fb_I x3)), (5, .int (fb_I x5)), (6, .int (fb_I x6))]) C.1.1 C.1.2.1 dX4_lowestAround_73 hl (by decide) rfl (fun ls hl => ?_)
        exact tw_X4_lowestAround_75 C hret h7 h19 x2 x3 v18 x5 x6 _ _ _ _ w (lv_sub hl [2, 3, 4, 5, 0, 6, 7] rfl) ix2 ix3 iv18 ix5 ix6 h
theorem tl_X4_lowestAround_19 (C : fb_C p s m args meth c G RX4 cX4_lowestAround 8) (hret : fb_RI p l e rm_X4_lowestAround s m args below meth c G cX4_lowestAround Qm Q) {r7 : Int → Int → Int → Int → fb_St → Prop} (h7 : TT_X4_lowestAround_7 p l e s m args below meth c Qm G r7) : ∀ n : Nat, TT_X4_lowestAround_19 p l e s m args below meth c Qm G (wl_X4_lowestAround_19 r7 Q n) := by
  intro n
  induction n with
  | zero => intro x2 x3 x4 x5 x6 σ H locs ls w hl ix2 ix3 ix4 ix5 ix6 h; exact h.elim
  | succ n ih => exact tw_X4_lowestAround_19 C hret h7 ih
set_option maxRecDepth 100000 in
set_option maxHeartbeats 4000000 in
theorem tw_X4_lowestAround_7 (C : fb_C p s m args meth c G RX4 cX4_lowestAround 8) (hret : fb_RI p l e rm_X4_lowestAround s m args below meth c G cX4_lowestAround Qm Q) {r7 : Int → Int → Int → Int → fb_St → Prop} (h7 : TT_X4_lowestAround_7 p l e s m args below meth c Qm G r7) : TT_X4_lowestAround_7 p l e s m args below meth c Qm G (wb_X4_lowestAround_7 r7 Q) := by
  intro x2 x3 x4 x5 σ H locs ls w hl ix2 ix3 ix4 ix5 h
  unfold wb_X4_lowestAround_7 at h
  refine lv_iload C.1.1 C.1.2.1 dX4_lowestAround_7 (lv_at hl 5 rfl) ?_
  refine lv_aload_n C.1.1 C.1.2.1 dX4_lowestAround_9 rfl (lv_at hl 0 rfl) ?_
  refine fb_gi C w 0 (fb_k5 G) rfl rfl fl_X4_9 dX4_lowestAround_10 ?_
  have i1 := w.2.2.2 5 0
  refine fb_icmp_ge (tgt := 87) C ix5 i1 dX4_lowestAround_13 (by decide) (fun c2 => ?_) (fun c2 => ?_)
  · have h := h.2 c2
    refine lv_iload C.1.1 C.1.2.1 dX4_lowestAround_87 (lv_at hl 4 rfl) ?_
    exact hret _ _ _ _ _ _ ix4 h w dX4_lowestAround_89
  · have h := h.1 c2
    refine fb_iconst C dX4_lowestAround_16 ?_
    refine lv_istore (lv' := [(6, .int (fb_I 0)), (0, .ref (fb_ad G 5)), (1, .ref (fb_ad G 1)), (2, .int (fb_I x2)), (3, .int (fb_I x3)), (4, .int (fb_I x4)), (5, .int (fb_I x5))]) C.1.1 C.1.2.1 dX4_lowestAround_17 hl (by decide) rfl (fun ls hl => ?_)
    obtain ⟨n, h⟩ := h
    exact tl_X4_lowestAround_19 C hret h7 n x2 x3 x4 x5 0 _ _ _ _ w (lv_sub hl [1, 2, 3, 4, 5, 6, 0] rfl) ix2 ix3 ix4 ix5 (by decide) h
theorem tl_X4_lowestAround_7 (C : fb_C p s m args meth c G RX4 cX4_lowestAround 8) (hret : fb_RI p l e rm_X4_lowestAround s m args below meth c G cX4_lowestAround Qm Q) : ∀ n : Nat, TT_X4_lowestAround_7 p l e s m args below meth c Qm G (wl_X4_lowestAround_7 Q n) := by
  intro n
  induction n with
  | zero => intro x2 x3 x4 x5 σ H locs ls w hl ix2 ix3 ix4 ix5 h; exact h.elim
  | succ n ih => exact tw_X4_lowestAround_7 C hret ih
set_option maxRecDepth 100000 in
set_option maxHeartbeats 4000000 in
theorem tw_X4_lowestAround_0 (C : fb_C p s m args meth c G RX4 cX4_lowestAround 8) (hret : fb_RI p l e rm_X4_lowestAround s m args below meth c G cX4_lowestAround Qm Q) : TT_X4_lowestAround_0 p l e s m args below meth c Qm G (fun x2 x3 σ => wp_X4_lowestAround x2 x3 σ Q) := by
  intro x2 x3 σ H locs ls w hl ix2 ix3 h
  unfold wp_X4_lowestAround at h
  refine fb_bipush C dX4_lowestAround_0 (by decide) ?_
  refine lv_istore (lv' := [(4, .int (fb_I 100)), (0, .ref (fb_ad G 5)), (1, .ref (fb_ad G 1)), (2, .int (fb_I x2)), (3, .int (fb_I x3))]) C.1.1 C.1.2.1 dX4_lowestAround_2 hl (by decide) rfl (fun ls hl => ?_)
  refine fb_iconst C dX4_lowestAround_4 ?_
  refine lv_istore (lv' := [(5, .int (fb_I 0)), (4, .int (fb_I 100)), (0, .ref (fb_ad G 5)), (1, .ref (fb_ad G 1)), (2, .int (fb_I x2)), (3, .int (fb_I x3))]) C.1.1 C.1.2.1 dX4_lowestAround_5 hl (by decide) rfl (fun ls hl => ?_)
  obtain ⟨n, h⟩ := h
  exact tl_X4_lowestAround_7 C hret n x2 x3 100 0 _ _ _ _ w (lv_sub hl [2, 3, 4, 5, 1, 0] rfl) ix2 ix3 (by decide) (by decide) h
theorem ct_X4_lowestAround (l : Launch) (G : fb_G) {x2 : Int} {x3 : Int} {σ : fb_St} (ix2 : fb_in x2) (ix3 : fb_in x3) (h : wp_X4_lowestAround x2 x3 σ Q) : fb_MI l G yX4_lowestAround cX4_lowestAround 8 (some .int) rm_X4_lowestAround [.ref (fb_ad G 5), .ref (fb_ad G 1), .int (fb_I x2), .int (fb_I x3)] σ Q := by
  refine fb_ofW (own := RX4) (by decide) (Nat.le_of_ble_eq_true rfl) rfl (fun p e s m args below meth c ls C hr hl w => ?_)
  exact tw_X4_lowestAround_0 C (fb_reti C hr) _ _ _ _ _ _ w hl ix2 ix3 h
end S_X4_lowestAround
section S_X4_markAll
variable {p : Program} {l : Launch} {e : Env} {s : State} {m : MethodId} {args : Array Value} {below : List Frame} {meth : Method} {c : Code} {Qm : State → Prop} {G : fb_G} {Q : Int → fb_St → Prop}
abbrev TT_X4_markAll_2 (p : Program) (l : Launch) (e : Env) (s : State) (m : MethodId) (args : Array Value) (below : List Frame) (meth : Method) (c : Code) (Qm : State → Prop) (G : fb_G) (r : Int → Int → fb_St → Prop) : Prop := ∀ (x2 x3 : Int) (σ : fb_St) (H : Heap) (locs : List Loc) (ls : Array Slot), fb_Wd G s σ H locs → lv_has ls 4 [(0, .ref (fb_ad G 5)), (1, .ref (fb_ad G 1)), (2, .int (fb_I x2)), (3, .int (fb_I x3))] → fb_in x2 → fb_in x3 → r x2 x3 σ → W p l e rm_X4_markAll s m args below meth c H locs 0 0 Qm (F0 m 2 ls [])
abbrev TT_X4_markAll_0 (p : Program) (l : Launch) (e : Env) (s : State) (m : MethodId) (args : Array Value) (below : List Frame) (meth : Method) (c : Code) (Qm : State → Prop) (G : fb_G) (r : Int → fb_St → Prop) : Prop := ∀ (x2 : Int) (σ : fb_St) (H : Heap) (locs : List Loc) (ls : Array Slot), fb_Wd G s σ H locs → lv_has ls 4 [(0, .ref (fb_ad G 5)), (1, .ref (fb_ad G 1)), (2, .int (fb_I x2))] → fb_in x2 → r x2 σ → W p l e rm_X4_markAll s m args below meth c H locs 0 0 Qm (F0 m 0 ls [])
set_option maxRecDepth 100000 in
set_option maxHeartbeats 4000000 in
theorem tw_X4_markAll_2 (C : fb_C p s m args meth c G RX4 cX4_markAll 4) (hret : fb_RV p l e rm_X4_markAll s m args below meth c G cX4_markAll Qm Q) {r2 : Int → Int → fb_St → Prop} (h2 : TT_X4_markAll_2 p l e s m args below meth c Qm G r2) : TT_X4_markAll_2 p l e s m args below meth c Qm G (wb_X4_markAll_2 r2 Q) := by
  intro x2 x3 σ H locs ls w hl ix2 ix3 h
  unfold wb_X4_markAll_2 at h
  refine lv_iload_n C.1.1 C.1.2.1 dX4_markAll_2 rfl (lv_at hl 3 rfl) ?_
  refine lv_aload_n C.1.1 C.1.2.1 dX4_markAll_3 rfl (lv_at hl 0 rfl) ?_
  refine fb_gi C w 0 (fb_k5 G) rfl rfl fl_X4_9 dX4_markAll_4 ?_
  have i1 := w.2.2.2 5 0
  refine fb_icmp_ge (tgt := 28) C ix3 i1 dX4_markAll_7 (by decide) (fun c2 => ?_) (fun c2 => ?_)
  · have h := h.2 c2
    exact hret _ _ _ _ _ h w dX4_markAll_28
  · have h := h.1 c2
    refine lv_aload_n C.1.1 C.1.2.1 dX4_markAll_10 rfl (lv_at hl 1 rfl) ?_
    refine fb_getr (k2 := 3) C w (fb_k1 G) rfl fl_X4_45 dX4_markAll_11 ?_
    refine lv_aload_n C.1.1 C.1.2.1 dX4_markAll_14 rfl (lv_at hl 0 rfl) ?_
    refine fb_getr (k2 := 6) C w (fb_k5 G) rfl fl_X4_15 dX4_markAll_15 ?_
    refine lv_iload_n C.1.1 C.1.2.1 dX4_markAll_18 rfl (lv_at hl 3 rfl) ?_
    obtain ⟨z3, z4, h⟩ := h
    refine fb_al C w 144 (fb_k6 G) rfl rfl z3 z4 dX4_markAll_19 ?_
    have i5 := w.2.2.2 6 x3
    refine lv_iload_n C.1.1 C.1.2.1 dX4_markAll_20 rfl (lv_at hl 2 rfl) ?_
    obtain ⟨z6, z7, h⟩ := h
    refine fb_as C w 144 (fb_k3 G) rfl rfl ix2 z6 z7 dX4_markAll_21 (fun σ8 H locs eσ8 w => ?_)
    have h := h σ8 eσ8
    obtain ⟨i9, h⟩ := h
    refine fb_iinc (b := x3 + 1) (k := 3) (lv' := [(3, .int (fb_I (x3 + 1))), (0, .ref (fb_ad G 5)), (1, .ref (fb_ad G 1)), (2, .int (fb_I x2))]) C dX4_markAll_22 hl rfl rfl (by decide) rfl (fun ls hl => ?_)
    refine lv_goto (tgt := 2) C.1.1 C.1.2.1 dX4_markAll_25 (by decide) ?_
    exact h2 x2 (x3 + 1) _ _ _ _ w (lv_sub hl [1, 2, 3, 0] rfl) ix2 i9 h
theorem tl_X4_markAll_2 (C : fb_C p s m args meth c G RX4 cX4_markAll 4) (hret : fb_RV p l e rm_X4_markAll s m args below meth c G cX4_markAll Qm Q) : ∀ n : Nat, TT_X4_markAll_2 p l e s m args below meth c Qm G (wl_X4_markAll_2 Q n) := by
  intro n
  induction n with
  | zero => intro x2 x3 σ H locs ls w hl ix2 ix3 h; exact h.elim
  | succ n ih => exact tw_X4_markAll_2 C hret ih
set_option maxRecDepth 100000 in
set_option maxHeartbeats 4000000 in
theorem tw_X4_markAll_0 (C : fb_C p s m args meth c G RX4 cX4_markAll 4) (hret : fb_RV p l e rm_X4_markAll s m args below meth c G cX4_markAll Qm Q) : TT_X4_markAll_0 p l e s m args below meth c Qm G (fun x2 σ => wp_X4_markAll x2 σ Q) := by
  intro x2 σ H locs ls w hl ix2 h
  unfold wp_X4_markAll at h
  refine fb_iconst C dX4_markAll_0 ?_
  refine lv_istore_n (lv' := [(3, .int (fb_I 0)), (0, .ref (fb_ad G 5)), (1, .ref (fb_ad G 1)), (2, .int (fb_I x2))]) C.1.1 C.1.2.1 dX4_markAll_1 rfl hl (by decide) rfl (fun ls hl => ?_)
  obtain ⟨n, h⟩ := h
  exact tl_X4_markAll_2 C hret n x2 0 _ _ _ _ w (lv_sub hl [1, 2, 3, 0] rfl) ix2 (by decide) h
theorem ct_X4_markAll (l : Launch) (G : fb_G) {x2 : Int} {σ : fb_St} (ix2 : fb_in x2) (h : wp_X4_markAll x2 σ Q) : fb_MV l G yX4_markAll cX4_markAll 4 rm_X4_markAll [.ref (fb_ad G 5), .ref (fb_ad G 1), .int (fb_I x2)] σ Q := by
  refine fb_ofW (own := RX4) (by decide) (Nat.le_of_ble_eq_true rfl) rfl (fun p e s m args below meth c ls C hr hl w => ?_)
  exact tw_X4_markAll_0 C (fb_retv C hr) _ _ _ _ _ w hl ix2 h
end S_X4_markAll
section S_X6_findPits
variable {p : Program} {l : Launch} {e : Env} {s : State} {m : MethodId} {args : Array Value} {below : List Frame} {meth : Method} {c : Code} {Qm : State → Prop} {G : fb_G} {Q : Int → fb_St → Prop}
abbrev TT_X6_findPits_105 (p : Program) (l : Launch) (e : Env) (s : State) (m : MethodId) (args : Array Value) (below : List Frame) (meth : Method) (c : Code) (Qm : State → Prop) (G : fb_G) (r : Int → Int → Int → fb_St → Prop) : Prop := ∀ (x1 x2 x3 : Int) (σ : fb_St) (H : Heap) (locs : List Loc) (ls : Array Slot), fb_Wd G s σ H locs → lv_has ls 5 [(0, .ref (fb_ad G 0)), (1, .int (fb_I x1)), (2, .int (fb_I x2)), (3, .int (fb_I x3))] → fb_in x1 → fb_in x2 → fb_in x3 → r x1 x2 x3 σ → W p l e rm_X6_findPits s m args below meth c H locs 0 0 Qm (F0 m 105 ls [])
abbrev TT_X6_findPits_11 (p : Program) (l : Launch) (e : Env) (s : State) (m : MethodId) (args : Array Value) (below : List Frame) (meth : Method) (c : Code) (Qm : State → Prop) (G : fb_G) (r : Int → Int → Int → fb_St → Prop) : Prop := ∀ (x1 x2 x3 : Int) (σ : fb_St) (H : Heap) (locs : List Loc) (ls : Array Slot), fb_Wd G s σ H locs → lv_has ls 5 [(0, .ref (fb_ad G 0)), (1, .int (fb_I x1)), (2, .int (fb_I x2)), (3, .int (fb_I x3))] → fb_in x1 → fb_in x2 → fb_in x3 → r x1 x2 x3 σ → W p l e rm_X6_findPits s m args below meth c H locs 0 0 Qm (F0 m 11 ls [])
abbrev TT_X6_findPits_0 (p : Program) (l : Launch) (e : Env) (s : State) (m : MethodId) (args : Array Value) (below : List Frame) (meth : Method) (c : Code) (Qm : State → Prop) (G : fb_G) (r : Int → fb_St → Prop) : Prop := ∀ (x1 : Int) (σ : fb_St) (H : Heap) (locs : List Loc) (ls : Array Slot), fb_Wd G s σ H locs → lv_has ls 5 [(0, .ref (fb_ad G 0)), (1, .int (fb_I x1))] → fb_in x1 → r x1 σ → W p l e rm_X6_findPits s m args below meth c H locs 0 0 Qm (F0 m 0 ls [])
set_option maxRecDepth 100000 in
set_option maxHeartbeats 4000000 in
theorem tw_X6_findPits_105 (C : fb_C p s m args meth c G RX6 cX6_findPits 5) (hret : fb_RI p l e rm_X6_findPits s m args below meth c G cX6_findPits Qm Q) {r11 : Int → Int → Int → fb_St → Prop} (h11 : TT_X6_findPits_11 p l e s m args below meth c Qm G r11) : TT_X6_findPits_105 p l e s m args below meth c Qm G (wj_X6_findPits_105 r11 Q) := by
  intro x1 x2 x3 σ H locs ls w hl ix1 ix2 ix3 h
  unfold wj_X6_findPits_105 at h
  obtain ⟨i16, h⟩ := h
  refine fb_iinc (b := x3 + 1) (k := 3) (lv' := [(3, .int (fb_I (x3 + 1))), (0, .ref (fb_ad G 0)), (1, .int (fb_I x1)), (2, .int (fb_I x2))]) C dX6_findPits_105 hl rfl rfl (by decide) rfl (fun ls hl => ?_)
  refine lv_goto (tgt := 11) C.1.1 C.1.2.1 dX6_findPits_108 (by decide) ?_
  exact h11 x1 x2 (x3 + 1) _ _ _ _ w (lv_sub hl [1, 2, 3, 0] rfl) ix1 ix2 i16 h
set_option maxRecDepth 100000 in
set_option maxHeartbeats 4000000 in
theorem tw_X6_findPits_11 (C : fb_C p s m args meth c G RX6 cX6_findPits 5) (hret : fb_RI p l e rm_X6_findPits s m args below meth c G cX6_findPits Qm Q) {r11 : Int → Int → Int → fb_St → Prop} (h11 : TT_X6_findPits_11 p l e s m args below meth c Qm G r11) : TT_X6_findPits_11 p l e s m args below meth c Qm G (wb_X6_findPits_11 r11 Q) := by
  intro x1 x2 x3 σ H locs ls w hl ix1 ix2 ix3 h
  unfold wb_X6_findPits_11 at h
  refine lv_iload_n C.1.1 C.1.2.1 dX6_findPits_11 rfl (lv_at hl 3 rfl) ?_
  refine lv_aload_n C.1.1 C.1.2.1 dX6_findPits_12 rfl (lv_at hl 0 rfl) ?_
  refine fb_getr (k2 := 1) C w (fb_k0 G) rfl fl_X6_10 dX6_findPits_13 ?_
  refine fb_gi C w 2 (fb_k1 G) rfl rfl fl_X6_227 dX6_findPits_16 ?_
  have i2 := w.2.2.2 1 2
  refine fb_icmp_ge (tgt := 111) C ix3 i2 dX6_findPits_19 (by decide) (fun c3 => ?_) (fun c3 => ?_)
  · have h := h.2 c3
    refine lv_iload_n C.1.1 C.1.2.1 dX6_findPits_111 rfl (lv_at hl 2 rfl) ?_
    exact hret _ _ _ _ _ _ ix2 h w dX6_findPits_112
  · have h := h.1 c3
    refine lv_aload_n C.1.1 C.1.2.1 dX6_findPits_22 rfl (lv_at hl 0 rfl) ?_
    refine fb_getr (k2 := 5) C w (fb_k0 G) rfl fl_X6_19 dX6_findPits_23 ?_
    refine lv_iload_n C.1.1 C.1.2.1 dX6_findPits_26 rfl (lv_at hl 3 rfl) ?_
    refine fb_callVi (As := [.int (fb_I x3)]) (rest := []) C w (ct_X4_cameTo l G ix3 h) mv_X6_230 (fb_k5 G) rfl ⟨rfl, rfl, Nat.le_of_ble_eq_true rfl, Nat.le_of_ble_eq_true rfl, Nat.zero_le _, Nat.zero_le _⟩ rfl hl.1 rfl (Nat.le_of_ble_eq_true rfl) dX6_findPits_27 (fun a4 σ4 H locs h ia4 w => ?_)
    refine fb_if_eq (tgt := 36) C ia4 dX6_findPits_30 (by decide) (fun c5 => ?_) (fun c5 => ?_)
    · have h := h.1 c5
      refine lv_aload_n C.1.1 C.1.2.1 dX6_findPits_36 rfl (lv_at hl 0 rfl) ?_
      refine fb_getr (k2 := 1) C w (fb_k0 G) rfl fl_X6_10 dX6_findPits_37 ?_
      refine fb_getr (k2 := 2) C w (fb_k1 G) rfl fl_X6_90 dX6_findPits_40 ?_
      refine lv_iload_n C.1.1 C.1.2.1 dX6_findPits_43 rfl (lv_at hl 3 rfl) ?_
      obtain ⟨z6, z7, h⟩ := h
      refine fb_al C w 144 (fb_k2 G) rfl rfl z6 z7 dX6_findPits_44 ?_
      have i8 := w.2.2.2 2 x3
      refine fb_top (fun v9 ev9 => ?_)
      have h := h v9 ev9
      have iv9 := fb_ie ev9 i8
      refine lv_istore (lv' := [(4, .int (fb_I v9)), (0, .ref (fb_ad G 0)), (1, .int (fb_I x1)), (2, .int (fb_I x2)), (3, .int (fb_I x3))]) C.1.1 C.1.2.1 dX6_findPits_45 hl (by decide) rfl (fun ls hl => ?_)
      refine lv_aload_n C.1.1 C.1.2.1 dX6_findPits_47 rfl (lv_at hl 1 rfl) ?_
      refine fb_getr (k2 := 5) C w (fb_k0 G) rfl fl_X6_19 dX6_findPits_48 ?_
      refine lv_aload_n C.1.1 C.1.2.1 dX6_findPits_51 rfl (lv_at hl 1 rfl) ?_
      refine fb_getr (k2 := 1) C w (fb_k0 G) rfl fl_X6_10 dX6_findPits_52 ?_
      refine lv_iload_n C.1.1 C.1.2.1 dX6_findPits_55 rfl (lv_at hl 4 rfl) ?_
      refine lv_iload C.1.1 C.1.2.1 dX6_findPits_56 (lv_at hl 0 rfl) ?_
      refine lv_iload C.1.1 C.1.2.1 dX6_findPits_58 (lv_at hl 0 rfl) ?_
      refine fb_callVv (As := [.ref (fb_ad G 1), .int (fb_I x3), .int (fb_I v9), .int (fb_I v9)]) (rest := []) C w (ct_X4_from l G ix3 iv9 iv9 h) mv_X6_167 (fb_k5 G) rfl ⟨rfl, rfl, Nat.le_of_ble_eq_true rfl, Nat.le_of_ble_eq_true rfl, Nat.zero_le _, Nat.zero_le _⟩ rfl hl.1 rfl (Nat.le_of_ble_eq_true rfl) dX6_findPits_60 (fun σ10 H locs h w => ?_)
      refine lv_aload_n C.1.1 C.1.2.1 dX6_findPits_63 rfl (lv_at hl 1 rfl) ?_
      refine fb_getr (k2 := 5) C w (fb_k0 G) rfl fl_X6_19 dX6_findPits_64 ?_
      refine lv_aload_n C.1.1 C.1.2.1 dX6_findPits_67 rfl (lv_at hl 1 rfl) ?_
      refine fb_getr (k2 := 1) C w (fb_k0 G) rfl fl_X6_10 dX6_findPits_68 ?_
      refine lv_iload C.1.1 C.1.2.1 dX6_findPits_71 (lv_at hl 0 rfl) ?_
      refine lv_iload C.1.1 C.1.2.1 dX6_findPits_73 (lv_at hl 0 rfl) ?_
      refine fb_callVi (As := [.ref (fb_ad G 1), .int (fb_I v9), .int (fb_I v9)]) (rest := []) C w (ct_X4_lowestAround l G iv9 iv9 h) mv_X6_178 (fb_k5 G) rfl ⟨rfl, rfl, Nat.le_of_ble_eq_true rfl, Nat.le_of_ble_eq_true rfl, Nat.zero_le _, Nat.zero_le _⟩ rfl hl.1 rfl (Nat.le_of_ble_eq_true rfl) dX6_findPits_75 (fun a11 σ11 H locs h ia11 w => ?_)
      refine lv_iload C.1.1 C.1.2.1 dX6_findPits_78 (lv_at hl 0 rfl) ?_
      refine fb_icmp_ge (tgt := 86) C ia11 iv9 dX6_findPits_80 (by decide) (fun c12 => ?_) (fun c12 => ?_)
      · have h := h.2 c12
        obtain ⟨i13, h⟩ := h
        refine fb_iinc (b := x2 + 1) (k := 3) (lv' := [(2, .int (fb_I (x2 + 1))), (4, .int (fb_I v9)), (0, .ref (fb_ad G 0)), (1, .int (fb_I x1)), (3, .int (fb_I x3))]) C dX6_findPits_86 hl rfl rfl (by decide) rfl (fun ls hl => ?_)
        refine lv_iload_n C.1.1 C.1.2.1 dX6_findPits_89 rfl (lv_at hl 3 rfl) ?_
        refine fb_if_eq (tgt := 105) C ix1 dX6_findPits_90 (by decide) (fun c14 => ?_) (fun c14 => ?_)
        · have h := h.1 c14
          exact tw_X6_findPits_105 C hret h11 x1 (x2 + 1) x3 _ _ _ _ w (lv_sub hl [2, 3, 0, 4] rfl) ix1 i13 ix3 h
        · have h := h.2 c14
          refine lv_aload_n C.1.1 C.1.2.1 dX6_findPits_93 rfl (lv_at hl 2 rfl) ?_
          refine fb_getr (k2 := 5) C w (fb_k0 G) rfl fl_X6_19 dX6_findPits_94 ?_
          refine lv_aload_n C.1.1 C.1.2.1 dX6_findPits_97 rfl (lv_at hl 2 rfl) ?_
          refine fb_getr (k2 := 1) C w (fb_k0 G) rfl fl_X6_10 dX6_findPits_98 ?_
          refine lv_iload_n C.1.1 C.1.2.1 dX6_findPits_101 rfl (lv_at hl 0 rfl) ?_
          refine fb_callVv (As := [.ref (fb_ad G 1), .int (fb_I (x2 + 1))]) (rest := []) C w (ct_X4_markAll l G i13 h) mv_X6_233 (fb_k5 G) rfl ⟨rfl, rfl, Nat.le_of_ble_eq_true rfl, Nat.le_of_ble_eq_true rfl, Nat.zero_le _, Nat.zero_le _⟩ rfl hl.1 rfl (Nat.le_of_ble_eq_true rfl) dX6_findPits_102 (fun σ15 H locs h w => ?_)
          exact tw_X6_findPits_105 C hret h11 x1 (x2 + 1) x3 _ _ _ _ w (lv_sub hl [2, 3, 0, 4] rfl) ix1 i13 ix3 h
      · have h := h.1 c12
        refine lv_goto (tgt := 105) C.1.1 C.1.2.1 dX6_findPits_83 (by decide) ?_
        exact tw_X6_findPits_105 C hret h11 x1 x2 x3 _ _ _ _ w (lv_sub hl [1, 2, 3, 4] rfl) ix1 ix2 ix3 h
    · have h := h.2 c5
      refine lv_goto (tgt := 105) C.1.1 C.1.2.1 dX6_findPits_33 (by decide) ?_
      exact tw_X6_findPits_105 C hret h11 x1 x2 x3 _ _ _ _ w (lv_sub hl [0, 1, 2, 3] rfl) ix1 ix2 ix3 h
theorem tl_X6_findPits_11 (C : fb_C p s m args meth c G RX6 cX6_findPits 5) (hret : fb_RI p l e rm_X6_findPits s m args below meth c G cX6_findPits Qm Q) : ∀ n : Nat, TT_X6_findPits_11 p l e s m args below meth c Qm G (wl_X6_findPits_11 Q n) := by
  intro n
  induction n with
  | zero => intro x1 x2 x3 σ H locs ls w hl ix1 ix2 ix3 h; exact h.elim
  | succ n ih => exact tw_X6_findPits_11 C hret ih
set_option maxRecDepth 100000 in
set_option maxHeartbeats 4000000 in
theorem tw_X6_findPits_0 (C : fb_C p s m args meth c G RX6 cX6_findPits 5) (hret : fb_RI p l e rm_X6_findPits s m args below meth c G cX6_findPits Qm Q) : TT_X6_findPits_0 p l e s m args below meth c Qm G (fun x1 σ => wp_X6_findPits x1 σ Q) := by
  intro x1 σ H locs ls w hl ix1 h
  unfold wp_X6_findPits at h
  refine fb_iconst C dX6_findPits_0 ?_
  refine lv_istore_n (lv' := [(2, .int (fb_I 0)), (0, .ref (fb_ad G 0)), (1, .int (fb_I x1))]) C.1.1 C.1.2.1 dX6_findPits_1 rfl hl (by decide) rfl (fun ls hl => ?_)
  refine lv_aload_n C.1.1 C.1.2.1 dX6_findPits_2 rfl (lv_at hl 1 rfl) ?_
  refine fb_getr (k2 := 5) C w (fb_k0 G) rfl fl_X6_19 dX6_findPits_3 ?_
  refine fb_callVv (As := []) (rest := []) C w (ct_X4_forget l G h) mv_X6_164 (fb_k5 G) rfl ⟨rfl, rfl, Nat.le_of_ble_eq_true rfl, Nat.le_of_ble_eq_true rfl, Nat.zero_le _, Nat.zero_le _⟩ rfl hl.1 rfl (Nat.le_of_ble_eq_true rfl) dX6_findPits_6 (fun σ1 H locs h w => ?_)
  refine fb_iconst C dX6_findPits_9 ?_
  refine lv_istore_n (lv' := [(3, .int (fb_I 0)), (2, .int (fb_I 0)), (0, .ref (fb_ad G 0)), (1, .int (fb_I x1))]) C.1.1 C.1.2.1 dX6_findPits_10 rfl hl (by decide) rfl (fun ls hl => ?_)
  obtain ⟨n, h⟩ := h
  exact tl_X6_findPits_11 C hret n x1 0 0 _ _ _ _ w (lv_sub hl [2, 3, 1, 0] rfl) ix1 (by decide) (by decide) h
theorem ct_X6_findPits (l : Launch) (G : fb_G) {x1 : Int} {σ : fb_St} (ix1 : fb_in x1) (h : wp_X6_findPits x1 σ Q) : fb_MI l G yX6_findPits cX6_findPits 5 (some .int) rm_X6_findPits [.ref (fb_ad G 0), .int (fb_I x1)] σ Q := by
  refine fb_ofW (own := RX6) (by decide) (Nat.le_of_ble_eq_true rfl) rfl (fun p e s m args below meth c ls C hr hl w => ?_)
  exact tw_X6_findPits_0 C (fb_reti C hr) _ _ _ _ _ w hl ix1 h
end S_X6_findPits
section S_X6_pitsAfterChange
variable {p : Program} {l : Launch} {e : Env} {s : State} {m : MethodId} {args : Array Value} {below : List Frame} {meth : Method} {c : Code} {Qm : State → Prop} {G : fb_G} {Q : Int → fb_St → Prop}
abbrev TT_X6_pitsAfterChange_0 (p : Program) (l : Launch) (e : Env) (s : State) (m : MethodId) (args : Array Value) (below : List Frame) (meth : Method) (c : Code) (Qm : State → Prop) (G : fb_G) (r : fb_St → Prop) : Prop := ∀ (σ : fb_St) (H : Heap) (locs : List Loc) (ls : Array Slot), fb_Wd G s σ H locs → lv_has ls 1 [(0, .ref (fb_ad G 0))] → r σ → W p l e rm_X6_pitsAfterChange s m args below meth c H locs 0 0 Qm (F0 m 0 ls [])
set_option maxRecDepth 100000 in
set_option maxHeartbeats 4000000 in
theorem tw_X6_pitsAfterChange_0 (C : fb_C p s m args meth c G RX6 cX6_pitsAfterChange 1) (hret : fb_RI p l e rm_X6_pitsAfterChange s m args below meth c G cX6_pitsAfterChange Qm Q) : TT_X6_pitsAfterChange_0 p l e s m args below meth c Qm G (fun σ => wp_X6_pitsAfterChange σ Q) := by
  intro σ H locs ls w hl h
  unfold wp_X6_pitsAfterChange at h
  refine lv_aload_n C.1.1 C.1.2.1 dX6_pitsAfterChange_0 rfl (lv_at hl 0 rfl) ?_
  refine fb_callVv (As := []) (rest := []) C w (ct_X6_nothingStands l G h) mv_X6_97 (fb_k0 G) rfl ⟨rfl, rfl, Nat.le_of_ble_eq_true rfl, Nat.le_of_ble_eq_true rfl, Nat.zero_le _, Nat.zero_le _⟩ rfl hl.1 rfl (Nat.le_of_ble_eq_true rfl) dX6_pitsAfterChange_1 (fun σ1 H locs h w => ?_)
  refine lv_aload_n C.1.1 C.1.2.1 dX6_pitsAfterChange_4 rfl (lv_at hl 0 rfl) ?_
  refine fb_iconst C dX6_pitsAfterChange_5 ?_
  refine fb_callVi (As := [.int (fb_I 0)]) (rest := []) C w (ct_X6_findPits l G (by decide) h) mv_X6_106 (fb_k0 G) rfl ⟨rfl, rfl, Nat.le_of_ble_eq_true rfl, Nat.le_of_ble_eq_true rfl, Nat.zero_le _, Nat.zero_le _⟩ rfl hl.1 rfl (Nat.le_of_ble_eq_true rfl) dX6_pitsAfterChange_6 (fun a2 σ2 H locs h ia2 w => ?_)
  exact hret _ _ _ _ _ _ ia2 h w dX6_pitsAfterChange_9
theorem ct_X6_pitsAfterChange (l : Launch) (G : fb_G) {σ : fb_St} (h : wp_X6_pitsAfterChange σ Q) : fb_MI l G yX6_pitsAfterChange cX6_pitsAfterChange 1 (some .int) rm_X6_pitsAfterChange [.ref (fb_ad G 0)] σ Q := by
  refine fb_ofW (own := RX6) (by decide) (Nat.le_of_ble_eq_true rfl) rfl (fun p e s m args below meth c ls C hr hl w => ?_)
  exact tw_X6_pitsAfterChange_0 C (fb_reti C hr) _ _ _ _ w hl h
end S_X6_pitsAfterChange
section S_X6_land
variable {p : Program} {l : Launch} {e : Env} {s : State} {m : MethodId} {args : Array Value} {below : List Frame} {meth : Method} {c : Code} {Qm : State → Prop} {G : fb_G} {Q : Int → fb_St → Prop}
abbrev TT_X6_land_20 (p : Program) (l : Launch) (e : Env) (s : State) (m : MethodId) (args : Array Value) (below : List Frame) (meth : Method) (c : Code) (Qm : State → Prop) (G : fb_G) (r : fb_St → Prop) : Prop := ∀ (σ : fb_St) (H : Heap) (locs : List Loc) (ls : Array Slot), fb_Wd G s σ H locs → lv_has ls 3 [] → r σ → W p l e rm_X6_land s m args below meth c H locs 0 0 Qm (F0 m 20 ls [])
abbrev TT_X6_land_0 (p : Program) (l : Launch) (e : Env) (s : State) (m : MethodId) (args : Array Value) (below : List Frame) (meth : Method) (c : Code) (Qm : State → Prop) (G : fb_G) (r : Int → Int → fb_St → Prop) : Prop := ∀ (x1 x2 : Int) (σ : fb_St) (H : Heap) (locs : List Loc) (ls : Array Slot), fb_Wd G s σ H locs → lv_has ls 3 [(0, .ref (fb_ad G 0)), (1, .int (fb_I x1)), (2, .int (fb_I x2))] → fb_in x1 → fb_in x2 → r x1 x2 σ → W p l e rm_X6_land s m args below meth c H locs 0 0 Qm (F0 m 0 ls [])
set_option maxRecDepth 100000 in
set_option maxHeartbeats 4000000 in
theorem tw_X6_land_20 (C : fb_C p s m args meth c G RX6 cX6_land 3) (hret : fb_RI p l e rm_X6_land s m args below meth c G cX6_land Qm Q) : TT_X6_land_20 p l e s m args below meth c Qm G (wj_X6_land_20 Q) := by
  intro σ H locs ls w hl h
  unfold wj_X6_land_20 at h
  refine fb_bipush C dX6_land_20 (by decide) ?_
  exact hret _ _ _ _ _ _ (by decide) h w dX6_land_22
set_option maxRecDepth 100000 in
set_option maxHeartbeats 4000000 in
theorem tw_X6_land_0 (C : fb_C p s m args meth c G RX6 cX6_land 3) (hret : fb_RI p l e rm_X6_land s m args below meth c G cX6_land Qm Q) : TT_X6_land_0 p l e s m args below meth c Qm G (fun x1 x2 σ => wp_X6_land x1 x2 σ Q) := by
  intro x1 x2 σ H locs ls w hl ix1 ix2 h
  unfold wp_X6_land at h
  refine lv_iload_n C.1.1 C.1.2.1 dX6_land_0 rfl (lv_at hl 1 rfl) ?_
  refine fb_iconst C dX6_land_1 ?_
  refine fb_bipush C dX6_land_2 (by decide) ?_
  refine fb_callSi (As := [.int (fb_I x1), .int (fb_I 1), .int (fb_I 12)]) (rest := []) C w (ct_X6_within l G ix1 (by decide) (by decide) h) ms_X6_68 ⟨rfl, rfl, Nat.le_of_ble_eq_true rfl, Nat.le_of_ble_eq_true rfl, Nat.zero_le _, Nat.zero_le _⟩ rfl hl.1 rfl (Nat.le_of_ble_eq_true rfl) dX6_land_4 (fun a1 σ1 H locs h ia1 w => ?_)
  refine fb_if_eq (tgt := 20) C ia1 dX6_land_7 (by decide) (fun c2 => ?_) (fun c2 => ?_)
  · have h := h.1 c2
    exact tw_X6_land_20 C hret _ _ _ _ w (lv_sub hl [] rfl) h
  · have h := h.2 c2
    refine lv_iload_n C.1.1 C.1.2.1 dX6_land_10 rfl (lv_at hl 2 rfl) ?_
    refine fb_iconst C dX6_land_11 ?_
    refine fb_bipush C dX6_land_12 (by decide) ?_
    refine fb_callSi (As := [.int (fb_I x2), .int (fb_I 1), .int (fb_I 12)]) (rest := []) C w (ct_X6_within l G ix2 (by decide) (by decide) h) ms_X6_68 ⟨rfl, rfl, Nat.le_of_ble_eq_true rfl, Nat.le_of_ble_eq_true rfl, Nat.zero_le _, Nat.zero_le _⟩ rfl hl.1 rfl (Nat.le_of_ble_eq_true rfl) dX6_land_14 (fun a3 σ3 H locs h ia3 w => ?_)
    refine fb_if_ne (tgt := 23) C ia3 dX6_land_17 (by decide) (fun c4 => ?_) (fun c4 => ?_)
    · have h := h.2 c4
      refine lv_aload_n C.1.1 C.1.2.1 dX6_land_23 rfl (lv_at hl 0 rfl) ?_
      refine fb_getr (k2 := 1) C w (fb_k0 G) rfl fl_X6_10 dX6_land_24 ?_
      refine lv_iload_n C.1.1 C.1.2.1 dX6_land_27 rfl (lv_at hl 1 rfl) ?_
      refine lv_iload_n C.1.1 C.1.2.1 dX6_land_28 rfl (lv_at hl 2 rfl) ?_
      refine fb_callVv (As := [.int (fb_I x1), .int (fb_I x2)]) (rest := []) C w (ct_X5_shape l G ix1 ix2 h) mv_X6_64 (fb_k1 G) rfl ⟨rfl, rfl, Nat.le_of_ble_eq_true rfl, Nat.le_of_ble_eq_true rfl, Nat.zero_le _, Nat.zero_le _⟩ rfl hl.1 rfl (Nat.le_of_ble_eq_true rfl) dX6_land_29 (fun σ5 H locs h w => ?_)
      refine lv_aload_n C.1.1 C.1.2.1 dX6_land_32 rfl (lv_at hl 0 rfl) ?_
      refine fb_getr (k2 := 1) C w (fb_k0 G) rfl fl_X6_10 dX6_land_33 ?_
      refine fb_callVv (As := []) (rest := []) C w (ct_X5_clear l G h) mv_X6_72 (fb_k1 G) rfl ⟨rfl, rfl, Nat.le_of_ble_eq_true rfl, Nat.le_of_ble_eq_true rfl, Nat.zero_le _, Nat.zero_le _⟩ rfl hl.1 rfl (Nat.le_of_ble_eq_true rfl) dX6_land_36 (fun σ6 H locs h w => ?_)
      refine lv_aload_n C.1.1 C.1.2.1 dX6_land_39 rfl (lv_at hl 0 rfl) ?_
      refine fb_callVi (As := []) (rest := []) C w (ct_X6_pitsAfterChange l G h) mv_X6_75 (fb_k0 G) rfl ⟨rfl, rfl, Nat.le_of_ble_eq_true rfl, Nat.le_of_ble_eq_true rfl, Nat.zero_le _, Nat.zero_le _⟩ rfl hl.1 rfl (Nat.le_of_ble_eq_true rfl) dX6_land_40 (fun a7 σ7 H locs h ia7 w => ?_)
      exact hret _ _ _ _ _ _ ia7 h w dX6_land_43
    · have h := h.1 c4
      exact tw_X6_land_20 C hret _ _ _ _ w (lv_sub hl [] rfl) h
theorem ct_X6_land (l : Launch) (G : fb_G) {x1 : Int} {x2 : Int} {σ : fb_St} (ix1 : fb_in x1) (ix2 : fb_in x2) (h : wp_X6_land x1 x2 σ Q) : fb_MI l G yX6_land cX6_land 3 (some .int) rm_X6_land [.ref (fb_ad G 0), .int (fb_I x1), .int (fb_I x2)] σ Q := by
  refine fb_ofW (own := RX6) (by decide) (Nat.le_of_ble_eq_true rfl) rfl (fun p e s m args below meth c ls C hr hl w => ?_)
  exact tw_X6_land_0 C (fb_reti C hr) _ _ _ _ _ _ w hl ix1 ix2 h
end S_X6_land
section S_X5_ripple
variable {p : Program} {l : Launch} {e : Env} {s : State} {m : MethodId} {args : Array Value} {below : List Frame} {meth : Method} {c : Code} {Qm : State → Prop} {G : fb_G} {Q : Int → fb_St → Prop}
abbrev TT_X5_ripple_15 (p : Program) (l : Launch) (e : Env) (s : State) (m : MethodId) (args : Array Value) (below : List Frame) (meth : Method) (c : Code) (Qm : State → Prop) (G : fb_G) (r : Int → Int → Int → Int → Int → Int → fb_St → Prop) : Prop := ∀ (x1 x2 x3 x4 x5 x6 : Int) (σ : fb_St) (H : Heap) (locs : List Loc) (ls : Array Slot), fb_Wd G s σ H locs → lv_has ls 7 [(0, .ref (fb_ad G 1)), (1, .int (fb_I x1)), (2, .int (fb_I x2)), (3, .int (fb_I x3)), (4, .int (fb_I x4)), (5, .int (fb_I x5)), (6, .int (fb_I x6))] → fb_in x1 → fb_in x2 → fb_in x3 → fb_in x4 → fb_in x5 → fb_in x6 → r x1 x2 x3 x4 x5 x6 σ → W p l e rm_X5_ripple s m args below meth c H locs 0 0 Qm (F0 m 15 ls [])
abbrev TT_X5_ripple_3 (p : Program) (l : Launch) (e : Env) (s : State) (m : MethodId) (args : Array Value) (below : List Frame) (meth : Method) (c : Code) (Qm : State → Prop) (G : fb_G) (r : Int → Int → Int → Int → Int → fb_St → Prop) : Prop := ∀ (x1 x2 x3 x4 x5 : Int) (σ : fb_St) (H : Heap) (locs : List Loc) (ls : Array Slot), fb_Wd G s σ H locs → lv_has ls 7 [(0, .ref (fb_ad G 1)), (1, .int (fb_I x1)), (2, .int (fb_I x2)), (3, .int (fb_I x3)), (4, .int (fb_I x4)), (5, .int (fb_I x5))] → fb_in x1 → fb_in x2 → fb_in x3 → fb_in x4 → fb_in x5 → r x1 x2 x3 x4 x5 σ → W p l e rm_X5_ripple s m args below meth c H locs 0 0 Qm (F0 m 3 ls [])
abbrev TT_X5_ripple_0 (p : Program) (l : Launch) (e : Env) (s : State) (m : MethodId) (args : Array Value) (below : List Frame) (meth : Method) (c : Code) (Qm : State → Prop) (G : fb_G) (r : Int → Int → Int → Int → fb_St → Prop) : Prop := ∀ (x1 x2 x3 x4 : Int) (σ : fb_St) (H : Heap) (locs : List Loc) (ls : Array Slot), fb_Wd G s σ H locs → lv_has ls 7 [(0, .ref (fb_ad G 1)), (1, .int (fb_I x1)), (2, .int (fb_I x2)), (3, .int (fb_I x3)), (4, .int (fb_I x4))] → fb_in x1 → fb_in x2 → fb_in x3 → fb_in x4 → r x1 x2 x3 x4 σ → W p l e rm_X5_ripple s m args below meth c H locs 0 0 Qm (F0 m 0 ls [])
set_option maxRecDepth 100000 in
set_option maxHeartbeats 4000000 in
theorem tw_X5_ripple_15 (C : fb_C p s m args meth c G RX5 cX5_ripple 7) (hret : fb_RV p l e rm_X5_ripple s m args below meth c G cX5_ripple Qm Q) {r3 : Int → Int → Int → Int → Int → fb_St → Prop} (h3 : TT_X5_ripple_3 p l e s m args below meth c Qm G r3) {r15 : Int → Int → Int → Int → Int → Int → fb_St → Prop} (h15 : TT_X5_ripple_15 p l e s m args below meth c Qm G r15) : TT_X5_ripple_15 p l e s m args below meth c Qm G (wb_X5_ripple_15 r3 r15 Q) := by
  intro x1 x2 x3 x4 x5 x6 σ H locs ls w hl ix1 ix2 ix3 ix4 ix5 ix6 h
  unfold wb_X5_ripple_15 at h
  refine lv_iload C.1.1 C.1.2.1 dX5_ripple_15 (lv_at hl 6 rfl) ?_
  refine lv_aload_n C.1.1 C.1.2.1 dX5_ripple_17 rfl (lv_at hl 0 rfl) ?_
  refine fb_gi C w 0 (fb_k1 G) rfl rfl fl_X5_9 dX5_ripple_18 ?_
  have i3 := w.2.2.2 1 0
  refine fb_icmp_ge (tgt := 65) C ix6 i3 dX5_ripple_21 (by decide) (fun c4 => ?_) (fun c4 => ?_)
  · have h := h.2 c4
    obtain ⟨i5, h⟩ := h
    refine fb_iinc (b := x5 + 1) (k := 5) (lv' := [(5, .int (fb_I (x5 + 1))), (0, .ref (fb_ad G 1)), (1, .int (fb_I x1)), (2, .int (fb_I x2)), (3, .int (fb_I x3)), (4, .int (fb_I x4)), (6, .int (fb_I x6))]) C dX5_ripple_65 hl rfl rfl (by decide) rfl (fun ls hl => ?_)
    refine lv_goto (tgt := 3) C.1.1 C.1.2.1 dX5_ripple_68 (by decide) ?_
    exact h3 x1 x2 x3 x4 (x5 + 1) _ _ _ _ w (lv_sub hl [1, 2, 3, 4, 5, 0] rfl) ix1 ix2 ix3 ix4 i5 h
  · have h := h.1 c4
    refine lv_aload_n C.1.1 C.1.2.1 dX5_ripple_24 rfl (lv_at hl 0 rfl) ?_
    refine fb_getr (k2 := 2) C w (fb_k1 G) rfl fl_X5_21 dX5_ripple_25 ?_
    refine lv_iload C.1.1 C.1.2.1 dX5_ripple_28 (lv_at hl 5 rfl) ?_
    refine lv_aload_n C.1.1 C.1.2.1 dX5_ripple_30 rfl (lv_at hl 0 rfl) ?_
    refine fb_gi C w 0 (fb_k1 G) rfl rfl fl_X5_9 dX5_ripple_31 ?_
    have i6 := w.2.2.2 1 0
    obtain ⟨i7, h⟩ := h
    refine fb_imul C dX5_ripple_34 ?_
    refine lv_iload C.1.1 C.1.2.1 dX5_ripple_35 (lv_at hl 6 rfl) ?_
    obtain ⟨i8, h⟩ := h
    refine fb_iadd C dX5_ripple_37 ?_
    refine lv_iload_n C.1.1 C.1.2.1 dX5_ripple_38 rfl (lv_at hl 1 rfl) ?_
    refine lv_iload C.1.1 C.1.2.1 dX5_ripple_39 (lv_at hl 6 rfl) ?_
    obtain ⟨i9, h⟩ := h
    refine fb_imul C dX5_ripple_41 ?_
    refine lv_iload_n C.1.1 C.1.2.1 dX5_ripple_42 rfl (lv_at hl 2 rfl) ?_
    refine lv_iload C.1.1 C.1.2.1 dX5_ripple_43 (lv_at hl 5 rfl) ?_
    obtain ⟨i10, h⟩ := h
    refine fb_imul C dX5_ripple_45 ?_
    obtain ⟨i11, h⟩ := h
    refine fb_iadd C dX5_ripple_46 ?_
    refine lv_iload_n C.1.1 C.1.2.1 dX5_ripple_47 rfl (lv_at hl 3 rfl) ?_
    refine lv_iload C.1.1 C.1.2.1 dX5_ripple_48 (lv_at hl 6 rfl) ?_
    obtain ⟨i12, h⟩ := h
    refine fb_imul C dX5_ripple_50 ?_
    refine lv_iload C.1.1 C.1.2.1 dX5_ripple_51 (lv_at hl 5 rfl) ?_
    obtain ⟨i13, h⟩ := h
    refine fb_imul C dX5_ripple_53 ?_
    obtain ⟨i14, h⟩ := h
    refine fb_iadd C dX5_ripple_54 ?_
    refine lv_iload C.1.1 C.1.2.1 dX5_ripple_55 (lv_at hl 4 rfl) ?_
    obtain ⟨z16, z17, i15, h⟩ := h
    refine fb_irem C i14 ix4 z16 z17 dX5_ripple_57 ?_
    obtain ⟨z18, z19, h⟩ := h
    refine fb_as C w 144 (fb_k2 G) rfl rfl i15 z18 z19 dX5_ripple_58 (fun σ20 H locs eσ20 w => ?_)
    have h := h σ20 eσ20
    obtain ⟨i21, h⟩ := h
    refine fb_iinc (b := x6 + 1) (k := 6) (lv' := [(6, .int (fb_I (x6 + 1))), (0, .ref (fb_ad G 1)), (1, .int (fb_I x1)), (2, .int (fb_I x2)), (3, .int (fb_I x3)), (4, .int (fb_I x4)), (5, .int (fb_I x5))]) C dX5_ripple_59 hl rfl rfl (by decide) rfl (fun ls hl => ?_)
    refine lv_goto (tgt := 15) C.1.1 C.1.2.1 dX5_ripple_62 (by decide) ?_
    exact h15 x1 x2 x3 x4 x5 (x6 + 1) _ _ _ _ w (lv_sub hl [1, 2, 3, 4, 5, 6, 0] rfl) ix1 ix2 ix3 ix4 ix5 i21 h
theorem tl_X5_ripple_15 (C : fb_C p s m args meth c G RX5 cX5_ripple 7) (hret : fb_RV p l e rm_X5_ripple s m args below meth c G cX5_ripple Qm Q) {r3 : Int → Int → Int → Int → Int → fb_St → Prop} (h3 : TT_X5_ripple_3 p l e s m args below meth c Qm G r3) : ∀ n : Nat, TT_X5_ripple_15 p l e s m args below meth c Qm G (wl_X5_ripple_15 r3 Q n) := by
  intro n
  induction n with
  | zero => intro x1 x2 x3 x4 x5 x6 σ H locs ls w hl ix1 ix2 ix3 ix4 ix5 ix6 h; exact h.elim
  | succ n ih => exact tw_X5_ripple_15 C hret h3 ih
set_option maxRecDepth 100000 in
set_option maxHeartbeats 4000000 in
theorem tw_X5_ripple_3 (C : fb_C p s m args meth c G RX5 cX5_ripple 7) (hret : fb_RV p l e rm_X5_ripple s m args below meth c G cX5_ripple Qm Q) {r3 : Int → Int → Int → Int → Int → fb_St → Prop} (h3 : TT_X5_ripple_3 p l e s m args below meth c Qm G r3) : TT_X5_ripple_3 p l e s m args below meth c Qm G (wb_X5_ripple_3 r3 Q) := by
  intro x1 x2 x3 x4 x5 σ H locs ls w hl ix1 ix2 ix3 ix4 ix5 h
  unfold wb_X5_ripple_3 at h
  refine lv_iload C.1.1 C.1.2.1 dX5_ripple_3 (lv_at hl 5 rfl) ?_
  refine lv_aload_n C.1.1 C.1.2.1 dX5_ripple_5 rfl (lv_at hl 0 rfl) ?_
  refine fb_gi C w 1 (fb_k1 G) rfl rfl fl_X5_15 dX5_ripple_6 ?_
  have i1 := w.2.2.2 1 1
  refine fb_icmp_ge (tgt := 71) C ix5 i1 dX5_ripple_9 (by decide) (fun c2 => ?_) (fun c2 => ?_)
  · have h := h.2 c2
    exact hret _ _ _ _ _ h w dX5_ripple_71
  · have h := h.1 c2
    refine fb_iconst C dX5_ripple_12 ?_
    refine lv_istore (lv' := [(6, .int (fb_I 0)), (0, .ref (fb_ad G 1)), (1, .int (fb_I x1)), (2, .int (fb_I x2)), (3, .int (fb_I x3)), (4, .int (fb_I x4)), (5, .int (fb_I x5))]) C.1.1 C.1.2.1 dX5_ripple_13 hl (by decide) rfl (fun ls hl => ?_)
    obtain ⟨n, h⟩ := h
    exact tl_X5_ripple_15 C hret h3 n x1 x2 x3 x4 x5 0 _ _ _ _ w (lv_sub hl [1, 2, 3, 4, 5, 6, 0] rfl) ix1 ix2 ix3 ix4 ix5 (by decide) h
theorem tl_X5_ripple_3 (C : fb_C p s m args meth c G RX5 cX5_ripple 7) (hret : fb_RV p l e rm_X5_ripple s m args below meth c G cX5_ripple Qm Q) : ∀ n : Nat, TT_X5_ripple_3 p l e s m args below meth c Qm G (wl_X5_ripple_3 Q n) := by
  intro n
  induction n with
  | zero => intro x1 x2 x3 x4 x5 σ H locs ls w hl ix1 ix2 ix3 ix4 ix5 h; exact h.elim
  | succ n ih => exact tw_X5_ripple_3 C hret ih
set_option maxRecDepth 100000 in
set_option maxHeartbeats 4000000 in
theorem tw_X5_ripple_0 (C : fb_C p s m args meth c G RX5 cX5_ripple 7) (hret : fb_RV p l e rm_X5_ripple s m args below meth c G cX5_ripple Qm Q) : TT_X5_ripple_0 p l e s m args below meth c Qm G (fun x1 x2 x3 x4 σ => wp_X5_ripple x1 x2 x3 x4 σ Q) := by
  intro x1 x2 x3 x4 σ H locs ls w hl ix1 ix2 ix3 ix4 h
  unfold wp_X5_ripple at h
  refine fb_iconst C dX5_ripple_0 ?_
  refine lv_istore (lv' := [(5, .int (fb_I 0)), (0, .ref (fb_ad G 1)), (1, .int (fb_I x1)), (2, .int (fb_I x2)), (3, .int (fb_I x3)), (4, .int (fb_I x4))]) C.1.1 C.1.2.1 dX5_ripple_1 hl (by decide) rfl (fun ls hl => ?_)
  obtain ⟨n, h⟩ := h
  exact tl_X5_ripple_3 C hret n x1 x2 x3 x4 0 _ _ _ _ w (lv_sub hl [1, 2, 3, 4, 5, 0] rfl) ix1 ix2 ix3 ix4 (by decide) h
theorem ct_X5_ripple (l : Launch) (G : fb_G) {x1 : Int} {x2 : Int} {x3 : Int} {x4 : Int} {σ : fb_St} (ix1 : fb_in x1) (ix2 : fb_in x2) (ix3 : fb_in x3) (ix4 : fb_in x4) (h : wp_X5_ripple x1 x2 x3 x4 σ Q) : fb_MV l G yX5_ripple cX5_ripple 7 rm_X5_ripple [.ref (fb_ad G 1), .int (fb_I x1), .int (fb_I x2), .int (fb_I x3), .int (fb_I x4)] σ Q := by
  refine fb_ofW (own := RX5) (by decide) (Nat.le_of_ble_eq_true rfl) rfl (fun p e s m args below meth c ls C hr hl w => ?_)
  exact tw_X5_ripple_0 C (fb_retv C hr) _ _ _ _ _ _ _ _ w hl ix1 ix2 ix3 ix4 h
end S_X5_ripple
section S_X6_wave
variable {p : Program} {l : Launch} {e : Env} {s : State} {m : MethodId} {args : Array Value} {below : List Frame} {meth : Method} {c : Code} {Qm : State → Prop} {G : fb_G} {Q : Int → fb_St → Prop}
abbrev TT_X6_wave_53 (p : Program) (l : Launch) (e : Env) (s : State) (m : MethodId) (args : Array Value) (below : List Frame) (meth : Method) (c : Code) (Qm : State → Prop) (G : fb_G) (r : fb_St → Prop) : Prop := ∀ (σ : fb_St) (H : Heap) (locs : List Loc) (ls : Array Slot), fb_Wd G s σ H locs → lv_has ls 6 [] → r σ → W p l e rm_X6_wave s m args below meth c H locs 0 0 Qm (F0 m 53 ls [])
abbrev TT_X6_wave_35 (p : Program) (l : Launch) (e : Env) (s : State) (m : MethodId) (args : Array Value) (below : List Frame) (meth : Method) (c : Code) (Qm : State → Prop) (G : fb_G) (r : Int → Int → Int → Int → Int → fb_St → Prop) : Prop := ∀ (x1 x2 x3 x4 s0 : Int) (σ : fb_St) (H : Heap) (locs : List Loc) (ls : Array Slot), fb_Wd G s σ H locs → lv_has ls 6 [(0, .ref (fb_ad G 0)), (1, .int (fb_I x1)), (2, .int (fb_I x2)), (3, .int (fb_I x3)), (4, .int (fb_I x4))] → fb_in x1 → fb_in x2 → fb_in x3 → fb_in x4 → fb_in s0 → r x1 x2 x3 x4 s0 σ → W p l e rm_X6_wave s m args below meth c H locs 0 0 Qm (F0 m 35 ls [.int (fb_I s0)])
abbrev TT_X6_wave_34 (p : Program) (l : Launch) (e : Env) (s : State) (m : MethodId) (args : Array Value) (below : List Frame) (meth : Method) (c : Code) (Qm : State → Prop) (G : fb_G) (r : Int → Int → Int → Int → fb_St → Prop) : Prop := ∀ (x1 x2 x3 x4 : Int) (σ : fb_St) (H : Heap) (locs : List Loc) (ls : Array Slot), fb_Wd G s σ H locs → lv_has ls 6 [(0, .ref (fb_ad G 0)), (1, .int (fb_I x1)), (2, .int (fb_I x2)), (3, .int (fb_I x3)), (4, .int (fb_I x4))] → fb_in x1 → fb_in x2 → fb_in x3 → fb_in x4 → r x1 x2 x3 x4 σ → W p l e rm_X6_wave s m args below meth c H locs 0 0 Qm (F0 m 34 ls [])
abbrev TT_X6_wave_0 (p : Program) (l : Launch) (e : Env) (s : State) (m : MethodId) (args : Array Value) (below : List Frame) (meth : Method) (c : Code) (Qm : State → Prop) (G : fb_G) (r : Int → Int → Int → Int → fb_St → Prop) : Prop := ∀ (x1 x2 x3 x4 : Int) (σ : fb_St) (H : Heap) (locs : List Loc) (ls : Array Slot), fb_Wd G s σ H locs → lv_has ls 6 [(0, .ref (fb_ad G 0)), (1, .int (fb_I x1)), (2, .int (fb_I x2)), (3, .int (fb_I x3)), (4, .int (fb_I x4))] → fb_in x1 → fb_in x2 → fb_in x3 → fb_in x4 → r x1 x2 x3 x4 σ → W p l e rm_X6_wave s m args below meth c H locs 0 0 Qm (F0 m 0 ls [])
set_option maxRecDepth 100000 in
set_option maxHeartbeats 4000000 in
theorem tw_X6_wave_53 (C : fb_C p s m args meth c G RX6 cX6_wave 6) (hret : fb_RI p l e rm_X6_wave s m args below meth c G cX6_wave Qm Q) : TT_X6_wave_53 p l e s m args below meth c Qm G (wj_X6_wave_53 Q) := by
  intro σ H locs ls w hl h
  unfold wj_X6_wave_53 at h
  refine fb_bipush C dX6_wave_53 (by decide) ?_
  exact hret _ _ _ _ _ _ (by decide) h w dX6_wave_55
set_option maxRecDepth 100000 in
set_option maxHeartbeats 4000000 in
theorem tw_X6_wave_35 (C : fb_C p s m args meth c G RX6 cX6_wave 6) (hret : fb_RI p l e rm_X6_wave s m args below meth c G cX6_wave Qm Q) : TT_X6_wave_35 p l e s m args below meth c Qm G (wj_X6_wave_35 Q) := by
  intro x1 x2 x3 x4 s0 σ H locs ls w hl ix1 ix2 ix3 ix4 is0 h
  unfold wj_X6_wave_35 at h
  refine lv_istore (lv' := [(5, .int (fb_I s0)), (0, .ref (fb_ad G 0)), (1, .int (fb_I x1)), (2, .int (fb_I x2)), (3, .int (fb_I x3)), (4, .int (fb_I x4))]) C.1.1 C.1.2.1 dX6_wave_35 hl (by decide) rfl (fun ls hl => ?_)
  refine lv_iload C.1.1 C.1.2.1 dX6_wave_37 (lv_at hl 0 rfl) ?_
  refine fb_if_eq (tgt := 53) C is0 dX6_wave_39 (by decide) (fun c7 => ?_) (fun c7 => ?_)
  · have h := h.1 c7
    exact tw_X6_wave_53 C hret _ _ _ _ w (lv_sub hl [] rfl) h
  · have h := h.2 c7
    refine lv_iload C.1.1 C.1.2.1 dX6_wave_42 (lv_at hl 5 rfl) ?_
    refine fb_iconst C dX6_wave_44 ?_
    refine fb_bipush C dX6_wave_45 (by decide) ?_
    refine fb_callSi (As := [.int (fb_I x4), .int (fb_I 1), .int (fb_I 100)]) (rest := []) C w (ct_X6_within l G ix4 (by decide) (by decide) h) ms_X6_68 ⟨rfl, rfl, Nat.le_of_ble_eq_true rfl, Nat.le_of_ble_eq_true rfl, Nat.zero_le _, Nat.zero_le _⟩ rfl hl.1 rfl (Nat.le_of_ble_eq_true rfl) dX6_wave_47 (fun a8 σ8 H locs h ia8 w => ?_)
    refine fb_if_ne (tgt := 56) C ia8 dX6_wave_50 (by decide) (fun c9 => ?_) (fun c9 => ?_)
    · have h := h.2 c9
      refine lv_aload_n C.1.1 C.1.2.1 dX6_wave_56 rfl (lv_at hl 1 rfl) ?_
      refine fb_getr (k2 := 1) C w (fb_k0 G) rfl fl_X6_10 dX6_wave_57 ?_
      refine lv_iload_n C.1.1 C.1.2.1 dX6_wave_60 rfl (lv_at hl 2 rfl) ?_
      refine lv_iload_n C.1.1 C.1.2.1 dX6_wave_61 rfl (lv_at hl 3 rfl) ?_
      refine lv_iload_n C.1.1 C.1.2.1 dX6_wave_62 rfl (lv_at hl 4 rfl) ?_
      refine lv_iload C.1.1 C.1.2.1 dX6_wave_63 (lv_at hl 5 rfl) ?_
      refine fb_callVv (As := [.int (fb_I x1), .int (fb_I x2), .int (fb_I x3), .int (fb_I x4)]) (rest := []) C w (ct_X5_ripple l G ix1 ix2 ix3 ix4 h) mv_X6_79 (fb_k1 G) rfl ⟨rfl, rfl, Nat.le_of_ble_eq_true rfl, Nat.le_of_ble_eq_true rfl, Nat.zero_le _, Nat.zero_le _⟩ rfl hl.1 rfl (Nat.le_of_ble_eq_true rfl) dX6_wave_65 (fun σ10 H locs h w => ?_)
      refine lv_aload_n C.1.1 C.1.2.1 dX6_wave_68 rfl (lv_at hl 1 rfl) ?_
      refine fb_callVi (As := []) (rest := []) C w (ct_X6_pitsAfterChange l G h) mv_X6_75 (fb_k0 G) rfl ⟨rfl, rfl, Nat.le_of_ble_eq_true rfl, Nat.le_of_ble_eq_true rfl, Nat.zero_le _, Nat.zero_le _⟩ rfl hl.1 rfl (Nat.le_of_ble_eq_true rfl) dX6_wave_69 (fun a11 σ11 H locs h ia11 w => ?_)
      exact hret _ _ _ _ _ _ ia11 h w dX6_wave_72
    · have h := h.1 c9
      exact tw_X6_wave_53 C hret _ _ _ _ w (lv_sub hl [] rfl) h
set_option maxRecDepth 100000 in
set_option maxHeartbeats 4000000 in
theorem tw_X6_wave_34 (C : fb_C p s m args meth c G RX6 cX6_wave 6) (hret : fb_RI p l e rm_X6_wave s m args below meth c G cX6_wave Qm Q) : TT_X6_wave_34 p l e s m args below meth c Qm G (wj_X6_wave_34 Q) := by
  intro x1 x2 x3 x4 σ H locs ls w hl ix1 ix2 ix3 ix4 h
  unfold wj_X6_wave_34 at h
  refine fb_iconst C dX6_wave_34 ?_
  exact tw_X6_wave_35 C hret x1 x2 x3 x4 0 _ _ _ _ w (lv_sub hl [0, 1, 2, 3, 4] rfl) ix1 ix2 ix3 ix4 (by decide) h
set_option maxRecDepth 100000 in
set_option maxHeartbeats 4000000 in
theorem tw_X6_wave_0 (C : fb_C p s m args meth c G RX6 cX6_wave 6) (hret : fb_RI p l e rm_X6_wave s m args below meth c G cX6_wave Qm Q) : TT_X6_wave_0 p l e s m args below meth c Qm G (fun x1 x2 x3 x4 σ => wp_X6_wave x1 x2 x3 x4 σ Q) := by
  intro x1 x2 x3 x4 σ H locs ls w hl ix1 ix2 ix3 ix4 h
  unfold wp_X6_wave at h
  refine lv_iload_n C.1.1 C.1.2.1 dX6_wave_0 rfl (lv_at hl 1 rfl) ?_
  refine fb_iconst C dX6_wave_1 ?_
  refine fb_bipush C dX6_wave_2 (by decide) ?_
  refine fb_callSi (As := [.int (fb_I x1), .int (fb_I 0), .int (fb_I 50)]) (rest := []) C w (ct_X6_within l G ix1 (by decide) (by decide) h) ms_X6_68 ⟨rfl, rfl, Nat.le_of_ble_eq_true rfl, Nat.le_of_ble_eq_true rfl, Nat.zero_le _, Nat.zero_le _⟩ rfl hl.1 rfl (Nat.le_of_ble_eq_true rfl) dX6_wave_4 (fun a1 σ1 H locs h ia1 w => ?_)
  refine fb_if_eq (tgt := 34) C ia1 dX6_wave_7 (by decide) (fun c2 => ?_) (fun c2 => ?_)
  · have h := h.1 c2
    exact tw_X6_wave_34 C hret x1 x2 x3 x4 _ _ _ _ w (lv_sub hl [0, 1, 2, 3, 4] rfl) ix1 ix2 ix3 ix4 h
  · have h := h.2 c2
    refine lv_iload_n C.1.1 C.1.2.1 dX6_wave_10 rfl (lv_at hl 2 rfl) ?_
    refine fb_iconst C dX6_wave_11 ?_
    refine fb_bipush C dX6_wave_12 (by decide) ?_
    refine fb_callSi (As := [.int (fb_I x2), .int (fb_I 0), .int (fb_I 50)]) (rest := []) C w (ct_X6_within l G ix2 (by decide) (by decide) h) ms_X6_68 ⟨rfl, rfl, Nat.le_of_ble_eq_true rfl, Nat.le_of_ble_eq_true rfl, Nat.zero_le _, Nat.zero_le _⟩ rfl hl.1 rfl (Nat.le_of_ble_eq_true rfl) dX6_wave_14 (fun a3 σ3 H locs h ia3 w => ?_)
    refine fb_if_eq (tgt := 34) C ia3 dX6_wave_17 (by decide) (fun c4 => ?_) (fun c4 => ?_)
    · have h := h.1 c4
      exact tw_X6_wave_34 C hret x1 x2 x3 x4 _ _ _ _ w (lv_sub hl [0, 1, 2, 3, 4] rfl) ix1 ix2 ix3 ix4 h
    · have h := h.2 c4
      refine lv_iload_n C.1.1 C.1.2.1 dX6_wave_20 rfl (lv_at hl 3 rfl) ?_
      refine fb_iconst C dX6_wave_21 ?_
      refine fb_bipush C dX6_wave_22 (by decide) ?_
      refine fb_callSi (As := [.int (fb_I x3), .int (fb_I 0), .int (fb_I 50)]) (rest := []) C w (ct_X6_within l G ix3 (by decide) (by decide) h) ms_X6_68 ⟨rfl, rfl, Nat.le_of_ble_eq_true rfl, Nat.le_of_ble_eq_true rfl, Nat.zero_le _, Nat.zero_le _⟩ rfl hl.1 rfl (Nat.le_of_ble_eq_true rfl) dX6_wave_24 (fun a5 σ5 H locs h ia5 w => ?_)
      refine fb_if_eq (tgt := 34) C ia5 dX6_wave_27 (by decide) (fun c6 => ?_) (fun c6 => ?_)
      · have h := h.1 c6
        exact tw_X6_wave_34 C hret x1 x2 x3 x4 _ _ _ _ w (lv_sub hl [0, 1, 2, 3, 4] rfl) ix1 ix2 ix3 ix4 h
      · have h := h.2 c6
        refine fb_iconst C dX6_wave_30 ?_
        refine lv_goto (tgt := 35) C.1.1 C.1.2.1 dX6_wave_31 (by decide) ?_
        exact tw_X6_wave_35 C hret x1 x2 x3 x4 1 _ _ _ _ w (lv_sub hl [0, 1, 2, 3, 4] rfl) ix1 ix2 ix3 ix4 (by decide) h
theorem ct_X6_wave (l : Launch) (G : fb_G) {x1 : Int} {x2 : Int} {x3 : Int} {x4 : Int} {σ : fb_St} (ix1 : fb_in x1) (ix2 : fb_in x2) (ix3 : fb_in x3) (ix4 : fb_in x4) (h : wp_X6_wave x1 x2 x3 x4 σ Q) : fb_MI l G yX6_wave cX6_wave 6 (some .int) rm_X6_wave [.ref (fb_ad G 0), .int (fb_I x1), .int (fb_I x2), .int (fb_I x3), .int (fb_I x4)] σ Q := by
  refine fb_ofW (own := RX6) (by decide) (Nat.le_of_ble_eq_true rfl) rfl (fun p e s m args below meth c ls C hr hl w => ?_)
  exact tw_X6_wave_0 C (fb_reti C hr) _ _ _ _ _ _ _ _ w hl ix1 ix2 ix3 ix4 h
end S_X6_wave
section S_X5_raise
variable {p : Program} {l : Launch} {e : Env} {s : State} {m : MethodId} {args : Array Value} {below : List Frame} {meth : Method} {c : Code} {Qm : State → Prop} {G : fb_G} {Q : Int → fb_St → Prop}
abbrev TT_X5_raise_96 (p : Program) (l : Launch) (e : Env) (s : State) (m : MethodId) (args : Array Value) (below : List Frame) (meth : Method) (c : Code) (Qm : State → Prop) (G : fb_G) (r : Int → Int → Int → Int → Int → Int → Int → Int → fb_St → Prop) : Prop := ∀ (x1 x2 x3 x4 x5 x6 x9 s0 : Int) (σ : fb_St) (H : Heap) (locs : List Loc) (ls : Array Slot), fb_Wd G s σ H locs → lv_has ls 11 [(0, .ref (fb_ad G 1)), (1, .int (fb_I x1)), (2, .int (fb_I x2)), (3, .int (fb_I x3)), (4, .int (fb_I x4)), (5, .int (fb_I x5)), (6, .int (fb_I x6)), (9, .int (fb_I x9))] → fb_in x1 → fb_in x2 → fb_in x3 → fb_in x4 → fb_in x5 → fb_in x6 → fb_in x9 → fb_in s0 → r x1 x2 x3 x4 x5 x6 x9 s0 σ → W p l e rm_X5_raise s m args below meth c H locs 0 0 Qm (F0 m 96 ls [.int (fb_I s0)])
abbrev TT_X5_raise_15 (p : Program) (l : Launch) (e : Env) (s : State) (m : MethodId) (args : Array Value) (below : List Frame) (meth : Method) (c : Code) (Qm : State → Prop) (G : fb_G) (r : Int → Int → Int → Int → Int → Int → fb_St → Prop) : Prop := ∀ (x1 x2 x3 x4 x5 x6 : Int) (σ : fb_St) (H : Heap) (locs : List Loc) (ls : Array Slot), fb_Wd G s σ H locs → lv_has ls 11 [(0, .ref (fb_ad G 1)), (1, .int (fb_I x1)), (2, .int (fb_I x2)), (3, .int (fb_I x3)), (4, .int (fb_I x4)), (5, .int (fb_I x5)), (6, .int (fb_I x6))] → fb_in x1 → fb_in x2 → fb_in x3 → fb_in x4 → fb_in x5 → fb_in x6 → r x1 x2 x3 x4 x5 x6 σ → W p l e rm_X5_raise s m args below meth c H locs 0 0 Qm (F0 m 15 ls [])
abbrev TT_X5_raise_3 (p : Program) (l : Launch) (e : Env) (s : State) (m : MethodId) (args : Array Value) (below : List Frame) (meth : Method) (c : Code) (Qm : State → Prop) (G : fb_G) (r : Int → Int → Int → Int → Int → fb_St → Prop) : Prop := ∀ (x1 x2 x3 x4 x5 : Int) (σ : fb_St) (H : Heap) (locs : List Loc) (ls : Array Slot), fb_Wd G s σ H locs → lv_has ls 11 [(0, .ref (fb_ad G 1)), (1, .int (fb_I x1)), (2, .int (fb_I x2)), (3, .int (fb_I x3)), (4, .int (fb_I x4)), (5, .int (fb_I x5))] → fb_in x1 → fb_in x2 → fb_in x3 → fb_in x4 → fb_in x5 → r x1 x2 x3 x4 x5 σ → W p l e rm_X5_raise s m args below meth c H locs 0 0 Qm (F0 m 3 ls [])
abbrev TT_X5_raise_0 (p : Program) (l : Launch) (e : Env) (s : State) (m : MethodId) (args : Array Value) (below : List Frame) (meth : Method) (c : Code) (Qm : State → Prop) (G : fb_G) (r : Int → Int → Int → Int → fb_St → Prop) : Prop := ∀ (x1 x2 x3 x4 : Int) (σ : fb_St) (H : Heap) (locs : List Loc) (ls : Array Slot), fb_Wd G s σ H locs → lv_has ls 11 [(0, .ref (fb_ad G 1)), (1, .int (fb_I x1)), (2, .int (fb_I x2)), (3, .int (fb_I x3)), (4, .int (fb_I x4))] → fb_in x1 → fb_in x2 → fb_in x3 → fb_in x4 → r x1 x2 x3 x4 σ → W p l e rm_X5_raise s m args below meth c H locs 0 0 Qm (F0 m 0 ls [])
set_option maxRecDepth 100000 in
set_option maxHeartbeats 4000000 in
theorem tw_X5_raise_96 (C : fb_C p s m args meth c G RX5 cX5_raise 11) (hret : fb_RV p l e rm_X5_raise s m args below meth c G cX5_raise Qm Q) {r3 : Int → Int → Int → Int → Int → fb_St → Prop} (h3 : TT_X5_raise_3 p l e s m args below meth c Qm G r3) {r15 : Int → Int → Int → Int → Int → Int → fb_St → Prop} (h15 : TT_X5_raise_15 p l e s m args below meth c Qm G r15) : TT_X5_raise_96 p l e s m args below meth c Qm G (wj_X5_raise_96 r3 r15 Q) := by
  intro x1 x2 x3 x4 x5 x6 x9 s0 σ H locs ls w hl ix1 ix2 ix3 ix4 ix5 ix6 ix9 is0 h
  unfold wj_X5_raise_96 at h
  refine lv_istore (lv' := [(10, .int (fb_I s0)), (0, .ref (fb_ad G 1)), (1, .int (fb_I x1)), (2, .int (fb_I x2)), (3, .int (fb_I x3)), (4, .int (fb_I x4)), (5, .int (fb_I x5)), (6, .int (fb_I x6)), (9, .int (fb_I x9))]) C.1.1 C.1.2.1 dX5_raise_96 hl (by decide) rfl (fun ls hl => ?_)
  refine lv_aload_n C.1.1 C.1.2.1 dX5_raise_98 rfl (lv_at hl 1 rfl) ?_
  refine fb_getr (k2 := 2) C w (fb_k1 G) rfl fl_X5_21 dX5_raise_99 ?_
  refine lv_iload C.1.1 C.1.2.1 dX5_raise_102 (lv_at hl 8 rfl) ?_
  refine lv_iload C.1.1 C.1.2.1 dX5_raise_104 (lv_at hl 0 rfl) ?_
  refine fb_iconst C dX5_raise_106 ?_
  refine fb_mmax C is0 (by decide) ml_X5_51 ⟨Nat.le_of_ble_eq_true rfl, Nat.le_of_ble_eq_true rfl, Nat.zero_le _, Nat.zero_le _⟩ hl.1 dX5_raise_107 ?_
  refine fb_bipush C dX5_raise_110 (by decide) ?_
  refine fb_mmin C (fb_in_max is0 (by decide)) (by decide) ml_X5_54 ⟨Nat.le_of_ble_eq_true rfl, Nat.le_of_ble_eq_true rfl, Nat.zero_le _, Nat.zero_le _⟩ hl.1 dX5_raise_112 ?_
  obtain ⟨z29, z30, h⟩ := h
  refine fb_as C w 144 (fb_k2 G) rfl rfl (fb_in_min (fb_in_max is0 (by decide)) (by decide)) z29 z30 dX5_raise_115 (fun σ31 H locs eσ31 w => ?_)
  have h := h σ31 eσ31
  obtain ⟨i32, h⟩ := h
  refine fb_iinc (b := x6 + 1) (k := 7) (lv' := [(6, .int (fb_I (x6 + 1))), (10, .int (fb_I s0)), (0, .ref (fb_ad G 1)), (1, .int (fb_I x1)), (2, .int (fb_I x2)), (3, .int (fb_I x3)), (4, .int (fb_I x4)), (5, .int (fb_I x5)), (9, .int (fb_I x9))]) C dX5_raise_116 hl rfl rfl (by decide) rfl (fun ls hl => ?_)
  refine lv_goto (tgt := 15) C.1.1 C.1.2.1 dX5_raise_119 (by decide) ?_
  exact h15 x1 x2 x3 x4 x5 (x6 + 1) _ _ _ _ w (lv_sub hl [2, 3, 4, 5, 6, 7, 0] rfl) ix1 ix2 ix3 ix4 ix5 i32 h
set_option maxRecDepth 100000 in
set_option maxHeartbeats 4000000 in
theorem tw_X5_raise_15 (C : fb_C p s m args meth c G RX5 cX5_raise 11) (hret : fb_RV p l e rm_X5_raise s m args below meth c G cX5_raise Qm Q) {r3 : Int → Int → Int → Int → Int → fb_St → Prop} (h3 : TT_X5_raise_3 p l e s m args below meth c Qm G r3) {r15 : Int → Int → Int → Int → Int → Int → fb_St → Prop} (h15 : TT_X5_raise_15 p l e s m args below meth c Qm G r15) : TT_X5_raise_15 p l e s m args below meth c Qm G (wb_X5_raise_15 r3 r15 Q) := by
  intro x1 x2 x3 x4 x5 x6 σ H locs ls w hl ix1 ix2 ix3 ix4 ix5 ix6 h
  unfold wb_X5_raise_15 at h
  refine lv_iload C.1.1 C.1.2.1 dX5_raise_15 (lv_at hl 6 rfl) ?_
  refine lv_aload_n C.1.1 C.1.2.1 dX5_raise_17 rfl (lv_at hl 0 rfl) ?_
  refine fb_gi C w 0 (fb_k1 G) rfl rfl fl_X5_9 dX5_raise_18 ?_
  have i3 := w.2.2.2 1 0
  refine fb_icmp_ge (tgt := 122) C ix6 i3 dX5_raise_21 (by decide) (fun c4 => ?_) (fun c4 => ?_)
  · have h := h.2 c4
    obtain ⟨i5, h⟩ := h
    refine fb_iinc (b := x5 + 1) (k := 5) (lv' := [(5, .int (fb_I (x5 + 1))), (0, .ref (fb_ad G 1)), (1, .int (fb_I x1)), (2, .int (fb_I x2)), (3, .int (fb_I x3)), (4, .int (fb_I x4)), (6, .int (fb_I x6))]) C dX5_raise_122 hl rfl rfl (by decide) rfl (fun ls hl => ?_)
    refine lv_goto (tgt := 3) C.1.1 C.1.2.1 dX5_raise_125 (by decide) ?_
    exact h3 x1 x2 x3 x4 (x5 + 1) _ _ _ _ w (lv_sub hl [1, 2, 3, 4, 5, 0] rfl) ix1 ix2 ix3 ix4 i5 h
  · have h := h.1 c4
    refine lv_iload C.1.1 C.1.2.1 dX5_raise_24 (lv_at hl 6 rfl) ?_
    refine lv_iload_n C.1.1 C.1.2.1 dX5_raise_26 rfl (lv_at hl 1 rfl) ?_
    obtain ⟨i6, h⟩ := h
    refine fb_isub C dX5_raise_27 ?_
    obtain ⟨i7, h⟩ := h
    refine fb_mabs C i6 ml_X5_45 ⟨Nat.le_of_ble_eq_true rfl, Nat.le_of_ble_eq_true rfl, Nat.zero_le _, Nat.zero_le _⟩ hl.1 dX5_raise_28 ?_
    refine lv_iload C.1.1 C.1.2.1 dX5_raise_31 (lv_at hl 5 rfl) ?_
    refine lv_iload_n C.1.1 C.1.2.1 dX5_raise_33 rfl (lv_at hl 2 rfl) ?_
    obtain ⟨i8, h⟩ := h
    refine fb_isub C dX5_raise_34 ?_
    obtain ⟨i9, h⟩ := h
    refine fb_mabs C i8 ml_X5_45 ⟨Nat.le_of_ble_eq_true rfl, Nat.le_of_ble_eq_true rfl, Nat.zero_le _, Nat.zero_le _⟩ hl.1 dX5_raise_35 ?_
    obtain ⟨i10, h⟩ := h
    refine fb_iadd C dX5_raise_38 ?_
    refine fb_top (fun v11 ev11 => ?_)
    have h := h v11 ev11
    have iv11 := fb_ie ev11 i10
    refine lv_istore (lv' := [(7, .int (fb_I v11)), (0, .ref (fb_ad G 1)), (1, .int (fb_I x1)), (2, .int (fb_I x2)), (3, .int (fb_I x3)), (4, .int (fb_I x4)), (5, .int (fb_I x5)), (6, .int (fb_I x6))]) C.1.1 C.1.2.1 dX5_raise_39 hl (by decide) rfl (fun ls hl => ?_)
    refine lv_iload_n C.1.1 C.1.2.1 dX5_raise_41 rfl (lv_at hl 4 rfl) ?_
    obtain ⟨i12, h⟩ := h
    refine fb_mabs C ix3 ml_X5_45 ⟨Nat.le_of_ble_eq_true rfl, Nat.le_of_ble_eq_true rfl, Nat.zero_le _, Nat.zero_le _⟩ hl.1 dX5_raise_42 ?_
    refine lv_iload C.1.1 C.1.2.1 dX5_raise_45 (lv_at hl 5 rfl) ?_
    refine lv_iload C.1.1 C.1.2.1 dX5_raise_47 (lv_at hl 0 rfl) ?_
    obtain ⟨i13, h⟩ := h
    refine fb_imul C dX5_raise_49 ?_
    obtain ⟨i14, h⟩ := h
    refine fb_isub C dX5_raise_50 ?_
    refine fb_iconst C dX5_raise_51 ?_
    refine fb_mmax C i14 (by decide) ml_X5_51 ⟨Nat.le_of_ble_eq_true rfl, Nat.le_of_ble_eq_true rfl, Nat.zero_le _, Nat.zero_le _⟩ hl.1 dX5_raise_52 ?_
    refine fb_top (fun v15 ev15 => ?_)
    have h := h v15 ev15
    have iv15 := fb_ie ev15 (fb_in_max i14 (by decide))
    refine lv_istore (lv' := [(8, .int (fb_I v15)), (7, .int (fb_I v11)), (0, .ref (fb_ad G 1)), (1, .int (fb_I x1)), (2, .int (fb_I x2)), (3, .int (fb_I x3)), (4, .int (fb_I x4)), (5, .int (fb_I x5)), (6, .int (fb_I x6))]) C.1.1 C.1.2.1 dX5_raise_55 hl (by decide) rfl (fun ls hl => ?_)
    refine lv_iload C.1.1 C.1.2.1 dX5_raise_57 (lv_at hl 7 rfl) ?_
    refine lv_aload_n C.1.1 C.1.2.1 dX5_raise_59 rfl (lv_at hl 2 rfl) ?_
    refine fb_gi C w 0 (fb_k1 G) rfl rfl fl_X5_9 dX5_raise_60 ?_
    have i16 := w.2.2.2 1 0
    obtain ⟨i17, h⟩ := h
    refine fb_imul C dX5_raise_63 ?_
    refine lv_iload C.1.1 C.1.2.1 dX5_raise_64 (lv_at hl 8 rfl) ?_
    obtain ⟨i18, h⟩ := h
    refine fb_iadd C dX5_raise_66 ?_
    refine fb_top (fun v19 ev19 => ?_)
    have h := h v19 ev19
    have iv19 := fb_ie ev19 i18
    refine lv_istore (lv' := [(9, .int (fb_I v19)), (8, .int (fb_I v15)), (7, .int (fb_I v11)), (0, .ref (fb_ad G 1)), (1, .int (fb_I x1)), (2, .int (fb_I x2)), (3, .int (fb_I x3)), (4, .int (fb_I x4)), (5, .int (fb_I x5)), (6, .int (fb_I x6))]) C.1.1 C.1.2.1 dX5_raise_67 hl (by decide) rfl (fun ls hl => ?_)
    refine lv_iload_n C.1.1 C.1.2.1 dX5_raise_69 rfl (lv_at hl 6 rfl) ?_
    refine fb_if_ge (tgt := 86) C ix3 dX5_raise_70 (by decide) (fun c20 => ?_) (fun c20 => ?_)
    · have h := h.2 c20
      refine lv_aload_n C.1.1 C.1.2.1 dX5_raise_86 rfl (lv_at hl 3 rfl) ?_
      refine fb_getr (k2 := 2) C w (fb_k1 G) rfl fl_X5_21 dX5_raise_87 ?_
      refine lv_iload C.1.1 C.1.2.1 dX5_raise_90 (lv_at hl 0 rfl) ?_
      obtain ⟨z21, z22, h⟩ := h
      refine fb_al C w 144 (fb_k2 G) rfl rfl z21 z22 dX5_raise_92 ?_
      have i23 := w.2.2.2 2 v19
      refine lv_iload C.1.1 C.1.2.1 dX5_raise_93 (lv_at hl 1 rfl) ?_
      obtain ⟨i24, h⟩ := h
      refine fb_iadd C dX5_raise_95 ?_
      exact tw_X5_raise_96 C hret h3 h15 x1 x2 x3 x4 x5 x6 v19 ((σ 2 v19) + v15) _ _ _ _ w (lv_sub hl [3, 4, 5, 6, 7, 8, 9, 0] rfl) ix1 ix2 ix3 ix4 ix5 ix6 iv19 i24 h
    · have h := h.1 c20
      refine lv_aload_n C.1.1 C.1.2.1 dX5_raise_73 rfl (lv_at hl 3 rfl) ?_
      refine fb_getr (k2 := 2) C w (fb_k1 G) rfl fl_X5_21 dX5_raise_74 ?_
      refine lv_iload C.1.1 C.1.2.1 dX5_raise_77 (lv_at hl 0 rfl) ?_
      obtain ⟨z25, z26, h⟩ := h
      refine fb_al C w 144 (fb_k2 G) rfl rfl z25 z26 dX5_raise_79 ?_
      have i27 := w.2.2.2 2 v19
      refine lv_iload C.1.1 C.1.2.1 dX5_raise_80 (lv_at hl 1 rfl) ?_
      obtain ⟨i28, h⟩ := h
      refine fb_isub C dX5_raise_82 ?_
      refine lv_goto (tgt := 96) C.1.1 C.1.2.1 dX5_raise_83 (by decide) ?_
      exact tw_X5_raise_96 C hret h3 h15 x1 x2 x3 x4 x5 x6 v19 ((σ 2 v19) - v15) _ _ _ _ w (lv_sub hl [3, 4, 5, 6, 7, 8, 9, 0] rfl) ix1 ix2 ix3 ix4 ix5 ix6 iv19 i28 h
theorem tl_X5_raise_15 (C : fb_C p s m args meth c G RX5 cX5_raise 11) (hret : fb_RV p l e rm_X5_raise s m args below meth c G cX5_raise Qm Q) {r3 : Int → Int → Int → Int → Int → fb_St → Prop} (h3 : TT_X5_raise_3 p l e s m args below meth c Qm G r3) : ∀ n : Nat, TT_X5_raise_15 p l e s m args below meth c Qm G (wl_X5_raise_15 r3 Q n) := by
  intro n
  induction n with
  | zero => intro x1 x2 x3 x4 x5 x6 σ H locs ls w hl ix1 ix2 ix3 ix4 ix5 ix6 h; exact h.elim
  | succ n ih => exact tw_X5_raise_15 C hret h3 ih
set_option maxRecDepth 100000 in
set_option maxHeartbeats 4000000 in
theorem tw_X5_raise_3 (C : fb_C p s m args meth c G RX5 cX5_raise 11) (hret : fb_RV p l e rm_X5_raise s m args below meth c G cX5_raise Qm Q) {r3 : Int → Int → Int → Int → Int → fb_St → Prop} (h3 : TT_X5_raise_3 p l e s m args below meth c Qm G r3) : TT_X5_raise_3 p l e s m args below meth c Qm G (wb_X5_raise_3 r3 Q) := by
  intro x1 x2 x3 x4 x5 σ H locs ls w hl ix1 ix2 ix3 ix4 ix5 h
  unfold wb_X5_raise_3 at h
  refine lv_iload C.1.1 C.1.2.1 dX5_raise_3 (lv_at hl 5 rfl) ?_
  refine lv_aload_n C.1.1 C.1.2.1 dX5_raise_5 rfl (lv_at hl 0 rfl) ?_
  refine fb_gi C w 1 (fb_k1 G) rfl rfl fl_X5_15 dX5_raise_6 ?_
  have i1 := w.2.2.2 1 1
  refine fb_icmp_ge (tgt := 128) C ix5 i1 dX5_raise_9 (by decide) (fun c2 => ?_) (fun c2 => ?_)
  · have h := h.2 c2
    exact hret _ _ _ _ _ h w dX5_raise_128
  · have h := h.1 c2
    refine fb_iconst C dX5_raise_12 ?_
    refine lv_istore (lv' := [(6, .int (fb_I 0)), (0, .ref (fb_ad G 1)), (1, .int (fb_I x1)), (2, .int (fb_I x2)), (3, .int (fb_I x3)), (4, .int (fb_I x4)), (5, .int (fb_I x5))]) C.1.1 C.1.2.1 dX5_raise_13 hl (by decide) rfl (fun ls hl => ?_)
    obtain ⟨n, h⟩ := h
    exact tl_X5_raise_15 C hret h3 n x1 x2 x3 x4 x5 0 _ _ _ _ w (lv_sub hl [1, 2, 3, 4, 5, 6, 0] rfl) ix1 ix2 ix3 ix4 ix5 (by decide) h
theorem tl_X5_raise_3 (C : fb_C p s m args meth c G RX5 cX5_raise 11) (hret : fb_RV p l e rm_X5_raise s m args below meth c G cX5_raise Qm Q) : ∀ n : Nat, TT_X5_raise_3 p l e s m args below meth c Qm G (wl_X5_raise_3 Q n) := by
  intro n
  induction n with
  | zero => intro x1 x2 x3 x4 x5 σ H locs ls w hl ix1 ix2 ix3 ix4 ix5 h; exact h.elim
  | succ n ih => exact tw_X5_raise_3 C hret ih
set_option maxRecDepth 100000 in
set_option maxHeartbeats 4000000 in
theorem tw_X5_raise_0 (C : fb_C p s m args meth c G RX5 cX5_raise 11) (hret : fb_RV p l e rm_X5_raise s m args below meth c G cX5_raise Qm Q) : TT_X5_raise_0 p l e s m args below meth c Qm G (fun x1 x2 x3 x4 σ => wp_X5_raise x1 x2 x3 x4 σ Q) := by
  intro x1 x2 x3 x4 σ H locs ls w hl ix1 ix2 ix3 ix4 h
  unfold wp_X5_raise at h
  refine fb_iconst C dX5_raise_0 ?_
  refine lv_istore (lv' := [(5, .int (fb_I 0)), (0, .ref (fb_ad G 1)), (1, .int (fb_I x1)), (2, .int (fb_I x2)), (3, .int (fb_I x3)), (4, .int (fb_I x4))]) C.1.1 C.1.2.1 dX5_raise_1 hl (by decide) rfl (fun ls hl => ?_)
  obtain ⟨n, h⟩ := h
  exact tl_X5_raise_3 C hret n x1 x2 x3 x4 0 _ _ _ _ w (lv_sub hl [1, 2, 3, 4, 5, 0] rfl) ix1 ix2 ix3 ix4 (by decide) h
theorem ct_X5_raise (l : Launch) (G : fb_G) {x1 : Int} {x2 : Int} {x3 : Int} {x4 : Int} {σ : fb_St} (ix1 : fb_in x1) (ix2 : fb_in x2) (ix3 : fb_in x3) (ix4 : fb_in x4) (h : wp_X5_raise x1 x2 x3 x4 σ Q) : fb_MV l G yX5_raise cX5_raise 11 rm_X5_raise [.ref (fb_ad G 1), .int (fb_I x1), .int (fb_I x2), .int (fb_I x3), .int (fb_I x4)] σ Q := by
  refine fb_ofW (own := RX5) (by decide) (Nat.le_of_ble_eq_true rfl) rfl (fun p e s m args below meth c ls C hr hl w => ?_)
  exact tw_X5_raise_0 C (fb_retv C hr) _ _ _ _ _ _ _ _ w hl ix1 ix2 ix3 ix4 h
end S_X5_raise
section S_X6_heap
variable {p : Program} {l : Launch} {e : Env} {s : State} {m : MethodId} {args : Array Value} {below : List Frame} {meth : Method} {c : Code} {Qm : State → Prop} {G : fb_G} {Q : Int → fb_St → Prop}
abbrev TT_X6_heap_47 (p : Program) (l : Launch) (e : Env) (s : State) (m : MethodId) (args : Array Value) (below : List Frame) (meth : Method) (c : Code) (Qm : State → Prop) (G : fb_G) (r : fb_St → Prop) : Prop := ∀ (σ : fb_St) (H : Heap) (locs : List Loc) (ls : Array Slot), fb_Wd G s σ H locs → lv_has ls 6 [] → r σ → W p l e rm_X6_heap s m args below meth c H locs 0 0 Qm (F0 m 47 ls [])
abbrev TT_X6_heap_27 (p : Program) (l : Launch) (e : Env) (s : State) (m : MethodId) (args : Array Value) (below : List Frame) (meth : Method) (c : Code) (Qm : State → Prop) (G : fb_G) (r : Int → Int → Int → Int → Int → fb_St → Prop) : Prop := ∀ (x1 x2 x3 x4 s0 : Int) (σ : fb_St) (H : Heap) (locs : List Loc) (ls : Array Slot), fb_Wd G s σ H locs → lv_has ls 6 [(0, .ref (fb_ad G 0)), (1, .int (fb_I x1)), (2, .int (fb_I x2)), (3, .int (fb_I x3)), (4, .int (fb_I x4))] → fb_in x1 → fb_in x2 → fb_in x3 → fb_in x4 → fb_in s0 → r x1 x2 x3 x4 s0 σ → W p l e rm_X6_heap s m args below meth c H locs 0 0 Qm (F0 m 27 ls [.int (fb_I s0)])
abbrev TT_X6_heap_26 (p : Program) (l : Launch) (e : Env) (s : State) (m : MethodId) (args : Array Value) (below : List Frame) (meth : Method) (c : Code) (Qm : State → Prop) (G : fb_G) (r : Int → Int → Int → Int → fb_St → Prop) : Prop := ∀ (x1 x2 x3 x4 : Int) (σ : fb_St) (H : Heap) (locs : List Loc) (ls : Array Slot), fb_Wd G s σ H locs → lv_has ls 6 [(0, .ref (fb_ad G 0)), (1, .int (fb_I x1)), (2, .int (fb_I x2)), (3, .int (fb_I x3)), (4, .int (fb_I x4))] → fb_in x1 → fb_in x2 → fb_in x3 → fb_in x4 → r x1 x2 x3 x4 σ → W p l e rm_X6_heap s m args below meth c H locs 0 0 Qm (F0 m 26 ls [])
abbrev TT_X6_heap_0 (p : Program) (l : Launch) (e : Env) (s : State) (m : MethodId) (args : Array Value) (below : List Frame) (meth : Method) (c : Code) (Qm : State → Prop) (G : fb_G) (r : Int → Int → Int → Int → fb_St → Prop) : Prop := ∀ (x1 x2 x3 x4 : Int) (σ : fb_St) (H : Heap) (locs : List Loc) (ls : Array Slot), fb_Wd G s σ H locs → lv_has ls 6 [(0, .ref (fb_ad G 0)), (1, .int (fb_I x1)), (2, .int (fb_I x2)), (3, .int (fb_I x3)), (4, .int (fb_I x4))] → fb_in x1 → fb_in x2 → fb_in x3 → fb_in x4 → r x1 x2 x3 x4 σ → W p l e rm_X6_heap s m args below meth c H locs 0 0 Qm (F0 m 0 ls [])
set_option maxRecDepth 100000 in
set_option maxHeartbeats 4000000 in
theorem tw_X6_heap_47 (C : fb_C p s m args meth c G RX6 cX6_heap 6) (hret : fb_RI p l e rm_X6_heap s m args below meth c G cX6_heap Qm Q) : TT_X6_heap_47 p l e s m args below meth c Qm G (wj_X6_heap_47 Q) := by
  intro σ H locs ls w hl h
  unfold wj_X6_heap_47 at h
  refine fb_bipush C dX6_heap_47 (by decide) ?_
  exact hret _ _ _ _ _ _ (by decide) h w dX6_heap_49
set_option maxRecDepth 100000 in
set_option maxHeartbeats 4000000 in
theorem tw_X6_heap_27 (C : fb_C p s m args meth c G RX6 cX6_heap 6) (hret : fb_RI p l e rm_X6_heap s m args below meth c G cX6_heap Qm Q) : TT_X6_heap_27 p l e s m args below meth c Qm G (wj_X6_heap_27 Q) := by
  intro x1 x2 x3 x4 s0 σ H locs ls w hl ix1 ix2 ix3 ix4 is0 h
  unfold wj_X6_heap_27 at h
  refine lv_istore (lv' := [(5, .int (fb_I s0)), (0, .ref (fb_ad G 0)), (1, .int (fb_I x1)), (2, .int (fb_I x2)), (3, .int (fb_I x3)), (4, .int (fb_I x4))]) C.1.1 C.1.2.1 dX6_heap_27 hl (by decide) rfl (fun ls hl => ?_)
  refine lv_aload_n C.1.1 C.1.2.1 dX6_heap_29 rfl (lv_at hl 1 rfl) ?_
  refine fb_getr (k2 := 1) C w (fb_k0 G) rfl fl_X6_10 dX6_heap_30 ?_
  refine lv_iload_n C.1.1 C.1.2.1 dX6_heap_33 rfl (lv_at hl 2 rfl) ?_
  refine lv_iload_n C.1.1 C.1.2.1 dX6_heap_34 rfl (lv_at hl 3 rfl) ?_
  refine fb_callVi (As := [.int (fb_I x1), .int (fb_I x2)]) (rest := []) C w (ct_X5_dotAt l G ix1 ix2 h) mv_X6_83 (fb_k1 G) rfl ⟨rfl, rfl, Nat.le_of_ble_eq_true rfl, Nat.le_of_ble_eq_true rfl, Nat.zero_le _, Nat.zero_le _⟩ rfl hl.1 rfl (Nat.le_of_ble_eq_true rfl) dX6_heap_35 (fun a5 σ5 H locs h ia5 w => ?_)
  refine fb_iconst C dX6_heap_38 ?_
  refine fb_icmp_eq (tgt := 47) C ia5 (by decide) dX6_heap_39 (by decide) (fun c6 => ?_) (fun c6 => ?_)
  · have h := h.1 c6
    exact tw_X6_heap_47 C hret _ _ _ _ w (lv_sub hl [] rfl) h
  · have h := h.2 c6
    refine lv_iload C.1.1 C.1.2.1 dX6_heap_42 (lv_at hl 0 rfl) ?_
    refine fb_if_ne (tgt := 50) C is0 dX6_heap_44 (by decide) (fun c7 => ?_) (fun c7 => ?_)
    · have h := h.2 c7
      refine lv_aload_n C.1.1 C.1.2.1 dX6_heap_50 rfl (lv_at hl 1 rfl) ?_
      refine fb_getr (k2 := 1) C w (fb_k0 G) rfl fl_X6_10 dX6_heap_51 ?_
      refine lv_iload_n C.1.1 C.1.2.1 dX6_heap_54 rfl (lv_at hl 2 rfl) ?_
      refine lv_iload_n C.1.1 C.1.2.1 dX6_heap_55 rfl (lv_at hl 3 rfl) ?_
      refine lv_iload_n C.1.1 C.1.2.1 dX6_heap_56 rfl (lv_at hl 4 rfl) ?_
      refine lv_iload C.1.1 C.1.2.1 dX6_heap_57 (lv_at hl 5 rfl) ?_
      refine fb_callVv (As := [.int (fb_I x1), .int (fb_I x2), .int (fb_I x3), .int (fb_I x4)]) (rest := []) C w (ct_X5_raise l G ix1 ix2 ix3 ix4 h) mv_X6_87 (fb_k1 G) rfl ⟨rfl, rfl, Nat.le_of_ble_eq_true rfl, Nat.le_of_ble_eq_true rfl, Nat.zero_le _, Nat.zero_le _⟩ rfl hl.1 rfl (Nat.le_of_ble_eq_true rfl) dX6_heap_59 (fun σ8 H locs h w => ?_)
      refine lv_aload_n C.1.1 C.1.2.1 dX6_heap_62 rfl (lv_at hl 1 rfl) ?_
      refine fb_callVi (As := []) (rest := []) C w (ct_X6_pitsAfterChange l G h) mv_X6_75 (fb_k0 G) rfl ⟨rfl, rfl, Nat.le_of_ble_eq_true rfl, Nat.le_of_ble_eq_true rfl, Nat.zero_le _, Nat.zero_le _⟩ rfl hl.1 rfl (Nat.le_of_ble_eq_true rfl) dX6_heap_63 (fun a9 σ9 H locs h ia9 w => ?_)
      exact hret _ _ _ _ _ _ ia9 h w dX6_heap_66
    · have h := h.1 c7
      exact tw_X6_heap_47 C hret _ _ _ _ w (lv_sub hl [] rfl) h
set_option maxRecDepth 100000 in
set_option maxHeartbeats 4000000 in
theorem tw_X6_heap_26 (C : fb_C p s m args meth c G RX6 cX6_heap 6) (hret : fb_RI p l e rm_X6_heap s m args below meth c G cX6_heap Qm Q) : TT_X6_heap_26 p l e s m args below meth c Qm G (wj_X6_heap_26 Q) := by
  intro x1 x2 x3 x4 σ H locs ls w hl ix1 ix2 ix3 ix4 h
  unfold wj_X6_heap_26 at h
  refine fb_iconst C dX6_heap_26 ?_
  exact tw_X6_heap_27 C hret x1 x2 x3 x4 0 _ _ _ _ w (lv_sub hl [0, 1, 2, 3, 4] rfl) ix1 ix2 ix3 ix4 (by decide) h
set_option maxRecDepth 100000 in
set_option maxHeartbeats 4000000 in
theorem tw_X6_heap_0 (C : fb_C p s m args meth c G RX6 cX6_heap 6) (hret : fb_RI p l e rm_X6_heap s m args below meth c G cX6_heap Qm Q) : TT_X6_heap_0 p l e s m args below meth c Qm G (fun x1 x2 x3 x4 σ => wp_X6_heap x1 x2 x3 x4 σ Q) := by
  intro x1 x2 x3 x4 σ H locs ls w hl ix1 ix2 ix3 ix4 h
  unfold wp_X6_heap at h
  refine lv_iload_n C.1.1 C.1.2.1 dX6_heap_0 rfl (lv_at hl 3 rfl) ?_
  refine fb_bipush C dX6_heap_1 (by decide) ?_
  refine fb_bipush C dX6_heap_3 (by decide) ?_
  refine fb_callSi (As := [.int (fb_I x3), .int (fb_I (-99)), .int (fb_I 99)]) (rest := []) C w (ct_X6_within l G ix3 (by decide) (by decide) h) ms_X6_68 ⟨rfl, rfl, Nat.le_of_ble_eq_true rfl, Nat.le_of_ble_eq_true rfl, Nat.zero_le _, Nat.zero_le _⟩ rfl hl.1 rfl (Nat.le_of_ble_eq_true rfl) dX6_heap_5 (fun a1 σ1 H locs h ia1 w => ?_)
  refine fb_if_eq (tgt := 26) C ia1 dX6_heap_8 (by decide) (fun c2 => ?_) (fun c2 => ?_)
  · have h := h.1 c2
    exact tw_X6_heap_26 C hret x1 x2 x3 x4 _ _ _ _ w (lv_sub hl [0, 1, 2, 3, 4] rfl) ix1 ix2 ix3 ix4 h
  · have h := h.2 c2
    refine lv_iload C.1.1 C.1.2.1 dX6_heap_11 (lv_at hl 4 rfl) ?_
    refine fb_iconst C dX6_heap_13 ?_
    refine fb_bipush C dX6_heap_14 (by decide) ?_
    refine fb_callSi (As := [.int (fb_I x4), .int (fb_I 0), .int (fb_I 50)]) (rest := []) C w (ct_X6_within l G ix4 (by decide) (by decide) h) ms_X6_68 ⟨rfl, rfl, Nat.le_of_ble_eq_true rfl, Nat.le_of_ble_eq_true rfl, Nat.zero_le _, Nat.zero_le _⟩ rfl hl.1 rfl (Nat.le_of_ble_eq_true rfl) dX6_heap_16 (fun a3 σ3 H locs h ia3 w => ?_)
    refine fb_if_eq (tgt := 26) C ia3 dX6_heap_19 (by decide) (fun c4 => ?_) (fun c4 => ?_)
    · have h := h.1 c4
      exact tw_X6_heap_26 C hret x1 x2 x3 x4 _ _ _ _ w (lv_sub hl [0, 1, 2, 3, 4] rfl) ix1 ix2 ix3 ix4 h
    · have h := h.2 c4
      refine fb_iconst C dX6_heap_22 ?_
      refine lv_goto (tgt := 27) C.1.1 C.1.2.1 dX6_heap_23 (by decide) ?_
      exact tw_X6_heap_27 C hret x1 x2 x3 x4 1 _ _ _ _ w (lv_sub hl [0, 1, 2, 3, 4] rfl) ix1 ix2 ix3 ix4 (by decide) h
theorem ct_X6_heap (l : Launch) (G : fb_G) {x1 : Int} {x2 : Int} {x3 : Int} {x4 : Int} {σ : fb_St} (ix1 : fb_in x1) (ix2 : fb_in x2) (ix3 : fb_in x3) (ix4 : fb_in x4) (h : wp_X6_heap x1 x2 x3 x4 σ Q) : fb_MI l G yX6_heap cX6_heap 6 (some .int) rm_X6_heap [.ref (fb_ad G 0), .int (fb_I x1), .int (fb_I x2), .int (fb_I x3), .int (fb_I x4)] σ Q := by
  refine fb_ofW (own := RX6) (by decide) (Nat.le_of_ble_eq_true rfl) rfl (fun p e s m args below meth c ls C hr hl w => ?_)
  exact tw_X6_heap_0 C (fb_reti C hr) _ _ _ _ _ _ _ _ w hl ix1 ix2 ix3 ix4 h
end S_X6_heap
section S_X6_put
variable {p : Program} {l : Launch} {e : Env} {s : State} {m : MethodId} {args : Array Value} {below : List Frame} {meth : Method} {c : Code} {Qm : State → Prop} {G : fb_G} {Q : Int → fb_St → Prop}
abbrev TT_X6_put_27 (p : Program) (l : Launch) (e : Env) (s : State) (m : MethodId) (args : Array Value) (below : List Frame) (meth : Method) (c : Code) (Qm : State → Prop) (G : fb_G) (r : fb_St → Prop) : Prop := ∀ (σ : fb_St) (H : Heap) (locs : List Loc) (ls : Array Slot), fb_Wd G s σ H locs → lv_has ls 5 [] → r σ → W p l e rm_X6_put s m args below meth c H locs 0 0 Qm (F0 m 27 ls [])
abbrev TT_X6_put_0 (p : Program) (l : Launch) (e : Env) (s : State) (m : MethodId) (args : Array Value) (below : List Frame) (meth : Method) (c : Code) (Qm : State → Prop) (G : fb_G) (r : Int → Int → Int → fb_St → Prop) : Prop := ∀ (x1 x2 x3 : Int) (σ : fb_St) (H : Heap) (locs : List Loc) (ls : Array Slot), fb_Wd G s σ H locs → lv_has ls 5 [(0, .ref (fb_ad G 0)), (1, .int (fb_I x1)), (2, .int (fb_I x2)), (3, .int (fb_I x3))] → fb_in x1 → fb_in x2 → fb_in x3 → r x1 x2 x3 σ → W p l e rm_X6_put s m args below meth c H locs 0 0 Qm (F0 m 0 ls [])
set_option maxRecDepth 100000 in
set_option maxHeartbeats 4000000 in
theorem tw_X6_put_27 (C : fb_C p s m args meth c G RX6 cX6_put 5) (hret : fb_RI p l e rm_X6_put s m args below meth c G cX6_put Qm Q) : TT_X6_put_27 p l e s m args below meth c Qm G (wj_X6_put_27 Q) := by
  intro σ H locs ls w hl h
  unfold wj_X6_put_27 at h
  refine fb_bipush C dX6_put_27 (by decide) ?_
  exact hret _ _ _ _ _ _ (by decide) h w dX6_put_29
set_option maxRecDepth 100000 in
set_option maxHeartbeats 4000000 in
theorem tw_X6_put_0 (C : fb_C p s m args meth c G RX6 cX6_put 5) (hret : fb_RI p l e rm_X6_put s m args below meth c G cX6_put Qm Q) : TT_X6_put_0 p l e s m args below meth c Qm G (fun x1 x2 x3 σ => wp_X6_put x1 x2 x3 σ Q) := by
  intro x1 x2 x3 σ H locs ls w hl ix1 ix2 ix3 h
  unfold wp_X6_put at h
  refine lv_aload_n C.1.1 C.1.2.1 dX6_put_0 rfl (lv_at hl 0 rfl) ?_
  refine fb_getr (k2 := 1) C w (fb_k0 G) rfl fl_X6_10 dX6_put_1 ?_
  refine lv_iload_n C.1.1 C.1.2.1 dX6_put_4 rfl (lv_at hl 1 rfl) ?_
  refine lv_iload_n C.1.1 C.1.2.1 dX6_put_5 rfl (lv_at hl 2 rfl) ?_
  refine fb_callVi (As := [.int (fb_I x1), .int (fb_I x2)]) (rest := []) C w (ct_X5_dotAt l G ix1 ix2 h) mv_X6_83 (fb_k1 G) rfl ⟨rfl, rfl, Nat.le_of_ble_eq_true rfl, Nat.le_of_ble_eq_true rfl, Nat.zero_le _, Nat.zero_le _⟩ rfl hl.1 rfl (Nat.le_of_ble_eq_true rfl) dX6_put_6 (fun a1 σ1 H locs h ia1 w => ?_)
  refine lv_istore (lv' := [(4, .int (fb_I a1)), (0, .ref (fb_ad G 0)), (1, .int (fb_I x1)), (2, .int (fb_I x2)), (3, .int (fb_I x3))]) C.1.1 C.1.2.1 dX6_put_9 hl (by decide) rfl (fun ls hl => ?_)
  refine lv_iload C.1.1 C.1.2.1 dX6_put_11 (lv_at hl 0 rfl) ?_
  refine fb_iconst C dX6_put_13 ?_
  refine fb_icmp_eq (tgt := 27) C ia1 (by decide) dX6_put_14 (by decide) (fun c2 => ?_) (fun c2 => ?_)
  · have h := h.1 c2
    exact tw_X6_put_27 C hret _ _ _ _ w (lv_sub hl [] rfl) h
  · have h := h.2 c2
    refine lv_iload_n C.1.1 C.1.2.1 dX6_put_17 rfl (lv_at hl 4 rfl) ?_
    refine fb_iconst C dX6_put_18 ?_
    refine fb_bipush C dX6_put_19 (by decide) ?_
    refine fb_callSi (As := [.int (fb_I x3), .int (fb_I 0), .int (fb_I 99)]) (rest := []) C w (ct_X6_within l G ix3 (by decide) (by decide) h) ms_X6_68 ⟨rfl, rfl, Nat.le_of_ble_eq_true rfl, Nat.le_of_ble_eq_true rfl, Nat.zero_le _, Nat.zero_le _⟩ rfl hl.1 rfl (Nat.le_of_ble_eq_true rfl) dX6_put_21 (fun a3 σ3 H locs h ia3 w => ?_)
    refine fb_if_ne (tgt := 30) C ia3 dX6_put_24 (by decide) (fun c4 => ?_) (fun c4 => ?_)
    · have h := h.2 c4
      refine lv_aload_n C.1.1 C.1.2.1 dX6_put_30 rfl (lv_at hl 1 rfl) ?_
      refine fb_getr (k2 := 1) C w (fb_k0 G) rfl fl_X6_10 dX6_put_31 ?_
      refine fb_getr (k2 := 2) C w (fb_k1 G) rfl fl_X6_90 dX6_put_34 ?_
      refine lv_iload C.1.1 C.1.2.1 dX6_put_37 (lv_at hl 0 rfl) ?_
      refine lv_iload_n C.1.1 C.1.2.1 dX6_put_39 rfl (lv_at hl 4 rfl) ?_
      obtain ⟨z5, z6, h⟩ := h
      refine fb_as C w 144 (fb_k2 G) rfl rfl ix3 z5 z6 dX6_put_40 (fun σ7 H locs eσ7 w => ?_)
      have h := h σ7 eσ7
      refine lv_aload_n C.1.1 C.1.2.1 dX6_put_41 rfl (lv_at hl 1 rfl) ?_
      refine fb_callVi (As := []) (rest := []) C w (ct_X6_pitsAfterChange l G h) mv_X6_75 (fb_k0 G) rfl ⟨rfl, rfl, Nat.le_of_ble_eq_true rfl, Nat.le_of_ble_eq_true rfl, Nat.zero_le _, Nat.zero_le _⟩ rfl hl.1 rfl (Nat.le_of_ble_eq_true rfl) dX6_put_42 (fun a8 σ8 H locs h ia8 w => ?_)
      exact hret _ _ _ _ _ _ ia8 h w dX6_put_45
    · have h := h.1 c4
      exact tw_X6_put_27 C hret _ _ _ _ w (lv_sub hl [] rfl) h
theorem ct_X6_put (l : Launch) (G : fb_G) {x1 : Int} {x2 : Int} {x3 : Int} {σ : fb_St} (ix1 : fb_in x1) (ix2 : fb_in x2) (ix3 : fb_in x3) (h : wp_X6_put x1 x2 x3 σ Q) : fb_MI l G yX6_put cX6_put 5 (some .int) rm_X6_put [.ref (fb_ad G 0), .int (fb_I x1), .int (fb_I x2), .int (fb_I x3)] σ Q := by
  refine fb_ofW (own := RX6) (by decide) (Nat.le_of_ble_eq_true rfl) rfl (fun p e s m args below meth c ls C hr hl w => ?_)
  exact tw_X6_put_0 C (fb_reti C hr) _ _ _ _ _ _ _ w hl ix1 ix2 ix3 h
end S_X6_put
section S_X6_mark
variable {p : Program} {l : Launch} {e : Env} {s : State} {m : MethodId} {args : Array Value} {below : List Frame} {meth : Method} {c : Code} {Qm : State → Prop} {G : fb_G} {Q : Int → fb_St → Prop}
abbrev TT_X6_mark_27 (p : Program) (l : Launch) (e : Env) (s : State) (m : MethodId) (args : Array Value) (below : List Frame) (meth : Method) (c : Code) (Qm : State → Prop) (G : fb_G) (r : fb_St → Prop) : Prop := ∀ (σ : fb_St) (H : Heap) (locs : List Loc) (ls : Array Slot), fb_Wd G s σ H locs → lv_has ls 6 [] → r σ → W p l e rm_X6_mark s m args below meth c H locs 0 0 Qm (F0 m 27 ls [])
abbrev TT_X6_mark_0 (p : Program) (l : Launch) (e : Env) (s : State) (m : MethodId) (args : Array Value) (below : List Frame) (meth : Method) (c : Code) (Qm : State → Prop) (G : fb_G) (r : Int → Int → Int → fb_St → Prop) : Prop := ∀ (x1 x2 x3 : Int) (σ : fb_St) (H : Heap) (locs : List Loc) (ls : Array Slot), fb_Wd G s σ H locs → lv_has ls 6 [(0, .ref (fb_ad G 0)), (1, .int (fb_I x1)), (2, .int (fb_I x2)), (3, .int (fb_I x3))] → fb_in x1 → fb_in x2 → fb_in x3 → r x1 x2 x3 σ → W p l e rm_X6_mark s m args below meth c H locs 0 0 Qm (F0 m 0 ls [])
set_option maxRecDepth 100000 in
set_option maxHeartbeats 4000000 in
theorem tw_X6_mark_27 (C : fb_C p s m args meth c G RX6 cX6_mark 6) (hret : fb_RI p l e rm_X6_mark s m args below meth c G cX6_mark Qm Q) : TT_X6_mark_27 p l e s m args below meth c Qm G (wj_X6_mark_27 Q) := by
  intro σ H locs ls w hl h
  unfold wj_X6_mark_27 at h
  refine fb_bipush C dX6_mark_27 (by decide) ?_
  exact hret _ _ _ _ _ _ (by decide) h w dX6_mark_29
set_option maxRecDepth 100000 in
set_option maxHeartbeats 4000000 in
theorem tw_X6_mark_0 (C : fb_C p s m args meth c G RX6 cX6_mark 6) (hret : fb_RI p l e rm_X6_mark s m args below meth c G cX6_mark Qm Q) : TT_X6_mark_0 p l e s m args below meth c Qm G (fun x1 x2 x3 σ => wp_X6_mark x1 x2 x3 σ Q) := by
  intro x1 x2 x3 σ H locs ls w hl ix1 ix2 ix3 h
  unfold wp_X6_mark at h
  refine lv_aload_n C.1.1 C.1.2.1 dX6_mark_0 rfl (lv_at hl 0 rfl) ?_
  refine fb_getr (k2 := 1) C w (fb_k0 G) rfl fl_X6_10 dX6_mark_1 ?_
  refine lv_iload_n C.1.1 C.1.2.1 dX6_mark_4 rfl (lv_at hl 1 rfl) ?_
  refine lv_iload_n C.1.1 C.1.2.1 dX6_mark_5 rfl (lv_at hl 2 rfl) ?_
  refine fb_callVi (As := [.int (fb_I x1), .int (fb_I x2)]) (rest := []) C w (ct_X5_dotAt l G ix1 ix2 h) mv_X6_83 (fb_k1 G) rfl ⟨rfl, rfl, Nat.le_of_ble_eq_true rfl, Nat.le_of_ble_eq_true rfl, Nat.zero_le _, Nat.zero_le _⟩ rfl hl.1 rfl (Nat.le_of_ble_eq_true rfl) dX6_mark_6 (fun a1 σ1 H locs h ia1 w => ?_)
  refine lv_istore (lv' := [(4, .int (fb_I a1)), (0, .ref (fb_ad G 0)), (1, .int (fb_I x1)), (2, .int (fb_I x2)), (3, .int (fb_I x3))]) C.1.1 C.1.2.1 dX6_mark_9 hl (by decide) rfl (fun ls hl => ?_)
  refine lv_iload C.1.1 C.1.2.1 dX6_mark_11 (lv_at hl 0 rfl) ?_
  refine fb_iconst C dX6_mark_13 ?_
  refine fb_icmp_eq (tgt := 27) C ia1 (by decide) dX6_mark_14 (by decide) (fun c2 => ?_) (fun c2 => ?_)
  · have h := h.1 c2
    exact tw_X6_mark_27 C hret _ _ _ _ w (lv_sub hl [] rfl) h
  · have h := h.2 c2
    refine lv_iload_n C.1.1 C.1.2.1 dX6_mark_17 rfl (lv_at hl 4 rfl) ?_
    refine fb_iconst C dX6_mark_18 ?_
    refine fb_bipush C dX6_mark_19 (by decide) ?_
    refine fb_callSi (As := [.int (fb_I x3), .int (fb_I 0), .int (fb_I 99)]) (rest := []) C w (ct_X6_within l G ix3 (by decide) (by decide) h) ms_X6_68 ⟨rfl, rfl, Nat.le_of_ble_eq_true rfl, Nat.le_of_ble_eq_true rfl, Nat.zero_le _, Nat.zero_le _⟩ rfl hl.1 rfl (Nat.le_of_ble_eq_true rfl) dX6_mark_21 (fun a3 σ3 H locs h ia3 w => ?_)
    refine fb_if_ne (tgt := 30) C ia3 dX6_mark_24 (by decide) (fun c4 => ?_) (fun c4 => ?_)
    · have h := h.2 c4
      refine lv_aload_n C.1.1 C.1.2.1 dX6_mark_30 rfl (lv_at hl 1 rfl) ?_
      refine fb_getr (k2 := 1) C w (fb_k0 G) rfl fl_X6_10 dX6_mark_31 ?_
      refine fb_getr (k2 := 3) C w (fb_k1 G) rfl fl_X6_94 dX6_mark_34 ?_
      refine lv_iload C.1.1 C.1.2.1 dX6_mark_37 (lv_at hl 0 rfl) ?_
      obtain ⟨z5, z6, h⟩ := h
      refine fb_al C w 144 (fb_k3 G) rfl rfl z5 z6 dX6_mark_39 ?_
      have i7 := w.2.2.2 3 a1
      refine fb_top (fun v8 ev8 => ?_)
      have h := h v8 ev8
      have iv8 := fb_ie ev8 i7
      refine lv_istore (lv' := [(5, .int (fb_I v8)), (4, .int (fb_I a1)), (0, .ref (fb_ad G 0)), (1, .int (fb_I x1)), (2, .int (fb_I x2)), (3, .int (fb_I x3))]) C.1.1 C.1.2.1 dX6_mark_40 hl (by decide) rfl (fun ls hl => ?_)
      refine lv_aload_n C.1.1 C.1.2.1 dX6_mark_42 rfl (lv_at hl 2 rfl) ?_
      refine fb_getr (k2 := 1) C w (fb_k0 G) rfl fl_X6_10 dX6_mark_43 ?_
      refine fb_getr (k2 := 3) C w (fb_k1 G) rfl fl_X6_94 dX6_mark_46 ?_
      refine lv_iload C.1.1 C.1.2.1 dX6_mark_49 (lv_at hl 1 rfl) ?_
      refine lv_iload_n C.1.1 C.1.2.1 dX6_mark_51 rfl (lv_at hl 5 rfl) ?_
      obtain ⟨z9, z10, h⟩ := h
      refine fb_as C w 144 (fb_k3 G) rfl rfl ix3 z9 z10 dX6_mark_52 (fun σ11 H locs eσ11 w => ?_)
      have h := h σ11 eσ11
      refine lv_aload_n C.1.1 C.1.2.1 dX6_mark_53 rfl (lv_at hl 2 rfl) ?_
      refine fb_callVv (As := []) (rest := []) C w (ct_X6_nothingStands l G h) mv_X6_97 (fb_k0 G) rfl ⟨rfl, rfl, Nat.le_of_ble_eq_true rfl, Nat.le_of_ble_eq_true rfl, Nat.zero_le _, Nat.zero_le _⟩ rfl hl.1 rfl (Nat.le_of_ble_eq_true rfl) dX6_mark_54 (fun σ12 H locs h w => ?_)
      refine lv_iload C.1.1 C.1.2.1 dX6_mark_57 (lv_at hl 0 rfl) ?_
      exact hret _ _ _ _ _ _ iv8 h w dX6_mark_59
    · have h := h.1 c4
      exact tw_X6_mark_27 C hret _ _ _ _ w (lv_sub hl [] rfl) h
theorem ct_X6_mark (l : Launch) (G : fb_G) {x1 : Int} {x2 : Int} {x3 : Int} {σ : fb_St} (ix1 : fb_in x1) (ix2 : fb_in x2) (ix3 : fb_in x3) (h : wp_X6_mark x1 x2 x3 σ Q) : fb_MI l G yX6_mark cX6_mark 6 (some .int) rm_X6_mark [.ref (fb_ad G 0), .int (fb_I x1), .int (fb_I x2), .int (fb_I x3)] σ Q := by
  refine fb_ofW (own := RX6) (by decide) (Nat.le_of_ble_eq_true rfl) rfl (fun p e s m args below meth c ls C hr hl w => ?_)
  exact tw_X6_mark_0 C (fb_reti C hr) _ _ _ _ _ _ _ w hl ix1 ix2 ix3 h
end S_X6_mark
section S_X6_pits
variable {p : Program} {l : Launch} {e : Env} {s : State} {m : MethodId} {args : Array Value} {below : List Frame} {meth : Method} {c : Code} {Qm : State → Prop} {G : fb_G} {Q : Int → fb_St → Prop}
abbrev TT_X6_pits_0 (p : Program) (l : Launch) (e : Env) (s : State) (m : MethodId) (args : Array Value) (below : List Frame) (meth : Method) (c : Code) (Qm : State → Prop) (G : fb_G) (r : fb_St → Prop) : Prop := ∀ (σ : fb_St) (H : Heap) (locs : List Loc) (ls : Array Slot), fb_Wd G s σ H locs → lv_has ls 1 [(0, .ref (fb_ad G 0))] → r σ → W p l e rm_X6_pits s m args below meth c H locs 0 0 Qm (F0 m 0 ls [])
set_option maxRecDepth 100000 in
set_option maxHeartbeats 4000000 in
theorem tw_X6_pits_0 (C : fb_C p s m args meth c G RX6 cX6_pits 1) (hret : fb_RI p l e rm_X6_pits s m args below meth c G cX6_pits Qm Q) : TT_X6_pits_0 p l e s m args below meth c Qm G (fun σ => wp_X6_pits σ Q) := by
  intro σ H locs ls w hl h
  unfold wp_X6_pits at h
  refine lv_aload_n C.1.1 C.1.2.1 dX6_pits_0 rfl (lv_at hl 0 rfl) ?_
  refine fb_getr (k2 := 1) C w (fb_k0 G) rfl fl_X6_10 dX6_pits_1 ?_
  refine fb_getr (k2 := 3) C w (fb_k1 G) rfl fl_X6_94 dX6_pits_4 ?_
  refine fb_iconst C dX6_pits_7 ?_
  refine fb_callSv (rest := []) C w (fb_fillM l G (Qp := fun _ q => q = fb_fill σ 3 0) (fb_k3 G) (Nat.le_of_ble_eq_true rfl) (by decide) rfl) ms_X6_100 ⟨rfl, rfl, Nat.le_of_ble_eq_true rfl, Nat.le_of_ble_eq_true rfl, Nat.zero_le _, Nat.zero_le _⟩ rfl hl.1 rfl (Nat.le_of_ble_eq_true rfl) dX6_pits_8 (fun σ1 H locs eσ1 w => ?_)
  have h := h σ1 eσ1
  refine lv_aload_n C.1.1 C.1.2.1 dX6_pits_11 rfl (lv_at hl 0 rfl) ?_
  refine fb_callVv (As := []) (rest := []) C w (ct_X6_nothingStands l G h) mv_X6_97 (fb_k0 G) rfl ⟨rfl, rfl, Nat.le_of_ble_eq_true rfl, Nat.le_of_ble_eq_true rfl, Nat.zero_le _, Nat.zero_le _⟩ rfl hl.1 rfl (Nat.le_of_ble_eq_true rfl) dX6_pits_12 (fun σ2 H locs h w => ?_)
  refine lv_aload_n C.1.1 C.1.2.1 dX6_pits_15 rfl (lv_at hl 0 rfl) ?_
  refine fb_iconst C dX6_pits_16 ?_
  refine fb_callVi (As := [.int (fb_I 1)]) (rest := []) C w (ct_X6_findPits l G (by decide) h) mv_X6_106 (fb_k0 G) rfl ⟨rfl, rfl, Nat.le_of_ble_eq_true rfl, Nat.le_of_ble_eq_true rfl, Nat.zero_le _, Nat.zero_le _⟩ rfl hl.1 rfl (Nat.le_of_ble_eq_true rfl) dX6_pits_17 (fun a3 σ3 H locs h ia3 w => ?_)
  exact hret _ _ _ _ _ _ ia3 h w dX6_pits_20
theorem ct_X6_pits (l : Launch) (G : fb_G) {σ : fb_St} (h : wp_X6_pits σ Q) : fb_MI l G yX6_pits cX6_pits 1 (some .int) rm_X6_pits [.ref (fb_ad G 0)] σ Q := by
  refine fb_ofW (own := RX6) (by decide) (Nat.le_of_ble_eq_true rfl) rfl (fun p e s m args below meth c ls C hr hl w => ?_)
  exact tw_X6_pits_0 C (fb_reti C hr) _ _ _ _ w hl h
end S_X6_pits
section S_X2_empty
variable {p : Program} {l : Launch} {e : Env} {s : State} {m : MethodId} {args : Array Value} {below : List Frame} {meth : Method} {c : Code} {Qm : State → Prop} {G : fb_G} {Q : Int → fb_St → Prop}
abbrev TT_X2_empty_0 (p : Program) (l : Launch) (e : Env) (s : State) (m : MethodId) (args : Array Value) (below : List Frame) (meth : Method) (c : Code) (Qm : State → Prop) (G : fb_G) (r : fb_St → Prop) : Prop := ∀ (σ : fb_St) (H : Heap) (locs : List Loc) (ls : Array Slot), fb_Wd G s σ H locs → lv_has ls 1 [(0, .ref (fb_ad G 13))] → r σ → W p l e rm_X2_empty s m args below meth c H locs 0 0 Qm (F0 m 0 ls [])
set_option maxRecDepth 100000 in
set_option maxHeartbeats 4000000 in
theorem tw_X2_empty_0 (C : fb_C p s m args meth c G RX2 cX2_empty 1) (hret : fb_RV p l e rm_X2_empty s m args below meth c G cX2_empty Qm Q) : TT_X2_empty_0 p l e s m args below meth c Qm G (fun σ => wp_X2_empty σ Q) := by
  intro σ H locs ls w hl h
  unfold wp_X2_empty at h
  refine lv_aload_n C.1.1 C.1.2.1 dX2_empty_0 rfl (lv_at hl 0 rfl) ?_
  refine fb_getr (k2 := 14) C w (fb_k13 G) rfl fl_X2_9 dX2_empty_1 ?_
  refine fb_iconst C dX2_empty_4 ?_
  refine fb_callSv (rest := []) C w (fb_fillM l G (Qp := fun _ q => q = fb_fill σ 14 (-1)) (fb_k14 G) (Nat.le_of_ble_eq_true rfl) (by decide) rfl) ms_X2_25 ⟨rfl, rfl, Nat.le_of_ble_eq_true rfl, Nat.le_of_ble_eq_true rfl, Nat.zero_le _, Nat.zero_le _⟩ rfl hl.1 rfl (Nat.le_of_ble_eq_true rfl) dX2_empty_5 (fun σ1 H locs eσ1 w => ?_)
  have h := h σ1 eσ1
  refine lv_aload_n C.1.1 C.1.2.1 dX2_empty_8 rfl (lv_at hl 0 rfl) ?_
  refine fb_getr (k2 := 15) C w (fb_k13 G) rfl fl_X2_15 dX2_empty_9 ?_
  refine fb_iconst C dX2_empty_12 ?_
  refine fb_callSv (rest := []) C w (fb_fillM l G (Qp := fun _ q => q = fb_fill σ1 15 (-1)) (fb_k15 G) (Nat.le_of_ble_eq_true rfl) (by decide) rfl) ms_X2_25 ⟨rfl, rfl, Nat.le_of_ble_eq_true rfl, Nat.le_of_ble_eq_true rfl, Nat.zero_le _, Nat.zero_le _⟩ rfl hl.1 rfl (Nat.le_of_ble_eq_true rfl) dX2_empty_13 (fun σ2 H locs eσ2 w => ?_)
  have h := h σ2 eσ2
  refine lv_aload_n C.1.1 C.1.2.1 dX2_empty_16 rfl (lv_at hl 0 rfl) ?_
  refine fb_iconst C dX2_empty_17 ?_
  refine fb_pi C w 3 (fb_k13 G) rfl rfl fl_X2_21 tyX2_ok nmX2 rfl (by decide) rfl rfl dX2_empty_18 (fun σ3 H locs eσ3 w => ?_)
  have h := h σ3 eσ3
  exact hret _ _ _ _ _ h w dX2_empty_21
theorem ct_X2_empty (l : Launch) (G : fb_G) {σ : fb_St} (h : wp_X2_empty σ Q) : fb_MV l G yX2_empty cX2_empty 1 rm_X2_empty [.ref (fb_ad G 13)] σ Q := by
  refine fb_ofW (own := RX2) (by decide) (Nat.le_of_ble_eq_true rfl) rfl (fun p e s m args below meth c ls C hr hl w => ?_)
  exact tw_X2_empty_0 C (fb_retv C hr) _ _ _ _ w hl h
end S_X2_empty
section S_X0_startAtMarks
variable {p : Program} {l : Launch} {e : Env} {s : State} {m : MethodId} {args : Array Value} {below : List Frame} {meth : Method} {c : Code} {Qm : State → Prop} {G : fb_G} {Q : Int → fb_St → Prop}
abbrev TT_X0_startAtMarks_82 (p : Program) (l : Launch) (e : Env) (s : State) (m : MethodId) (args : Array Value) (below : List Frame) (meth : Method) (c : Code) (Qm : State → Prop) (G : fb_G) (r : Int → Int → Int → fb_St → Prop) : Prop := ∀ (x2 s0 s1 : Int) (σ : fb_St) (H : Heap) (locs : List Loc) (ls : Array Slot), fb_Wd G s σ H locs → lv_has ls 4 [(0, .ref (fb_ad G 8)), (1, .ref (fb_ad G 1)), (2, .int (fb_I x2))] → fb_in x2 → fb_in s0 → fb_in s1 → r x2 s0 s1 σ → W p l e rm_X0_startAtMarks s m args below meth c H locs 0 0 Qm (F0 m 82 ls [.int (fb_I s0), .int (fb_I s1), .ref (fb_ad G 11)])
abbrev TT_X0_startAtMarks_66 (p : Program) (l : Launch) (e : Env) (s : State) (m : MethodId) (args : Array Value) (below : List Frame) (meth : Method) (c : Code) (Qm : State → Prop) (G : fb_G) (r : Int → Int → Int → Int → fb_St → Prop) : Prop := ∀ (x2 x3 s0 s1 : Int) (σ : fb_St) (H : Heap) (locs : List Loc) (ls : Array Slot), fb_Wd G s σ H locs → lv_has ls 4 [(0, .ref (fb_ad G 8)), (1, .ref (fb_ad G 1)), (2, .int (fb_I x2)), (3, .int (fb_I x3))] → fb_in x2 → fb_in x3 → fb_in s0 → fb_in s1 → r x2 x3 s0 s1 σ → W p l e rm_X0_startAtMarks s m args below meth c H locs 0 0 Qm (F0 m 66 ls [.int (fb_I s0), .int (fb_I s1), .ref (fb_ad G 10)])
abbrev TT_X0_startAtMarks_45 (p : Program) (l : Launch) (e : Env) (s : State) (m : MethodId) (args : Array Value) (below : List Frame) (meth : Method) (c : Code) (Qm : State → Prop) (G : fb_G) (r : Int → Int → Int → Int → fb_St → Prop) : Prop := ∀ (x2 x3 s0 s1 : Int) (σ : fb_St) (H : Heap) (locs : List Loc) (ls : Array Slot), fb_Wd G s σ H locs → lv_has ls 4 [(0, .ref (fb_ad G 8)), (1, .ref (fb_ad G 1)), (2, .int (fb_I x2)), (3, .int (fb_I x3))] → fb_in x2 → fb_in x3 → fb_in s0 → fb_in s1 → r x2 x3 s0 s1 σ → W p l e rm_X0_startAtMarks s m args below meth c H locs 0 0 Qm (F0 m 45 ls [.int (fb_I s0), .int (fb_I s1), .ref (fb_ad G 9)])
abbrev TT_X0_startAtMarks_24 (p : Program) (l : Launch) (e : Env) (s : State) (m : MethodId) (args : Array Value) (below : List Frame) (meth : Method) (c : Code) (Qm : State → Prop) (G : fb_G) (r : Int → Int → fb_St → Prop) : Prop := ∀ (x2 s0 : Int) (σ : fb_St) (H : Heap) (locs : List Loc) (ls : Array Slot), fb_Wd G s σ H locs → lv_has ls 4 [(0, .ref (fb_ad G 8)), (1, .ref (fb_ad G 1)), (2, .int (fb_I x2))] → fb_in x2 → fb_in s0 → r x2 s0 σ → W p l e rm_X0_startAtMarks s m args below meth c H locs 0 0 Qm (F0 m 24 ls [.int (fb_I s0)])
abbrev TT_X0_startAtMarks_2 (p : Program) (l : Launch) (e : Env) (s : State) (m : MethodId) (args : Array Value) (below : List Frame) (meth : Method) (c : Code) (Qm : State → Prop) (G : fb_G) (r : Int → fb_St → Prop) : Prop := ∀ (x2 : Int) (σ : fb_St) (H : Heap) (locs : List Loc) (ls : Array Slot), fb_Wd G s σ H locs → lv_has ls 4 [(0, .ref (fb_ad G 8)), (1, .ref (fb_ad G 1)), (2, .int (fb_I x2))] → fb_in x2 → r x2 σ → W p l e rm_X0_startAtMarks s m args below meth c H locs 0 0 Qm (F0 m 2 ls [])
abbrev TT_X0_startAtMarks_0 (p : Program) (l : Launch) (e : Env) (s : State) (m : MethodId) (args : Array Value) (below : List Frame) (meth : Method) (c : Code) (Qm : State → Prop) (G : fb_G) (r : fb_St → Prop) : Prop := ∀ (σ : fb_St) (H : Heap) (locs : List Loc) (ls : Array Slot), fb_Wd G s σ H locs → lv_has ls 4 [(0, .ref (fb_ad G 8)), (1, .ref (fb_ad G 1))] → r σ → W p l e rm_X0_startAtMarks s m args below meth c H locs 0 0 Qm (F0 m 0 ls [])
set_option maxRecDepth 100000 in
set_option maxHeartbeats 4000000 in
theorem tw_X0_startAtMarks_82 (C : fb_C p s m args meth c G RX0 cX0_startAtMarks 4) (hret : fb_RV p l e rm_X0_startAtMarks s m args below meth c G cX0_startAtMarks Qm Q) {r2 : Int → fb_St → Prop} (h2 : TT_X0_startAtMarks_2 p l e s m args below meth c Qm G r2) : TT_X0_startAtMarks_82 p l e s m args below meth c Qm G (wj_X0_startAtMarks_82 r2 Q) := by
  intro x2 s0 s1 σ H locs ls w hl ix2 is0 is1 h
  unfold wj_X0_startAtMarks_82 at h
  obtain ⟨z22, z23, h⟩ := h
  refine fb_as C w 144 (fb_k11 G) rfl rfl is0 z22 z23 dX0_startAtMarks_82 (fun σ24 H locs eσ24 w => ?_)
  have h := h σ24 eσ24
  obtain ⟨i25, h⟩ := h
  refine fb_iinc (b := x2 + 1) (k := 2) (lv' := [(2, .int (fb_I (x2 + 1))), (0, .ref (fb_ad G 8)), (1, .ref (fb_ad G 1))]) C dX0_startAtMarks_83 hl rfl rfl (by decide) rfl (fun ls hl => ?_)
  refine lv_goto (tgt := 2) C.1.1 C.1.2.1 dX0_startAtMarks_86 (by decide) ?_
  exact h2 (x2 + 1) _ _ _ _ w (lv_sub hl [1, 2, 0] rfl) i25 h
set_option maxRecDepth 100000 in
set_option maxHeartbeats 4000000 in
theorem tw_X0_startAtMarks_66 (C : fb_C p s m args meth c G RX0 cX0_startAtMarks 4) (hret : fb_RV p l e rm_X0_startAtMarks s m args below meth c G cX0_startAtMarks Qm Q) {r2 : Int → fb_St → Prop} (h2 : TT_X0_startAtMarks_2 p l e s m args below meth c Qm G r2) : TT_X0_startAtMarks_66 p l e s m args below meth c Qm G (wj_X0_startAtMarks_66 r2 Q) := by
  intro x2 x3 s0 s1 σ H locs ls w hl ix2 ix3 is0 is1 h
  unfold wj_X0_startAtMarks_66 at h
  obtain ⟨z18, z19, h⟩ := h
  refine fb_as C w 144 (fb_k10 G) rfl rfl is0 z18 z19 dX0_startAtMarks_66 (fun σ20 H locs eσ20 w => ?_)
  have h := h σ20 eσ20
  refine lv_aload_n C.1.1 C.1.2.1 dX0_startAtMarks_67 rfl (lv_at hl 0 rfl) ?_
  refine fb_getr (k2 := 11) C w (fb_k8 G) rfl fl_X0_18 dX0_startAtMarks_68 ?_
  refine lv_iload_n C.1.1 C.1.2.1 dX0_startAtMarks_71 rfl (lv_at hl 2 rfl) ?_
  refine lv_iload_n C.1.1 C.1.2.1 dX0_startAtMarks_72 rfl (lv_at hl 3 rfl) ?_
  refine fb_if_eq (tgt := 80) C ix3 dX0_startAtMarks_73 (by decide) (fun c21 => ?_) (fun c21 => ?_)
  · have h := h.1 c21
    refine fb_bipush C dX0_startAtMarks_80 (by decide) ?_
    exact tw_X0_startAtMarks_82 C hret h2 x2 (-6) x2 _ _ _ _ w (lv_sub hl [0, 1, 2] rfl) ix2 (by decide) ix2 h
  · have h := h.2 c21
    refine fb_iconst C dX0_startAtMarks_76 ?_
    refine lv_goto (tgt := 82) C.1.1 C.1.2.1 dX0_startAtMarks_77 (by decide) ?_
    exact tw_X0_startAtMarks_82 C hret h2 x2 0 x2 _ _ _ _ w (lv_sub hl [0, 1, 2] rfl) ix2 (by decide) ix2 h
set_option maxRecDepth 100000 in
set_option maxHeartbeats 4000000 in
theorem tw_X0_startAtMarks_45 (C : fb_C p s m args meth c G RX0 cX0_startAtMarks 4) (hret : fb_RV p l e rm_X0_startAtMarks s m args below meth c G cX0_startAtMarks Qm Q) {r2 : Int → fb_St → Prop} (h2 : TT_X0_startAtMarks_2 p l e s m args below meth c Qm G r2) : TT_X0_startAtMarks_45 p l e s m args below meth c Qm G (wj_X0_startAtMarks_45 r2 Q) := by
  intro x2 x3 s0 s1 σ H locs ls w hl ix2 ix3 is0 is1 h
  unfold wj_X0_startAtMarks_45 at h
  obtain ⟨z11, z12, h⟩ := h
  refine fb_as C w 144 (fb_k9 G) rfl rfl is0 z11 z12 dX0_startAtMarks_45 (fun σ13 H locs eσ13 w => ?_)
  have h := h σ13 eσ13
  refine lv_aload_n C.1.1 C.1.2.1 dX0_startAtMarks_46 rfl (lv_at hl 0 rfl) ?_
  refine fb_getr (k2 := 10) C w (fb_k8 G) rfl fl_X0_15 dX0_startAtMarks_47 ?_
  refine lv_iload_n C.1.1 C.1.2.1 dX0_startAtMarks_50 rfl (lv_at hl 2 rfl) ?_
  refine lv_iload_n C.1.1 C.1.2.1 dX0_startAtMarks_51 rfl (lv_at hl 3 rfl) ?_
  refine fb_if_eq (tgt := 64) C ix3 dX0_startAtMarks_52 (by decide) (fun c14 => ?_) (fun c14 => ?_)
  · have h := h.1 c14
    refine fb_bipush C dX0_startAtMarks_64 (by decide) ?_
    exact tw_X0_startAtMarks_66 C hret h2 x2 x3 (-6) x2 _ _ _ _ w (lv_sub hl [0, 1, 2, 3] rfl) ix2 ix3 (by decide) ix2 h
  · have h := h.2 c14
    refine lv_aload_n C.1.1 C.1.2.1 dX0_startAtMarks_55 rfl (lv_at hl 1 rfl) ?_
    refine fb_getr (k2 := 2) C w (fb_k1 G) rfl fl_X0_59 dX0_startAtMarks_56 ?_
    refine lv_iload_n C.1.1 C.1.2.1 dX0_startAtMarks_59 rfl (lv_at hl 2 rfl) ?_
    obtain ⟨z15, z16, h⟩ := h
    refine fb_al C w 144 (fb_k2 G) rfl rfl z15 z16 dX0_startAtMarks_60 ?_
    have i17 := w.2.2.2 2 x2
    refine lv_goto (tgt := 66) C.1.1 C.1.2.1 dX0_startAtMarks_61 (by decide) ?_
    exact tw_X0_startAtMarks_66 C hret h2 x2 x3 (σ13 2 x2) x2 _ _ _ _ w (lv_sub hl [0, 1, 2, 3] rfl) ix2 ix3 i17 ix2 h
set_option maxRecDepth 100000 in
set_option maxHeartbeats 4000000 in
theorem tw_X0_startAtMarks_24 (C : fb_C p s m args meth c G RX0 cX0_startAtMarks 4) (hret : fb_RV p l e rm_X0_startAtMarks s m args below meth c G cX0_startAtMarks Qm Q) {r2 : Int → fb_St → Prop} (h2 : TT_X0_startAtMarks_2 p l e s m args below meth c Qm G r2) : TT_X0_startAtMarks_24 p l e s m args below meth c Qm G (wj_X0_startAtMarks_24 r2 Q) := by
  intro x2 s0 σ H locs ls w hl ix2 is0 h
  unfold wj_X0_startAtMarks_24 at h
  refine lv_istore_n (lv' := [(3, .int (fb_I s0)), (0, .ref (fb_ad G 8)), (1, .ref (fb_ad G 1)), (2, .int (fb_I x2))]) C.1.1 C.1.2.1 dX0_startAtMarks_24 rfl hl (by decide) rfl (fun ls hl => ?_)
  refine lv_aload_n C.1.1 C.1.2.1 dX0_startAtMarks_25 rfl (lv_at hl 1 rfl) ?_
  refine fb_getr (k2 := 9) C w (fb_k8 G) rfl fl_X0_9 dX0_startAtMarks_26 ?_
  refine lv_iload_n C.1.1 C.1.2.1 dX0_startAtMarks_29 rfl (lv_at hl 3 rfl) ?_
  refine lv_iload_n C.1.1 C.1.2.1 dX0_startAtMarks_30 rfl (lv_at hl 0 rfl) ?_
  refine fb_if_eq (tgt := 43) C is0 dX0_startAtMarks_31 (by decide) (fun c7 => ?_) (fun c7 => ?_)
  · have h := h.1 c7
    refine fb_bipush C dX0_startAtMarks_43 (by decide) ?_
    exact tw_X0_startAtMarks_45 C hret h2 x2 s0 (-6) x2 _ _ _ _ w (lv_sub hl [1, 2, 3, 0] rfl) ix2 is0 (by decide) ix2 h
  · have h := h.2 c7
    refine lv_aload_n C.1.1 C.1.2.1 dX0_startAtMarks_34 rfl (lv_at hl 2 rfl) ?_
    refine fb_getr (k2 := 3) C w (fb_k1 G) rfl fl_X0_44 dX0_startAtMarks_35 ?_
    refine lv_iload_n C.1.1 C.1.2.1 dX0_startAtMarks_38 rfl (lv_at hl 3 rfl) ?_
    obtain ⟨z8, z9, h⟩ := h
    refine fb_al C w 144 (fb_k3 G) rfl rfl z8 z9 dX0_startAtMarks_39 ?_
    have i10 := w.2.2.2 3 x2
    refine lv_goto (tgt := 45) C.1.1 C.1.2.1 dX0_startAtMarks_40 (by decide) ?_
    exact tw_X0_startAtMarks_45 C hret h2 x2 s0 (σ 3 x2) x2 _ _ _ _ w (lv_sub hl [1, 2, 3, 0] rfl) ix2 is0 i10 ix2 h
set_option maxRecDepth 100000 in
set_option maxHeartbeats 4000000 in
theorem tw_X0_startAtMarks_2 (C : fb_C p s m args meth c G RX0 cX0_startAtMarks 4) (hret : fb_RV p l e rm_X0_startAtMarks s m args below meth c G cX0_startAtMarks Qm Q) {r2 : Int → fb_St → Prop} (h2 : TT_X0_startAtMarks_2 p l e s m args below meth c Qm G r2) : TT_X0_startAtMarks_2 p l e s m args below meth c Qm G (wb_X0_startAtMarks_2 r2 Q) := by
  intro x2 σ H locs ls w hl ix2 h
  unfold wb_X0_startAtMarks_2 at h
  refine lv_iload_n C.1.1 C.1.2.1 dX0_startAtMarks_2 rfl (lv_at hl 2 rfl) ?_
  refine lv_aload_n C.1.1 C.1.2.1 dX0_startAtMarks_3 rfl (lv_at hl 1 rfl) ?_
  refine fb_gi C w 2 (fb_k1 G) rfl rfl fl_X0_38 dX0_startAtMarks_4 ?_
  have i1 := w.2.2.2 1 2
  refine fb_icmp_ge (tgt := 89) C ix2 i1 dX0_startAtMarks_7 (by decide) (fun c2 => ?_) (fun c2 => ?_)
  · have h := h.2 c2
    exact hret _ _ _ _ _ h w dX0_startAtMarks_89
  · have h := h.1 c2
    refine lv_aload_n C.1.1 C.1.2.1 dX0_startAtMarks_10 rfl (lv_at hl 1 rfl) ?_
    refine fb_getr (k2 := 3) C w (fb_k1 G) rfl fl_X0_44 dX0_startAtMarks_11 ?_
    refine lv_iload_n C.1.1 C.1.2.1 dX0_startAtMarks_14 rfl (lv_at hl 2 rfl) ?_
    obtain ⟨z3, z4, h⟩ := h
    refine fb_al C w 144 (fb_k3 G) rfl rfl z3 z4 dX0_startAtMarks_15 ?_
    have i5 := w.2.2.2 3 x2
    refine fb_if_le (tgt := 23) C i5 dX0_startAtMarks_16 (by decide) (fun c6 => ?_) (fun c6 => ?_)
    · have h := h.2 c6
      refine fb_iconst C dX0_startAtMarks_23 ?_
      exact tw_X0_startAtMarks_24 C hret h2 x2 0 _ _ _ _ w (lv_sub hl [0, 1, 2] rfl) ix2 (by decide) h
    · have h := h.1 c6
      refine fb_iconst C dX0_startAtMarks_19 ?_
      refine lv_goto (tgt := 24) C.1.1 C.1.2.1 dX0_startAtMarks_20 (by decide) ?_
      exact tw_X0_startAtMarks_24 C hret h2 x2 1 _ _ _ _ w (lv_sub hl [0, 1, 2] rfl) ix2 (by decide) h
theorem tl_X0_startAtMarks_2 (C : fb_C p s m args meth c G RX0 cX0_startAtMarks 4) (hret : fb_RV p l e rm_X0_startAtMarks s m args below meth c G cX0_startAtMarks Qm Q) : ∀ n : Nat, TT_X0_startAtMarks_2 p l e s m args below meth c Qm G (wl_X0_startAtMarks_2 Q n) := by
  intro n
  induction n with
  | zero => intro x2 σ H locs ls w hl ix2 h; exact h.elim
  | succ n ih => exact tw_X0_startAtMarks_2 C hret ih
set_option maxRecDepth 100000 in
set_option maxHeartbeats 4000000 in
theorem tw_X0_startAtMarks_0 (C : fb_C p s m args meth c G RX0 cX0_startAtMarks 4) (hret : fb_RV p l e rm_X0_startAtMarks s m args below meth c G cX0_startAtMarks Qm Q) : TT_X0_startAtMarks_0 p l e s m args below meth c Qm G (fun σ => wp_X0_startAtMarks σ Q) := by
  intro σ H locs ls w hl h
  unfold wp_X0_startAtMarks at h
  refine fb_iconst C dX0_startAtMarks_0 ?_
  refine lv_istore_n (lv' := [(2, .int (fb_I 0)), (0, .ref (fb_ad G 8)), (1, .ref (fb_ad G 1))]) C.1.1 C.1.2.1 dX0_startAtMarks_1 rfl hl (by decide) rfl (fun ls hl => ?_)
  obtain ⟨n, h⟩ := h
  exact tl_X0_startAtMarks_2 C hret n 0 _ _ _ _ w (lv_sub hl [1, 2, 0] rfl) (by decide) h
theorem ct_X0_startAtMarks (l : Launch) (G : fb_G) {σ : fb_St} (h : wp_X0_startAtMarks σ Q) : fb_MV l G yX0_startAtMarks cX0_startAtMarks 4 rm_X0_startAtMarks [.ref (fb_ad G 8), .ref (fb_ad G 1)] σ Q := by
  refine fb_ofW (own := RX0) (by decide) (Nat.le_of_ble_eq_true rfl) rfl (fun p e s m args below meth c ls C hr hl w => ?_)
  exact tw_X0_startAtMarks_0 C (fb_retv C hr) _ _ _ _ w hl h
end S_X0_startAtMarks
section S_X2_add
variable {p : Program} {l : Launch} {e : Env} {s : State} {m : MethodId} {args : Array Value} {below : List Frame} {meth : Method} {c : Code} {Qm : State → Prop} {G : fb_G} {Q : Int → fb_St → Prop}
abbrev TT_X2_add_39 (p : Program) (l : Launch) (e : Env) (s : State) (m : MethodId) (args : Array Value) (below : List Frame) (meth : Method) (c : Code) (Qm : State → Prop) (G : fb_G) (r : Int → Int → fb_St → Prop) : Prop := ∀ (x1 x2 : Int) (σ : fb_St) (H : Heap) (locs : List Loc) (ls : Array Slot), fb_Wd G s σ H locs → lv_has ls 3 [(0, .ref (fb_ad G 13)), (1, .int (fb_I x1)), (2, .int (fb_I x2))] → fb_in x1 → fb_in x2 → r x1 x2 σ → W p l e rm_X2_add s m args below meth c H locs 0 0 Qm (F0 m 39 ls [])
abbrev TT_X2_add_0 (p : Program) (l : Launch) (e : Env) (s : State) (m : MethodId) (args : Array Value) (below : List Frame) (meth : Method) (c : Code) (Qm : State → Prop) (G : fb_G) (r : Int → Int → fb_St → Prop) : Prop := ∀ (x1 x2 : Int) (σ : fb_St) (H : Heap) (locs : List Loc) (ls : Array Slot), fb_Wd G s σ H locs → lv_has ls 3 [(0, .ref (fb_ad G 13)), (1, .int (fb_I x1)), (2, .int (fb_I x2))] → fb_in x1 → fb_in x2 → r x1 x2 σ → W p l e rm_X2_add s m args below meth c H locs 0 0 Qm (F0 m 0 ls [])
set_option maxRecDepth 100000 in
set_option maxHeartbeats 4000000 in
theorem tw_X2_add_39 (C : fb_C p s m args meth c G RX2 cX2_add 3) (hret : fb_RV p l e rm_X2_add s m args below meth c G cX2_add Qm Q) : TT_X2_add_39 p l e s m args below meth c Qm G (wj_X2_add_39 Q) := by
  intro x1 x2 σ H locs ls w hl ix1 ix2 h
  unfold wj_X2_add_39 at h
  refine lv_aload_n C.1.1 C.1.2.1 dX2_add_39 rfl (lv_at hl 0 rfl) ?_
  refine fb_getr (k2 := 15) C w (fb_k13 G) rfl fl_X2_15 dX2_add_40 ?_
  refine lv_iload_n C.1.1 C.1.2.1 dX2_add_43 rfl (lv_at hl 2 rfl) ?_
  refine lv_iload_n C.1.1 C.1.2.1 dX2_add_44 rfl (lv_at hl 1 rfl) ?_
  obtain ⟨z17, z18, h⟩ := h
  refine fb_as C w 100 (fb_k15 G) rfl rfl ix1 z17 z18 dX2_add_45 (fun σ19 H locs eσ19 w => ?_)
  have h := h σ19 eσ19
  exact hret _ _ _ _ _ h w dX2_add_46
set_option maxRecDepth 100000 in
set_option maxHeartbeats 4000000 in
theorem tw_X2_add_0 (C : fb_C p s m args meth c G RX2 cX2_add 3) (hret : fb_RV p l e rm_X2_add s m args below meth c G cX2_add Qm Q) : TT_X2_add_0 p l e s m args below meth c Qm G (fun x1 x2 σ => wp_X2_add x1 x2 σ Q) := by
  intro x1 x2 σ H locs ls w hl ix1 ix2 h
  unfold wp_X2_add at h
  refine lv_aload_n C.1.1 C.1.2.1 dX2_add_0 rfl (lv_at hl 0 rfl) ?_
  refine fb_getr (k2 := 16) C w (fb_k13 G) rfl fl_X2_18 dX2_add_1 ?_
  refine lv_iload_n C.1.1 C.1.2.1 dX2_add_4 rfl (lv_at hl 1 rfl) ?_
  refine fb_iconst C dX2_add_5 ?_
  obtain ⟨z1, z2, h⟩ := h
  refine fb_as C w 144 (fb_k16 G) rfl rfl (by decide) z1 z2 dX2_add_6 (fun σ3 H locs eσ3 w => ?_)
  have h := h σ3 eσ3
  refine lv_aload_n C.1.1 C.1.2.1 dX2_add_7 rfl (lv_at hl 0 rfl) ?_
  refine fb_getr (k2 := 14) C w (fb_k13 G) rfl fl_X2_9 dX2_add_8 ?_
  refine lv_iload_n C.1.1 C.1.2.1 dX2_add_11 rfl (lv_at hl 2 rfl) ?_
  obtain ⟨z4, z5, h⟩ := h
  refine fb_al C w 100 (fb_k14 G) rfl rfl z4 z5 dX2_add_12 ?_
  have i6 := w.2.2.2 14 x2
  refine fb_iconst C dX2_add_13 ?_
  refine fb_icmp_ne (tgt := 27) C i6 (by decide) dX2_add_14 (by decide) (fun c7 => ?_) (fun c7 => ?_)
  · have h := h.2 c7
    refine lv_aload_n C.1.1 C.1.2.1 dX2_add_27 rfl (lv_at hl 0 rfl) ?_
    refine fb_getr (k2 := 16) C w (fb_k13 G) rfl fl_X2_18 dX2_add_28 ?_
    refine lv_aload_n C.1.1 C.1.2.1 dX2_add_31 rfl (lv_at hl 0 rfl) ?_
    refine fb_getr (k2 := 15) C w (fb_k13 G) rfl fl_X2_15 dX2_add_32 ?_
    refine lv_iload_n C.1.1 C.1.2.1 dX2_add_35 rfl (lv_at hl 2 rfl) ?_
    obtain ⟨z8, z9, h⟩ := h
    refine fb_al C w 100 (fb_k15 G) rfl rfl z8 z9 dX2_add_36 ?_
    have i10 := w.2.2.2 15 x2
    refine lv_iload_n C.1.1 C.1.2.1 dX2_add_37 rfl (lv_at hl 1 rfl) ?_
    obtain ⟨z11, z12, h⟩ := h
    refine fb_as C w 144 (fb_k16 G) rfl rfl ix1 z11 z12 dX2_add_38 (fun σ13 H locs eσ13 w => ?_)
    have h := h σ13 eσ13
    exact tw_X2_add_39 C hret x1 x2 _ _ _ _ w (lv_sub hl [0, 1, 2] rfl) ix1 ix2 h
  · have h := h.1 c7
    refine lv_aload_n C.1.1 C.1.2.1 dX2_add_17 rfl (lv_at hl 0 rfl) ?_
    refine fb_getr (k2 := 14) C w (fb_k13 G) rfl fl_X2_9 dX2_add_18 ?_
    refine lv_iload_n C.1.1 C.1.2.1 dX2_add_21 rfl (lv_at hl 2 rfl) ?_
    refine lv_iload_n C.1.1 C.1.2.1 dX2_add_22 rfl (lv_at hl 1 rfl) ?_
    obtain ⟨z14, z15, h⟩ := h
    refine fb_as C w 100 (fb_k14 G) rfl rfl ix1 z14 z15 dX2_add_23 (fun σ16 H locs eσ16 w => ?_)
    have h := h σ16 eσ16
    refine lv_goto (tgt := 39) C.1.1 C.1.2.1 dX2_add_24 (by decide) ?_
    exact tw_X2_add_39 C hret x1 x2 _ _ _ _ w (lv_sub hl [0, 1, 2] rfl) ix1 ix2 h
theorem ct_X2_add (l : Launch) (G : fb_G) {x1 : Int} {x2 : Int} {σ : fb_St} (ix1 : fb_in x1) (ix2 : fb_in x2) (h : wp_X2_add x1 x2 σ Q) : fb_MV l G yX2_add cX2_add 3 rm_X2_add [.ref (fb_ad G 13), .int (fb_I x1), .int (fb_I x2)] σ Q := by
  refine fb_ofW (own := RX2) (by decide) (Nat.le_of_ble_eq_true rfl) rfl (fun p e s m args below meth c ls C hr hl w => ?_)
  exact tw_X2_add_0 C (fb_retv C hr) _ _ _ _ _ _ w hl ix1 ix2 h
end S_X2_add
end
