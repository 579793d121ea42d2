section
-- ===== PART A: goes FIRST, ahead of the names: the tables' words, and 'selects' of the private methods out of them =====
/-- a private method of a class that the tables say can be made, by its rows of tables_1 -/
def lw_okq (q : MethodName × Nat) : Prop := (q.1.cls ≠ "java/lang/invoke/MethodHandle" ∧ q.1.cls ≠ "java/lang/invoke/VarHandle") ∧ Cond.instantiable q.1.cls q.2 ∈ tables_1 ∧ Cond.privateMethod q.1 ∈ tables_1 ∧ Cond.instanceMethod q.1 ∈ tables_1
theorem lw_p0 : lw_okq (⟨"FrameRaiser$Text", "readSign", "(ILFrameRaiser$Frame;)I"⟩, 7) := ⟨⟨by decide +kernel, by decide +kernel⟩, List.mem_of_getElem? (i := 172) (by decide +kernel), List.mem_of_getElem? (i := 272) (by decide +kernel), List.mem_of_getElem? (i := 273) (by decide +kernel)⟩
theorem lw_p1 : lw_okq (⟨"FrameRaiser$Text", "readSeparator", "(ILFrameRaiser$Frame;)I"⟩, 7) := ⟨⟨by decide +kernel, by decide +kernel⟩, List.mem_of_getElem? (i := 172) (by decide +kernel), List.mem_of_getElem? (i := 276) (by decide +kernel), List.mem_of_getElem? (i := 277) (by decide +kernel)⟩
theorem lw_p2 : lw_okq (⟨"FrameRaiser$Text", "beginPiece", "()I"⟩, 7) := ⟨⟨by decide +kernel, by decide +kernel⟩, List.mem_of_getElem? (i := 172) (by decide +kernel), List.mem_of_getElem? (i := 280) (by decide +kernel), List.mem_of_getElem? (i := 281) (by decide +kernel)⟩
theorem lw_p3 : lw_okq (⟨"FrameRaiser$Text", "readDigit", "(ILFrameRaiser$Frame;)I"⟩, 7) := ⟨⟨by decide +kernel, by decide +kernel⟩, List.mem_of_getElem? (i := 172) (by decide +kernel), List.mem_of_getElem? (i := 284) (by decide +kernel), List.mem_of_getElem? (i := 285) (by decide +kernel)⟩
theorem lw_p4 : lw_okq (⟨"FrameRaiser", "forgetPieces", "()V"⟩, 12) := ⟨⟨by decide +kernel, by decide +kernel⟩, List.mem_of_getElem? (i := 14) (by decide +kernel), List.mem_of_getElem? (i := 319) (by decide +kernel), List.mem_of_getElem? (i := 320) (by decide +kernel)⟩
theorem lw_p5 : lw_okq (⟨"FrameRaiser", "isPiece", "(I)Z"⟩, 12) := ⟨⟨by decide +kernel, by decide +kernel⟩, List.mem_of_getElem? (i := 14) (by decide +kernel), List.mem_of_getElem? (i := 347) (by decide +kernel), List.mem_of_getElem? (i := 348) (by decide +kernel)⟩
theorem lw_p6 : lw_okq (⟨"FrameRaiser", "knownMeasures", "()LFrameRaiser$Measures;"⟩, 12) := ⟨⟨by decide +kernel, by decide +kernel⟩, List.mem_of_getElem? (i := 14) (by decide +kernel), List.mem_of_getElem? (i := 351) (by decide +kernel), List.mem_of_getElem? (i := 352) (by decide +kernel)⟩
theorem lw_p7 : lw_okq (⟨"FrameRaiser$Measures", "measure", "(II)V"⟩, 5) := ⟨⟨by decide +kernel, by decide +kernel⟩, List.mem_of_getElem? (i := 58) (by decide +kernel), List.mem_of_getElem? (i := 359) (by decide +kernel), List.mem_of_getElem? (i := 360) (by decide +kernel)⟩
theorem lw_p8 : lw_okq (⟨"FrameRaiser", "shiftFault", "(II)I"⟩, 12) := ⟨⟨by decide +kernel, by decide +kernel⟩, List.mem_of_getElem? (i := 14) (by decide +kernel), List.mem_of_getElem? (i := 382) (by decide +kernel), List.mem_of_getElem? (i := 383) (by decide +kernel)⟩
theorem lw_p9 : lw_okq (⟨"FrameRaiser$Frame", "isOpen", "(II)Z"⟩, 5) := ⟨⟨by decide +kernel, by decide +kernel⟩, List.mem_of_getElem? (i := 22) (by decide +kernel), List.mem_of_getElem? (i := 400) (by decide +kernel), List.mem_of_getElem? (i := 401) (by decide +kernel)⟩
theorem lw_p10 : lw_okq (⟨"FrameRaiser", "knownRelations", "()LFrameRaiser$Relations;"⟩, 12) := ⟨⟨by decide +kernel, by decide +kernel⟩, List.mem_of_getElem? (i := 14) (by decide +kernel), List.mem_of_getElem? (i := 426) (by decide +kernel), List.mem_of_getElem? (i := 427) (by decide +kernel)⟩
theorem lw_p11 : lw_okq (⟨"FrameRaiser$Relations", "reset", "()V"⟩, 6) := ⟨⟨by decide +kernel, by decide +kernel⟩, List.mem_of_getElem? (i := 85) (by decide +kernel), List.mem_of_getElem? (i := 434) (by decide +kernel), List.mem_of_getElem? (i := 435) (by decide +kernel)⟩
theorem lw_p12 : lw_okq (⟨"FrameRaiser$Relations", "readLine", "(LFrameRaiser$Frame;II)V"⟩, 6) := ⟨⟨by decide +kernel, by decide +kernel⟩, List.mem_of_getElem? (i := 85) (by decide +kernel), List.mem_of_getElem? (i := 441) (by decide +kernel), List.mem_of_getElem? (i := 442) (by decide +kernel)⟩
theorem lw_p13 : lw_okq (⟨"FrameRaiser$Relations", "block", "(III)I"⟩, 6) := ⟨⟨by decide +kernel, by decide +kernel⟩, List.mem_of_getElem? (i := 85) (by decide +kernel), List.mem_of_getElem? (i := 446) (by decide +kernel), List.mem_of_getElem? (i := 447) (by decide +kernel)⟩
theorem lw_p14 : lw_okq (⟨"FrameRaiser$Relations", "join", "(III)V"⟩, 6) := ⟨⟨by decide +kernel, by decide +kernel⟩, List.mem_of_getElem? (i := 85) (by decide +kernel), List.mem_of_getElem? (i := 450) (by decide +kernel), List.mem_of_getElem? (i := 451) (by decide +kernel)⟩
theorem lw_p15 : lw_okq (⟨"FrameRaiser", "isSet", "(I)Z"⟩, 12) := ⟨⟨by decide +kernel, by decide +kernel⟩, List.mem_of_getElem? (i := 14) (by decide +kernel), List.mem_of_getElem? (i := 462) (by decide +kernel), List.mem_of_getElem? (i := 463) (by decide +kernel)⟩
def lw_privs_1 : List (MethodName × Nat) := [(⟨"FrameRaiser$Text", "readSign", "(ILFrameRaiser$Frame;)I"⟩, 7), (⟨"FrameRaiser$Text", "readSeparator", "(ILFrameRaiser$Frame;)I"⟩, 7), (⟨"FrameRaiser$Text", "beginPiece", "()I"⟩, 7), (⟨"FrameRaiser$Text", "readDigit", "(ILFrameRaiser$Frame;)I"⟩, 7), (⟨"FrameRaiser", "forgetPieces", "()V"⟩, 12), (⟨"FrameRaiser", "isPiece", "(I)Z"⟩, 12), (⟨"FrameRaiser", "knownMeasures", "()LFrameRaiser$Measures;"⟩, 12), (⟨"FrameRaiser$Measures", "measure", "(II)V"⟩, 5), (⟨"FrameRaiser", "shiftFault", "(II)I"⟩, 12), (⟨"FrameRaiser$Frame", "isOpen", "(II)Z"⟩, 5), (⟨"FrameRaiser", "knownRelations", "()LFrameRaiser$Relations;"⟩, 12), (⟨"FrameRaiser$Relations", "reset", "()V"⟩, 6), (⟨"FrameRaiser$Relations", "readLine", "(LFrameRaiser$Frame;II)V"⟩, 6), (⟨"FrameRaiser$Relations", "block", "(III)I"⟩, 6), (⟨"FrameRaiser$Relations", "join", "(III)V"⟩, 6), (⟨"FrameRaiser", "isSet", "(I)Z"⟩, 12)]
theorem lw_r1 : ∀ q ∈ lw_privs_1, lw_okq q := List.forall_mem_cons.mpr ⟨lw_p0, List.forall_mem_cons.mpr ⟨lw_p1, List.forall_mem_cons.mpr ⟨lw_p2, List.forall_mem_cons.mpr ⟨lw_p3, List.forall_mem_cons.mpr ⟨lw_p4, List.forall_mem_cons.mpr ⟨lw_p5, List.forall_mem_cons.mpr ⟨lw_p6, List.forall_mem_cons.mpr ⟨lw_p7, List.forall_mem_cons.mpr ⟨lw_p8, List.forall_mem_cons.mpr ⟨lw_p9, List.forall_mem_cons.mpr ⟨lw_p10, List.forall_mem_cons.mpr ⟨lw_p11, List.forall_mem_cons.mpr ⟨lw_p12, List.forall_mem_cons.mpr ⟨lw_p13, List.forall_mem_cons.mpr ⟨lw_p14, List.forall_mem_cons.mpr ⟨lw_p15, fun _ h => absurd h List.not_mem_nil⟩⟩⟩⟩⟩⟩⟩⟩⟩⟩⟩⟩⟩⟩⟩⟩
theorem lw_p16 : lw_okq (⟨"FrameRaiser", "allPieces", "()I"⟩, 12) := ⟨⟨by decide +kernel, by decide +kernel⟩, List.mem_of_getElem? (i := 14) (by decide +kernel), List.mem_of_getElem? (i := 466) (by decide +kernel), List.mem_of_getElem? (i := 467) (by decide +kernel)⟩
theorem lw_p17 : lw_okq (⟨"FrameRaiser", "knownPlanner", "()LFrameRaiser$Planner;"⟩, 12) := ⟨⟨by decide +kernel, by decide +kernel⟩, List.mem_of_getElem? (i := 14) (by decide +kernel), List.mem_of_getElem? (i := 507) (by decide +kernel), List.mem_of_getElem? (i := 508) (by decide +kernel)⟩
theorem lw_p18 : lw_okq (⟨"FrameRaiser$Planner", "fillRow", "(I)V"⟩, 9) := ⟨⟨by decide +kernel, by decide +kernel⟩, List.mem_of_getElem? (i := 112) (by decide +kernel), List.mem_of_getElem? (i := 515) (by decide +kernel), List.mem_of_getElem? (i := 516) (by decide +kernel)⟩
theorem lw_p19 : lw_okq (⟨"FrameRaiser$Planner", "markLeading", "(I)V"⟩, 9) := ⟨⟨by decide +kernel, by decide +kernel⟩, List.mem_of_getElem? (i := 112) (by decide +kernel), List.mem_of_getElem? (i := 539) (by decide +kernel), List.mem_of_getElem? (i := 540) (by decide +kernel)⟩
theorem lw_p20 : lw_okq (⟨"FrameRaiser$Planner", "nextPlanned", "(II)I"⟩, 9) := ⟨⟨by decide +kernel, by decide +kernel⟩, List.mem_of_getElem? (i := 112) (by decide +kernel), List.mem_of_getElem? (i := 543) (by decide +kernel), List.mem_of_getElem? (i := 544) (by decide +kernel)⟩
theorem lw_p21 : lw_okq (⟨"FrameRaiser$Planner", "followLeading", "(I)V"⟩, 9) := ⟨⟨by decide +kernel, by decide +kernel⟩, List.mem_of_getElem? (i := 112) (by decide +kernel), List.mem_of_getElem? (i := 548) (by decide +kernel), List.mem_of_getElem? (i := 549) (by decide +kernel)⟩
theorem lw_p22 : lw_okq (⟨"FrameRaiser$Relations", "isGroupFree", "(III)Z"⟩, 6) := ⟨⟨by decide +kernel, by decide +kernel⟩, List.mem_of_getElem? (i := 85) (by decide +kernel), List.mem_of_getElem? (i := 579) (by decide +kernel), List.mem_of_getElem? (i := 580) (by decide +kernel)⟩
theorem lw_p23 : lw_okq (⟨"FrameRaiser", "step", "(IIZ)I"⟩, 12) := ⟨⟨by decide +kernel, by decide +kernel⟩, List.mem_of_getElem? (i := 14) (by decide +kernel), List.mem_of_getElem? (i := 588) (by decide +kernel), List.mem_of_getElem? (i := 589) (by decide +kernel)⟩
theorem lw_p24 : lw_okq (⟨"FrameRaiser", "nextToPut", "()I"⟩, 12) := ⟨⟨by decide +kernel, by decide +kernel⟩, List.mem_of_getElem? (i := 14) (by decide +kernel), List.mem_of_getElem? (i := 604) (by decide +kernel), List.mem_of_getElem? (i := 605) (by decide +kernel)⟩
theorem lw_p25 : lw_okq (⟨"FrameRaiser", "mixPiece", "(JI)J"⟩, 12) := ⟨⟨by decide +kernel, by decide +kernel⟩, List.mem_of_getElem? (i := 14) (by decide +kernel), List.mem_of_getElem? (i := 633) (by decide +kernel), List.mem_of_getElem? (i := 634) (by decide +kernel)⟩
theorem lw_p26 : lw_okq (⟨"FrameRaiserModel", "lays", "()V"⟩, 14) := ⟨⟨by decide +kernel, by decide +kernel⟩, List.mem_of_getElem? (i := 646) (by decide +kernel), List.mem_of_getElem? (i := 652) (by decide +kernel), List.mem_of_getElem? (i := 653) (by decide +kernel)⟩
theorem lw_p27 : lw_okq (⟨"FrameRaiserModel", "at", "(I)I"⟩, 14) := ⟨⟨by decide +kernel, by decide +kernel⟩, List.mem_of_getElem? (i := 646) (by decide +kernel), List.mem_of_getElem? (i := 656) (by decide +kernel), List.mem_of_getElem? (i := 657) (by decide +kernel)⟩
theorem lw_p28 : lw_okq (⟨"FrameRaiserModel", "looks", "(III)V"⟩, 14) := ⟨⟨by decide +kernel, by decide +kernel⟩, List.mem_of_getElem? (i := 646) (by decide +kernel), List.mem_of_getElem? (i := 660) (by decide +kernel), List.mem_of_getElem? (i := 661) (by decide +kernel)⟩
theorem lw_p29 : lw_okq (⟨"FrameRaiserModel", "copies", "(II)V"⟩, 14) := ⟨⟨by decide +kernel, by decide +kernel⟩, List.mem_of_getElem? (i := 646) (by decide +kernel), List.mem_of_getElem? (i := 720) (by decide +kernel), List.mem_of_getElem? (i := 721) (by decide +kernel)⟩
theorem lw_p30 : lw_okq (⟨"FrameRaiserModel", "empties", "()V"⟩, 14) := ⟨⟨by decide +kernel, by decide +kernel⟩, List.mem_of_getElem? (i := 646) (by decide +kernel), List.mem_of_getElem? (i := 736) (by decide +kernel), List.mem_of_getElem? (i := 737) (by decide +kernel)⟩
theorem lw_p31 : lw_okq (⟨"FrameRaiserModel", "reads", "()V"⟩, 14) := ⟨⟨by decide +kernel, by decide +kernel⟩, List.mem_of_getElem? (i := 646) (by decide +kernel), List.mem_of_getElem? (i := 740) (by decide +kernel), List.mem_of_getElem? (i := 741) (by decide +kernel)⟩
def lw_privs_2 : List (MethodName × Nat) := [(⟨"FrameRaiser", "allPieces", "()I"⟩, 12), (⟨"FrameRaiser", "knownPlanner", "()LFrameRaiser$Planner;"⟩, 12), (⟨"FrameRaiser$Planner", "fillRow", "(I)V"⟩, 9), (⟨"FrameRaiser$Planner", "markLeading", "(I)V"⟩, 9), (⟨"FrameRaiser$Planner", "nextPlanned", "(II)I"⟩, 9), (⟨"FrameRaiser$Planner", "followLeading", "(I)V"⟩, 9), (⟨"FrameRaiser$Relations", "isGroupFree", "(III)Z"⟩, 6), (⟨"FrameRaiser", "step", "(IIZ)I"⟩, 12), (⟨"FrameRaiser", "nextToPut", "()I"⟩, 12), (⟨"FrameRaiser", "mixPiece", "(JI)J"⟩, 12), (⟨"FrameRaiserModel", "lays", "()V"⟩, 14), (⟨"FrameRaiserModel", "at", "(I)I"⟩, 14), (⟨"FrameRaiserModel", "looks", "(III)V"⟩, 14), (⟨"FrameRaiserModel", "copies", "(II)V"⟩, 14), (⟨"FrameRaiserModel", "empties", "()V"⟩, 14), (⟨"FrameRaiserModel", "reads", "()V"⟩, 14)]
theorem lw_r2 : ∀ q ∈ lw_privs_2, lw_okq q := List.forall_mem_cons.mpr ⟨lw_p16, List.forall_mem_cons.mpr ⟨lw_p17, List.forall_mem_cons.mpr ⟨lw_p18, List.forall_mem_cons.mpr ⟨lw_p19, List.forall_mem_cons.mpr ⟨lw_p20, List.forall_mem_cons.mpr ⟨lw_p21, List.forall_mem_cons.mpr ⟨lw_p22, List.forall_mem_cons.mpr ⟨lw_p23, List.forall_mem_cons.mpr ⟨lw_p24, List.forall_mem_cons.mpr ⟨lw_p25, List.forall_mem_cons.mpr ⟨lw_p26, List.forall_mem_cons.mpr ⟨lw_p27, List.forall_mem_cons.mpr ⟨lw_p28, List.forall_mem_cons.mpr ⟨lw_p29, List.forall_mem_cons.mpr ⟨lw_p30, List.forall_mem_cons.mpr ⟨lw_p31, fun _ h => absurd h List.not_mem_nil⟩⟩⟩⟩⟩⟩⟩⟩⟩⟩⟩⟩⟩⟩⟩⟩
theorem lw_p32 : lw_okq (⟨"FrameRaiserModel", "spaced", "(I)I"⟩, 14) := ⟨⟨by decide +kernel, by decide +kernel⟩, List.mem_of_getElem? (i := 646) (by decide +kernel), List.mem_of_getElem? (i := 744) (by decide +kernel), List.mem_of_getElem? (i := 745) (by decide +kernel)⟩
theorem lw_p33 : lw_okq (⟨"FrameRaiserModel", "readsBox", "(II)I"⟩, 14) := ⟨⟨by decide +kernel, by decide +kernel⟩, List.mem_of_getElem? (i := 646) (by decide +kernel), List.mem_of_getElem? (i := 748) (by decide +kernel), List.mem_of_getElem? (i := 749) (by decide +kernel)⟩
theorem lw_p34 : lw_okq (⟨"FrameRaiserModel", "digit", "(I)I"⟩, 14) := ⟨⟨by decide +kernel, by decide +kernel⟩, List.mem_of_getElem? (i := 646) (by decide +kernel), List.mem_of_getElem? (i := 752) (by decide +kernel), List.mem_of_getElem? (i := 753) (by decide +kernel)⟩
theorem lw_p35 : lw_okq (⟨"FrameRaiserModel", "fails", "(II)I"⟩, 14) := ⟨⟨by decide +kernel, by decide +kernel⟩, List.mem_of_getElem? (i := 646) (by decide +kernel), List.mem_of_getElem? (i := 756) (by decide +kernel), List.mem_of_getElem? (i := 757) (by decide +kernel)⟩
theorem lw_p36 : lw_okq (⟨"FrameRaiserModel", "meets", "(IIIIIII)Z"⟩, 14) := ⟨⟨by decide +kernel, by decide +kernel⟩, List.mem_of_getElem? (i := 646) (by decide +kernel), List.mem_of_getElem? (i := 760) (by decide +kernel), List.mem_of_getElem? (i := 761) (by decide +kernel)⟩
theorem lw_p37 : lw_okq (⟨"FrameRaiserModel", "fills", "(IIIIIII)V"⟩, 14) := ⟨⟨by decide +kernel, by decide +kernel⟩, List.mem_of_getElem? (i := 646) (by decide +kernel), List.mem_of_getElem? (i := 764) (by decide +kernel), List.mem_of_getElem? (i := 765) (by decide +kernel)⟩
theorem lw_p38 : lw_okq (⟨"FrameRaiserModel", "records", "()V"⟩, 14) := ⟨⟨by decide +kernel, by decide +kernel⟩, List.mem_of_getElem? (i := 646) (by decide +kernel), List.mem_of_getElem? (i := 768) (by decide +kernel), List.mem_of_getElem? (i := 769) (by decide +kernel)⟩
theorem lw_p39 : lw_okq (⟨"FrameRaiserModel", "isPiece", "(I)Z"⟩, 14) := ⟨⟨by decide +kernel, by decide +kernel⟩, List.mem_of_getElem? (i := 646) (by decide +kernel), List.mem_of_getElem? (i := 791) (by decide +kernel), List.mem_of_getElem? (i := 792) (by decide +kernel)⟩
theorem lw_p40 : lw_okq (⟨"FrameRaiserModel", "cellsOf", "(I)I"⟩, 14) := ⟨⟨by decide +kernel, by decide +kernel⟩, List.mem_of_getElem? (i := 646) (by decide +kernel), List.mem_of_getElem? (i := 795) (by decide +kernel), List.mem_of_getElem? (i := 796) (by decide +kernel)⟩
theorem lw_p41 : lw_okq (⟨"FrameRaiserModel", "wrongShift", "(II)I"⟩, 14) := ⟨⟨by decide +kernel, by decide +kernel⟩, List.mem_of_getElem? (i := 646) (by decide +kernel), List.mem_of_getElem? (i := 807) (by decide +kernel), List.mem_of_getElem? (i := 808) (by decide +kernel)⟩
theorem lw_p42 : lw_okq (⟨"FrameRaiserModel", "moves", "(II)V"⟩, 14) := ⟨⟨by decide +kernel, by decide +kernel⟩, List.mem_of_getElem? (i := 646) (by decide +kernel), List.mem_of_getElem? (i := 814) (by decide +kernel), List.mem_of_getElem? (i := 815) (by decide +kernel)⟩
theorem lw_p43 : lw_okq (⟨"FrameRaiserModel", "end", "(IIZ)I"⟩, 14) := ⟨⟨by decide +kernel, by decide +kernel⟩, List.mem_of_getElem? (i := 646) (by decide +kernel), List.mem_of_getElem? (i := 826) (by decide +kernel), List.mem_of_getElem? (i := 827) (by decide +kernel)⟩
theorem lw_p44 : lw_okq (⟨"FrameRaiserModel", "groundOf", "(I)I"⟩, 14) := ⟨⟨by decide +kernel, by decide +kernel⟩, List.mem_of_getElem? (i := 646) (by decide +kernel), List.mem_of_getElem? (i := 830) (by decide +kernel), List.mem_of_getElem? (i := 831) (by decide +kernel)⟩
theorem lw_p45 : lw_okq (⟨"FrameRaiserModel", "isSet", "(I)Z"⟩, 14) := ⟨⟨by decide +kernel, by decide +kernel⟩, List.mem_of_getElem? (i := 646) (by decide +kernel), List.mem_of_getElem? (i := 842) (by decide +kernel), List.mem_of_getElem? (i := 843) (by decide +kernel)⟩
theorem lw_p46 : lw_okq (⟨"FrameRaiserModel", "all", "()I"⟩, 14) := ⟨⟨by decide +kernel, by decide +kernel⟩, List.mem_of_getElem? (i := 646) (by decide +kernel), List.mem_of_getElem? (i := 846) (by decide +kernel), List.mem_of_getElem? (i := 847) (by decide +kernel)⟩
theorem lw_p47 : lw_okq (⟨"FrameRaiserModel", "waysOf", "(II)I"⟩, 14) := ⟨⟨by decide +kernel, by decide +kernel⟩, List.mem_of_getElem? (i := 646) (by decide +kernel), List.mem_of_getElem? (i := 850) (by decide +kernel), List.mem_of_getElem? (i := 851) (by decide +kernel)⟩
def lw_privs_3 : List (MethodName × Nat) := [(⟨"FrameRaiserModel", "spaced", "(I)I"⟩, 14), (⟨"FrameRaiserModel", "readsBox", "(II)I"⟩, 14), (⟨"FrameRaiserModel", "digit", "(I)I"⟩, 14), (⟨"FrameRaiserModel", "fails", "(II)I"⟩, 14), (⟨"FrameRaiserModel", "meets", "(IIIIIII)Z"⟩, 14), (⟨"FrameRaiserModel", "fills", "(IIIIIII)V"⟩, 14), (⟨"FrameRaiserModel", "records", "()V"⟩, 14), (⟨"FrameRaiserModel", "isPiece", "(I)Z"⟩, 14), (⟨"FrameRaiserModel", "cellsOf", "(I)I"⟩, 14), (⟨"FrameRaiserModel", "wrongShift", "(II)I"⟩, 14), (⟨"FrameRaiserModel", "moves", "(II)V"⟩, 14), (⟨"FrameRaiserModel", "end", "(IIZ)I"⟩, 14), (⟨"FrameRaiserModel", "groundOf", "(I)I"⟩, 14), (⟨"FrameRaiserModel", "isSet", "(I)Z"⟩, 14), (⟨"FrameRaiserModel", "all", "()I"⟩, 14), (⟨"FrameRaiserModel", "waysOf", "(II)I"⟩, 14)]
theorem lw_r3 : ∀ q ∈ lw_privs_3, lw_okq q := List.forall_mem_cons.mpr ⟨lw_p32, List.forall_mem_cons.mpr ⟨lw_p33, List.forall_mem_cons.mpr ⟨lw_p34, List.forall_mem_cons.mpr ⟨lw_p35, List.forall_mem_cons.mpr ⟨lw_p36, List.forall_mem_cons.mpr ⟨lw_p37, List.forall_mem_cons.mpr ⟨lw_p38, List.forall_mem_cons.mpr ⟨lw_p39, List.forall_mem_cons.mpr ⟨lw_p40, List.forall_mem_cons.mpr ⟨lw_p41, List.forall_mem_cons.mpr ⟨lw_p42, List.forall_mem_cons.mpr ⟨lw_p43, List.forall_mem_cons.mpr ⟨lw_p44, List.forall_mem_cons.mpr ⟨lw_p45, List.forall_mem_cons.mpr ⟨lw_p46, List.forall_mem_cons.mpr ⟨lw_p47, fun _ h => absurd h List.not_mem_nil⟩⟩⟩⟩⟩⟩⟩⟩⟩⟩⟩⟩⟩⟩⟩⟩
theorem lw_p48 : lw_okq (⟨"FrameRaiserModel", "isFree", "(III)Z"⟩, 14) := ⟨⟨by decide +kernel, by decide +kernel⟩, List.mem_of_getElem? (i := 646) (by decide +kernel), List.mem_of_getElem? (i := 854) (by decide +kernel), List.mem_of_getElem? (i := 855) (by decide +kernel)⟩
theorem lw_p49 : lw_okq (⟨"FrameRaiserModel", "contactOf", "(II)I"⟩, 14) := ⟨⟨by decide +kernel, by decide +kernel⟩, List.mem_of_getElem? (i := 646) (by decide +kernel), List.mem_of_getElem? (i := 862) (by decide +kernel), List.mem_of_getElem? (i := 863) (by decide +kernel)⟩
theorem lw_p50 : lw_okq (⟨"FrameRaiserModel", "hangs", "(I)Z"⟩, 14) := ⟨⟨by decide +kernel, by decide +kernel⟩, List.mem_of_getElem? (i := 646) (by decide +kernel), List.mem_of_getElem? (i := 870) (by decide +kernel), List.mem_of_getElem? (i := 871) (by decide +kernel)⟩
theorem lw_p51 : lw_okq (⟨"FrameRaiserModel", "propsOf", "(I)I"⟩, 14) := ⟨⟨by decide +kernel, by decide +kernel⟩, List.mem_of_getElem? (i := 646) (by decide +kernel), List.mem_of_getElem? (i := 881) (by decide +kernel), List.mem_of_getElem? (i := 882) (by decide +kernel)⟩
theorem lw_p52 : lw_okq (⟨"FrameRaiserModel", "standingOf", "(I)I"⟩, 14) := ⟨⟨by decide +kernel, by decide +kernel⟩, List.mem_of_getElem? (i := 646) (by decide +kernel), List.mem_of_getElem? (i := 889) (by decide +kernel), List.mem_of_getElem? (i := 890) (by decide +kernel)⟩
theorem lw_p53 : lw_okq (⟨"FrameRaiserModel", "findsOrders", "(I)V"⟩, 14) := ⟨⟨by decide +kernel, by decide +kernel⟩, List.mem_of_getElem? (i := 646) (by decide +kernel), List.mem_of_getElem? (i := 897) (by decide +kernel), List.mem_of_getElem? (i := 898) (by decide +kernel)⟩
theorem lw_p54 : lw_okq (⟨"FrameRaiserModel", "comesLast", "(II)V"⟩, 14) := ⟨⟨by decide +kernel, by decide +kernel⟩, List.mem_of_getElem? (i := 646) (by decide +kernel), List.mem_of_getElem? (i := 904) (by decide +kernel), List.mem_of_getElem? (i := 905) (by decide +kernel)⟩
theorem lw_p55 : lw_okq (⟨"FrameRaiserModel", "findsLeads", "(I)V"⟩, 14) := ⟨⟨by decide +kernel, by decide +kernel⟩, List.mem_of_getElem? (i := 646) (by decide +kernel), List.mem_of_getElem? (i := 919) (by decide +kernel), List.mem_of_getElem? (i := 920) (by decide +kernel)⟩
theorem lw_p56 : lw_okq (⟨"FrameRaiserModel", "canCome", "(III)Z"⟩, 14) := ⟨⟨by decide +kernel, by decide +kernel⟩, List.mem_of_getElem? (i := 646) (by decide +kernel), List.mem_of_getElem? (i := 923) (by decide +kernel), List.mem_of_getElem? (i := 924) (by decide +kernel)⟩
theorem lw_p57 : lw_okq (⟨"FrameRaiserModel", "lockedOf", "(I)I"⟩, 14) := ⟨⟨by decide +kernel, by decide +kernel⟩, List.mem_of_getElem? (i := 646) (by decide +kernel), List.mem_of_getElem? (i := 934) (by decide +kernel), List.mem_of_getElem? (i := 935) (by decide +kernel)⟩
theorem lw_p58 : lw_okq (⟨"FrameRaiserModel", "groupOf", "(I)I"⟩, 14) := ⟨⟨by decide +kernel, by decide +kernel⟩, List.mem_of_getElem? (i := 646) (by decide +kernel), List.mem_of_getElem? (i := 942) (by decide +kernel), List.mem_of_getElem? (i := 943) (by decide +kernel)⟩
theorem lw_p59 : lw_okq (⟨"FrameRaiserModel", "commonWays", "(II)I"⟩, 14) := ⟨⟨by decide +kernel, by decide +kernel⟩, List.mem_of_getElem? (i := 646) (by decide +kernel), List.mem_of_getElem? (i := 946) (by decide +kernel), List.mem_of_getElem? (i := 947) (by decide +kernel)⟩
theorem lw_p60 : lw_okq (⟨"FrameRaiserModel", "cellMany", "()I"⟩, 14) := ⟨⟨by decide +kernel, by decide +kernel⟩, List.mem_of_getElem? (i := 646) (by decide +kernel), List.mem_of_getElem? (i := 970) (by decide +kernel), List.mem_of_getElem? (i := 971) (by decide +kernel)⟩
theorem lw_p61 : lw_okq (⟨"FrameRaiserModel", "mixes", "(I)V"⟩, 14) := ⟨⟨by decide +kernel, by decide +kernel⟩, List.mem_of_getElem? (i := 646) (by decide +kernel), List.mem_of_getElem? (i := 980) (by decide +kernel), List.mem_of_getElem? (i := 981) (by decide +kernel)⟩
theorem lw_p62 : lw_okq (⟨"FrameRaiserModel", "mixesSet", "(I)V"⟩, 14) := ⟨⟨by decide +kernel, by decide +kernel⟩, List.mem_of_getElem? (i := 646) (by decide +kernel), List.mem_of_getElem? (i := 987) (by decide +kernel), List.mem_of_getElem? (i := 988) (by decide +kernel)⟩
def lw_privs_4 : List (MethodName × Nat) := [(⟨"FrameRaiserModel", "isFree", "(III)Z"⟩, 14), (⟨"FrameRaiserModel", "contactOf", "(II)I"⟩, 14), (⟨"FrameRaiserModel", "hangs", "(I)Z"⟩, 14), (⟨"FrameRaiserModel", "propsOf", "(I)I"⟩, 14), (⟨"FrameRaiserModel", "standingOf", "(I)I"⟩, 14), (⟨"FrameRaiserModel", "findsOrders", "(I)V"⟩, 14), (⟨"FrameRaiserModel", "comesLast", "(II)V"⟩, 14), (⟨"FrameRaiserModel", "findsLeads", "(I)V"⟩, 14), (⟨"FrameRaiserModel", "canCome", "(III)Z"⟩, 14), (⟨"FrameRaiserModel", "lockedOf", "(I)I"⟩, 14), (⟨"FrameRaiserModel", "groupOf", "(I)I"⟩, 14), (⟨"FrameRaiserModel", "commonWays", "(II)I"⟩, 14), (⟨"FrameRaiserModel", "cellMany", "()I"⟩, 14), (⟨"FrameRaiserModel", "mixes", "(I)V"⟩, 14), (⟨"FrameRaiserModel", "mixesSet", "(I)V"⟩, 14)]
theorem lw_r4 : ∀ q ∈ lw_privs_4, lw_okq q := List.forall_mem_cons.mpr ⟨lw_p48, List.forall_mem_cons.mpr ⟨lw_p49, List.forall_mem_cons.mpr ⟨lw_p50, List.forall_mem_cons.mpr ⟨lw_p51, List.forall_mem_cons.mpr ⟨lw_p52, List.forall_mem_cons.mpr ⟨lw_p53, List.forall_mem_cons.mpr ⟨lw_p54, List.forall_mem_cons.mpr ⟨lw_p55, List.forall_mem_cons.mpr ⟨lw_p56, List.forall_mem_cons.mpr ⟨lw_p57, List.forall_mem_cons.mpr ⟨lw_p58, List.forall_mem_cons.mpr ⟨lw_p59, List.forall_mem_cons.mpr ⟨lw_p60, List.forall_mem_cons.mpr ⟨lw_p61, List.forall_mem_cons.mpr ⟨lw_p62, fun _ h => absurd h List.not_mem_nil⟩⟩⟩⟩⟩⟩⟩⟩⟩⟩⟩⟩⟩⟩⟩
def lw_privs : List (MethodName × Nat) := lw_privs_1 ++ (lw_privs_2 ++ (lw_privs_3 ++ (lw_privs_4)))
def lw_tbl : List Cond := k2_sels lw_privs ++ tables_1
theorem lw_privs_ok : ∀ q ∈ lw_privs, lw_okq q := by
  show ∀ q ∈ lw_privs_1 ++ (lw_privs_2 ++ (lw_privs_3 ++ (lw_privs_4))), lw_okq q
  exact List.forall_mem_append.mpr ⟨lw_r1, List.forall_mem_append.mpr ⟨lw_r2, List.forall_mem_append.mpr ⟨lw_r3, lw_r4⟩⟩⟩
end
section
def RX0 : String := "FrameRaiser$Box"
def TX0 : u_T := fun k => match k with
  | _ => ("FrameRaiser$Box", "numbers", "[I", true)
def tyX0 : Nat → FieldType := fun k => match k with
  | _ => .array .int
theorem nmX0 : ∀ a, a < 1 → ∀ b, b < 1 → a ≠ b → (TX0 a).2.1 ≠ (TX0 b).2.1 := by decide +kernel
theorem tyX0_ok : ∀ k, k < 1 → parseFieldDescriptor (TX0 k).2.2.1 = some (tyX0 k) := by decide +kernel
abbrev cX0_init : ByteArray := prog_2_method_1_code
def yX0_init : MethodName := ⟨RX0, "<init>", "()V"⟩
abbrev cX0_takeAll : ByteArray := prog_2_method_2_code
def yX0_takeAll : MethodName := ⟨RX0, "takeAll", "(IIIIII)Z"⟩
abbrev cX0_take : ByteArray := prog_2_method_3_code
def yX0_take : MethodName := ⟨RX0, "take", "(II)Z"⟩
abbrev cX0_contains : ByteArray := prog_2_method_4_code
def yX0_contains : MethodName := ⟨RX0, "contains", "(I)Z"⟩
def RX1 : String := "FrameRaiser$Frame"
def TX1 : u_T := fun k => match k with
  | 0 => ("FrameRaiser$Frame", "owners", "[I", true)
  | 1 => ("FrameRaiser$Frame", "boxes", "[I", true)
  | 2 => ("FrameRaiser$Frame", "pieces", "I", false)
  | 3 => ("FrameRaiser$Frame", "building", "I", false)
  | _ => ("FrameRaiser$Frame", "steps", "I", false)
def tyX1 : Nat → FieldType := fun k => match k with
  | 0 => .array .int
  | 1 => .array .int
  | 2 => .int
  | 3 => .int
  | _ => .int
theorem nmX1 : ∀ a, a < 5 → ∀ b, b < 5 → a ≠ b → (TX1 a).2.1 ≠ (TX1 b).2.1 := by decide +kernel
theorem tyX1_ok : ∀ k, k < 5 → parseFieldDescriptor (TX1 k).2.2.1 = some (tyX1 k) := by decide +kernel
abbrev cX1_init : ByteArray := prog_3_method_1_code
def yX1_init : MethodName := ⟨RX1, "<init>", "()V"⟩
abbrev cX1_empty : ByteArray := prog_3_method_2_code
def yX1_empty : MethodName := ⟨RX1, "empty", "()V"⟩
abbrev cX1_copyFrom : ByteArray := prog_3_method_3_code
def yX1_copyFrom : MethodName := ⟨RX1, "copyFrom", "(LFrameRaiser$Frame;)V"⟩
abbrev cX1_meetsOther : ByteArray := prog_3_method_4_code
def yX1_meetsOther : MethodName := ⟨RX1, "meetsOther", "(LFrameRaiser$Box;I)Z"⟩
abbrev cX1_addBox : ByteArray := prog_3_method_5_code
def yX1_addBox : MethodName := ⟨RX1, "addBox", "(LFrameRaiser$Box;I)V"⟩
abbrev cX1_remove : ByteArray := prog_3_method_6_code
def yX1_remove : MethodName := ⟨RX1, "remove", "(I)V"⟩
abbrev cX1_canMove : ByteArray := prog_3_method_7_code
def yX1_canMove : MethodName := ⟨RX1, "canMove", "(II)Z"⟩
abbrev cX1_isOpen : ByteArray := prog_3_method_8_code
def yX1_isOpen : MethodName := ⟨RX1, "isOpen", "(II)Z"⟩
abbrev cX1_move : ByteArray := prog_3_method_9_code
def yX1_move : MethodName := ⟨RX1, "move", "(II)V"⟩
abbrev cX1_turn : ByteArray := prog_3_method_10_code
def yX1_turn : MethodName := ⟨RX1, "turn", "(I)V"⟩
def RX2 : String := "FrameRaiser$History"
def TX2 : u_T := fun k => match k with
  | 0 => ("FrameRaiser$History", "size", "I", false)
  | 1 => ("FrameRaiser$History", "states", "[LFrameRaiser$Frame;", true)
  | _ => ("FrameRaiser$History", "oldest", "I", false)
def tyX2 : Nat → FieldType := fun k => match k with
  | 0 => .int
  | 1 => .array (.object "FrameRaiser$Frame")
  | _ => .int
theorem nmX2 : ∀ a, a < 3 → ∀ b, b < 3 → a ≠ b → (TX2 a).2.1 ≠ (TX2 b).2.1 := by decide +kernel
theorem tyX2_ok : ∀ k, k < 3 → parseFieldDescriptor (TX2 k).2.2.1 = some (tyX2 k) := by decide +kernel
abbrev cX2_init : ByteArray := prog_4_method_1_code
def yX2_init : MethodName := ⟨RX2, "<init>", "()V"⟩
abbrev cX2_record : ByteArray := prog_4_method_2_code
def yX2_record : MethodName := ⟨RX2, "record", "(LFrameRaiser$Frame;)V"⟩
abbrev cX2_restore : ByteArray := prog_4_method_3_code
def yX2_restore : MethodName := ⟨RX2, "restore", "(LFrameRaiser$Frame;)V"⟩
def RX3 : String := "FrameRaiser$Measures"
def TX3 : u_T := fun k => match k with
  | 0 => ("FrameRaiser$Measures", "cells", "[I", true)
  | 1 => ("FrameRaiser$Measures", "groundCells", "[I", true)
  | 2 => ("FrameRaiser$Measures", "smallest", "[I", true)
  | 3 => ("FrameRaiser$Measures", "greatest", "[I", true)
  | _ => ("FrameRaiser$Measures", "allCells", "I", false)
def tyX3 : Nat → FieldType := fun k => match k with
  | 0 => .array .int
  | 1 => .array .int
  | 2 => .array .int
  | 3 => .array .int
  | _ => .int
theorem nmX3 : ∀ a, a < 5 → ∀ b, b < 5 → a ≠ b → (TX3 a).2.1 ≠ (TX3 b).2.1 := by decide +kernel
theorem tyX3_ok : ∀ k, k < 5 → parseFieldDescriptor (TX3 k).2.2.1 = some (tyX3 k) := by decide +kernel
abbrev cX3_init : ByteArray := prog_5_method_1_code
def yX3_init : MethodName := ⟨RX3, "<init>", "()V"⟩
abbrev cX3_read : ByteArray := prog_5_method_2_code
def yX3_read : MethodName := ⟨RX3, "read", "(LFrameRaiser$Frame;)V"⟩
abbrev cX3_measure : ByteArray := prog_5_method_3_code
def yX3_measure : MethodName := ⟨RX3, "measure", "(II)V"⟩
def RX4 : String := "FrameRaiser$Planner"
def TX4 : u_T := fun k => match k with
  | 0 => ("FrameRaiser$Planner", "orderCounts", "[I", true)
  | 1 => ("FrameRaiser$Planner", "fewest", "[I", true)
  | 2 => ("FrameRaiser$Planner", "planPieces", "[I", true)
  | 3 => ("FrameRaiser$Planner", "planWays", "[I", true)
  | 4 => ("FrameRaiser$Planner", "planSize", "I", false)
  | 5 => ("FrameRaiser$Planner", "relations", "LFrameRaiser$Relations;", true)
  | 6 => ("FrameRaiser$Planner", "propCounts", "[I", true)
  | 7 => ("FrameRaiser$Planner", "leadsOn", "[Z", true)
  | _ => ("FrameRaiser$Planner", "plannedSet", "I", false)
def tyX4 : Nat → FieldType := fun k => match k with
  | 0 => .array .int
  | 1 => .array .int
  | 2 => .array .int
  | 3 => .array .int
  | 4 => .int
  | 5 => .object "FrameRaiser$Relations"
  | 6 => .array .int
  | 7 => .array .boolean
  | _ => .int
theorem nmX4 : ∀ a, a < 9 → ∀ b, b < 9 → a ≠ b → (TX4 a).2.1 ≠ (TX4 b).2.1 := by decide +kernel
theorem tyX4_ok : ∀ k, k < 9 → parseFieldDescriptor (TX4 k).2.2.1 = some (tyX4 k) := by decide +kernel
abbrev cX4_init : ByteArray := prog_6_method_1_code
def yX4_init : MethodName := ⟨RX4, "<init>", "(LFrameRaiser$Relations;)V"⟩
abbrev cX4_fillTables : ByteArray := prog_6_method_2_code
def yX4_fillTables : MethodName := ⟨RX4, "fillTables", "()V"⟩
abbrev cX4_fillRow : ByteArray := prog_6_method_3_code
def yX4_fillRow : MethodName := ⟨RX4, "fillRow", "(I)V"⟩
abbrev cX4_plan : ByteArray := prog_6_method_4_code
def yX4_plan : MethodName := ⟨RX4, "plan", "(I)V"⟩
abbrev cX4_markLeading : ByteArray := prog_6_method_5_code
def yX4_markLeading : MethodName := ⟨RX4, "markLeading", "(I)V"⟩
abbrev cX4_followLeading : ByteArray := prog_6_method_6_code
def yX4_followLeading : MethodName := ⟨RX4, "followLeading", "(I)V"⟩
abbrev cX4_nextPlanned : ByteArray := prog_6_method_7_code
def yX4_nextPlanned : MethodName := ⟨RX4, "nextPlanned", "(II)I"⟩
def RX5 : String := "FrameRaiser$Relations"
def TX5 : u_T := fun k => match k with
  | 0 => ("FrameRaiser$Relations", "contacts", "[I", true)
  | 1 => ("FrameRaiser$Relations", "blocking", "[I", true)
  | 2 => ("FrameRaiser$Relations", "touching", "[I", true)
  | 3 => ("FrameRaiser$Relations", "below", "[I", true)
  | 4 => ("FrameRaiser$Relations", "grounded", "I", false)
  | _ => ("FrameRaiser$Relations", "pieces", "I", false)
def tyX5 : Nat → FieldType := fun k => match k with
  | 0 => .array .int
  | 1 => .array .int
  | 2 => .array .int
  | 3 => .array .int
  | 4 => .int
  | _ => .int
theorem nmX5 : ∀ a, a < 6 → ∀ b, b < 6 → a ≠ b → (TX5 a).2.1 ≠ (TX5 b).2.1 := by decide +kernel
theorem tyX5_ok : ∀ k, k < 6 → parseFieldDescriptor (TX5 k).2.2.1 = some (tyX5 k) := by decide +kernel
abbrev cX5_init : ByteArray := prog_7_method_1_code
def yX5_init : MethodName := ⟨RX5, "<init>", "()V"⟩
abbrev cX5_read : ByteArray := prog_7_method_2_code
def yX5_read : MethodName := ⟨RX5, "read", "(LFrameRaiser$Frame;)V"⟩
abbrev cX5_reset : ByteArray := prog_7_method_3_code
def yX5_reset : MethodName := ⟨RX5, "reset", "()V"⟩
abbrev cX5_lineStart : ByteArray := prog_7_method_4_code
def yX5_lineStart : MethodName := ⟨RX5, "lineStart", "(II)I"⟩
abbrev cX5_readLine : ByteArray := prog_7_method_5_code
def yX5_readLine : MethodName := ⟨RX5, "readLine", "(LFrameRaiser$Frame;II)V"⟩
abbrev cX5_block : ByteArray := prog_7_method_6_code
def yX5_block : MethodName := ⟨RX5, "block", "(III)I"⟩
abbrev cX5_join : ByteArray := prog_7_method_7_code
def yX5_join : MethodName := ⟨RX5, "join", "(III)V"⟩
abbrev cX5_blockersOf : ByteArray := prog_7_method_8_code
def yX5_blockersOf : MethodName := ⟨RX5, "blockersOf", "(II)I"⟩
abbrev cX5_isFree : ByteArray := prog_7_method_9_code
def yX5_isFree : MethodName := ⟨RX5, "isFree", "(III)Z"⟩
abbrev cX5_firstWay : ByteArray := prog_7_method_10_code
def yX5_firstWay : MethodName := ⟨RX5, "firstWay", "(II)I"⟩
abbrev cX5_isConnected : ByteArray := prog_7_method_11_code
def yX5_isConnected : MethodName := ⟨RX5, "isConnected", "(I)Z"⟩
abbrev cX5_propsOf : ByteArray := prog_7_method_12_code
def yX5_propsOf : MethodName := ⟨RX5, "propsOf", "(I)I"⟩
abbrev cX5_standingOf : ByteArray := prog_7_method_13_code
def yX5_standingOf : MethodName := ⟨RX5, "standingOf", "(I)I"⟩
abbrev cX5_lockedOf : ByteArray := prog_7_method_14_code
def yX5_lockedOf : MethodName := ⟨RX5, "lockedOf", "(I)I"⟩
abbrev cX5_smallestGroup : ByteArray := prog_7_method_15_code
def yX5_smallestGroup : MethodName := ⟨RX5, "smallestGroup", "(I)I"⟩
abbrev cX5_wayOfGroup : ByteArray := prog_7_method_16_code
def yX5_wayOfGroup : MethodName := ⟨RX5, "wayOfGroup", "(II)I"⟩
abbrev cX5_isGroupFree : ByteArray := prog_7_method_17_code
def yX5_isGroupFree : MethodName := ⟨RX5, "isGroupFree", "(III)Z"⟩
def RX6 : String := "FrameRaiser$Text"
def TX6 : u_T := fun k => match k with
  | 0 => ("FrameRaiser$Text", "length", "I", false)
  | 1 => ("FrameRaiser$Text", "fault", "I", false)
  | 2 => ("FrameRaiser$Text", "codes", "[I", true)
  | 3 => ("FrameRaiser$Text", "box", "LFrameRaiser$Box;", true)
  | 4 => ("FrameRaiser$Text", "place", "I", false)
  | 5 => ("FrameRaiser$Text", "digits", "I", false)
  | _ => ("FrameRaiser$Text", "piece", "I", false)
def tyX6 : Nat → FieldType := fun k => match k with
  | 0 => .int
  | 1 => .int
  | 2 => .array .int
  | 3 => .object "FrameRaiser$Box"
  | 4 => .int
  | 5 => .int
  | _ => .int
theorem nmX6 : ∀ a, a < 7 → ∀ b, b < 7 → a ≠ b → (TX6 a).2.1 ≠ (TX6 b).2.1 := by decide +kernel
theorem tyX6_ok : ∀ k, k < 7 → parseFieldDescriptor (TX6 k).2.2.1 = some (tyX6 k) := by decide +kernel
abbrev cX6_init : ByteArray := prog_8_method_1_code
def yX6_init : MethodName := ⟨RX6, "<init>", "()V"⟩
abbrev cX6_append : ByteArray := prog_8_method_2_code
def yX6_append : MethodName := ⟨RX6, "append", "(I)V"⟩
abbrev cX6_readInto : ByteArray := prog_8_method_3_code
def yX6_readInto : MethodName := ⟨RX6, "readInto", "(LFrameRaiser$Frame;)I"⟩
abbrev cX6_readSign : ByteArray := prog_8_method_4_code
def yX6_readSign : MethodName := ⟨RX6, "readSign", "(ILFrameRaiser$Frame;)I"⟩
abbrev cX6_readDigit : ByteArray := prog_8_method_5_code
def yX6_readDigit : MethodName := ⟨RX6, "readDigit", "(ILFrameRaiser$Frame;)I"⟩
abbrev cX6_readSeparator : ByteArray := prog_8_method_6_code
def yX6_readSeparator : MethodName := ⟨RX6, "readSeparator", "(ILFrameRaiser$Frame;)I"⟩
abbrev cX6_beginPiece : ByteArray := prog_8_method_7_code
def yX6_beginPiece : MethodName := ⟨RX6, "beginPiece", "()I"⟩
def RX7 : String := "FrameRaiser"
def TX7 : u_T := fun k => match k with
  | 0 => ("FrameRaiser", "frame", "LFrameRaiser$Frame;", true)
  | 1 => ("FrameRaiser", "measures", "LFrameRaiser$Measures;", true)
  | 2 => ("FrameRaiser", "relations", "LFrameRaiser$Relations;", true)
  | 3 => ("FrameRaiser", "planner", "LFrameRaiser$Planner;", true)
  | 4 => ("FrameRaiser", "history", "LFrameRaiser$History;", true)
  | 5 => ("FrameRaiser", "text", "LFrameRaiser$Text;", true)
  | 6 => ("FrameRaiser", "box", "LFrameRaiser$Box;", true)
  | 7 => ("FrameRaiser", "trialFrame", "LFrameRaiser$Frame;", true)
  | 8 => ("FrameRaiser", "trialRelations", "LFrameRaiser$Relations;", true)
  | 9 => ("FrameRaiser", "measured", "Z", false)
  | 10 => ("FrameRaiser", "related", "Z", false)
  | _ => ("FrameRaiser", "tabled", "Z", false)
def tyX7 : Nat → FieldType := fun k => match k with
  | 0 => .object "FrameRaiser$Frame"
  | 1 => .object "FrameRaiser$Measures"
  | 2 => .object "FrameRaiser$Relations"
  | 3 => .object "FrameRaiser$Planner"
  | 4 => .object "FrameRaiser$History"
  | 5 => .object "FrameRaiser$Text"
  | 6 => .object "FrameRaiser$Box"
  | 7 => .object "FrameRaiser$Frame"
  | 8 => .object "FrameRaiser$Relations"
  | 9 => .boolean
  | 10 => .boolean
  | _ => .boolean
theorem nmX7 : ∀ a, a < 12 → ∀ b, b < 12 → a ≠ b → (TX7 a).2.1 ≠ (TX7 b).2.1 := by decide +kernel
theorem tyX7_ok : ∀ k, k < 12 → parseFieldDescriptor (TX7 k).2.2.1 = some (tyX7 k) := by decide +kernel
abbrev cX7_init : ByteArray := prog_1_method_1_code
def yX7_init : MethodName := ⟨RX7, "<init>", "()V"⟩
abbrev cX7_type : ByteArray := prog_1_method_2_code
def yX7_type : MethodName := ⟨RX7, "type", "(I)I"⟩
abbrev cX7_clearText : ByteArray := prog_1_method_3_code
def yX7_clearText : MethodName := ⟨RX7, "clearText", "()I"⟩
abbrev cX7_load : ByteArray := prog_1_method_4_code
def yX7_load : MethodName := ⟨RX7, "load", "()I"⟩
abbrev cX7_faultKind : ByteArray := prog_1_method_5_code
def yX7_faultKind : MethodName := ⟨RX7, "faultKind", "()I"⟩
abbrev cX7_clear : ByteArray := prog_1_method_6_code
def yX7_clear : MethodName := ⟨RX7, "clear", "()I"⟩
abbrev cX7_addPiece : ByteArray := prog_1_method_7_code
def yX7_addPiece : MethodName := ⟨RX7, "addPiece", "(IIIIII)I"⟩
abbrev cX7_extend : ByteArray := prog_1_method_8_code
def yX7_extend : MethodName := ⟨RX7, "extend", "(IIIIIII)I"⟩
abbrev cX7_drop : ByteArray := prog_1_method_9_code
def yX7_drop : MethodName := ⟨RX7, "drop", "(I)I"⟩
abbrev cX7_shift : ByteArray := prog_1_method_10_code
def yX7_shift : MethodName := ⟨RX7, "shift", "(II)I"⟩
abbrev cX7_pieceAt : ByteArray := prog_1_method_11_code
def yX7_pieceAt : MethodName := ⟨RX7, "pieceAt", "(III)I"⟩
abbrev cX7_piece : ByteArray := prog_1_method_12_code
def yX7_piece : MethodName := ⟨RX7, "piece", "(II)I"⟩
abbrev cX7_blockers : ByteArray := prog_1_method_13_code
def yX7_blockers : MethodName := ⟨RX7, "blockers", "(II)I"⟩
abbrev cX7_ways : ByteArray := prog_1_method_14_code
def yX7_ways : MethodName := ⟨RX7, "ways", "(II)I"⟩
abbrev cX7_contact : ByteArray := prog_1_method_15_code
def yX7_contact : MethodName := ⟨RX7, "contact", "(II)I"⟩
abbrev cX7_hangsTogether : ByteArray := prog_1_method_16_code
def yX7_hangsTogether : MethodName := ⟨RX7, "hangsTogether", "(I)I"⟩
abbrev cX7_props : ByteArray := prog_1_method_17_code
def yX7_props : MethodName := ⟨RX7, "props", "(I)I"⟩
abbrev cX7_standing : ByteArray := prog_1_method_18_code
def yX7_standing : MethodName := ⟨RX7, "standing", "(I)I"⟩
abbrev cX7_orders : ByteArray := prog_1_method_19_code
def yX7_orders : MethodName := ⟨RX7, "orders", "(I)I"⟩
abbrev cX7_fewestProps : ByteArray := prog_1_method_20_code
def yX7_fewestProps : MethodName := ⟨RX7, "fewestProps", "(I)I"⟩
abbrev cX7_planned : ByteArray := prog_1_method_21_code
def yX7_planned : MethodName := ⟨RX7, "planned", "(IIZ)I"⟩
abbrev cX7_locked : ByteArray := prog_1_method_22_code
def yX7_locked : MethodName := ⟨RX7, "locked", "(I)I"⟩
abbrev cX7_firstGroup : ByteArray := prog_1_method_23_code
def yX7_firstGroup : MethodName := ⟨RX7, "firstGroup", "(IZ)I"⟩
abbrev cX7_put : ByteArray := prog_1_method_24_code
def yX7_put : MethodName := ⟨RX7, "put", "(II)I"⟩
abbrev cX7_takeOut : ByteArray := prog_1_method_25_code
def yX7_takeOut : MethodName := ⟨RX7, "takeOut", "(II)I"⟩
abbrev cX7_putAll : ByteArray := prog_1_method_26_code
def yX7_putAll : MethodName := ⟨RX7, "putAll", "()I"⟩
abbrev cX7_ifShift : ByteArray := prog_1_method_27_code
def yX7_ifShift : MethodName := ⟨RX7, "ifShift", "(II)I"⟩
abbrev cX7_undo : ByteArray := prog_1_method_28_code
def yX7_undo : MethodName := ⟨RX7, "undo", "()I"⟩
abbrev cX7_count : ByteArray := prog_1_method_29_code
def yX7_count : MethodName := ⟨RX7, "count", "(I)I"⟩
abbrev cX7_digest : ByteArray := prog_1_method_30_code
def yX7_digest : MethodName := ⟨RX7, "digest", "()J"⟩
abbrev cX7_mixPiece : ByteArray := prog_1_method_31_code
def yX7_mixPiece : MethodName := ⟨RX7, "mixPiece", "(JI)J"⟩
abbrev cX7_step : ByteArray := prog_1_method_32_code
def yX7_step : MethodName := ⟨RX7, "step", "(IIZ)I"⟩
abbrev cX7_nextToPut : ByteArray := prog_1_method_33_code
def yX7_nextToPut : MethodName := ⟨RX7, "nextToPut", "()I"⟩
abbrev cX7_shiftFault : ByteArray := prog_1_method_34_code
def yX7_shiftFault : MethodName := ⟨RX7, "shiftFault", "(II)I"⟩
abbrev cX7_isPiece : ByteArray := prog_1_method_35_code
def yX7_isPiece : MethodName := ⟨RX7, "isPiece", "(I)Z"⟩
abbrev cX7_isSet : ByteArray := prog_1_method_36_code
def yX7_isSet : MethodName := ⟨RX7, "isSet", "(I)Z"⟩
abbrev cX7_allPieces : ByteArray := prog_1_method_37_code
def yX7_allPieces : MethodName := ⟨RX7, "allPieces", "()I"⟩
abbrev cX7_forgetPieces : ByteArray := prog_1_method_38_code
def yX7_forgetPieces : MethodName := ⟨RX7, "forgetPieces", "()V"⟩
abbrev cX7_knownMeasures : ByteArray := prog_1_method_39_code
def yX7_knownMeasures : MethodName := ⟨RX7, "knownMeasures", "()LFrameRaiser$Measures;"⟩
abbrev cX7_knownRelations : ByteArray := prog_1_method_40_code
def yX7_knownRelations : MethodName := ⟨RX7, "knownRelations", "()LFrameRaiser$Relations;"⟩
abbrev cX7_knownPlanner : ByteArray := prog_1_method_41_code
def yX7_knownPlanner : MethodName := ⟨RX7, "knownPlanner", "()LFrameRaiser$Planner;"⟩
abbrev cX7_isDirection : ByteArray := prog_1_method_42_code
def yX7_isDirection : MethodName := ⟨RX7, "isDirection", "(I)Z"⟩
abbrev cX7_isCoordinate : ByteArray := prog_1_method_43_code
def yX7_isCoordinate : MethodName := ⟨RX7, "isCoordinate", "(I)Z"⟩
abbrev cX7_has : ByteArray := prog_1_method_44_code
def yX7_has : MethodName := ⟨RX7, "has", "(II)Z"⟩
abbrev cX7_coordinate : ByteArray := prog_1_method_45_code
def yX7_coordinate : MethodName := ⟨RX7, "coordinate", "(II)I"⟩
abbrev cX7_stride : ByteArray := prog_1_method_46_code
def yX7_stride : MethodName := ⟨RX7, "stride", "(I)I"⟩
abbrev cX7_neighbor : ByteArray := prog_1_method_47_code
def yX7_neighbor : MethodName := ⟨RX7, "neighbor", "(II)I"⟩
def RX8 : String := "FrameRaiserModel"
def TX8 : u_T := fun k => match k with
  | 0 => ("FrameRaiserModel", "page", "[I", true)
  | 1 => ("FrameRaiserModel", "backMany", "I", false)
  | 2 => ("FrameRaiserModel", "blocking", "[I", true)
  | 3 => ("FrameRaiserModel", "below", "[I", true)
  | 4 => ("FrameRaiserModel", "isGrounded", "[Z", true)
  | 5 => ("FrameRaiserModel", "ways", "[I", true)
  | 6 => ("FrameRaiserModel", "least", "[I", true)
  | 7 => ("FrameRaiserModel", "leads", "[Z", true)
  | 8 => ("FrameRaiserModel", "text", "[I", true)
  | 9 => ("FrameRaiserModel", "typed", "I", false)
  | 10 => ("FrameRaiserModel", "fault", "I", false)
  | 11 => ("FrameRaiserModel", "faultAt", "I", false)
  | 12 => ("FrameRaiserModel", "had", "[Z", true)
  | _ => ("FrameRaiserModel", "hash", "J", false)
def tyX8 : Nat → FieldType := fun k => match k with
  | 0 => .array .int
  | 1 => .int
  | 2 => .array .int
  | 3 => .array .int
  | 4 => .array .boolean
  | 5 => .array .int
  | 6 => .array .int
  | 7 => .array .boolean
  | 8 => .array .int
  | 9 => .int
  | 10 => .int
  | 11 => .int
  | 12 => .array .boolean
  | _ => .long
theorem nmX8 : ∀ a, a < 14 → ∀ b, b < 14 → a ≠ b → (TX8 a).2.1 ≠ (TX8 b).2.1 := by decide +kernel
theorem tyX8_ok : ∀ k, k < 14 → parseFieldDescriptor (TX8 k).2.2.1 = some (tyX8 k) := by decide +kernel
abbrev cX8_init : ByteArray := prog_10_method_1_code
def yX8_init : MethodName := ⟨RX8, "<init>", "()V"⟩
abbrev cX8_in : ByteArray := prog_10_method_3_code
def yX8_in : MethodName := ⟨RX8, "in", "(III)Z"⟩
abbrev cX8_copies : ByteArray := prog_10_method_4_code
def yX8_copies : MethodName := ⟨RX8, "copies", "(II)V"⟩
abbrev cX8_records : ByteArray := prog_10_method_5_code
def yX8_records : MethodName := ⟨RX8, "records", "()V"⟩
abbrev cX8_undo : ByteArray := prog_10_method_6_code
def yX8_undo : MethodName := ⟨RX8, "undo", "()I"⟩
abbrev cX8_place : ByteArray := prog_10_method_7_code
def yX8_place : MethodName := ⟨RX8, "place", "(III)I"⟩
abbrev cX8_at : ByteArray := prog_10_method_8_code
def yX8_at : MethodName := ⟨RX8, "at", "(I)I"⟩
abbrev cX8_step : ByteArray := prog_10_method_9_code
def yX8_step : MethodName := ⟨RX8, "step", "(II)I"⟩
abbrev cX8_isPiece : ByteArray := prog_10_method_10_code
def yX8_isPiece : MethodName := ⟨RX8, "isPiece", "(I)Z"⟩
abbrev cX8_isDirection : ByteArray := prog_10_method_11_code
def yX8_isDirection : MethodName := ⟨RX8, "isDirection", "(I)Z"⟩
abbrev cX8_all : ByteArray := prog_10_method_12_code
def yX8_all : MethodName := ⟨RX8, "all", "()I"⟩
abbrev cX8_isSet : ByteArray := prog_10_method_13_code
def yX8_isSet : MethodName := ⟨RX8, "isSet", "(I)Z"⟩
abbrev cX8_isBox : ByteArray := prog_10_method_14_code
def yX8_isBox : MethodName := ⟨RX8, "isBox", "(IIIIII)Z"⟩
abbrev cX8_meets : ByteArray := prog_10_method_15_code
def yX8_meets : MethodName := ⟨RX8, "meets", "(IIIIIII)Z"⟩
abbrev cX8_fills : ByteArray := prog_10_method_16_code
def yX8_fills : MethodName := ⟨RX8, "fills", "(IIIIIII)V"⟩
abbrev cX8_lays : ByteArray := prog_10_method_17_code
def yX8_lays : MethodName := ⟨RX8, "lays", "()V"⟩
abbrev cX8_looks : ByteArray := prog_10_method_18_code
def yX8_looks : MethodName := ⟨RX8, "looks", "(III)V"⟩
abbrev cX8_isFree : ByteArray := prog_10_method_19_code
def yX8_isFree : MethodName := ⟨RX8, "isFree", "(III)Z"⟩
abbrev cX8_waysOf : ByteArray := prog_10_method_20_code
def yX8_waysOf : MethodName := ⟨RX8, "waysOf", "(II)I"⟩
abbrev cX8_bits : ByteArray := prog_10_method_21_code
def yX8_bits : MethodName := ⟨RX8, "bits", "(I)I"⟩
abbrev cX8_has : ByteArray := prog_10_method_22_code
def yX8_has : MethodName := ⟨RX8, "has", "(II)Z"⟩
abbrev cX8_propsOf : ByteArray := prog_10_method_23_code
def yX8_propsOf : MethodName := ⟨RX8, "propsOf", "(I)I"⟩
abbrev cX8_standingOf : ByteArray := prog_10_method_24_code
def yX8_standingOf : MethodName := ⟨RX8, "standingOf", "(I)I"⟩
abbrev cX8_contactOf : ByteArray := prog_10_method_25_code
def yX8_contactOf : MethodName := ⟨RX8, "contactOf", "(II)I"⟩
abbrev cX8_hangs : ByteArray := prog_10_method_26_code
def yX8_hangs : MethodName := ⟨RX8, "hangs", "(I)Z"⟩
abbrev cX8_isWithin : ByteArray := prog_10_method_27_code
def yX8_isWithin : MethodName := ⟨RX8, "isWithin", "(II)Z"⟩
abbrev cX8_findsOrders : ByteArray := prog_10_method_28_code
def yX8_findsOrders : MethodName := ⟨RX8, "findsOrders", "(I)V"⟩
abbrev cX8_comesLast : ByteArray := prog_10_method_29_code
def yX8_comesLast : MethodName := ⟨RX8, "comesLast", "(II)V"⟩
abbrev cX8_findsLeads : ByteArray := prog_10_method_30_code
def yX8_findsLeads : MethodName := ⟨RX8, "findsLeads", "(I)V"⟩
abbrev cX8_canCome : ByteArray := prog_10_method_31_code
def yX8_canCome : MethodName := ⟨RX8, "canCome", "(III)Z"⟩
abbrev cX8_lowest : ByteArray := prog_10_method_32_code
def yX8_lowest : MethodName := ⟨RX8, "lowest", "(I)I"⟩
abbrev cX8_lockedOf : ByteArray := prog_10_method_33_code
def yX8_lockedOf : MethodName := ⟨RX8, "lockedOf", "(I)I"⟩
abbrev cX8_commonWays : ByteArray := prog_10_method_34_code
def yX8_commonWays : MethodName := ⟨RX8, "commonWays", "(II)I"⟩
abbrev cX8_groupOf : ByteArray := prog_10_method_35_code
def yX8_groupOf : MethodName := ⟨RX8, "groupOf", "(I)I"⟩
abbrev cX8_type : ByteArray := prog_10_method_36_code
def yX8_type : MethodName := ⟨RX8, "type", "(I)I"⟩
abbrev cX8_clearText : ByteArray := prog_10_method_37_code
def yX8_clearText : MethodName := ⟨RX8, "clearText", "()I"⟩
abbrev cX8_spaced : ByteArray := prog_10_method_38_code
def yX8_spaced : MethodName := ⟨RX8, "spaced", "(I)I"⟩
abbrev cX8_fails : ByteArray := prog_10_method_39_code
def yX8_fails : MethodName := ⟨RX8, "fails", "(II)I"⟩
abbrev cX8_digit : ByteArray := prog_10_method_40_code
def yX8_digit : MethodName := ⟨RX8, "digit", "(I)I"⟩
abbrev cX8_readsBox : ByteArray := prog_10_method_41_code
def yX8_readsBox : MethodName := ⟨RX8, "readsBox", "(II)I"⟩
abbrev cX8_reads : ByteArray := prog_10_method_42_code
def yX8_reads : MethodName := ⟨RX8, "reads", "()V"⟩
abbrev cX8_empties : ByteArray := prog_10_method_43_code
def yX8_empties : MethodName := ⟨RX8, "empties", "()V"⟩
abbrev cX8_load : ByteArray := prog_10_method_44_code
def yX8_load : MethodName := ⟨RX8, "load", "()I"⟩
abbrev cX8_faultKind : ByteArray := prog_10_method_45_code
def yX8_faultKind : MethodName := ⟨RX8, "faultKind", "()I"⟩
abbrev cX8_clear : ByteArray := prog_10_method_46_code
def yX8_clear : MethodName := ⟨RX8, "clear", "()I"⟩
abbrev cX8_addPiece : ByteArray := prog_10_method_47_code
def yX8_addPiece : MethodName := ⟨RX8, "addPiece", "(IIIIII)I"⟩
abbrev cX8_cellsOf : ByteArray := prog_10_method_48_code
def yX8_cellsOf : MethodName := ⟨RX8, "cellsOf", "(I)I"⟩
abbrev cX8_extend : ByteArray := prog_10_method_49_code
def yX8_extend : MethodName := ⟨RX8, "extend", "(IIIIIII)I"⟩
abbrev cX8_drop : ByteArray := prog_10_method_50_code
def yX8_drop : MethodName := ⟨RX8, "drop", "(I)I"⟩
abbrev cX8_wrongShift : ByteArray := prog_10_method_51_code
def yX8_wrongShift : MethodName := ⟨RX8, "wrongShift", "(II)I"⟩
abbrev cX8_moves : ByteArray := prog_10_method_52_code
def yX8_moves : MethodName := ⟨RX8, "moves", "(II)V"⟩
abbrev cX8_shift : ByteArray := prog_10_method_53_code
def yX8_shift : MethodName := ⟨RX8, "shift", "(II)I"⟩
abbrev cX8_pieceAt : ByteArray := prog_10_method_54_code
def yX8_pieceAt : MethodName := ⟨RX8, "pieceAt", "(III)I"⟩
abbrev cX8_end : ByteArray := prog_10_method_55_code
def yX8_end : MethodName := ⟨RX8, "end", "(IIZ)I"⟩
abbrev cX8_groundOf : ByteArray := prog_10_method_56_code
def yX8_groundOf : MethodName := ⟨RX8, "groundOf", "(I)I"⟩
abbrev cX8_piece : ByteArray := prog_10_method_57_code
def yX8_piece : MethodName := ⟨RX8, "piece", "(II)I"⟩
abbrev cX8_blockers : ByteArray := prog_10_method_58_code
def yX8_blockers : MethodName := ⟨RX8, "blockers", "(II)I"⟩
abbrev cX8_ways : ByteArray := prog_10_method_59_code
def yX8_ways : MethodName := ⟨RX8, "ways", "(II)I"⟩
abbrev cX8_contact : ByteArray := prog_10_method_60_code
def yX8_contact : MethodName := ⟨RX8, "contact", "(II)I"⟩
abbrev cX8_hangsTogether : ByteArray := prog_10_method_61_code
def yX8_hangsTogether : MethodName := ⟨RX8, "hangsTogether", "(I)I"⟩
abbrev cX8_props : ByteArray := prog_10_method_62_code
def yX8_props : MethodName := ⟨RX8, "props", "(I)I"⟩
abbrev cX8_standing : ByteArray := prog_10_method_63_code
def yX8_standing : MethodName := ⟨RX8, "standing", "(I)I"⟩
abbrev cX8_orders : ByteArray := prog_10_method_64_code
def yX8_orders : MethodName := ⟨RX8, "orders", "(I)I"⟩
abbrev cX8_fewestProps : ByteArray := prog_10_method_65_code
def yX8_fewestProps : MethodName := ⟨RX8, "fewestProps", "(I)I"⟩
abbrev cX8_planned : ByteArray := prog_10_method_66_code
def yX8_planned : MethodName := ⟨RX8, "planned", "(IIZ)I"⟩
abbrev cX8_locked : ByteArray := prog_10_method_67_code
def yX8_locked : MethodName := ⟨RX8, "locked", "(I)I"⟩
abbrev cX8_firstGroup : ByteArray := prog_10_method_68_code
def yX8_firstGroup : MethodName := ⟨RX8, "firstGroup", "(IZ)I"⟩
abbrev cX8_put : ByteArray := prog_10_method_69_code
def yX8_put : MethodName := ⟨RX8, "put", "(II)I"⟩
abbrev cX8_takeOut : ByteArray := prog_10_method_70_code
def yX8_takeOut : MethodName := ⟨RX8, "takeOut", "(II)I"⟩
abbrev cX8_putAll : ByteArray := prog_10_method_71_code
def yX8_putAll : MethodName := ⟨RX8, "putAll", "()I"⟩
abbrev cX8_ifShift : ByteArray := prog_10_method_72_code
def yX8_ifShift : MethodName := ⟨RX8, "ifShift", "(II)I"⟩
abbrev cX8_cellMany : ByteArray := prog_10_method_73_code
def yX8_cellMany : MethodName := ⟨RX8, "cellMany", "()I"⟩
abbrev cX8_count : ByteArray := prog_10_method_74_code
def yX8_count : MethodName := ⟨RX8, "count", "(I)I"⟩
abbrev cX8_mixes : ByteArray := prog_10_method_75_code
def yX8_mixes : MethodName := ⟨RX8, "mixes", "(I)V"⟩
abbrev cX8_mixesSet : ByteArray := prog_10_method_76_code
def yX8_mixesSet : MethodName := ⟨RX8, "mixesSet", "(I)V"⟩
abbrev cX8_digest : ByteArray := prog_10_method_77_code
def yX8_digest : MethodName := ⟨RX8, "digest", "()J"⟩
def RJ6 : String := "java/lang/Integer"
def TJ6 : u_T := fun k => match k with
  | _ => ("", "", "", false)
def tyJ6 : Nat → FieldType := fun k => match k with
  | _ => .int
theorem nmJ6 : ∀ a, a < 0 → ∀ b, b < 0 → a ≠ b → (TJ6 a).2.1 ≠ (TJ6 b).2.1 := by decide +kernel
theorem tyJ6_ok : ∀ k, k < 0 → parseFieldDescriptor (TJ6 k).2.2.1 = some (tyJ6 k) := by decide +kernel
abbrev cJ6_bitCount_0f7a4 : ByteArray := prog_11_method_49_code
def yJ6_bitCount_0f7a4 : MethodName := ⟨RJ6, "bitCount", "(I)I"⟩
def RJ9 : String := "java/lang/Math"
def TJ9 : u_T := fun k => match k with
  | _ => ("", "", "", false)
def tyJ9 : Nat → FieldType := fun k => match k with
  | _ => .int
theorem nmJ9 : ∀ a, a < 0 → ∀ b, b < 0 → a ≠ b → (TJ9 a).2.1 ≠ (TJ9 b).2.1 := by decide +kernel
theorem tyJ9_ok : ∀ k, k < 0 → parseFieldDescriptor (TJ9 k).2.2.1 = some (tyJ9 k) := by decide +kernel
abbrev cJ9_max_7cf53 : ByteArray := prog_12_method_65_code
def yJ9_max_7cf53 : MethodName := ⟨RJ9, "max", "(II)I"⟩
abbrev cJ9_min_7cf53 : ByteArray := prog_12_method_69_code
def yJ9_min_7cf53 : MethodName := ⟨RJ9, "min", "(II)I"⟩
def RJ10 : String := "java/lang/System"
def TJ10 : u_T := fun k => match k with
  | _ => ("", "", "", false)
def tyJ10 : Nat → FieldType := fun k => match k with
  | _ => .int
theorem nmJ10 : ∀ a, a < 0 → ∀ b, b < 0 → a ≠ b → (TJ10 a).2.1 ≠ (TJ10 b).2.1 := by decide +kernel
theorem tyJ10_ok : ∀ k, k < 0 → parseFieldDescriptor (TJ10 k).2.2.1 = some (tyJ10 k) := by decide +kernel
def RL : String := "FrameRaiserLaw"
abbrev cL_law : ByteArray := code
def yL_law : MethodName := ⟨RL, "law", "([I)Z"⟩
end
section
def lw_u : List Cond := lw_tbl.filter goodWord
theorem tb0 {w : Cond} (h : w ∈ tables_1) (g : goodWord w = true) : w ∈ lw_u := List.mem_filter.mpr ⟨List.mem_append_right _ h, g⟩
theorem tbq {w : Cond} (h : w ∈ k2_sels lw_privs) (g : goodWord w = true) : w ∈ lw_u := List.mem_filter.mpr ⟨List.mem_append_left _ h, g⟩
theorem tb1 {w : Cond} (h : w ∈ tables_1_1) (g : goodWord w = true) : w ∈ lw_u := tb0 (List.mem_append_left _ h) g
theorem tb2 {w : Cond} (h : w ∈ tables_1_2) (g : goodWord w = true) : w ∈ lw_u := tb0 (List.mem_append_right _ (List.mem_append_left _ h)) g
theorem tb3 {w : Cond} (h : w ∈ tables_1_3) (g : goodWord w = true) : w ∈ lw_u := tb0 (List.mem_append_right _ (List.mem_append_right _ (List.mem_append_left _ h))) g
theorem tb4 {w : Cond} (h : w ∈ tables_1_4) (g : goodWord w = true) : w ∈ lw_u := tb0 (List.mem_append_right _ (List.mem_append_right _ (List.mem_append_right _ (List.mem_append_left _ h)))) g
theorem tb5 {w : Cond} (h : w ∈ tables_1_5) (g : goodWord w = true) : w ∈ lw_u := tb0 (List.mem_append_right _ (List.mem_append_right _ (List.mem_append_right _ (List.mem_append_right _ h)))) g
theorem lw_good {w : Cond} (h : w ∈ lw_u) : goodWord w = true := (List.mem_filter.mp h).2
theorem lw_in {w : Cond} (h : w ∈ lw_u) : w ∈ lw_tbl := (List.mem_filter.mp h).1
theorem wd_1_0 : Cond.initialized RL ∈ lw_u := tb1 (List.mem_of_getElem? (i := 0) (by decide +kernel)) (by decide +kernel)
theorem wd_1_1 : Cond.initialized RX7 ∈ lw_u := tb1 (List.mem_of_getElem? (i := 1) (by decide +kernel)) (by decide +kernel)
theorem wd_1_2 : Cond.initialized RX1 ∈ lw_u := tb1 (List.mem_of_getElem? (i := 2) (by decide +kernel)) (by decide +kernel)
theorem wd_1_3 : Cond.initialized RX3 ∈ lw_u := tb1 (List.mem_of_getElem? (i := 3) (by decide +kernel)) (by decide +kernel)
theorem wd_1_4 : Cond.initialized RX5 ∈ lw_u := tb1 (List.mem_of_getElem? (i := 4) (by decide +kernel)) (by decide +kernel)
theorem wd_1_5 : Cond.initialized RX4 ∈ lw_u := tb1 (List.mem_of_getElem? (i := 5) (by decide +kernel)) (by decide +kernel)
theorem wd_1_6 : Cond.initialized RX2 ∈ lw_u := tb1 (List.mem_of_getElem? (i := 6) (by decide +kernel)) (by decide +kernel)
theorem wd_1_7 : Cond.initialized RX6 ∈ lw_u := tb1 (List.mem_of_getElem? (i := 7) (by decide +kernel)) (by decide +kernel)
theorem wd_1_8 : Cond.initialized RX0 ∈ lw_u := tb1 (List.mem_of_getElem? (i := 8) (by decide +kernel)) (by decide +kernel)
theorem wd_1_9 : Cond.initialized RX8 ∈ lw_u := tb1 (List.mem_of_getElem? (i := 9) (by decide +kernel)) (by decide +kernel)
theorem wd_1_10 : Cond.initialized RJ10 ∈ lw_u := tb1 (List.mem_of_getElem? (i := 10) (by decide +kernel)) (by decide +kernel)
theorem wd_1_11 : Cond.initialized RJ9 ∈ lw_u := tb1 (List.mem_of_getElem? (i := 11) (by decide +kernel)) (by decide +kernel)
theorem wd_1_12 : Cond.initialized RJ6 ∈ lw_u := tb1 (List.mem_of_getElem? (i := 12) (by decide +kernel)) (by decide +kernel)
theorem wd_1_13 : Cond.classLink RL 7 RX7 ∈ lw_u := tb1 (List.mem_of_getElem? (i := 13) (by decide +kernel)) (by decide +kernel)
theorem wd_1_14 : Cond.instantiable RX7 12 ∈ lw_u := tb1 (List.mem_of_getElem? (i := 14) (by decide +kernel)) (by decide +kernel)
theorem wd_1_15 : Cond.methodLink RL 9 yX7_init ∈ lw_u := tb1 (List.mem_of_getElem? (i := 15) (by decide +kernel)) (by decide +kernel)
theorem wd_1_16 : Cond.instanceMethod yX7_init ∈ lw_u := tb1 (List.mem_of_getElem? (i := 16) (by decide +kernel)) (by decide +kernel)
theorem wd_1_17 : Cond.code yX7_init prog_1_method_1_code 1 (none) ∈ lw_u := tb1 (List.mem_of_getElem? (i := 17) (by decide +kernel)) (by decide +kernel)
theorem wd_1_18 : Cond.methodLink RX7 1 ⟨"java/lang/Object", "<init>", "()V"⟩ ∈ lw_u := tb1 (List.mem_of_getElem? (i := 18) (by decide +kernel)) (by decide +kernel)
theorem wd_1_19 : Cond.instanceMethod ⟨"java/lang/Object", "<init>", "()V"⟩ ∈ lw_u := tb1 (List.mem_of_getElem? (i := 19) (by decide +kernel)) (by decide +kernel)
theorem wd_1_20 : Cond.code objectInit ⟨#[0xb1]⟩ 1 none ∈ lw_u := tb1 (List.mem_of_getElem? (i := 20) (by decide +kernel)) (by decide +kernel)
theorem wd_1_21 : Cond.classLink RX7 7 RX1 ∈ lw_u := tb1 (List.mem_of_getElem? (i := 21) (by decide +kernel)) (by decide +kernel)
theorem wd_1_22 : Cond.instantiable RX1 5 ∈ lw_u := tb1 (List.mem_of_getElem? (i := 22) (by decide +kernel)) (by decide +kernel)
theorem wd_1_23 : Cond.methodLink RX7 9 yX1_init ∈ lw_u := tb1 (List.mem_of_getElem? (i := 23) (by decide +kernel)) (by decide +kernel)
theorem wd_1_24 : Cond.instanceMethod yX1_init ∈ lw_u := tb1 (List.mem_of_getElem? (i := 24) (by decide +kernel)) (by decide +kernel)
theorem wd_1_25 : Cond.code yX1_init prog_3_method_1_code 1 (none) ∈ lw_u := tb1 (List.mem_of_getElem? (i := 25) (by decide +kernel)) (by decide +kernel)
theorem wd_1_26 : Cond.methodLink RX1 3 ⟨"java/lang/Object", "<init>", "()V"⟩ ∈ lw_u := tb1 (List.mem_of_getElem? (i := 26) (by decide +kernel)) (by decide +kernel)
theorem wd_1_27 : Cond.methodLink RX1 18 yX1_empty ∈ lw_u := tb1 (List.mem_of_getElem? (i := 27) (by decide +kernel)) (by decide +kernel)
theorem wd_1_28 : Cond.instanceMethod yX1_empty ∈ lw_u := tb1 (List.mem_of_getElem? (i := 28) (by decide +kernel)) (by decide +kernel)
theorem wd_1_29 : Cond.selects RX1 yX1_empty yX1_empty ∈ lw_u := tb1 (List.mem_of_getElem? (i := 29) (by decide +kernel)) (by decide +kernel)
theorem wd_1_30 : Cond.code yX1_empty prog_3_method_2_code 2 (none) ∈ lw_u := tb1 (List.mem_of_getElem? (i := 30) (by decide +kernel)) (by decide +kernel)
theorem wd_1_31 : Cond.fieldLink RX1 9 RX1 "owners" "[I" ∈ lw_u := tb1 (List.mem_of_getElem? (i := 31) (by decide +kernel)) (by decide +kernel)
theorem wd_1_32 : Cond.fieldLink RX5 34 RX1 "owners" "[I" ∈ lw_u := tb1 (List.mem_of_getElem? (i := 32) (by decide +kernel)) (by decide +kernel)
theorem wd_1_33 : Cond.fieldLink RX3 28 RX1 "owners" "[I" ∈ lw_u := tb1 (List.mem_of_getElem? (i := 33) (by decide +kernel)) (by decide +kernel)
theorem wd_1_34 : Cond.fieldLink RX7 138 RX1 "owners" "[I" ∈ lw_u := tb1 (List.mem_of_getElem? (i := 34) (by decide +kernel)) (by decide +kernel)
theorem wd_1_35 : Cond.fieldLink RX1 15 RX1 "boxes" "[I" ∈ lw_u := tb1 (List.mem_of_getElem? (i := 35) (by decide +kernel)) (by decide +kernel)
theorem wd_1_36 : Cond.fieldLink RX6 69 RX1 "boxes" "[I" ∈ lw_u := tb1 (List.mem_of_getElem? (i := 36) (by decide +kernel)) (by decide +kernel)
theorem wd_1_37 : Cond.fieldLink RX7 113 RX1 "boxes" "[I" ∈ lw_u := tb1 (List.mem_of_getElem? (i := 37) (by decide +kernel)) (by decide +kernel)
theorem wd_1_38 : Cond.fieldLink RX5 27 RX1 "pieces" "I" ∈ lw_u := tb1 (List.mem_of_getElem? (i := 38) (by decide +kernel)) (by decide +kernel)
theorem wd_1_39 : Cond.fieldLink RX1 21 RX1 "pieces" "I" ∈ lw_u := tb1 (List.mem_of_getElem? (i := 39) (by decide +kernel)) (by decide +kernel)
theorem wd_1_40 : Cond.fieldLink RX7 91 RX1 "pieces" "I" ∈ lw_u := tb1 (List.mem_of_getElem? (i := 40) (by decide +kernel)) (by decide +kernel)
theorem wd_1_41 : Cond.fieldLink RX1 25 RX1 "building" "I" ∈ lw_u := tb1 (List.mem_of_getElem? (i := 41) (by decide +kernel)) (by decide +kernel)
theorem wd_1_42 : Cond.fieldLink RX7 141 RX1 "building" "I" ∈ lw_u := tb1 (List.mem_of_getElem? (i := 42) (by decide +kernel)) (by decide +kernel)
theorem wd_1_43 : Cond.fieldLink RX1 28 RX1 "steps" "I" ∈ lw_u := tb1 (List.mem_of_getElem? (i := 43) (by decide +kernel)) (by decide +kernel)
theorem wd_1_44 : Cond.fieldLink RX7 249 RX1 "steps" "I" ∈ lw_u := tb1 (List.mem_of_getElem? (i := 44) (by decide +kernel)) (by decide +kernel)
theorem wd_1_56 : Cond.arrayClass FieldType.int ∈ lw_u := tb1 (List.mem_of_getElem? (i := 56) (by decide +kernel)) (by decide +kernel)
theorem wd_1_57 : Cond.classLink RX7 16 RX3 ∈ lw_u := tb1 (List.mem_of_getElem? (i := 57) (by decide +kernel)) (by decide +kernel)
theorem wd_1_58 : Cond.instantiable RX3 5 ∈ lw_u := tb1 (List.mem_of_getElem? (i := 58) (by decide +kernel)) (by decide +kernel)
theorem wd_1_59 : Cond.methodLinkNest RX7 18 yX3_init RX7 ∈ lw_tbl := List.mem_append_right _ (by first | exact List.mem_append_left _ (List.mem_of_getElem? (i := 59) (by decide +kernel)) | exact List.mem_append_right _ (List.mem_append_left _ (List.mem_of_getElem? (i := 59) (by decide +kernel))) | exact List.mem_append_right _ (List.mem_append_right _ (List.mem_append_left _ (List.mem_of_getElem? (i := 59) (by decide +kernel)))) | exact List.mem_append_right _ (List.mem_append_right _ (List.mem_append_right _ (List.mem_append_left _ (List.mem_of_getElem? (i := 59) (by decide +kernel))))))
theorem wd_1_60 : Cond.instanceMethod yX3_init ∈ lw_u := tb1 (List.mem_of_getElem? (i := 60) (by decide +kernel)) (by decide +kernel)
theorem wd_1_61 : Cond.code yX3_init prog_5_method_1_code 1 (none) ∈ lw_u := tb1 (List.mem_of_getElem? (i := 61) (by decide +kernel)) (by decide +kernel)
theorem wd_1_62 : Cond.methodLink RX3 3 ⟨"java/lang/Object", "<init>", "()V"⟩ ∈ lw_u := tb1 (List.mem_of_getElem? (i := 62) (by decide +kernel)) (by decide +kernel)
theorem wd_1_63 : Cond.fieldLink RX3 9 RX3 "cells" "[I" ∈ lw_u := tb1 (List.mem_of_getElem? (i := 63) (by decide +kernel)) (by decide +kernel)
theorem wd_1_64 : Cond.fieldLink RX7 121 RX3 "cells" "[I" ∈ lw_u := tb1 (List.mem_of_getElem? (i := 64) (by decide +kernel)) (by decide +kernel)
theorem wd_1_65 : Cond.fieldLink RX3 15 RX3 "groundCells" "[I" ∈ lw_u := tb1 (List.mem_of_getElem? (i := 65) (by decide +kernel)) (by decide +kernel)
theorem wd_1_66 : Cond.fieldLink RX7 148 RX3 "groundCells" "[I" ∈ lw_u := tb1 (List.mem_of_getElem? (i := 66) (by decide +kernel)) (by decide +kernel)
theorem wd_1_67 : Cond.fieldLink RX3 18 RX3 "smallest" "[I" ∈ lw_u := tb1 (List.mem_of_getElem? (i := 67) (by decide +kernel)) (by decide +kernel)
theorem wd_1_68 : Cond.fieldLink RX7 151 RX3 "smallest" "[I" ∈ lw_u := tb1 (List.mem_of_getElem? (i := 68) (by decide +kernel)) (by decide +kernel)
theorem wd_1_69 : Cond.fieldLink RX3 21 RX3 "greatest" "[I" ∈ lw_u := tb1 (List.mem_of_getElem? (i := 69) (by decide +kernel)) (by decide +kernel)
theorem wd_1_70 : Cond.fieldLink RX7 154 RX3 "greatest" "[I" ∈ lw_u := tb1 (List.mem_of_getElem? (i := 70) (by decide +kernel)) (by decide +kernel)
theorem wd_1_71 : Cond.fieldLink RX3 24 RX3 "allCells" "I" ∈ lw_u := tb1 (List.mem_of_getElem? (i := 71) (by decide +kernel)) (by decide +kernel)
theorem wd_1_72 : Cond.fieldLink RX7 246 RX3 "allCells" "I" ∈ lw_u := tb1 (List.mem_of_getElem? (i := 72) (by decide +kernel)) (by decide +kernel)
theorem wd_1_84 : Cond.classLink RX7 23 RX5 ∈ lw_u := tb1 (List.mem_of_getElem? (i := 84) (by decide +kernel)) (by decide +kernel)
theorem wd_1_85 : Cond.instantiable RX5 6 ∈ lw_u := tb1 (List.mem_of_getElem? (i := 85) (by decide +kernel)) (by decide +kernel)
theorem wd_1_86 : Cond.methodLinkNest RX7 25 yX5_init RX7 ∈ lw_tbl := List.mem_append_right _ (by first | exact List.mem_append_left _ (List.mem_of_getElem? (i := 86) (by decide +kernel)) | exact List.mem_append_right _ (List.mem_append_left _ (List.mem_of_getElem? (i := 86) (by decide +kernel))) | exact List.mem_append_right _ (List.mem_append_right _ (List.mem_append_left _ (List.mem_of_getElem? (i := 86) (by decide +kernel)))) | exact List.mem_append_right _ (List.mem_append_right _ (List.mem_append_right _ (List.mem_append_left _ (List.mem_of_getElem? (i := 86) (by decide +kernel))))))
theorem wd_1_87 : Cond.instanceMethod yX5_init ∈ lw_u := tb1 (List.mem_of_getElem? (i := 87) (by decide +kernel)) (by decide +kernel)
theorem wd_1_88 : Cond.code yX5_init prog_7_method_1_code 1 (none) ∈ lw_u := tb1 (List.mem_of_getElem? (i := 88) (by decide +kernel)) (by decide +kernel)
theorem wd_1_89 : Cond.methodLink RX5 3 ⟨"java/lang/Object", "<init>", "()V"⟩ ∈ lw_u := tb1 (List.mem_of_getElem? (i := 89) (by decide +kernel)) (by decide +kernel)
theorem wd_1_90 : Cond.fieldLink RX5 9 RX5 "contacts" "[I" ∈ lw_u := tb1 (List.mem_of_getElem? (i := 90) (by decide +kernel)) (by decide +kernel)
theorem wd_1_91 : Cond.fieldLink RX7 174 RX5 "contacts" "[I" ∈ lw_u := tb1 (List.mem_of_getElem? (i := 91) (by decide +kernel)) (by decide +kernel)
theorem wd_1_92 : Cond.fieldLink RX5 15 RX5 "blocking" "[I" ∈ lw_u := tb1 (List.mem_of_getElem? (i := 92) (by decide +kernel)) (by decide +kernel)
theorem wd_1_93 : Cond.fieldLink RX5 18 RX5 "touching" "[I" ∈ lw_u := tb1 (List.mem_of_getElem? (i := 93) (by decide +kernel)) (by decide +kernel)
theorem wd_1_94 : Cond.fieldLink RX5 21 RX5 "below" "[I" ∈ lw_u := tb1 (List.mem_of_getElem? (i := 94) (by decide +kernel)) (by decide +kernel)
theorem wd_1_95 : Cond.fieldLink RX5 37 RX5 "grounded" "I" ∈ lw_u := tb1 (List.mem_of_getElem? (i := 95) (by decide +kernel)) (by decide +kernel)
theorem wd_1_96 : Cond.fieldLink RX5 33 RX5 "pieces" "I" ∈ lw_u := tb1 (List.mem_of_getElem? (i := 96) (by decide +kernel)) (by decide +kernel)
theorem wd_1_97 : Cond.fieldLinkNest RX4 39 RX5 "pieces" "I" RX7 ∈ lw_tbl := List.mem_append_right _ (by first | exact List.mem_append_left _ (List.mem_of_getElem? (i := 97) (by decide +kernel)) | exact List.mem_append_right _ (List.mem_append_left _ (List.mem_of_getElem? (i := 97) (by decide +kernel))) | exact List.mem_append_right _ (List.mem_append_right _ (List.mem_append_left _ (List.mem_of_getElem? (i := 97) (by decide +kernel)))) | exact List.mem_append_right _ (List.mem_append_right _ (List.mem_append_right _ (List.mem_append_left _ (List.mem_of_getElem? (i := 97) (by decide +kernel))))))
theorem wd_1_111 : Cond.classLink RX7 30 RX4 ∈ lw_u := tb1 (List.mem_of_getElem? (i := 111) (by decide +kernel)) (by decide +kernel)
theorem wd_1_112 : Cond.instantiable RX4 9 ∈ lw_u := tb1 (List.mem_of_getElem? (i := 112) (by decide +kernel)) (by decide +kernel)
theorem wd_1_113 : Cond.methodLink RX7 32 yX4_init ∈ lw_u := tb1 (List.mem_of_getElem? (i := 113) (by decide +kernel)) (by decide +kernel)
theorem wd_1_114 : Cond.instanceMethod yX4_init ∈ lw_u := tb1 (List.mem_of_getElem? (i := 114) (by decide +kernel)) (by decide +kernel)
theorem wd_1_115 : Cond.code yX4_init prog_6_method_1_code 2 (none) ∈ lw_u := tb1 (List.mem_of_getElem? (i := 115) (by decide +kernel)) (by decide +kernel)
theorem wd_1_116 : Cond.methodLink RX4 3 ⟨"java/lang/Object", "<init>", "()V"⟩ ∈ lw_u := tb1 (List.mem_of_getElem? (i := 116) (by decide +kernel)) (by decide +kernel)
theorem wd_1_117 : Cond.fieldLink RX4 9 RX4 "orderCounts" "[I" ∈ lw_u := tb1 (List.mem_of_getElem? (i := 117) (by decide +kernel)) (by decide +kernel)
theorem wd_1_118 : Cond.fieldLink RX7 191 RX4 "orderCounts" "[I" ∈ lw_u := tb1 (List.mem_of_getElem? (i := 118) (by decide +kernel)) (by decide +kernel)
theorem wd_1_119 : Cond.fieldLink RX4 15 RX4 "fewest" "[I" ∈ lw_u := tb1 (List.mem_of_getElem? (i := 119) (by decide +kernel)) (by decide +kernel)
theorem wd_1_120 : Cond.fieldLink RX7 194 RX4 "fewest" "[I" ∈ lw_u := tb1 (List.mem_of_getElem? (i := 120) (by decide +kernel)) (by decide +kernel)
theorem wd_1_121 : Cond.fieldLink RX4 18 RX4 "planPieces" "[I" ∈ lw_u := tb1 (List.mem_of_getElem? (i := 121) (by decide +kernel)) (by decide +kernel)
theorem wd_1_122 : Cond.fieldLink RX7 206 RX4 "planPieces" "[I" ∈ lw_u := tb1 (List.mem_of_getElem? (i := 122) (by decide +kernel)) (by decide +kernel)
theorem wd_1_123 : Cond.fieldLink RX4 21 RX4 "planWays" "[I" ∈ lw_u := tb1 (List.mem_of_getElem? (i := 123) (by decide +kernel)) (by decide +kernel)
theorem wd_1_124 : Cond.fieldLink RX7 203 RX4 "planWays" "[I" ∈ lw_u := tb1 (List.mem_of_getElem? (i := 124) (by decide +kernel)) (by decide +kernel)
theorem wd_1_125 : Cond.fieldLink RX4 64 RX4 "planSize" "I" ∈ lw_u := tb1 (List.mem_of_getElem? (i := 125) (by decide +kernel)) (by decide +kernel)
theorem wd_1_126 : Cond.fieldLink RX7 200 RX4 "planSize" "I" ∈ lw_u := tb1 (List.mem_of_getElem? (i := 126) (by decide +kernel)) (by decide +kernel)
theorem wd_1_127 : Cond.fieldLink RX4 35 RX4 "relations" "LFrameRaiser$Relations;" ∈ lw_u := tb1 (List.mem_of_getElem? (i := 127) (by decide +kernel)) (by decide +kernel)
theorem wd_1_128 : Cond.fieldLink RX4 24 RX4 "propCounts" "[I" ∈ lw_u := tb1 (List.mem_of_getElem? (i := 128) (by decide +kernel)) (by decide +kernel)
theorem wd_1_129 : Cond.fieldLink RX4 27 RX4 "leadsOn" "[Z" ∈ lw_u := tb1 (List.mem_of_getElem? (i := 129) (by decide +kernel)) (by decide +kernel)
theorem wd_1_130 : Cond.fieldLink RX4 31 RX4 "plannedSet" "I" ∈ lw_u := tb1 (List.mem_of_getElem? (i := 130) (by decide +kernel)) (by decide +kernel)
theorem wd_1_151 : Cond.classLink RX7 39 RX2 ∈ lw_u := tb1 (List.mem_of_getElem? (i := 151) (by decide +kernel)) (by decide +kernel)
theorem wd_1_152 : Cond.instantiable RX2 3 ∈ lw_u := tb1 (List.mem_of_getElem? (i := 152) (by decide +kernel)) (by decide +kernel)
theorem wd_1_153 : Cond.methodLink RX7 41 yX2_init ∈ lw_u := tb1 (List.mem_of_getElem? (i := 153) (by decide +kernel)) (by decide +kernel)
theorem wd_1_154 : Cond.instanceMethod yX2_init ∈ lw_u := tb1 (List.mem_of_getElem? (i := 154) (by decide +kernel)) (by decide +kernel)
theorem wd_1_155 : Cond.code yX2_init prog_4_method_1_code 2 (none) ∈ lw_u := tb1 (List.mem_of_getElem? (i := 155) (by decide +kernel)) (by decide +kernel)
theorem wd_1_156 : Cond.methodLink RX2 3 ⟨"java/lang/Object", "<init>", "()V"⟩ ∈ lw_u := tb1 (List.mem_of_getElem? (i := 156) (by decide +kernel)) (by decide +kernel)
theorem wd_1_157 : Cond.classLink RX2 9 RX1 ∈ lw_u := tb1 (List.mem_of_getElem? (i := 157) (by decide +kernel)) (by decide +kernel)
theorem wd_1_158 : Cond.arrayOver (FieldType.object "FrameRaiser$Frame") ∈ lw_tbl := List.mem_append_right _ (by first | exact List.mem_append_left _ (List.mem_of_getElem? (i := 158) (by decide +kernel)) | exact List.mem_append_right _ (List.mem_append_left _ (List.mem_of_getElem? (i := 158) (by decide +kernel))) | exact List.mem_append_right _ (List.mem_append_right _ (List.mem_append_left _ (List.mem_of_getElem? (i := 158) (by decide +kernel)))) | exact List.mem_append_right _ (List.mem_append_right _ (List.mem_append_right _ (List.mem_append_left _ (List.mem_of_getElem? (i := 158) (by decide +kernel))))))
theorem wd_1_159 : Cond.methodLink RX2 17 yX1_init ∈ lw_u := tb1 (List.mem_of_getElem? (i := 159) (by decide +kernel)) (by decide +kernel)
theorem wd_1_160 : Cond.fieldLink RX2 22 RX2 "size" "I" ∈ lw_u := tb1 (List.mem_of_getElem? (i := 160) (by decide +kernel)) (by decide +kernel)
theorem wd_1_161 : Cond.fieldLink RX7 240 RX2 "size" "I" ∈ lw_u := tb1 (List.mem_of_getElem? (i := 161) (by decide +kernel)) (by decide +kernel)
theorem wd_1_162 : Cond.fieldLink RX2 11 RX2 "states" "[LFrameRaiser$Frame;" ∈ lw_u := tb1 (List.mem_of_getElem? (i := 162) (by decide +kernel)) (by decide +kernel)
theorem wd_1_163 : Cond.fieldLink RX2 18 RX2 "oldest" "I" ∈ lw_u := tb1 (List.mem_of_getElem? (i := 163) (by decide +kernel)) (by decide +kernel)
theorem wd_1_171 : Cond.classLink RX7 46 RX6 ∈ lw_u := tb1 (List.mem_of_getElem? (i := 171) (by decide +kernel)) (by decide +kernel)
theorem wd_1_172 : Cond.instantiable RX6 7 ∈ lw_u := tb1 (List.mem_of_getElem? (i := 172) (by decide +kernel)) (by decide +kernel)
theorem wd_1_173 : Cond.methodLinkNest RX7 48 yX6_init RX7 ∈ lw_tbl := List.mem_append_right _ (by first | exact List.mem_append_left _ (List.mem_of_getElem? (i := 173) (by decide +kernel)) | exact List.mem_append_right _ (List.mem_append_left _ (List.mem_of_getElem? (i := 173) (by decide +kernel))) | exact List.mem_append_right _ (List.mem_append_right _ (List.mem_append_left _ (List.mem_of_getElem? (i := 173) (by decide +kernel)))) | exact List.mem_append_right _ (List.mem_append_right _ (List.mem_append_right _ (List.mem_append_left _ (List.mem_of_getElem? (i := 173) (by decide +kernel))))))
theorem wd_1_174 : Cond.instanceMethod yX6_init ∈ lw_u := tb1 (List.mem_of_getElem? (i := 174) (by decide +kernel)) (by decide +kernel)
theorem wd_1_175 : Cond.code yX6_init prog_8_method_1_code 1 (none) ∈ lw_u := tb1 (List.mem_of_getElem? (i := 175) (by decide +kernel)) (by decide +kernel)
theorem wd_1_176 : Cond.methodLink RX6 3 ⟨"java/lang/Object", "<init>", "()V"⟩ ∈ lw_u := tb1 (List.mem_of_getElem? (i := 176) (by decide +kernel)) (by decide +kernel)
theorem wd_1_177 : Cond.classLink RX6 15 RX0 ∈ lw_u := tb1 (List.mem_of_getElem? (i := 177) (by decide +kernel)) (by decide +kernel)
theorem wd_1_178 : Cond.instantiable RX0 1 ∈ lw_u := tb1 (List.mem_of_getElem? (i := 178) (by decide +kernel)) (by decide +kernel)
theorem wd_1_179 : Cond.methodLinkNest RX6 17 yX0_init RX7 ∈ lw_tbl := List.mem_append_right _ (by first | exact List.mem_append_left _ (List.mem_of_getElem? (i := 179) (by decide +kernel)) | exact List.mem_append_right _ (List.mem_append_left _ (List.mem_of_getElem? (i := 179) (by decide +kernel))) | exact List.mem_append_right _ (List.mem_append_right _ (List.mem_append_left _ (List.mem_of_getElem? (i := 179) (by decide +kernel)))) | exact List.mem_append_right _ (List.mem_append_right _ (List.mem_append_right _ (List.mem_append_left _ (List.mem_of_getElem? (i := 179) (by decide +kernel))))))
theorem wd_1_180 : Cond.instanceMethod yX0_init ∈ lw_u := tb1 (List.mem_of_getElem? (i := 180) (by decide +kernel)) (by decide +kernel)
theorem wd_1_181 : Cond.code yX0_init prog_2_method_1_code 1 (none) ∈ lw_u := tb1 (List.mem_of_getElem? (i := 181) (by decide +kernel)) (by decide +kernel)
theorem wd_1_182 : Cond.methodLink RX0 3 ⟨"java/lang/Object", "<init>", "()V"⟩ ∈ lw_u := tb1 (List.mem_of_getElem? (i := 182) (by decide +kernel)) (by decide +kernel)
theorem wd_1_183 : Cond.fieldLink RX0 11 RX0 "numbers" "[I" ∈ lw_u := tb1 (List.mem_of_getElem? (i := 183) (by decide +kernel)) (by decide +kernel)
theorem wd_1_187 : Cond.fieldLink RX6 22 RX6 "length" "I" ∈ lw_u := tb1 (List.mem_of_getElem? (i := 187) (by decide +kernel)) (by decide +kernel)
theorem wd_1_188 : Cond.fieldLink RX7 66 RX6 "length" "I" ∈ lw_u := tb1 (List.mem_of_getElem? (i := 188) (by decide +kernel)) (by decide +kernel)
theorem wd_1_189 : Cond.fieldLink RX6 44 RX6 "fault" "I" ∈ lw_u := tb1 (List.mem_of_getElem? (i := 189) (by decide +kernel)) (by decide +kernel)
theorem wd_1_190 : Cond.fieldLink RX7 78 RX6 "fault" "I" ∈ lw_u := tb1 (List.mem_of_getElem? (i := 190) (by decide +kernel)) (by decide +kernel)
theorem wd_1_191 : Cond.fieldLink RX6 9 RX6 "codes" "[I" ∈ lw_u := tb1 (List.mem_of_getElem? (i := 191) (by decide +kernel)) (by decide +kernel)
theorem wd_1_192 : Cond.fieldLink RX6 18 RX6 "box" "LFrameRaiser$Box;" ∈ lw_u := tb1 (List.mem_of_getElem? (i := 192) (by decide +kernel)) (by decide +kernel)
theorem wd_1_193 : Cond.fieldLink RX6 31 RX6 "place" "I" ∈ lw_u := tb1 (List.mem_of_getElem? (i := 193) (by decide +kernel)) (by decide +kernel)
theorem wd_1_194 : Cond.fieldLink RX6 34 RX6 "digits" "I" ∈ lw_u := tb1 (List.mem_of_getElem? (i := 194) (by decide +kernel)) (by decide +kernel)
theorem wd_1_195 : Cond.fieldLink RX6 37 RX6 "piece" "I" ∈ lw_u := tb1 (List.mem_of_getElem? (i := 195) (by decide +kernel)) (by decide +kernel)
theorem wd_1_211 : Cond.classLink RX7 53 RX0 ∈ lw_u := tb1 (List.mem_of_getElem? (i := 211) (by decide +kernel)) (by decide +kernel)
theorem wd_1_212 : Cond.methodLinkNest RX7 55 yX0_init RX7 ∈ lw_tbl := List.mem_append_right _ (by first | exact List.mem_append_left _ (List.mem_of_getElem? (i := 212) (by decide +kernel)) | exact List.mem_append_right _ (List.mem_append_left _ (List.mem_of_getElem? (i := 212) (by decide +kernel))) | exact List.mem_append_right _ (List.mem_append_right _ (List.mem_append_left _ (List.mem_of_getElem? (i := 212) (by decide +kernel)))) | exact List.mem_append_right _ (List.mem_append_right _ (List.mem_append_right _ (List.mem_append_left _ (List.mem_of_getElem? (i := 212) (by decide +kernel))))))
theorem wd_1_213 : Cond.fieldLink RX7 10 RX7 "frame" "LFrameRaiser$Frame;" ∈ lw_u := tb1 (List.mem_of_getElem? (i := 213) (by decide +kernel)) (by decide +kernel)
theorem wd_1_214 : Cond.fieldLink RX7 19 RX7 "measures" "LFrameRaiser$Measures;" ∈ lw_u := tb1 (List.mem_of_getElem? (i := 214) (by decide +kernel)) (by decide +kernel)
theorem wd_1_215 : Cond.fieldLink RX7 26 RX7 "relations" "LFrameRaiser$Relations;" ∈ lw_u := tb1 (List.mem_of_getElem? (i := 215) (by decide +kernel)) (by decide +kernel)
theorem wd_1_216 : Cond.fieldLink RX7 35 RX7 "planner" "LFrameRaiser$Planner;" ∈ lw_u := tb1 (List.mem_of_getElem? (i := 216) (by decide +kernel)) (by decide +kernel)
theorem wd_1_217 : Cond.fieldLink RX7 42 RX7 "history" "LFrameRaiser$History;" ∈ lw_u := tb1 (List.mem_of_getElem? (i := 217) (by decide +kernel)) (by decide +kernel)
theorem wd_1_218 : Cond.fieldLink RX7 49 RX7 "text" "LFrameRaiser$Text;" ∈ lw_u := tb1 (List.mem_of_getElem? (i := 218) (by decide +kernel)) (by decide +kernel)
theorem wd_1_219 : Cond.fieldLink RX7 56 RX7 "box" "LFrameRaiser$Box;" ∈ lw_u := tb1 (List.mem_of_getElem? (i := 219) (by decide +kernel)) (by decide +kernel)
theorem wd_1_220 : Cond.fieldLink RX7 60 RX7 "trialFrame" "LFrameRaiser$Frame;" ∈ lw_u := tb1 (List.mem_of_getElem? (i := 220) (by decide +kernel)) (by decide +kernel)
theorem wd_1_221 : Cond.fieldLink RX7 63 RX7 "trialRelations" "LFrameRaiser$Relations;" ∈ lw_u := tb1 (List.mem_of_getElem? (i := 221) (by decide +kernel)) (by decide +kernel)
theorem wd_1_222 : Cond.fieldLink RX7 297 RX7 "measured" "Z" ∈ lw_u := tb1 (List.mem_of_getElem? (i := 222) (by decide +kernel)) (by decide +kernel)
theorem wd_1_223 : Cond.fieldLink RX7 301 RX7 "related" "Z" ∈ lw_u := tb1 (List.mem_of_getElem? (i := 223) (by decide +kernel)) (by decide +kernel)
theorem wd_1_224 : Cond.fieldLink RX7 304 RX7 "tabled" "Z" ∈ lw_u := tb1 (List.mem_of_getElem? (i := 224) (by decide +kernel)) (by decide +kernel)
theorem wd_2_10 : Cond.methodLink RL 13 yX7_type ∈ lw_u := tb2 (List.mem_of_getElem? (i := 10) (by decide +kernel)) (by decide +kernel)
theorem wd_2_11 : Cond.instanceMethod yX7_type ∈ lw_u := tb2 (List.mem_of_getElem? (i := 11) (by decide +kernel)) (by decide +kernel)
theorem wd_2_12 : Cond.selects RX7 yX7_type yX7_type ∈ lw_u := tb2 (List.mem_of_getElem? (i := 12) (by decide +kernel)) (by decide +kernel)
theorem wd_2_13 : Cond.code yX7_type prog_1_method_2_code 2 (some FieldType.int) ∈ lw_u := tb2 (List.mem_of_getElem? (i := 13) (by decide +kernel)) (by decide +kernel)
theorem wd_2_14 : Cond.methodLink RX7 70 yX6_append ∈ lw_u := tb2 (List.mem_of_getElem? (i := 14) (by decide +kernel)) (by decide +kernel)
theorem wd_2_15 : Cond.instanceMethod yX6_append ∈ lw_u := tb2 (List.mem_of_getElem? (i := 15) (by decide +kernel)) (by decide +kernel)
theorem wd_2_16 : Cond.selects RX6 yX6_append yX6_append ∈ lw_u := tb2 (List.mem_of_getElem? (i := 16) (by decide +kernel)) (by decide +kernel)
theorem wd_2_17 : Cond.code yX6_append prog_8_method_2_code 2 (none) ∈ lw_u := tb2 (List.mem_of_getElem? (i := 17) (by decide +kernel)) (by decide +kernel)
theorem wd_2_18 : Cond.methodLink RL 18 yX7_clearText ∈ lw_u := tb2 (List.mem_of_getElem? (i := 18) (by decide +kernel)) (by decide +kernel)
theorem wd_2_19 : Cond.instanceMethod yX7_clearText ∈ lw_u := tb2 (List.mem_of_getElem? (i := 19) (by decide +kernel)) (by decide +kernel)
theorem wd_2_20 : Cond.selects RX7 yX7_clearText yX7_clearText ∈ lw_u := tb2 (List.mem_of_getElem? (i := 20) (by decide +kernel)) (by decide +kernel)
theorem wd_2_21 : Cond.code yX7_clearText prog_1_method_3_code 2 (some FieldType.int) ∈ lw_u := tb2 (List.mem_of_getElem? (i := 21) (by decide +kernel)) (by decide +kernel)
theorem wd_2_22 : Cond.methodLink RL 23 yX7_load ∈ lw_u := tb2 (List.mem_of_getElem? (i := 22) (by decide +kernel)) (by decide +kernel)
theorem wd_2_23 : Cond.instanceMethod yX7_load ∈ lw_u := tb2 (List.mem_of_getElem? (i := 23) (by decide +kernel)) (by decide +kernel)
theorem wd_2_24 : Cond.selects RX7 yX7_load yX7_load ∈ lw_u := tb2 (List.mem_of_getElem? (i := 24) (by decide +kernel)) (by decide +kernel)
theorem wd_2_25 : Cond.code yX7_load prog_1_method_4_code 2 (some FieldType.int) ∈ lw_u := tb2 (List.mem_of_getElem? (i := 25) (by decide +kernel)) (by decide +kernel)
theorem wd_2_26 : Cond.methodLink RX7 74 yX6_readInto ∈ lw_u := tb2 (List.mem_of_getElem? (i := 26) (by decide +kernel)) (by decide +kernel)
theorem wd_2_27 : Cond.instanceMethod yX6_readInto ∈ lw_u := tb2 (List.mem_of_getElem? (i := 27) (by decide +kernel)) (by decide +kernel)
theorem wd_2_28 : Cond.selects RX6 yX6_readInto yX6_readInto ∈ lw_u := tb2 (List.mem_of_getElem? (i := 28) (by decide +kernel)) (by decide +kernel)
theorem wd_2_29 : Cond.code yX6_readInto prog_8_method_3_code 3 (some FieldType.int) ∈ lw_u := tb2 (List.mem_of_getElem? (i := 29) (by decide +kernel)) (by decide +kernel)
theorem wd_2_30 : Cond.methodLink RX6 26 yX1_empty ∈ lw_u := tb2 (List.mem_of_getElem? (i := 30) (by decide +kernel)) (by decide +kernel)
theorem wd_2_31 : Cond.methodLink RX6 40 yX6_readSign ∈ lw_u := tb2 (List.mem_of_getElem? (i := 31) (by decide +kernel)) (by decide +kernel)
theorem wd_2_33 : Cond.instanceMethod yX6_readSign ∈ lw_u := tb2 (List.mem_of_getElem? (i := 33) (by decide +kernel)) (by decide +kernel)
theorem wd_2_34 : Cond.code yX6_readSign prog_8_method_4_code 3 (some FieldType.int) ∈ lw_u := tb2 (List.mem_of_getElem? (i := 34) (by decide +kernel)) (by decide +kernel)
theorem wd_2_35 : Cond.methodLink RX6 47 yX6_readSeparator ∈ lw_u := tb2 (List.mem_of_getElem? (i := 35) (by decide +kernel)) (by decide +kernel)
theorem wd_2_37 : Cond.instanceMethod yX6_readSeparator ∈ lw_u := tb2 (List.mem_of_getElem? (i := 37) (by decide +kernel)) (by decide +kernel)
theorem wd_2_38 : Cond.code yX6_readSeparator prog_8_method_6_code 4 (some FieldType.int) ∈ lw_u := tb2 (List.mem_of_getElem? (i := 38) (by decide +kernel)) (by decide +kernel)
theorem wd_2_39 : Cond.methodLink RX6 65 yX6_beginPiece ∈ lw_u := tb2 (List.mem_of_getElem? (i := 39) (by decide +kernel)) (by decide +kernel)
theorem wd_2_41 : Cond.instanceMethod yX6_beginPiece ∈ lw_u := tb2 (List.mem_of_getElem? (i := 41) (by decide +kernel)) (by decide +kernel)
theorem wd_2_42 : Cond.code yX6_beginPiece prog_8_method_7_code 1 (some FieldType.int) ∈ lw_u := tb2 (List.mem_of_getElem? (i := 42) (by decide +kernel)) (by decide +kernel)
theorem wd_2_43 : Cond.methodLink RX6 50 yX6_readDigit ∈ lw_u := tb2 (List.mem_of_getElem? (i := 43) (by decide +kernel)) (by decide +kernel)
theorem wd_2_45 : Cond.instanceMethod yX6_readDigit ∈ lw_u := tb2 (List.mem_of_getElem? (i := 45) (by decide +kernel)) (by decide +kernel)
theorem wd_2_46 : Cond.code yX6_readDigit prog_8_method_5_code 3 (some FieldType.int) ∈ lw_u := tb2 (List.mem_of_getElem? (i := 46) (by decide +kernel)) (by decide +kernel)
theorem wd_2_47 : Cond.methodLink RX6 53 yX0_take ∈ lw_u := tb2 (List.mem_of_getElem? (i := 47) (by decide +kernel)) (by decide +kernel)
theorem wd_2_48 : Cond.instanceMethod yX0_take ∈ lw_u := tb2 (List.mem_of_getElem? (i := 48) (by decide +kernel)) (by decide +kernel)
theorem wd_2_49 : Cond.selects RX0 yX0_take yX0_take ∈ lw_u := tb2 (List.mem_of_getElem? (i := 49) (by decide +kernel)) (by decide +kernel)
theorem wd_2_50 : Cond.code yX0_take prog_2_method_3_code 5 (some FieldType.boolean) ∈ lw_u := tb2 (List.mem_of_getElem? (i := 50) (by decide +kernel)) (by decide +kernel)
theorem wd_2_51 : Cond.methodLink RX6 57 yX1_meetsOther ∈ lw_u := tb2 (List.mem_of_getElem? (i := 51) (by decide +kernel)) (by decide +kernel)
theorem wd_2_52 : Cond.instanceMethod yX1_meetsOther ∈ lw_u := tb2 (List.mem_of_getElem? (i := 52) (by decide +kernel)) (by decide +kernel)
theorem wd_2_53 : Cond.selects RX1 yX1_meetsOther yX1_meetsOther ∈ lw_u := tb2 (List.mem_of_getElem? (i := 53) (by decide +kernel)) (by decide +kernel)
theorem wd_2_54 : Cond.code yX1_meetsOther prog_3_method_4_code 5 (some FieldType.boolean) ∈ lw_u := tb2 (List.mem_of_getElem? (i := 54) (by decide +kernel)) (by decide +kernel)
theorem wd_2_55 : Cond.methodLink RX1 37 yX0_contains ∈ lw_u := tb2 (List.mem_of_getElem? (i := 55) (by decide +kernel)) (by decide +kernel)
theorem wd_2_56 : Cond.instanceMethod yX0_contains ∈ lw_u := tb2 (List.mem_of_getElem? (i := 56) (by decide +kernel)) (by decide +kernel)
theorem wd_2_57 : Cond.selects RX0 yX0_contains yX0_contains ∈ lw_u := tb2 (List.mem_of_getElem? (i := 57) (by decide +kernel)) (by decide +kernel)
theorem wd_2_58 : Cond.code yX0_contains prog_2_method_4_code 4 (some FieldType.boolean) ∈ lw_u := tb2 (List.mem_of_getElem? (i := 58) (by decide +kernel)) (by decide +kernel)
theorem wd_2_59 : Cond.methodLinkNest RX0 19 yX7_coordinate RX7 ∈ lw_tbl := List.mem_append_right _ (by first | exact List.mem_append_left _ (List.mem_of_getElem? (i := 59) (by decide +kernel)) | exact List.mem_append_right _ (List.mem_append_left _ (List.mem_of_getElem? (i := 59) (by decide +kernel))) | exact List.mem_append_right _ (List.mem_append_right _ (List.mem_append_left _ (List.mem_of_getElem? (i := 59) (by decide +kernel)))) | exact List.mem_append_right _ (List.mem_append_right _ (List.mem_append_right _ (List.mem_append_left _ (List.mem_of_getElem? (i := 59) (by decide +kernel))))))
theorem wd_2_60 : Cond.static yX7_coordinate ∈ lw_u := tb2 (List.mem_of_getElem? (i := 60) (by decide +kernel)) (by decide +kernel)
theorem wd_2_61 : Cond.code yX7_coordinate prog_1_method_45_code 2 (some FieldType.int) ∈ lw_u := tb2 (List.mem_of_getElem? (i := 61) (by decide +kernel)) (by decide +kernel)
theorem wd_2_62 : Cond.methodLink RX6 61 yX1_addBox ∈ lw_u := tb2 (List.mem_of_getElem? (i := 62) (by decide +kernel)) (by decide +kernel)
theorem wd_2_63 : Cond.instanceMethod yX1_addBox ∈ lw_u := tb2 (List.mem_of_getElem? (i := 63) (by decide +kernel)) (by decide +kernel)
theorem wd_2_64 : Cond.selects RX1 yX1_addBox yX1_addBox ∈ lw_u := tb2 (List.mem_of_getElem? (i := 64) (by decide +kernel)) (by decide +kernel)
theorem wd_2_65 : Cond.code yX1_addBox prog_3_method_5_code 4 (none) ∈ lw_u := tb2 (List.mem_of_getElem? (i := 65) (by decide +kernel)) (by decide +kernel)
theorem wd_2_66 : Cond.methodLink RX7 81 yX2_record ∈ lw_u := tb2 (List.mem_of_getElem? (i := 66) (by decide +kernel)) (by decide +kernel)
theorem wd_2_67 : Cond.instanceMethod yX2_record ∈ lw_u := tb2 (List.mem_of_getElem? (i := 67) (by decide +kernel)) (by decide +kernel)
theorem wd_2_68 : Cond.selects RX2 yX2_record yX2_record ∈ lw_u := tb2 (List.mem_of_getElem? (i := 68) (by decide +kernel)) (by decide +kernel)
theorem wd_2_69 : Cond.code yX2_record prog_4_method_2_code 2 (none) ∈ lw_u := tb2 (List.mem_of_getElem? (i := 69) (by decide +kernel)) (by decide +kernel)
theorem wd_2_70 : Cond.methodLink RX2 25 yX1_copyFrom ∈ lw_u := tb2 (List.mem_of_getElem? (i := 70) (by decide +kernel)) (by decide +kernel)
theorem wd_2_71 : Cond.instanceMethod yX1_copyFrom ∈ lw_u := tb2 (List.mem_of_getElem? (i := 71) (by decide +kernel)) (by decide +kernel)
theorem wd_2_72 : Cond.selects RX1 yX1_copyFrom yX1_copyFrom ∈ lw_u := tb2 (List.mem_of_getElem? (i := 72) (by decide +kernel)) (by decide +kernel)
theorem wd_2_73 : Cond.code yX1_copyFrom prog_3_method_3_code 2 (none) ∈ lw_u := tb2 (List.mem_of_getElem? (i := 73) (by decide +kernel)) (by decide +kernel)
theorem wd_2_74 : Cond.methodLink RX1 31 ⟨"java/lang/System", "arraycopy", "(Ljava/lang/Object;ILjava/lang/Object;II)V"⟩ ∈ lw_u := tb2 (List.mem_of_getElem? (i := 74) (by decide +kernel)) (by decide +kernel)
theorem wd_2_75 : Cond.static ⟨"java/lang/System", "arraycopy", "(Ljava/lang/Object;ILjava/lang/Object;II)V"⟩ ∈ lw_u := tb2 (List.mem_of_getElem? (i := 75) (by decide +kernel)) (by decide +kernel)
theorem wd_2_76 : Cond.native ⟨"java/lang/System", "arraycopy", "(Ljava/lang/Object;ILjava/lang/Object;II)V"⟩ ∈ lw_u := tb2 (List.mem_of_getElem? (i := 76) (by decide +kernel)) (by decide +kernel)
theorem wd_2_77 : Cond.methodLink RX7 85 yX1_copyFrom ∈ lw_u := tb2 (List.mem_of_getElem? (i := 77) (by decide +kernel)) (by decide +kernel)
theorem wd_2_78 : Cond.methodLink RX7 88 yX7_forgetPieces ∈ lw_u := tb2 (List.mem_of_getElem? (i := 78) (by decide +kernel)) (by decide +kernel)
theorem wd_2_80 : Cond.instanceMethod yX7_forgetPieces ∈ lw_u := tb2 (List.mem_of_getElem? (i := 80) (by decide +kernel)) (by decide +kernel)
theorem wd_2_81 : Cond.code yX7_forgetPieces prog_1_method_38_code 1 (none) ∈ lw_u := tb2 (List.mem_of_getElem? (i := 81) (by decide +kernel)) (by decide +kernel)
theorem wd_2_82 : Cond.methodLink RL 27 yX7_faultKind ∈ lw_u := tb2 (List.mem_of_getElem? (i := 82) (by decide +kernel)) (by decide +kernel)
theorem wd_2_83 : Cond.instanceMethod yX7_faultKind ∈ lw_u := tb2 (List.mem_of_getElem? (i := 83) (by decide +kernel)) (by decide +kernel)
theorem wd_2_84 : Cond.selects RX7 yX7_faultKind yX7_faultKind ∈ lw_u := tb2 (List.mem_of_getElem? (i := 84) (by decide +kernel)) (by decide +kernel)
theorem wd_2_85 : Cond.code yX7_faultKind prog_1_method_5_code 1 (some FieldType.int) ∈ lw_u := tb2 (List.mem_of_getElem? (i := 85) (by decide +kernel)) (by decide +kernel)
theorem wd_2_86 : Cond.methodLink RL 31 yX7_clear ∈ lw_u := tb2 (List.mem_of_getElem? (i := 86) (by decide +kernel)) (by decide +kernel)
theorem wd_2_87 : Cond.instanceMethod yX7_clear ∈ lw_u := tb2 (List.mem_of_getElem? (i := 87) (by decide +kernel)) (by decide +kernel)
theorem wd_2_88 : Cond.selects RX7 yX7_clear yX7_clear ∈ lw_u := tb2 (List.mem_of_getElem? (i := 88) (by decide +kernel)) (by decide +kernel)
theorem wd_2_89 : Cond.code yX7_clear prog_1_method_6_code 2 (some FieldType.int) ∈ lw_u := tb2 (List.mem_of_getElem? (i := 89) (by decide +kernel)) (by decide +kernel)
theorem wd_2_90 : Cond.methodLink RX7 94 yX1_empty ∈ lw_u := tb2 (List.mem_of_getElem? (i := 90) (by decide +kernel)) (by decide +kernel)
theorem wd_2_91 : Cond.methodLink RL 35 yX7_addPiece ∈ lw_u := tb2 (List.mem_of_getElem? (i := 91) (by decide +kernel)) (by decide +kernel)
theorem wd_2_92 : Cond.instanceMethod yX7_addPiece ∈ lw_u := tb2 (List.mem_of_getElem? (i := 92) (by decide +kernel)) (by decide +kernel)
theorem wd_2_93 : Cond.selects RX7 yX7_addPiece yX7_addPiece ∈ lw_u := tb2 (List.mem_of_getElem? (i := 93) (by decide +kernel)) (by decide +kernel)
theorem wd_2_94 : Cond.code yX7_addPiece prog_1_method_7_code 7 (some FieldType.int) ∈ lw_u := tb2 (List.mem_of_getElem? (i := 94) (by decide +kernel)) (by decide +kernel)
theorem wd_2_95 : Cond.methodLink RX7 97 yX0_takeAll ∈ lw_u := tb2 (List.mem_of_getElem? (i := 95) (by decide +kernel)) (by decide +kernel)
theorem wd_2_96 : Cond.instanceMethod yX0_takeAll ∈ lw_u := tb2 (List.mem_of_getElem? (i := 96) (by decide +kernel)) (by decide +kernel)
theorem wd_2_97 : Cond.selects RX0 yX0_takeAll yX0_takeAll ∈ lw_u := tb2 (List.mem_of_getElem? (i := 97) (by decide +kernel)) (by decide +kernel)
theorem wd_2_98 : Cond.code yX0_takeAll prog_2_method_2_code 7 (some FieldType.boolean) ∈ lw_u := tb2 (List.mem_of_getElem? (i := 98) (by decide +kernel)) (by decide +kernel)
theorem wd_2_99 : Cond.methodLink RX0 15 yX0_take ∈ lw_u := tb2 (List.mem_of_getElem? (i := 99) (by decide +kernel)) (by decide +kernel)
theorem wd_2_100 : Cond.methodLink RX7 101 yX1_meetsOther ∈ lw_u := tb2 (List.mem_of_getElem? (i := 100) (by decide +kernel)) (by decide +kernel)
theorem wd_2_101 : Cond.methodLink RX7 105 yX1_addBox ∈ lw_u := tb2 (List.mem_of_getElem? (i := 101) (by decide +kernel)) (by decide +kernel)
theorem wd_2_102 : Cond.methodLink RL 40 yX7_extend ∈ lw_u := tb2 (List.mem_of_getElem? (i := 102) (by decide +kernel)) (by decide +kernel)
theorem wd_2_103 : Cond.instanceMethod yX7_extend ∈ lw_u := tb2 (List.mem_of_getElem? (i := 103) (by decide +kernel)) (by decide +kernel)
theorem wd_2_104 : Cond.selects RX7 yX7_extend yX7_extend ∈ lw_u := tb2 (List.mem_of_getElem? (i := 104) (by decide +kernel)) (by decide +kernel)
theorem wd_2_105 : Cond.code yX7_extend prog_1_method_8_code 8 (some FieldType.int) ∈ lw_u := tb2 (List.mem_of_getElem? (i := 105) (by decide +kernel)) (by decide +kernel)
theorem wd_2_106 : Cond.methodLink RX7 109 yX7_isPiece ∈ lw_u := tb2 (List.mem_of_getElem? (i := 106) (by decide +kernel)) (by decide +kernel)
theorem wd_2_108 : Cond.instanceMethod yX7_isPiece ∈ lw_u := tb2 (List.mem_of_getElem? (i := 108) (by decide +kernel)) (by decide +kernel)
theorem wd_2_109 : Cond.code yX7_isPiece prog_1_method_35_code 2 (some FieldType.boolean) ∈ lw_u := tb2 (List.mem_of_getElem? (i := 109) (by decide +kernel)) (by decide +kernel)
theorem wd_2_110 : Cond.methodLink RX7 117 yX7_knownMeasures ∈ lw_u := tb2 (List.mem_of_getElem? (i := 110) (by decide +kernel)) (by decide +kernel)
theorem wd_2_112 : Cond.instanceMethod yX7_knownMeasures ∈ lw_u := tb2 (List.mem_of_getElem? (i := 112) (by decide +kernel)) (by decide +kernel)
theorem wd_2_113 : Cond.code yX7_knownMeasures prog_1_method_39_code 1 (some (FieldType.object "FrameRaiser$Measures")) ∈ lw_u := tb2 (List.mem_of_getElem? (i := 113) (by decide +kernel)) (by decide +kernel)
theorem wd_2_114 : Cond.methodLink RX7 307 yX3_read ∈ lw_u := tb2 (List.mem_of_getElem? (i := 114) (by decide +kernel)) (by decide +kernel)
theorem wd_2_115 : Cond.instanceMethod yX3_read ∈ lw_u := tb2 (List.mem_of_getElem? (i := 115) (by decide +kernel)) (by decide +kernel)
theorem wd_2_116 : Cond.selects RX3 yX3_read yX3_read ∈ lw_u := tb2 (List.mem_of_getElem? (i := 116) (by decide +kernel)) (by decide +kernel)
theorem wd_2_117 : Cond.code yX3_read prog_5_method_2_code 3 (none) ∈ lw_u := tb2 (List.mem_of_getElem? (i := 117) (by decide +kernel)) (by decide +kernel)
theorem wd_2_118 : Cond.methodLink RX3 33 yX3_measure ∈ lw_u := tb2 (List.mem_of_getElem? (i := 118) (by decide +kernel)) (by decide +kernel)
theorem wd_2_120 : Cond.instanceMethod yX3_measure ∈ lw_u := tb2 (List.mem_of_getElem? (i := 120) (by decide +kernel)) (by decide +kernel)
theorem wd_2_121 : Cond.code yX3_measure prog_5_method_3_code 5 (none) ∈ lw_u := tb2 (List.mem_of_getElem? (i := 121) (by decide +kernel)) (by decide +kernel)
theorem wd_2_122 : Cond.methodLinkNest RX3 37 yX7_coordinate RX7 ∈ lw_tbl := List.mem_append_right _ (by first | exact List.mem_append_left _ (List.mem_of_getElem? (i := 122) (by decide +kernel)) | exact List.mem_append_right _ (List.mem_append_left _ (List.mem_of_getElem? (i := 122) (by decide +kernel))) | exact List.mem_append_right _ (List.mem_append_right _ (List.mem_append_left _ (List.mem_of_getElem? (i := 122) (by decide +kernel)))) | exact List.mem_append_right _ (List.mem_append_right _ (List.mem_append_right _ (List.mem_append_left _ (List.mem_of_getElem? (i := 122) (by decide +kernel))))))
theorem wd_2_123 : Cond.methodLink RX3 41 yJ9_min_7cf53 ∈ lw_u := tb2 (List.mem_of_getElem? (i := 123) (by decide +kernel)) (by decide +kernel)
theorem wd_2_124 : Cond.static yJ9_min_7cf53 ∈ lw_u := tb2 (List.mem_of_getElem? (i := 124) (by decide +kernel)) (by decide +kernel)
theorem wd_2_125 : Cond.code yJ9_min_7cf53 prog_12_method_69_code 2 (some FieldType.int) ∈ lw_u := tb2 (List.mem_of_getElem? (i := 125) (by decide +kernel)) (by decide +kernel)
theorem wd_2_126 : Cond.methodLink RX3 46 yJ9_max_7cf53 ∈ lw_u := tb2 (List.mem_of_getElem? (i := 126) (by decide +kernel)) (by decide +kernel)
theorem wd_2_127 : Cond.static yJ9_max_7cf53 ∈ lw_u := tb2 (List.mem_of_getElem? (i := 127) (by decide +kernel)) (by decide +kernel)
theorem wd_2_128 : Cond.code yJ9_max_7cf53 prog_12_method_65_code 2 (some FieldType.int) ∈ lw_u := tb2 (List.mem_of_getElem? (i := 128) (by decide +kernel)) (by decide +kernel)
theorem wd_2_129 : Cond.methodLink RL 45 yX7_drop ∈ lw_u := tb2 (List.mem_of_getElem? (i := 129) (by decide +kernel)) (by decide +kernel)
theorem wd_2_130 : Cond.instanceMethod yX7_drop ∈ lw_u := tb2 (List.mem_of_getElem? (i := 130) (by decide +kernel)) (by decide +kernel)
theorem wd_2_131 : Cond.selects RX7 yX7_drop yX7_drop ∈ lw_u := tb2 (List.mem_of_getElem? (i := 131) (by decide +kernel)) (by decide +kernel)
theorem wd_2_132 : Cond.code yX7_drop prog_1_method_9_code 2 (some FieldType.int) ∈ lw_u := tb2 (List.mem_of_getElem? (i := 132) (by decide +kernel)) (by decide +kernel)
theorem wd_2_133 : Cond.methodLink RX7 124 yX1_remove ∈ lw_u := tb2 (List.mem_of_getElem? (i := 133) (by decide +kernel)) (by decide +kernel)
theorem wd_2_134 : Cond.instanceMethod yX1_remove ∈ lw_u := tb2 (List.mem_of_getElem? (i := 134) (by decide +kernel)) (by decide +kernel)
theorem wd_2_135 : Cond.selects RX1 yX1_remove yX1_remove ∈ lw_u := tb2 (List.mem_of_getElem? (i := 135) (by decide +kernel)) (by decide +kernel)
theorem wd_2_136 : Cond.code yX1_remove prog_3_method_6_code 4 (none) ∈ lw_u := tb2 (List.mem_of_getElem? (i := 136) (by decide +kernel)) (by decide +kernel)
theorem wd_2_137 : Cond.methodLink RL 49 yX7_shift ∈ lw_u := tb2 (List.mem_of_getElem? (i := 137) (by decide +kernel)) (by decide +kernel)
theorem wd_2_138 : Cond.instanceMethod yX7_shift ∈ lw_u := tb2 (List.mem_of_getElem? (i := 138) (by decide +kernel)) (by decide +kernel)
theorem wd_2_139 : Cond.selects RX7 yX7_shift yX7_shift ∈ lw_u := tb2 (List.mem_of_getElem? (i := 139) (by decide +kernel)) (by decide +kernel)
theorem wd_2_140 : Cond.code yX7_shift prog_1_method_10_code 4 (some FieldType.int) ∈ lw_u := tb2 (List.mem_of_getElem? (i := 140) (by decide +kernel)) (by decide +kernel)
theorem wd_2_141 : Cond.methodLink RX7 127 yX7_shiftFault ∈ lw_u := tb2 (List.mem_of_getElem? (i := 141) (by decide +kernel)) (by decide +kernel)
theorem wd_2_143 : Cond.instanceMethod yX7_shiftFault ∈ lw_u := tb2 (List.mem_of_getElem? (i := 143) (by decide +kernel)) (by decide +kernel)
theorem wd_2_144 : Cond.code yX7_shiftFault prog_1_method_34_code 3 (some FieldType.int) ∈ lw_u := tb2 (List.mem_of_getElem? (i := 144) (by decide +kernel)) (by decide +kernel)
theorem wd_2_145 : Cond.methodLink RX7 157 yX7_isDirection ∈ lw_u := tb2 (List.mem_of_getElem? (i := 145) (by decide +kernel)) (by decide +kernel)
theorem wd_2_146 : Cond.static yX7_isDirection ∈ lw_u := tb2 (List.mem_of_getElem? (i := 146) (by decide +kernel)) (by decide +kernel)
theorem wd_2_147 : Cond.code yX7_isDirection prog_1_method_42_code 1 (some FieldType.boolean) ∈ lw_u := tb2 (List.mem_of_getElem? (i := 147) (by decide +kernel)) (by decide +kernel)
theorem wd_2_148 : Cond.methodLink RX7 294 yX1_canMove ∈ lw_u := tb2 (List.mem_of_getElem? (i := 148) (by decide +kernel)) (by decide +kernel)
theorem wd_2_149 : Cond.instanceMethod yX1_canMove ∈ lw_u := tb2 (List.mem_of_getElem? (i := 149) (by decide +kernel)) (by decide +kernel)
theorem wd_2_150 : Cond.selects RX1 yX1_canMove yX1_canMove ∈ lw_u := tb2 (List.mem_of_getElem? (i := 150) (by decide +kernel)) (by decide +kernel)
theorem wd_2_151 : Cond.code yX1_canMove prog_3_method_7_code 4 (some FieldType.boolean) ∈ lw_u := tb2 (List.mem_of_getElem? (i := 151) (by decide +kernel)) (by decide +kernel)
theorem wd_2_152 : Cond.methodLinkNest RX1 43 yX7_neighbor RX7 ∈ lw_tbl := List.mem_append_right _ (by first | exact List.mem_append_left _ (List.mem_of_getElem? (i := 152) (by decide +kernel)) | exact List.mem_append_right _ (List.mem_append_left _ (List.mem_of_getElem? (i := 152) (by decide +kernel))) | exact List.mem_append_right _ (List.mem_append_right _ (List.mem_append_left _ (List.mem_of_getElem? (i := 152) (by decide +kernel)))) | exact List.mem_append_right _ (List.mem_append_right _ (List.mem_append_right _ (List.mem_append_left _ (List.mem_of_getElem? (i := 152) (by decide +kernel))))))
theorem wd_2_153 : Cond.static yX7_neighbor ∈ lw_u := tb2 (List.mem_of_getElem? (i := 153) (by decide +kernel)) (by decide +kernel)
theorem wd_2_154 : Cond.code yX7_neighbor prog_1_method_47_code 4 (some FieldType.int) ∈ lw_u := tb2 (List.mem_of_getElem? (i := 154) (by decide +kernel)) (by decide +kernel)
theorem wd_2_155 : Cond.methodLink RX7 311 yX7_coordinate ∈ lw_u := tb2 (List.mem_of_getElem? (i := 155) (by decide +kernel)) (by decide +kernel)
theorem wd_2_156 : Cond.methodLink RX7 314 yX7_stride ∈ lw_u := tb2 (List.mem_of_getElem? (i := 156) (by decide +kernel)) (by decide +kernel)
theorem wd_2_157 : Cond.static yX7_stride ∈ lw_u := tb2 (List.mem_of_getElem? (i := 157) (by decide +kernel)) (by decide +kernel)
theorem wd_2_158 : Cond.code yX7_stride prog_1_method_46_code 1 (some FieldType.int) ∈ lw_u := tb2 (List.mem_of_getElem? (i := 158) (by decide +kernel)) (by decide +kernel)
theorem wd_2_159 : Cond.methodLink RX1 47 yX1_isOpen ∈ lw_u := tb2 (List.mem_of_getElem? (i := 159) (by decide +kernel)) (by decide +kernel)
theorem wd_2_161 : Cond.instanceMethod yX1_isOpen ∈ lw_u := tb2 (List.mem_of_getElem? (i := 161) (by decide +kernel)) (by decide +kernel)
theorem wd_2_162 : Cond.code yX1_isOpen prog_3_method_8_code 3 (some FieldType.boolean) ∈ lw_u := tb2 (List.mem_of_getElem? (i := 162) (by decide +kernel)) (by decide +kernel)
theorem wd_2_163 : Cond.methodLink RX7 131 yX1_move ∈ lw_u := tb2 (List.mem_of_getElem? (i := 163) (by decide +kernel)) (by decide +kernel)
theorem wd_2_164 : Cond.instanceMethod yX1_move ∈ lw_u := tb2 (List.mem_of_getElem? (i := 164) (by decide +kernel)) (by decide +kernel)
theorem wd_2_165 : Cond.selects RX1 yX1_move yX1_move ∈ lw_u := tb2 (List.mem_of_getElem? (i := 165) (by decide +kernel)) (by decide +kernel)
theorem wd_2_166 : Cond.code yX1_move prog_3_method_9_code 7 (none) ∈ lw_u := tb2 (List.mem_of_getElem? (i := 166) (by decide +kernel)) (by decide +kernel)
theorem wd_2_167 : Cond.methodLink RL 54 yX7_pieceAt ∈ lw_u := tb2 (List.mem_of_getElem? (i := 167) (by decide +kernel)) (by decide +kernel)
theorem wd_2_168 : Cond.instanceMethod yX7_pieceAt ∈ lw_u := tb2 (List.mem_of_getElem? (i := 168) (by decide +kernel)) (by decide +kernel)
theorem wd_2_169 : Cond.selects RX7 yX7_pieceAt yX7_pieceAt ∈ lw_u := tb2 (List.mem_of_getElem? (i := 169) (by decide +kernel)) (by decide +kernel)
theorem wd_2_170 : Cond.code yX7_pieceAt prog_1_method_11_code 5 (some FieldType.int) ∈ lw_u := tb2 (List.mem_of_getElem? (i := 170) (by decide +kernel)) (by decide +kernel)
theorem wd_2_171 : Cond.methodLink RX7 135 yX7_isCoordinate ∈ lw_u := tb2 (List.mem_of_getElem? (i := 171) (by decide +kernel)) (by decide +kernel)
theorem wd_2_172 : Cond.static yX7_isCoordinate ∈ lw_u := tb2 (List.mem_of_getElem? (i := 172) (by decide +kernel)) (by decide +kernel)
theorem wd_2_173 : Cond.code yX7_isCoordinate prog_1_method_43_code 1 (some FieldType.boolean) ∈ lw_u := tb2 (List.mem_of_getElem? (i := 173) (by decide +kernel)) (by decide +kernel)
theorem wd_2_174 : Cond.methodLink RL 59 yX7_piece ∈ lw_u := tb2 (List.mem_of_getElem? (i := 174) (by decide +kernel)) (by decide +kernel)
theorem wd_2_175 : Cond.instanceMethod yX7_piece ∈ lw_u := tb2 (List.mem_of_getElem? (i := 175) (by decide +kernel)) (by decide +kernel)
theorem wd_2_176 : Cond.selects RX7 yX7_piece yX7_piece ∈ lw_u := tb2 (List.mem_of_getElem? (i := 176) (by decide +kernel)) (by decide +kernel)
theorem wd_2_177 : Cond.code yX7_piece prog_1_method_12_code 4 (some FieldType.int) ∈ lw_u := tb2 (List.mem_of_getElem? (i := 177) (by decide +kernel)) (by decide +kernel)
theorem wd_2_178 : Cond.methodLink RX7 144 yX7_has ∈ lw_u := tb2 (List.mem_of_getElem? (i := 178) (by decide +kernel)) (by decide +kernel)
theorem wd_2_179 : Cond.static yX7_has ∈ lw_u := tb2 (List.mem_of_getElem? (i := 179) (by decide +kernel)) (by decide +kernel)
theorem wd_2_180 : Cond.code yX7_has prog_1_method_44_code 2 (some FieldType.boolean) ∈ lw_u := tb2 (List.mem_of_getElem? (i := 180) (by decide +kernel)) (by decide +kernel)
theorem wd_2_181 : Cond.methodLink RL 63 yX7_blockers ∈ lw_u := tb2 (List.mem_of_getElem? (i := 181) (by decide +kernel)) (by decide +kernel)
theorem wd_2_182 : Cond.instanceMethod yX7_blockers ∈ lw_u := tb2 (List.mem_of_getElem? (i := 182) (by decide +kernel)) (by decide +kernel)
theorem wd_2_183 : Cond.selects RX7 yX7_blockers yX7_blockers ∈ lw_u := tb2 (List.mem_of_getElem? (i := 183) (by decide +kernel)) (by decide +kernel)
theorem wd_2_184 : Cond.code yX7_blockers prog_1_method_13_code 3 (some FieldType.int) ∈ lw_u := tb2 (List.mem_of_getElem? (i := 184) (by decide +kernel)) (by decide +kernel)
theorem wd_2_185 : Cond.methodLink RX7 160 yX7_knownRelations ∈ lw_u := tb2 (List.mem_of_getElem? (i := 185) (by decide +kernel)) (by decide +kernel)
theorem wd_2_187 : Cond.instanceMethod yX7_knownRelations ∈ lw_u := tb2 (List.mem_of_getElem? (i := 187) (by decide +kernel)) (by decide +kernel)
theorem wd_2_188 : Cond.code yX7_knownRelations prog_1_method_40_code 1 (some (FieldType.object "FrameRaiser$Relations")) ∈ lw_u := tb2 (List.mem_of_getElem? (i := 188) (by decide +kernel)) (by decide +kernel)
theorem wd_2_189 : Cond.methodLink RX7 229 yX5_read ∈ lw_u := tb2 (List.mem_of_getElem? (i := 189) (by decide +kernel)) (by decide +kernel)
theorem wd_2_190 : Cond.instanceMethod yX5_read ∈ lw_u := tb2 (List.mem_of_getElem? (i := 190) (by decide +kernel)) (by decide +kernel)
theorem wd_2_191 : Cond.selects RX5 yX5_read yX5_read ∈ lw_u := tb2 (List.mem_of_getElem? (i := 191) (by decide +kernel)) (by decide +kernel)
theorem wd_2_192 : Cond.code yX5_read prog_7_method_2_code 4 (none) ∈ lw_u := tb2 (List.mem_of_getElem? (i := 192) (by decide +kernel)) (by decide +kernel)
theorem wd_2_193 : Cond.methodLink RX5 24 yX5_reset ∈ lw_u := tb2 (List.mem_of_getElem? (i := 193) (by decide +kernel)) (by decide +kernel)
theorem wd_2_195 : Cond.instanceMethod yX5_reset ∈ lw_u := tb2 (List.mem_of_getElem? (i := 195) (by decide +kernel)) (by decide +kernel)
theorem wd_2_196 : Cond.code yX5_reset prog_7_method_3_code 2 (none) ∈ lw_u := tb2 (List.mem_of_getElem? (i := 196) (by decide +kernel)) (by decide +kernel)
theorem wd_2_197 : Cond.methodLink RX5 40 yX5_lineStart ∈ lw_u := tb2 (List.mem_of_getElem? (i := 197) (by decide +kernel)) (by decide +kernel)
theorem wd_2_198 : Cond.static yX5_lineStart ∈ lw_u := tb2 (List.mem_of_getElem? (i := 198) (by decide +kernel)) (by decide +kernel)
theorem wd_2_199 : Cond.code yX5_lineStart prog_7_method_4_code 2 (some FieldType.int) ∈ lw_u := tb2 (List.mem_of_getElem? (i := 199) (by decide +kernel)) (by decide +kernel)
theorem wd_2_200 : Cond.methodLink RX5 44 yX5_readLine ∈ lw_u := tb2 (List.mem_of_getElem? (i := 200) (by decide +kernel)) (by decide +kernel)
theorem wd_2_202 : Cond.instanceMethod yX5_readLine ∈ lw_u := tb2 (List.mem_of_getElem? (i := 202) (by decide +kernel)) (by decide +kernel)
theorem wd_2_203 : Cond.code yX5_readLine prog_7_method_5_code 10 (none) ∈ lw_u := tb2 (List.mem_of_getElem? (i := 203) (by decide +kernel)) (by decide +kernel)
theorem wd_2_204 : Cond.methodLinkNest RX5 48 yX7_stride RX7 ∈ lw_tbl := List.mem_append_right _ (by first | exact List.mem_append_left _ (List.mem_of_getElem? (i := 204) (by decide +kernel)) | exact List.mem_append_right _ (List.mem_append_left _ (List.mem_of_getElem? (i := 204) (by decide +kernel))) | exact List.mem_append_right _ (List.mem_append_right _ (List.mem_append_left _ (List.mem_of_getElem? (i := 204) (by decide +kernel)))) | exact List.mem_append_right _ (List.mem_append_right _ (List.mem_append_right _ (List.mem_append_left _ (List.mem_of_getElem? (i := 204) (by decide +kernel))))))
theorem wd_2_205 : Cond.methodLink RX5 52 yX5_block ∈ lw_u := tb2 (List.mem_of_getElem? (i := 205) (by decide +kernel)) (by decide +kernel)
theorem wd_2_207 : Cond.instanceMethod yX5_block ∈ lw_u := tb2 (List.mem_of_getElem? (i := 207) (by decide +kernel)) (by decide +kernel)
theorem wd_2_208 : Cond.code yX5_block prog_7_method_6_code 5 (some FieldType.int) ∈ lw_u := tb2 (List.mem_of_getElem? (i := 208) (by decide +kernel)) (by decide +kernel)
theorem wd_2_209 : Cond.methodLink RX5 56 yX5_join ∈ lw_u := tb2 (List.mem_of_getElem? (i := 209) (by decide +kernel)) (by decide +kernel)
theorem wd_2_211 : Cond.instanceMethod yX5_join ∈ lw_u := tb2 (List.mem_of_getElem? (i := 211) (by decide +kernel)) (by decide +kernel)
theorem wd_2_212 : Cond.code yX5_join prog_7_method_7_code 4 (none) ∈ lw_u := tb2 (List.mem_of_getElem? (i := 212) (by decide +kernel)) (by decide +kernel)
theorem wd_2_213 : Cond.methodLink RX7 164 yX5_blockersOf ∈ lw_u := tb2 (List.mem_of_getElem? (i := 213) (by decide +kernel)) (by decide +kernel)
theorem wd_2_214 : Cond.instanceMethod yX5_blockersOf ∈ lw_u := tb2 (List.mem_of_getElem? (i := 214) (by decide +kernel)) (by decide +kernel)
theorem wd_2_215 : Cond.selects RX5 yX5_blockersOf yX5_blockersOf ∈ lw_u := tb2 (List.mem_of_getElem? (i := 215) (by decide +kernel)) (by decide +kernel)
theorem wd_2_216 : Cond.code yX5_blockersOf prog_7_method_8_code 3 (some FieldType.int) ∈ lw_u := tb2 (List.mem_of_getElem? (i := 216) (by decide +kernel)) (by decide +kernel)
theorem wd_2_217 : Cond.methodLink RL 67 yX7_ways ∈ lw_u := tb2 (List.mem_of_getElem? (i := 217) (by decide +kernel)) (by decide +kernel)
theorem wd_2_218 : Cond.instanceMethod yX7_ways ∈ lw_u := tb2 (List.mem_of_getElem? (i := 218) (by decide +kernel)) (by decide +kernel)
theorem wd_2_219 : Cond.selects RX7 yX7_ways yX7_ways ∈ lw_u := tb2 (List.mem_of_getElem? (i := 219) (by decide +kernel)) (by decide +kernel)
theorem wd_2_220 : Cond.code yX7_ways prog_1_method_14_code 6 (some FieldType.int) ∈ lw_u := tb2 (List.mem_of_getElem? (i := 220) (by decide +kernel)) (by decide +kernel)
theorem wd_2_221 : Cond.methodLink RX7 167 yX7_isSet ∈ lw_u := tb2 (List.mem_of_getElem? (i := 221) (by decide +kernel)) (by decide +kernel)
theorem wd_2_223 : Cond.instanceMethod yX7_isSet ∈ lw_u := tb2 (List.mem_of_getElem? (i := 223) (by decide +kernel)) (by decide +kernel)
theorem wd_2_224 : Cond.code yX7_isSet prog_1_method_36_code 2 (some FieldType.boolean) ∈ lw_u := tb2 (List.mem_of_getElem? (i := 224) (by decide +kernel)) (by decide +kernel)
theorem wd_2_225 : Cond.methodLink RX7 232 yX7_allPieces ∈ lw_u := tb2 (List.mem_of_getElem? (i := 225) (by decide +kernel)) (by decide +kernel)
theorem wd_2_227 : Cond.instanceMethod yX7_allPieces ∈ lw_u := tb2 (List.mem_of_getElem? (i := 227) (by decide +kernel)) (by decide +kernel)
theorem wd_2_228 : Cond.code yX7_allPieces prog_1_method_37_code 1 (some FieldType.int) ∈ lw_u := tb2 (List.mem_of_getElem? (i := 228) (by decide +kernel)) (by decide +kernel)
theorem wd_2_229 : Cond.methodLink RX7 170 yX5_isFree ∈ lw_u := tb2 (List.mem_of_getElem? (i := 229) (by decide +kernel)) (by decide +kernel)
theorem wd_2_230 : Cond.instanceMethod yX5_isFree ∈ lw_u := tb2 (List.mem_of_getElem? (i := 230) (by decide +kernel)) (by decide +kernel)
theorem wd_2_231 : Cond.selects RX5 yX5_isFree yX5_isFree ∈ lw_u := tb2 (List.mem_of_getElem? (i := 231) (by decide +kernel)) (by decide +kernel)
theorem wd_2_232 : Cond.code yX5_isFree prog_7_method_9_code 4 (some FieldType.boolean) ∈ lw_u := tb2 (List.mem_of_getElem? (i := 232) (by decide +kernel)) (by decide +kernel)
theorem wd_2_233 : Cond.methodLink RL 71 yX7_contact ∈ lw_u := tb2 (List.mem_of_getElem? (i := 233) (by decide +kernel)) (by decide +kernel)
theorem wd_2_234 : Cond.instanceMethod yX7_contact ∈ lw_u := tb2 (List.mem_of_getElem? (i := 234) (by decide +kernel)) (by decide +kernel)
theorem wd_2_235 : Cond.selects RX7 yX7_contact yX7_contact ∈ lw_u := tb2 (List.mem_of_getElem? (i := 235) (by decide +kernel)) (by decide +kernel)
theorem wd_2_236 : Cond.code yX7_contact prog_1_method_15_code 3 (some FieldType.int) ∈ lw_u := tb2 (List.mem_of_getElem? (i := 236) (by decide +kernel)) (by decide +kernel)
theorem wd_2_237 : Cond.methodLink RL 75 yX7_hangsTogether ∈ lw_u := tb2 (List.mem_of_getElem? (i := 237) (by decide +kernel)) (by decide +kernel)
theorem wd_2_238 : Cond.instanceMethod yX7_hangsTogether ∈ lw_u := tb2 (List.mem_of_getElem? (i := 238) (by decide +kernel)) (by decide +kernel)
theorem wd_2_239 : Cond.selects RX7 yX7_hangsTogether yX7_hangsTogether ∈ lw_u := tb2 (List.mem_of_getElem? (i := 239) (by decide +kernel)) (by decide +kernel)
theorem wd_3_0 : Cond.code yX7_hangsTogether prog_1_method_16_code 2 (some FieldType.int) ∈ lw_u := tb3 (List.mem_of_getElem? (i := 0) (by decide +kernel)) (by decide +kernel)
theorem wd_3_1 : Cond.methodLink RX7 177 yX5_isConnected ∈ lw_u := tb3 (List.mem_of_getElem? (i := 1) (by decide +kernel)) (by decide +kernel)
theorem wd_3_2 : Cond.instanceMethod yX5_isConnected ∈ lw_u := tb3 (List.mem_of_getElem? (i := 2) (by decide +kernel)) (by decide +kernel)
theorem wd_3_3 : Cond.selects RX5 yX5_isConnected yX5_isConnected ∈ lw_u := tb3 (List.mem_of_getElem? (i := 3) (by decide +kernel)) (by decide +kernel)
theorem wd_3_4 : Cond.code yX5_isConnected prog_7_method_11_code 5 (some FieldType.boolean) ∈ lw_u := tb3 (List.mem_of_getElem? (i := 4) (by decide +kernel)) (by decide +kernel)
theorem wd_3_5 : Cond.methodLinkNest RX5 64 yX7_has RX7 ∈ lw_tbl := List.mem_append_right _ (by first | exact List.mem_append_left _ (List.mem_of_getElem? (i := 5) (by decide +kernel)) | exact List.mem_append_right _ (List.mem_append_left _ (List.mem_of_getElem? (i := 5) (by decide +kernel))) | exact List.mem_append_right _ (List.mem_append_right _ (List.mem_append_left _ (List.mem_of_getElem? (i := 5) (by decide +kernel)))) | exact List.mem_append_right _ (List.mem_append_right _ (List.mem_append_right _ (List.mem_append_left _ (List.mem_of_getElem? (i := 5) (by decide +kernel))))))
theorem wd_3_6 : Cond.methodLink RL 79 yX7_props ∈ lw_u := tb3 (List.mem_of_getElem? (i := 6) (by decide +kernel)) (by decide +kernel)
theorem wd_3_7 : Cond.instanceMethod yX7_props ∈ lw_u := tb3 (List.mem_of_getElem? (i := 7) (by decide +kernel)) (by decide +kernel)
theorem wd_3_8 : Cond.selects RX7 yX7_props yX7_props ∈ lw_u := tb3 (List.mem_of_getElem? (i := 8) (by decide +kernel)) (by decide +kernel)
theorem wd_3_9 : Cond.code yX7_props prog_1_method_17_code 2 (some FieldType.int) ∈ lw_u := tb3 (List.mem_of_getElem? (i := 9) (by decide +kernel)) (by decide +kernel)
theorem wd_3_10 : Cond.methodLink RX7 180 yX5_propsOf ∈ lw_u := tb3 (List.mem_of_getElem? (i := 10) (by decide +kernel)) (by decide +kernel)
theorem wd_3_11 : Cond.instanceMethod yX5_propsOf ∈ lw_u := tb3 (List.mem_of_getElem? (i := 11) (by decide +kernel)) (by decide +kernel)
theorem wd_3_12 : Cond.selects RX5 yX5_propsOf yX5_propsOf ∈ lw_u := tb3 (List.mem_of_getElem? (i := 12) (by decide +kernel)) (by decide +kernel)
theorem wd_3_13 : Cond.code yX5_propsOf prog_7_method_12_code 4 (some FieldType.int) ∈ lw_u := tb3 (List.mem_of_getElem? (i := 13) (by decide +kernel)) (by decide +kernel)
theorem wd_3_14 : Cond.methodLink RL 83 yX7_standing ∈ lw_u := tb3 (List.mem_of_getElem? (i := 14) (by decide +kernel)) (by decide +kernel)
theorem wd_3_15 : Cond.instanceMethod yX7_standing ∈ lw_u := tb3 (List.mem_of_getElem? (i := 15) (by decide +kernel)) (by decide +kernel)
theorem wd_3_16 : Cond.selects RX7 yX7_standing yX7_standing ∈ lw_u := tb3 (List.mem_of_getElem? (i := 16) (by decide +kernel)) (by decide +kernel)
theorem wd_3_17 : Cond.code yX7_standing prog_1_method_18_code 2 (some FieldType.int) ∈ lw_u := tb3 (List.mem_of_getElem? (i := 17) (by decide +kernel)) (by decide +kernel)
theorem wd_3_18 : Cond.methodLink RX7 184 yX5_standingOf ∈ lw_u := tb3 (List.mem_of_getElem? (i := 18) (by decide +kernel)) (by decide +kernel)
theorem wd_3_19 : Cond.instanceMethod yX5_standingOf ∈ lw_u := tb3 (List.mem_of_getElem? (i := 19) (by decide +kernel)) (by decide +kernel)
theorem wd_3_20 : Cond.selects RX5 yX5_standingOf yX5_standingOf ∈ lw_u := tb3 (List.mem_of_getElem? (i := 20) (by decide +kernel)) (by decide +kernel)
theorem wd_3_21 : Cond.code yX5_standingOf prog_7_method_13_code 5 (some FieldType.int) ∈ lw_u := tb3 (List.mem_of_getElem? (i := 21) (by decide +kernel)) (by decide +kernel)
theorem wd_3_22 : Cond.methodLink RL 87 yX7_orders ∈ lw_u := tb3 (List.mem_of_getElem? (i := 22) (by decide +kernel)) (by decide +kernel)
theorem wd_3_23 : Cond.instanceMethod yX7_orders ∈ lw_u := tb3 (List.mem_of_getElem? (i := 23) (by decide +kernel)) (by decide +kernel)
theorem wd_3_24 : Cond.selects RX7 yX7_orders yX7_orders ∈ lw_u := tb3 (List.mem_of_getElem? (i := 24) (by decide +kernel)) (by decide +kernel)
theorem wd_3_25 : Cond.code yX7_orders prog_1_method_19_code 2 (some FieldType.int) ∈ lw_u := tb3 (List.mem_of_getElem? (i := 25) (by decide +kernel)) (by decide +kernel)
theorem wd_3_26 : Cond.methodLink RX7 187 yX7_knownPlanner ∈ lw_u := tb3 (List.mem_of_getElem? (i := 26) (by decide +kernel)) (by decide +kernel)
theorem wd_3_28 : Cond.instanceMethod yX7_knownPlanner ∈ lw_u := tb3 (List.mem_of_getElem? (i := 28) (by decide +kernel)) (by decide +kernel)
theorem wd_3_29 : Cond.code yX7_knownPlanner prog_1_method_41_code 1 (some (FieldType.object "FrameRaiser$Planner")) ∈ lw_u := tb3 (List.mem_of_getElem? (i := 29) (by decide +kernel)) (by decide +kernel)
theorem wd_3_30 : Cond.methodLink RX7 308 yX4_fillTables ∈ lw_u := tb3 (List.mem_of_getElem? (i := 30) (by decide +kernel)) (by decide +kernel)
theorem wd_3_31 : Cond.instanceMethod yX4_fillTables ∈ lw_u := tb3 (List.mem_of_getElem? (i := 31) (by decide +kernel)) (by decide +kernel)
theorem wd_3_32 : Cond.selects RX4 yX4_fillTables yX4_fillTables ∈ lw_u := tb3 (List.mem_of_getElem? (i := 32) (by decide +kernel)) (by decide +kernel)
theorem wd_3_33 : Cond.code yX4_fillTables prog_6_method_2_code 3 (none) ∈ lw_u := tb3 (List.mem_of_getElem? (i := 33) (by decide +kernel)) (by decide +kernel)
theorem wd_3_34 : Cond.methodLink RX4 44 yX4_fillRow ∈ lw_u := tb3 (List.mem_of_getElem? (i := 34) (by decide +kernel)) (by decide +kernel)
theorem wd_3_36 : Cond.instanceMethod yX4_fillRow ∈ lw_u := tb3 (List.mem_of_getElem? (i := 36) (by decide +kernel)) (by decide +kernel)
theorem wd_3_37 : Cond.code yX4_fillRow prog_6_method_3_code 6 (none) ∈ lw_u := tb3 (List.mem_of_getElem? (i := 37) (by decide +kernel)) (by decide +kernel)
theorem wd_3_38 : Cond.methodLink RX4 48 yX5_firstWay ∈ lw_u := tb3 (List.mem_of_getElem? (i := 38) (by decide +kernel)) (by decide +kernel)
theorem wd_3_39 : Cond.instanceMethod yX5_firstWay ∈ lw_u := tb3 (List.mem_of_getElem? (i := 39) (by decide +kernel)) (by decide +kernel)
theorem wd_3_40 : Cond.selects RX5 yX5_firstWay yX5_firstWay ∈ lw_u := tb3 (List.mem_of_getElem? (i := 40) (by decide +kernel)) (by decide +kernel)
theorem wd_3_41 : Cond.code yX5_firstWay prog_7_method_10_code 4 (some FieldType.int) ∈ lw_u := tb3 (List.mem_of_getElem? (i := 41) (by decide +kernel)) (by decide +kernel)
theorem wd_3_42 : Cond.methodLink RX5 60 yX5_isFree ∈ lw_u := tb3 (List.mem_of_getElem? (i := 42) (by decide +kernel)) (by decide +kernel)
theorem wd_3_43 : Cond.methodLink RX4 52 yJ9_min_7cf53 ∈ lw_u := tb3 (List.mem_of_getElem? (i := 43) (by decide +kernel)) (by decide +kernel)
theorem wd_3_44 : Cond.methodLink RX4 57 yX5_propsOf ∈ lw_u := tb3 (List.mem_of_getElem? (i := 44) (by decide +kernel)) (by decide +kernel)
theorem wd_3_45 : Cond.methodLink RX4 61 yJ9_max_7cf53 ∈ lw_u := tb3 (List.mem_of_getElem? (i := 45) (by decide +kernel)) (by decide +kernel)
theorem wd_3_46 : Cond.methodLink RL 91 yX7_fewestProps ∈ lw_u := tb3 (List.mem_of_getElem? (i := 46) (by decide +kernel)) (by decide +kernel)
theorem wd_3_47 : Cond.instanceMethod yX7_fewestProps ∈ lw_u := tb3 (List.mem_of_getElem? (i := 47) (by decide +kernel)) (by decide +kernel)
theorem wd_3_48 : Cond.selects RX7 yX7_fewestProps yX7_fewestProps ∈ lw_u := tb3 (List.mem_of_getElem? (i := 48) (by decide +kernel)) (by decide +kernel)
theorem wd_3_49 : Cond.code yX7_fewestProps prog_1_method_20_code 2 (some FieldType.int) ∈ lw_u := tb3 (List.mem_of_getElem? (i := 49) (by decide +kernel)) (by decide +kernel)
theorem wd_3_50 : Cond.methodLink RL 95 yX7_planned ∈ lw_u := tb3 (List.mem_of_getElem? (i := 50) (by decide +kernel)) (by decide +kernel)
theorem wd_3_51 : Cond.instanceMethod yX7_planned ∈ lw_u := tb3 (List.mem_of_getElem? (i := 51) (by decide +kernel)) (by decide +kernel)
theorem wd_3_52 : Cond.selects RX7 yX7_planned yX7_planned ∈ lw_u := tb3 (List.mem_of_getElem? (i := 52) (by decide +kernel)) (by decide +kernel)
theorem wd_3_53 : Cond.code yX7_planned prog_1_method_21_code 5 (some FieldType.int) ∈ lw_u := tb3 (List.mem_of_getElem? (i := 53) (by decide +kernel)) (by decide +kernel)
theorem wd_3_54 : Cond.methodLink RX7 197 yX4_plan ∈ lw_u := tb3 (List.mem_of_getElem? (i := 54) (by decide +kernel)) (by decide +kernel)
theorem wd_3_55 : Cond.instanceMethod yX4_plan ∈ lw_u := tb3 (List.mem_of_getElem? (i := 55) (by decide +kernel)) (by decide +kernel)
theorem wd_3_56 : Cond.selects RX4 yX4_plan yX4_plan ∈ lw_u := tb3 (List.mem_of_getElem? (i := 56) (by decide +kernel)) (by decide +kernel)
theorem wd_3_57 : Cond.code yX4_plan prog_6_method_4_code 2 (none) ∈ lw_u := tb3 (List.mem_of_getElem? (i := 57) (by decide +kernel)) (by decide +kernel)
theorem wd_3_58 : Cond.methodLink RX4 67 yX4_markLeading ∈ lw_u := tb3 (List.mem_of_getElem? (i := 58) (by decide +kernel)) (by decide +kernel)
theorem wd_3_60 : Cond.instanceMethod yX4_markLeading ∈ lw_u := tb3 (List.mem_of_getElem? (i := 60) (by decide +kernel)) (by decide +kernel)
theorem wd_3_61 : Cond.code yX4_markLeading prog_6_method_5_code 3 (none) ∈ lw_u := tb3 (List.mem_of_getElem? (i := 61) (by decide +kernel)) (by decide +kernel)
theorem wd_3_62 : Cond.methodLink RX4 73 yX4_nextPlanned ∈ lw_u := tb3 (List.mem_of_getElem? (i := 62) (by decide +kernel)) (by decide +kernel)
theorem wd_3_64 : Cond.instanceMethod yX4_nextPlanned ∈ lw_u := tb3 (List.mem_of_getElem? (i := 64) (by decide +kernel)) (by decide +kernel)
theorem wd_3_65 : Cond.code yX4_nextPlanned prog_6_method_7_code 5 (some FieldType.int) ∈ lw_u := tb3 (List.mem_of_getElem? (i := 65) (by decide +kernel)) (by decide +kernel)
theorem wd_3_66 : Cond.methodLinkNest RX4 76 yX7_has RX7 ∈ lw_tbl := List.mem_append_right _ (by first | exact List.mem_append_left _ (List.mem_of_getElem? (i := 66) (by decide +kernel)) | exact List.mem_append_right _ (List.mem_append_left _ (List.mem_of_getElem? (i := 66) (by decide +kernel))) | exact List.mem_append_right _ (List.mem_append_right _ (List.mem_append_left _ (List.mem_of_getElem? (i := 66) (by decide +kernel)))) | exact List.mem_append_right _ (List.mem_append_right _ (List.mem_append_right _ (List.mem_append_left _ (List.mem_of_getElem? (i := 66) (by decide +kernel))))))
theorem wd_3_67 : Cond.methodLink RX4 70 yX4_followLeading ∈ lw_u := tb3 (List.mem_of_getElem? (i := 67) (by decide +kernel)) (by decide +kernel)
theorem wd_3_69 : Cond.instanceMethod yX4_followLeading ∈ lw_u := tb3 (List.mem_of_getElem? (i := 69) (by decide +kernel)) (by decide +kernel)
theorem wd_3_70 : Cond.code yX4_followLeading prog_6_method_6_code 5 (none) ∈ lw_u := tb3 (List.mem_of_getElem? (i := 70) (by decide +kernel)) (by decide +kernel)
theorem wd_3_71 : Cond.methodLink RL 100 yX7_locked ∈ lw_u := tb3 (List.mem_of_getElem? (i := 71) (by decide +kernel)) (by decide +kernel)
theorem wd_3_72 : Cond.instanceMethod yX7_locked ∈ lw_u := tb3 (List.mem_of_getElem? (i := 72) (by decide +kernel)) (by decide +kernel)
theorem wd_3_73 : Cond.selects RX7 yX7_locked yX7_locked ∈ lw_u := tb3 (List.mem_of_getElem? (i := 73) (by decide +kernel)) (by decide +kernel)
theorem wd_3_74 : Cond.code yX7_locked prog_1_method_22_code 2 (some FieldType.int) ∈ lw_u := tb3 (List.mem_of_getElem? (i := 74) (by decide +kernel)) (by decide +kernel)
theorem wd_3_75 : Cond.methodLink RX7 209 yX5_lockedOf ∈ lw_u := tb3 (List.mem_of_getElem? (i := 75) (by decide +kernel)) (by decide +kernel)
theorem wd_3_76 : Cond.instanceMethod yX5_lockedOf ∈ lw_u := tb3 (List.mem_of_getElem? (i := 76) (by decide +kernel)) (by decide +kernel)
theorem wd_3_77 : Cond.selects RX5 yX5_lockedOf yX5_lockedOf ∈ lw_u := tb3 (List.mem_of_getElem? (i := 77) (by decide +kernel)) (by decide +kernel)
theorem wd_3_78 : Cond.code yX5_lockedOf prog_7_method_14_code 5 (some FieldType.int) ∈ lw_u := tb3 (List.mem_of_getElem? (i := 78) (by decide +kernel)) (by decide +kernel)
theorem wd_3_79 : Cond.methodLink RX5 68 yX5_firstWay ∈ lw_u := tb3 (List.mem_of_getElem? (i := 79) (by decide +kernel)) (by decide +kernel)
theorem wd_3_80 : Cond.methodLink RL 104 yX7_firstGroup ∈ lw_u := tb3 (List.mem_of_getElem? (i := 80) (by decide +kernel)) (by decide +kernel)
theorem wd_3_81 : Cond.instanceMethod yX7_firstGroup ∈ lw_u := tb3 (List.mem_of_getElem? (i := 81) (by decide +kernel)) (by decide +kernel)
theorem wd_3_82 : Cond.selects RX7 yX7_firstGroup yX7_firstGroup ∈ lw_u := tb3 (List.mem_of_getElem? (i := 82) (by decide +kernel)) (by decide +kernel)
theorem wd_3_83 : Cond.code yX7_firstGroup prog_1_method_23_code 5 (some FieldType.int) ∈ lw_u := tb3 (List.mem_of_getElem? (i := 83) (by decide +kernel)) (by decide +kernel)
theorem wd_3_84 : Cond.methodLink RX7 212 yX5_smallestGroup ∈ lw_u := tb3 (List.mem_of_getElem? (i := 84) (by decide +kernel)) (by decide +kernel)
theorem wd_3_85 : Cond.instanceMethod yX5_smallestGroup ∈ lw_u := tb3 (List.mem_of_getElem? (i := 85) (by decide +kernel)) (by decide +kernel)
theorem wd_3_86 : Cond.selects RX5 yX5_smallestGroup yX5_smallestGroup ∈ lw_u := tb3 (List.mem_of_getElem? (i := 86) (by decide +kernel)) (by decide +kernel)
theorem wd_3_87 : Cond.code yX5_smallestGroup prog_7_method_15_code 6 (some FieldType.int) ∈ lw_u := tb3 (List.mem_of_getElem? (i := 87) (by decide +kernel)) (by decide +kernel)
theorem wd_3_88 : Cond.methodLink RX5 71 yJ6_bitCount_0f7a4 ∈ lw_u := tb3 (List.mem_of_getElem? (i := 88) (by decide +kernel)) (by decide +kernel)
theorem wd_3_89 : Cond.static yJ6_bitCount_0f7a4 ∈ lw_u := tb3 (List.mem_of_getElem? (i := 89) (by decide +kernel)) (by decide +kernel)
theorem wd_3_90 : Cond.code yJ6_bitCount_0f7a4 prog_11_method_49_code 1 (some FieldType.int) ∈ lw_u := tb3 (List.mem_of_getElem? (i := 90) (by decide +kernel)) (by decide +kernel)
theorem wd_3_91 : Cond.constant RJ6 265 (1431655765) ∈ lw_u := tb3 (List.mem_of_getElem? (i := 91) (by decide +kernel)) (by decide +kernel)
theorem wd_3_92 : Cond.constant RJ6 266 (858993459) ∈ lw_u := tb3 (List.mem_of_getElem? (i := 92) (by decide +kernel)) (by decide +kernel)
theorem wd_3_93 : Cond.constant RJ6 267 (252645135) ∈ lw_u := tb3 (List.mem_of_getElem? (i := 93) (by decide +kernel)) (by decide +kernel)
theorem wd_3_94 : Cond.methodLink RX5 76 yX5_wayOfGroup ∈ lw_u := tb3 (List.mem_of_getElem? (i := 94) (by decide +kernel)) (by decide +kernel)
theorem wd_3_95 : Cond.instanceMethod yX5_wayOfGroup ∈ lw_u := tb3 (List.mem_of_getElem? (i := 95) (by decide +kernel)) (by decide +kernel)
theorem wd_3_96 : Cond.selects RX5 yX5_wayOfGroup yX5_wayOfGroup ∈ lw_u := tb3 (List.mem_of_getElem? (i := 96) (by decide +kernel)) (by decide +kernel)
theorem wd_3_97 : Cond.code yX5_wayOfGroup prog_7_method_16_code 4 (some FieldType.int) ∈ lw_u := tb3 (List.mem_of_getElem? (i := 97) (by decide +kernel)) (by decide +kernel)
theorem wd_3_98 : Cond.methodLink RX5 79 yX5_isGroupFree ∈ lw_u := tb3 (List.mem_of_getElem? (i := 98) (by decide +kernel)) (by decide +kernel)
theorem wd_3_100 : Cond.instanceMethod yX5_isGroupFree ∈ lw_u := tb3 (List.mem_of_getElem? (i := 100) (by decide +kernel)) (by decide +kernel)
theorem wd_3_101 : Cond.code yX5_isGroupFree prog_7_method_17_code 5 (some FieldType.boolean) ∈ lw_u := tb3 (List.mem_of_getElem? (i := 101) (by decide +kernel)) (by decide +kernel)
theorem wd_3_102 : Cond.methodLink RX7 215 yX5_wayOfGroup ∈ lw_u := tb3 (List.mem_of_getElem? (i := 102) (by decide +kernel)) (by decide +kernel)
theorem wd_3_103 : Cond.methodLink RL 109 yX7_put ∈ lw_u := tb3 (List.mem_of_getElem? (i := 103) (by decide +kernel)) (by decide +kernel)
theorem wd_3_104 : Cond.instanceMethod yX7_put ∈ lw_u := tb3 (List.mem_of_getElem? (i := 104) (by decide +kernel)) (by decide +kernel)
theorem wd_3_105 : Cond.selects RX7 yX7_put yX7_put ∈ lw_u := tb3 (List.mem_of_getElem? (i := 105) (by decide +kernel)) (by decide +kernel)
theorem wd_3_106 : Cond.code yX7_put prog_1_method_24_code 3 (some FieldType.int) ∈ lw_u := tb3 (List.mem_of_getElem? (i := 106) (by decide +kernel)) (by decide +kernel)
theorem wd_3_107 : Cond.methodLink RX7 218 yX7_step ∈ lw_u := tb3 (List.mem_of_getElem? (i := 107) (by decide +kernel)) (by decide +kernel)
theorem wd_3_109 : Cond.instanceMethod yX7_step ∈ lw_u := tb3 (List.mem_of_getElem? (i := 109) (by decide +kernel)) (by decide +kernel)
theorem wd_3_110 : Cond.code yX7_step prog_1_method_32_code 5 (some FieldType.int) ∈ lw_u := tb3 (List.mem_of_getElem? (i := 110) (by decide +kernel)) (by decide +kernel)
theorem wd_3_111 : Cond.methodLink RX7 226 yX1_turn ∈ lw_u := tb3 (List.mem_of_getElem? (i := 111) (by decide +kernel)) (by decide +kernel)
theorem wd_3_112 : Cond.instanceMethod yX1_turn ∈ lw_u := tb3 (List.mem_of_getElem? (i := 112) (by decide +kernel)) (by decide +kernel)
theorem wd_3_113 : Cond.selects RX1 yX1_turn yX1_turn ∈ lw_u := tb3 (List.mem_of_getElem? (i := 113) (by decide +kernel)) (by decide +kernel)
theorem wd_3_114 : Cond.code yX1_turn prog_3_method_10_code 2 (none) ∈ lw_u := tb3 (List.mem_of_getElem? (i := 114) (by decide +kernel)) (by decide +kernel)
theorem wd_3_115 : Cond.methodLink RL 113 yX7_takeOut ∈ lw_u := tb3 (List.mem_of_getElem? (i := 115) (by decide +kernel)) (by decide +kernel)
theorem wd_3_116 : Cond.instanceMethod yX7_takeOut ∈ lw_u := tb3 (List.mem_of_getElem? (i := 116) (by decide +kernel)) (by decide +kernel)
theorem wd_3_117 : Cond.selects RX7 yX7_takeOut yX7_takeOut ∈ lw_u := tb3 (List.mem_of_getElem? (i := 117) (by decide +kernel)) (by decide +kernel)
theorem wd_3_118 : Cond.code yX7_takeOut prog_1_method_25_code 3 (some FieldType.int) ∈ lw_u := tb3 (List.mem_of_getElem? (i := 118) (by decide +kernel)) (by decide +kernel)
theorem wd_3_119 : Cond.methodLink RL 117 yX7_putAll ∈ lw_u := tb3 (List.mem_of_getElem? (i := 119) (by decide +kernel)) (by decide +kernel)
theorem wd_3_120 : Cond.instanceMethod yX7_putAll ∈ lw_u := tb3 (List.mem_of_getElem? (i := 120) (by decide +kernel)) (by decide +kernel)
theorem wd_3_121 : Cond.selects RX7 yX7_putAll yX7_putAll ∈ lw_u := tb3 (List.mem_of_getElem? (i := 121) (by decide +kernel)) (by decide +kernel)
theorem wd_3_122 : Cond.code yX7_putAll prog_1_method_26_code 4 (some FieldType.int) ∈ lw_u := tb3 (List.mem_of_getElem? (i := 122) (by decide +kernel)) (by decide +kernel)
theorem wd_3_123 : Cond.methodLink RX7 222 yX7_nextToPut ∈ lw_u := tb3 (List.mem_of_getElem? (i := 123) (by decide +kernel)) (by decide +kernel)
theorem wd_3_125 : Cond.instanceMethod yX7_nextToPut ∈ lw_u := tb3 (List.mem_of_getElem? (i := 125) (by decide +kernel)) (by decide +kernel)
theorem wd_3_126 : Cond.code yX7_nextToPut prog_1_method_33_code 3 (some FieldType.int) ∈ lw_u := tb3 (List.mem_of_getElem? (i := 126) (by decide +kernel)) (by decide +kernel)
theorem wd_3_127 : Cond.methodLink RX7 291 yX5_firstWay ∈ lw_u := tb3 (List.mem_of_getElem? (i := 127) (by decide +kernel)) (by decide +kernel)
theorem wd_3_128 : Cond.methodLink RL 121 yX7_ifShift ∈ lw_u := tb3 (List.mem_of_getElem? (i := 128) (by decide +kernel)) (by decide +kernel)
theorem wd_3_129 : Cond.instanceMethod yX7_ifShift ∈ lw_u := tb3 (List.mem_of_getElem? (i := 129) (by decide +kernel)) (by decide +kernel)
theorem wd_3_130 : Cond.selects RX7 yX7_ifShift yX7_ifShift ∈ lw_u := tb3 (List.mem_of_getElem? (i := 130) (by decide +kernel)) (by decide +kernel)
theorem wd_3_131 : Cond.code yX7_ifShift prog_1_method_27_code 4 (some FieldType.int) ∈ lw_u := tb3 (List.mem_of_getElem? (i := 131) (by decide +kernel)) (by decide +kernel)
theorem wd_3_132 : Cond.methodLink RX7 235 yJ6_bitCount_0f7a4 ∈ lw_u := tb3 (List.mem_of_getElem? (i := 132) (by decide +kernel)) (by decide +kernel)
theorem wd_3_133 : Cond.methodLink RL 125 yX7_undo ∈ lw_u := tb3 (List.mem_of_getElem? (i := 133) (by decide +kernel)) (by decide +kernel)
theorem wd_3_134 : Cond.instanceMethod yX7_undo ∈ lw_u := tb3 (List.mem_of_getElem? (i := 134) (by decide +kernel)) (by decide +kernel)
theorem wd_3_135 : Cond.selects RX7 yX7_undo yX7_undo ∈ lw_u := tb3 (List.mem_of_getElem? (i := 135) (by decide +kernel)) (by decide +kernel)
theorem wd_3_136 : Cond.code yX7_undo prog_1_method_28_code 1 (some FieldType.int) ∈ lw_u := tb3 (List.mem_of_getElem? (i := 136) (by decide +kernel)) (by decide +kernel)
theorem wd_3_137 : Cond.methodLink RX7 243 yX2_restore ∈ lw_u := tb3 (List.mem_of_getElem? (i := 137) (by decide +kernel)) (by decide +kernel)
theorem wd_3_138 : Cond.instanceMethod yX2_restore ∈ lw_u := tb3 (List.mem_of_getElem? (i := 138) (by decide +kernel)) (by decide +kernel)
theorem wd_3_139 : Cond.selects RX2 yX2_restore yX2_restore ∈ lw_u := tb3 (List.mem_of_getElem? (i := 139) (by decide +kernel)) (by decide +kernel)
theorem wd_3_140 : Cond.code yX2_restore prog_4_method_3_code 2 (none) ∈ lw_u := tb3 (List.mem_of_getElem? (i := 140) (by decide +kernel)) (by decide +kernel)
theorem wd_3_141 : Cond.methodLink RL 129 yX7_count ∈ lw_u := tb3 (List.mem_of_getElem? (i := 141) (by decide +kernel)) (by decide +kernel)
theorem wd_3_142 : Cond.instanceMethod yX7_count ∈ lw_u := tb3 (List.mem_of_getElem? (i := 142) (by decide +kernel)) (by decide +kernel)
theorem wd_3_143 : Cond.selects RX7 yX7_count yX7_count ∈ lw_u := tb3 (List.mem_of_getElem? (i := 143) (by decide +kernel)) (by decide +kernel)
theorem wd_3_144 : Cond.code yX7_count prog_1_method_29_code 2 (some FieldType.int) ∈ lw_u := tb3 (List.mem_of_getElem? (i := 144) (by decide +kernel)) (by decide +kernel)
theorem wd_3_145 : Cond.methodLink RL 133 yX7_digest ∈ lw_u := tb3 (List.mem_of_getElem? (i := 145) (by decide +kernel)) (by decide +kernel)
theorem wd_3_146 : Cond.instanceMethod yX7_digest ∈ lw_u := tb3 (List.mem_of_getElem? (i := 146) (by decide +kernel)) (by decide +kernel)
theorem wd_3_147 : Cond.selects RX7 yX7_digest yX7_digest ∈ lw_u := tb3 (List.mem_of_getElem? (i := 147) (by decide +kernel)) (by decide +kernel)
theorem wd_3_148 : Cond.code yX7_digest prog_1_method_30_code 6 (some FieldType.long) ∈ lw_u := tb3 (List.mem_of_getElem? (i := 148) (by decide +kernel)) (by decide +kernel)
theorem wd_3_149 : Cond.constantLong RX7 252 (12942) ∈ lw_u := tb3 (List.mem_of_getElem? (i := 149) (by decide +kernel)) (by decide +kernel)
theorem wd_3_150 : Cond.constantLong RX7 254 (31) ∈ lw_u := tb3 (List.mem_of_getElem? (i := 150) (by decide +kernel)) (by decide +kernel)
theorem wd_3_151 : Cond.methodLink RX7 256 yX7_count ∈ lw_u := tb3 (List.mem_of_getElem? (i := 151) (by decide +kernel)) (by decide +kernel)
theorem wd_3_152 : Cond.methodLink RX7 259 yX7_mixPiece ∈ lw_u := tb3 (List.mem_of_getElem? (i := 152) (by decide +kernel)) (by decide +kernel)
theorem wd_3_154 : Cond.instanceMethod yX7_mixPiece ∈ lw_u := tb3 (List.mem_of_getElem? (i := 154) (by decide +kernel)) (by decide +kernel)
theorem wd_3_155 : Cond.code yX7_mixPiece prog_1_method_31_code 7 (some FieldType.long) ∈ lw_u := tb3 (List.mem_of_getElem? (i := 155) (by decide +kernel)) (by decide +kernel)
theorem wd_3_156 : Cond.methodLink RX7 285 yX7_piece ∈ lw_u := tb3 (List.mem_of_getElem? (i := 156) (by decide +kernel)) (by decide +kernel)
theorem wd_3_157 : Cond.methodLink RX7 288 yX7_blockers ∈ lw_u := tb3 (List.mem_of_getElem? (i := 157) (by decide +kernel)) (by decide +kernel)
theorem wd_3_158 : Cond.methodLink RX7 263 yX7_orders ∈ lw_u := tb3 (List.mem_of_getElem? (i := 158) (by decide +kernel)) (by decide +kernel)
theorem wd_3_159 : Cond.methodLink RX7 266 yX7_fewestProps ∈ lw_u := tb3 (List.mem_of_getElem? (i := 159) (by decide +kernel)) (by decide +kernel)
theorem wd_3_160 : Cond.methodLink RX7 269 yX7_planned ∈ lw_u := tb3 (List.mem_of_getElem? (i := 160) (by decide +kernel)) (by decide +kernel)
theorem wd_3_161 : Cond.methodLink RX7 272 yX7_locked ∈ lw_u := tb3 (List.mem_of_getElem? (i := 161) (by decide +kernel)) (by decide +kernel)
theorem wd_3_162 : Cond.methodLink RX7 275 yX7_firstGroup ∈ lw_u := tb3 (List.mem_of_getElem? (i := 162) (by decide +kernel)) (by decide +kernel)
theorem wd_3_163 : Cond.methodLink RX7 279 yX7_standing ∈ lw_u := tb3 (List.mem_of_getElem? (i := 163) (by decide +kernel)) (by decide +kernel)
theorem wd_3_164 : Cond.methodLink RX7 282 yX7_hangsTogether ∈ lw_u := tb3 (List.mem_of_getElem? (i := 164) (by decide +kernel)) (by decide +kernel)
theorem wd_3_165 : Cond.classLink RL 10 RX8 ∈ lw_u := tb3 (List.mem_of_getElem? (i := 165) (by decide +kernel)) (by decide +kernel)
theorem wd_3_166 : Cond.instantiable RX8 14 ∈ lw_u := tb3 (List.mem_of_getElem? (i := 166) (by decide +kernel)) (by decide +kernel)
theorem wd_3_167 : Cond.methodLink RL 12 yX8_init ∈ lw_u := tb3 (List.mem_of_getElem? (i := 167) (by decide +kernel)) (by decide +kernel)
theorem wd_3_168 : Cond.instanceMethod yX8_init ∈ lw_u := tb3 (List.mem_of_getElem? (i := 168) (by decide +kernel)) (by decide +kernel)
theorem wd_3_169 : Cond.code yX8_init prog_10_method_1_code 1 (none) ∈ lw_u := tb3 (List.mem_of_getElem? (i := 169) (by decide +kernel)) (by decide +kernel)
theorem wd_3_170 : Cond.methodLink RX8 1 ⟨"java/lang/Object", "<init>", "()V"⟩ ∈ lw_u := tb3 (List.mem_of_getElem? (i := 170) (by decide +kernel)) (by decide +kernel)
theorem wd_3_171 : Cond.methodLink RX8 38 yX8_lays ∈ lw_u := tb3 (List.mem_of_getElem? (i := 171) (by decide +kernel)) (by decide +kernel)
theorem wd_3_173 : Cond.instanceMethod yX8_lays ∈ lw_u := tb3 (List.mem_of_getElem? (i := 173) (by decide +kernel)) (by decide +kernel)
theorem wd_3_174 : Cond.code yX8_lays prog_10_method_17_code 5 (none) ∈ lw_u := tb3 (List.mem_of_getElem? (i := 174) (by decide +kernel)) (by decide +kernel)
theorem wd_3_175 : Cond.methodLink RX8 61 yX8_at ∈ lw_u := tb3 (List.mem_of_getElem? (i := 175) (by decide +kernel)) (by decide +kernel)
theorem wd_3_177 : Cond.instanceMethod yX8_at ∈ lw_u := tb3 (List.mem_of_getElem? (i := 177) (by decide +kernel)) (by decide +kernel)
theorem wd_3_178 : Cond.code yX8_at prog_10_method_8_code 2 (some FieldType.int) ∈ lw_u := tb3 (List.mem_of_getElem? (i := 178) (by decide +kernel)) (by decide +kernel)
theorem wd_3_179 : Cond.methodLink RX8 65 yX8_looks ∈ lw_u := tb3 (List.mem_of_getElem? (i := 179) (by decide +kernel)) (by decide +kernel)
theorem wd_3_181 : Cond.instanceMethod yX8_looks ∈ lw_u := tb3 (List.mem_of_getElem? (i := 181) (by decide +kernel)) (by decide +kernel)
theorem wd_3_182 : Cond.code yX8_looks prog_10_method_18_code 6 (none) ∈ lw_u := tb3 (List.mem_of_getElem? (i := 182) (by decide +kernel)) (by decide +kernel)
theorem wd_3_183 : Cond.methodLink RX8 69 yX8_step ∈ lw_u := tb3 (List.mem_of_getElem? (i := 183) (by decide +kernel)) (by decide +kernel)
theorem wd_3_184 : Cond.static yX8_step ∈ lw_u := tb3 (List.mem_of_getElem? (i := 184) (by decide +kernel)) (by decide +kernel)
theorem wd_3_185 : Cond.code yX8_step prog_10_method_9_code 5 (some FieldType.int) ∈ lw_u := tb3 (List.mem_of_getElem? (i := 185) (by decide +kernel)) (by decide +kernel)
theorem wd_3_186 : Cond.methodLink RX8 49 yX8_in ∈ lw_u := tb3 (List.mem_of_getElem? (i := 186) (by decide +kernel)) (by decide +kernel)
theorem wd_3_187 : Cond.static yX8_in ∈ lw_u := tb3 (List.mem_of_getElem? (i := 187) (by decide +kernel)) (by decide +kernel)
theorem wd_3_188 : Cond.code yX8_in prog_10_method_3_code 3 (some FieldType.boolean) ∈ lw_u := tb3 (List.mem_of_getElem? (i := 188) (by decide +kernel)) (by decide +kernel)
theorem wd_3_189 : Cond.methodLink RX8 53 yX8_place ∈ lw_u := tb3 (List.mem_of_getElem? (i := 189) (by decide +kernel)) (by decide +kernel)
theorem wd_3_190 : Cond.static yX8_place ∈ lw_u := tb3 (List.mem_of_getElem? (i := 190) (by decide +kernel)) (by decide +kernel)
theorem wd_3_191 : Cond.code yX8_place prog_10_method_7_code 3 (some FieldType.int) ∈ lw_u := tb3 (List.mem_of_getElem? (i := 191) (by decide +kernel)) (by decide +kernel)
theorem wd_3_192 : Cond.fieldLink RX8 7 RX8 "page" "[I" ∈ lw_u := tb3 (List.mem_of_getElem? (i := 192) (by decide +kernel)) (by decide +kernel)
theorem wd_3_193 : Cond.fieldLink RX8 41 RX8 "backMany" "I" ∈ lw_u := tb3 (List.mem_of_getElem? (i := 193) (by decide +kernel)) (by decide +kernel)
theorem wd_3_194 : Cond.fieldLink RX8 13 RX8 "blocking" "[I" ∈ lw_u := tb3 (List.mem_of_getElem? (i := 194) (by decide +kernel)) (by decide +kernel)
theorem wd_3_195 : Cond.fieldLink RX8 16 RX8 "below" "[I" ∈ lw_u := tb3 (List.mem_of_getElem? (i := 195) (by decide +kernel)) (by decide +kernel)
theorem wd_3_196 : Cond.fieldLink RX8 19 RX8 "isGrounded" "[Z" ∈ lw_u := tb3 (List.mem_of_getElem? (i := 196) (by decide +kernel)) (by decide +kernel)
theorem wd_3_197 : Cond.fieldLink RX8 23 RX8 "ways" "[I" ∈ lw_u := tb3 (List.mem_of_getElem? (i := 197) (by decide +kernel)) (by decide +kernel)
theorem wd_3_198 : Cond.fieldLink RX8 26 RX8 "least" "[I" ∈ lw_u := tb3 (List.mem_of_getElem? (i := 198) (by decide +kernel)) (by decide +kernel)
theorem wd_3_199 : Cond.fieldLink RX8 29 RX8 "leads" "[Z" ∈ lw_u := tb3 (List.mem_of_getElem? (i := 199) (by decide +kernel)) (by decide +kernel)
theorem wd_3_200 : Cond.fieldLink RX8 32 RX8 "text" "[I" ∈ lw_u := tb3 (List.mem_of_getElem? (i := 200) (by decide +kernel)) (by decide +kernel)
theorem wd_3_201 : Cond.fieldLink RX8 104 RX8 "typed" "I" ∈ lw_u := tb3 (List.mem_of_getElem? (i := 201) (by decide +kernel)) (by decide +kernel)
theorem wd_3_202 : Cond.fieldLink RX8 107 RX8 "fault" "I" ∈ lw_u := tb3 (List.mem_of_getElem? (i := 202) (by decide +kernel)) (by decide +kernel)
theorem wd_3_203 : Cond.fieldLink RX8 110 RX8 "faultAt" "I" ∈ lw_u := tb3 (List.mem_of_getElem? (i := 203) (by decide +kernel)) (by decide +kernel)
theorem wd_3_204 : Cond.fieldLink RX8 35 RX8 "had" "[Z" ∈ lw_u := tb3 (List.mem_of_getElem? (i := 204) (by decide +kernel)) (by decide +kernel)
theorem wd_3_205 : Cond.fieldLink RX8 199 RX8 "hash" "J" ∈ lw_u := tb3 (List.mem_of_getElem? (i := 205) (by decide +kernel)) (by decide +kernel)
theorem wd_3_235 : Cond.methodLink RL 128 yX8_undo ∈ lw_u := tb3 (List.mem_of_getElem? (i := 235) (by decide +kernel)) (by decide +kernel)
theorem wd_3_236 : Cond.instanceMethod yX8_undo ∈ lw_u := tb3 (List.mem_of_getElem? (i := 236) (by decide +kernel)) (by decide +kernel)
theorem wd_3_237 : Cond.selects RX8 yX8_undo yX8_undo ∈ lw_u := tb3 (List.mem_of_getElem? (i := 237) (by decide +kernel)) (by decide +kernel)
theorem wd_3_238 : Cond.code yX8_undo prog_10_method_6_code 1 (some FieldType.int) ∈ lw_u := tb3 (List.mem_of_getElem? (i := 238) (by decide +kernel)) (by decide +kernel)
theorem wd_3_239 : Cond.methodLink RX8 45 yX8_copies ∈ lw_u := tb3 (List.mem_of_getElem? (i := 239) (by decide +kernel)) (by decide +kernel)
theorem wd_4_1 : Cond.instanceMethod yX8_copies ∈ lw_u := tb4 (List.mem_of_getElem? (i := 1) (by decide +kernel)) (by decide +kernel)
theorem wd_4_2 : Cond.code yX8_copies prog_10_method_4_code 4 (none) ∈ lw_u := tb4 (List.mem_of_getElem? (i := 2) (by decide +kernel)) (by decide +kernel)
theorem wd_4_3 : Cond.methodLink RL 17 yX8_type ∈ lw_u := tb4 (List.mem_of_getElem? (i := 3) (by decide +kernel)) (by decide +kernel)
theorem wd_4_4 : Cond.instanceMethod yX8_type ∈ lw_u := tb4 (List.mem_of_getElem? (i := 4) (by decide +kernel)) (by decide +kernel)
theorem wd_4_5 : Cond.selects RX8 yX8_type yX8_type ∈ lw_u := tb4 (List.mem_of_getElem? (i := 5) (by decide +kernel)) (by decide +kernel)
theorem wd_4_6 : Cond.code yX8_type prog_10_method_36_code 2 (some FieldType.int) ∈ lw_u := tb4 (List.mem_of_getElem? (i := 6) (by decide +kernel)) (by decide +kernel)
theorem wd_4_7 : Cond.methodLink RL 22 yX8_clearText ∈ lw_u := tb4 (List.mem_of_getElem? (i := 7) (by decide +kernel)) (by decide +kernel)
theorem wd_4_8 : Cond.instanceMethod yX8_clearText ∈ lw_u := tb4 (List.mem_of_getElem? (i := 8) (by decide +kernel)) (by decide +kernel)
theorem wd_4_9 : Cond.selects RX8 yX8_clearText yX8_clearText ∈ lw_u := tb4 (List.mem_of_getElem? (i := 9) (by decide +kernel)) (by decide +kernel)
theorem wd_4_10 : Cond.code yX8_clearText prog_10_method_37_code 2 (some FieldType.int) ∈ lw_u := tb4 (List.mem_of_getElem? (i := 10) (by decide +kernel)) (by decide +kernel)
theorem wd_4_11 : Cond.methodLink RL 26 yX8_load ∈ lw_u := tb4 (List.mem_of_getElem? (i := 11) (by decide +kernel)) (by decide +kernel)
theorem wd_4_12 : Cond.instanceMethod yX8_load ∈ lw_u := tb4 (List.mem_of_getElem? (i := 12) (by decide +kernel)) (by decide +kernel)
theorem wd_4_13 : Cond.selects RX8 yX8_load yX8_load ∈ lw_u := tb4 (List.mem_of_getElem? (i := 13) (by decide +kernel)) (by decide +kernel)
theorem wd_4_14 : Cond.code yX8_load prog_10_method_44_code 3 (some FieldType.int) ∈ lw_u := tb4 (List.mem_of_getElem? (i := 14) (by decide +kernel)) (by decide +kernel)
theorem wd_4_15 : Cond.methodLink RX8 133 yX8_empties ∈ lw_u := tb4 (List.mem_of_getElem? (i := 15) (by decide +kernel)) (by decide +kernel)
theorem wd_4_17 : Cond.instanceMethod yX8_empties ∈ lw_u := tb4 (List.mem_of_getElem? (i := 17) (by decide +kernel)) (by decide +kernel)
theorem wd_4_18 : Cond.code yX8_empties prog_10_method_43_code 2 (none) ∈ lw_u := tb4 (List.mem_of_getElem? (i := 18) (by decide +kernel)) (by decide +kernel)
theorem wd_4_19 : Cond.methodLink RX8 136 yX8_reads ∈ lw_u := tb4 (List.mem_of_getElem? (i := 19) (by decide +kernel)) (by decide +kernel)
theorem wd_4_21 : Cond.instanceMethod yX8_reads ∈ lw_u := tb4 (List.mem_of_getElem? (i := 21) (by decide +kernel)) (by decide +kernel)
theorem wd_4_22 : Cond.code yX8_reads prog_10_method_42_code 3 (none) ∈ lw_u := tb4 (List.mem_of_getElem? (i := 22) (by decide +kernel)) (by decide +kernel)
theorem wd_4_23 : Cond.methodLink RX8 127 yX8_spaced ∈ lw_u := tb4 (List.mem_of_getElem? (i := 23) (by decide +kernel)) (by decide +kernel)
theorem wd_4_25 : Cond.instanceMethod yX8_spaced ∈ lw_u := tb4 (List.mem_of_getElem? (i := 25) (by decide +kernel)) (by decide +kernel)
theorem wd_4_26 : Cond.code yX8_spaced prog_10_method_38_code 3 (some FieldType.int) ∈ lw_u := tb4 (List.mem_of_getElem? (i := 26) (by decide +kernel)) (by decide +kernel)
theorem wd_4_27 : Cond.methodLink RX8 130 yX8_readsBox ∈ lw_u := tb4 (List.mem_of_getElem? (i := 27) (by decide +kernel)) (by decide +kernel)
theorem wd_4_29 : Cond.instanceMethod yX8_readsBox ∈ lw_u := tb4 (List.mem_of_getElem? (i := 29) (by decide +kernel)) (by decide +kernel)
theorem wd_4_30 : Cond.code yX8_readsBox prog_10_method_41_code 9 (some FieldType.int) ∈ lw_u := tb4 (List.mem_of_getElem? (i := 30) (by decide +kernel)) (by decide +kernel)
theorem wd_4_31 : Cond.methodLink RX8 113 yX8_digit ∈ lw_u := tb4 (List.mem_of_getElem? (i := 31) (by decide +kernel)) (by decide +kernel)
theorem wd_4_33 : Cond.instanceMethod yX8_digit ∈ lw_u := tb4 (List.mem_of_getElem? (i := 33) (by decide +kernel)) (by decide +kernel)
theorem wd_4_34 : Cond.code yX8_digit prog_10_method_40_code 2 (some FieldType.int) ∈ lw_u := tb4 (List.mem_of_getElem? (i := 34) (by decide +kernel)) (by decide +kernel)
theorem wd_4_35 : Cond.methodLink RX8 116 yX8_fails ∈ lw_u := tb4 (List.mem_of_getElem? (i := 35) (by decide +kernel)) (by decide +kernel)
theorem wd_4_37 : Cond.instanceMethod yX8_fails ∈ lw_u := tb4 (List.mem_of_getElem? (i := 37) (by decide +kernel)) (by decide +kernel)
theorem wd_4_38 : Cond.code yX8_fails prog_10_method_39_code 3 (some FieldType.int) ∈ lw_u := tb4 (List.mem_of_getElem? (i := 38) (by decide +kernel)) (by decide +kernel)
theorem wd_4_39 : Cond.methodLink RX8 119 yX8_meets ∈ lw_u := tb4 (List.mem_of_getElem? (i := 39) (by decide +kernel)) (by decide +kernel)
theorem wd_4_41 : Cond.instanceMethod yX8_meets ∈ lw_u := tb4 (List.mem_of_getElem? (i := 41) (by decide +kernel)) (by decide +kernel)
theorem wd_4_42 : Cond.code yX8_meets prog_10_method_15_code 11 (some FieldType.boolean) ∈ lw_u := tb4 (List.mem_of_getElem? (i := 42) (by decide +kernel)) (by decide +kernel)
theorem wd_4_43 : Cond.methodLink RX8 123 yX8_fills ∈ lw_u := tb4 (List.mem_of_getElem? (i := 43) (by decide +kernel)) (by decide +kernel)
theorem wd_4_45 : Cond.instanceMethod yX8_fills ∈ lw_u := tb4 (List.mem_of_getElem? (i := 45) (by decide +kernel)) (by decide +kernel)
theorem wd_4_46 : Cond.code yX8_fills prog_10_method_16_code 9 (none) ∈ lw_u := tb4 (List.mem_of_getElem? (i := 46) (by decide +kernel)) (by decide +kernel)
theorem wd_4_47 : Cond.methodLink RX8 139 yX8_records ∈ lw_u := tb4 (List.mem_of_getElem? (i := 47) (by decide +kernel)) (by decide +kernel)
theorem wd_4_49 : Cond.instanceMethod yX8_records ∈ lw_u := tb4 (List.mem_of_getElem? (i := 49) (by decide +kernel)) (by decide +kernel)
theorem wd_4_50 : Cond.code yX8_records prog_10_method_5_code 2 (none) ∈ lw_u := tb4 (List.mem_of_getElem? (i := 50) (by decide +kernel)) (by decide +kernel)
theorem wd_4_51 : Cond.methodLink RL 30 yX8_faultKind ∈ lw_u := tb4 (List.mem_of_getElem? (i := 51) (by decide +kernel)) (by decide +kernel)
theorem wd_4_52 : Cond.instanceMethod yX8_faultKind ∈ lw_u := tb4 (List.mem_of_getElem? (i := 52) (by decide +kernel)) (by decide +kernel)
theorem wd_4_53 : Cond.selects RX8 yX8_faultKind yX8_faultKind ∈ lw_u := tb4 (List.mem_of_getElem? (i := 53) (by decide +kernel)) (by decide +kernel)
theorem wd_4_54 : Cond.code yX8_faultKind prog_10_method_45_code 1 (some FieldType.int) ∈ lw_u := tb4 (List.mem_of_getElem? (i := 54) (by decide +kernel)) (by decide +kernel)
theorem wd_4_55 : Cond.methodLink RL 34 yX8_clear ∈ lw_u := tb4 (List.mem_of_getElem? (i := 55) (by decide +kernel)) (by decide +kernel)
theorem wd_4_56 : Cond.instanceMethod yX8_clear ∈ lw_u := tb4 (List.mem_of_getElem? (i := 56) (by decide +kernel)) (by decide +kernel)
theorem wd_4_57 : Cond.selects RX8 yX8_clear yX8_clear ∈ lw_u := tb4 (List.mem_of_getElem? (i := 57) (by decide +kernel)) (by decide +kernel)
theorem wd_4_58 : Cond.code yX8_clear prog_10_method_46_code 2 (some FieldType.int) ∈ lw_u := tb4 (List.mem_of_getElem? (i := 58) (by decide +kernel)) (by decide +kernel)
theorem wd_4_59 : Cond.methodLink RL 39 yX8_addPiece ∈ lw_u := tb4 (List.mem_of_getElem? (i := 59) (by decide +kernel)) (by decide +kernel)
theorem wd_4_60 : Cond.instanceMethod yX8_addPiece ∈ lw_u := tb4 (List.mem_of_getElem? (i := 60) (by decide +kernel)) (by decide +kernel)
theorem wd_4_61 : Cond.selects RX8 yX8_addPiece yX8_addPiece ∈ lw_u := tb4 (List.mem_of_getElem? (i := 61) (by decide +kernel)) (by decide +kernel)
theorem wd_4_62 : Cond.code yX8_addPiece prog_10_method_47_code 8 (some FieldType.int) ∈ lw_u := tb4 (List.mem_of_getElem? (i := 62) (by decide +kernel)) (by decide +kernel)
theorem wd_4_63 : Cond.methodLink RX8 142 yX8_isBox ∈ lw_u := tb4 (List.mem_of_getElem? (i := 63) (by decide +kernel)) (by decide +kernel)
theorem wd_4_64 : Cond.static yX8_isBox ∈ lw_u := tb4 (List.mem_of_getElem? (i := 64) (by decide +kernel)) (by decide +kernel)
theorem wd_4_65 : Cond.code yX8_isBox prog_10_method_14_code 7 (some FieldType.boolean) ∈ lw_u := tb4 (List.mem_of_getElem? (i := 65) (by decide +kernel)) (by decide +kernel)
theorem wd_4_66 : Cond.methodLink RL 44 yX8_extend ∈ lw_u := tb4 (List.mem_of_getElem? (i := 66) (by decide +kernel)) (by decide +kernel)
theorem wd_4_67 : Cond.instanceMethod yX8_extend ∈ lw_u := tb4 (List.mem_of_getElem? (i := 67) (by decide +kernel)) (by decide +kernel)
theorem wd_4_68 : Cond.selects RX8 yX8_extend yX8_extend ∈ lw_u := tb4 (List.mem_of_getElem? (i := 68) (by decide +kernel)) (by decide +kernel)
theorem wd_4_69 : Cond.code yX8_extend prog_10_method_49_code 8 (some FieldType.int) ∈ lw_u := tb4 (List.mem_of_getElem? (i := 69) (by decide +kernel)) (by decide +kernel)
theorem wd_4_70 : Cond.methodLink RX8 146 yX8_isPiece ∈ lw_u := tb4 (List.mem_of_getElem? (i := 70) (by decide +kernel)) (by decide +kernel)
theorem wd_4_72 : Cond.instanceMethod yX8_isPiece ∈ lw_u := tb4 (List.mem_of_getElem? (i := 72) (by decide +kernel)) (by decide +kernel)
theorem wd_4_73 : Cond.code yX8_isPiece prog_10_method_10_code 2 (some FieldType.boolean) ∈ lw_u := tb4 (List.mem_of_getElem? (i := 73) (by decide +kernel)) (by decide +kernel)
theorem wd_4_74 : Cond.methodLink RX8 150 yX8_cellsOf ∈ lw_u := tb4 (List.mem_of_getElem? (i := 74) (by decide +kernel)) (by decide +kernel)
theorem wd_4_76 : Cond.instanceMethod yX8_cellsOf ∈ lw_u := tb4 (List.mem_of_getElem? (i := 76) (by decide +kernel)) (by decide +kernel)
theorem wd_4_77 : Cond.code yX8_cellsOf prog_10_method_48_code 4 (some FieldType.int) ∈ lw_u := tb4 (List.mem_of_getElem? (i := 77) (by decide +kernel)) (by decide +kernel)
theorem wd_4_78 : Cond.methodLink RL 48 yX8_drop ∈ lw_u := tb4 (List.mem_of_getElem? (i := 78) (by decide +kernel)) (by decide +kernel)
theorem wd_4_79 : Cond.instanceMethod yX8_drop ∈ lw_u := tb4 (List.mem_of_getElem? (i := 79) (by decide +kernel)) (by decide +kernel)
theorem wd_4_80 : Cond.selects RX8 yX8_drop yX8_drop ∈ lw_u := tb4 (List.mem_of_getElem? (i := 80) (by decide +kernel)) (by decide +kernel)
theorem wd_4_81 : Cond.code yX8_drop prog_10_method_50_code 4 (some FieldType.int) ∈ lw_u := tb4 (List.mem_of_getElem? (i := 81) (by decide +kernel)) (by decide +kernel)
theorem wd_4_82 : Cond.methodLink RL 53 yX8_shift ∈ lw_u := tb4 (List.mem_of_getElem? (i := 82) (by decide +kernel)) (by decide +kernel)
theorem wd_4_83 : Cond.instanceMethod yX8_shift ∈ lw_u := tb4 (List.mem_of_getElem? (i := 83) (by decide +kernel)) (by decide +kernel)
theorem wd_4_84 : Cond.selects RX8 yX8_shift yX8_shift ∈ lw_u := tb4 (List.mem_of_getElem? (i := 84) (by decide +kernel)) (by decide +kernel)
theorem wd_4_85 : Cond.code yX8_shift prog_10_method_53_code 4 (some FieldType.int) ∈ lw_u := tb4 (List.mem_of_getElem? (i := 85) (by decide +kernel)) (by decide +kernel)
theorem wd_4_86 : Cond.methodLink RX8 156 yX8_wrongShift ∈ lw_u := tb4 (List.mem_of_getElem? (i := 86) (by decide +kernel)) (by decide +kernel)
theorem wd_4_88 : Cond.instanceMethod yX8_wrongShift ∈ lw_u := tb4 (List.mem_of_getElem? (i := 88) (by decide +kernel)) (by decide +kernel)
theorem wd_4_89 : Cond.code yX8_wrongShift prog_10_method_51_code 6 (some FieldType.int) ∈ lw_u := tb4 (List.mem_of_getElem? (i := 89) (by decide +kernel)) (by decide +kernel)
theorem wd_4_90 : Cond.methodLink RX8 153 yX8_isDirection ∈ lw_u := tb4 (List.mem_of_getElem? (i := 90) (by decide +kernel)) (by decide +kernel)
theorem wd_4_91 : Cond.static yX8_isDirection ∈ lw_u := tb4 (List.mem_of_getElem? (i := 91) (by decide +kernel)) (by decide +kernel)
theorem wd_4_92 : Cond.code yX8_isDirection prog_10_method_11_code 1 (some FieldType.boolean) ∈ lw_u := tb4 (List.mem_of_getElem? (i := 92) (by decide +kernel)) (by decide +kernel)
theorem wd_4_93 : Cond.methodLink RX8 159 yX8_moves ∈ lw_u := tb4 (List.mem_of_getElem? (i := 93) (by decide +kernel)) (by decide +kernel)
theorem wd_4_95 : Cond.instanceMethod yX8_moves ∈ lw_u := tb4 (List.mem_of_getElem? (i := 95) (by decide +kernel)) (by decide +kernel)
theorem wd_4_96 : Cond.code yX8_moves prog_10_method_52_code 4 (none) ∈ lw_u := tb4 (List.mem_of_getElem? (i := 96) (by decide +kernel)) (by decide +kernel)
theorem wd_4_97 : Cond.methodLink RL 58 yX8_pieceAt ∈ lw_u := tb4 (List.mem_of_getElem? (i := 97) (by decide +kernel)) (by decide +kernel)
theorem wd_4_98 : Cond.instanceMethod yX8_pieceAt ∈ lw_u := tb4 (List.mem_of_getElem? (i := 98) (by decide +kernel)) (by decide +kernel)
theorem wd_4_99 : Cond.selects RX8 yX8_pieceAt yX8_pieceAt ∈ lw_u := tb4 (List.mem_of_getElem? (i := 99) (by decide +kernel)) (by decide +kernel)
theorem wd_4_100 : Cond.code yX8_pieceAt prog_10_method_54_code 5 (some FieldType.int) ∈ lw_u := tb4 (List.mem_of_getElem? (i := 100) (by decide +kernel)) (by decide +kernel)
theorem wd_4_101 : Cond.methodLink RL 62 yX8_piece ∈ lw_u := tb4 (List.mem_of_getElem? (i := 101) (by decide +kernel)) (by decide +kernel)
theorem wd_4_102 : Cond.instanceMethod yX8_piece ∈ lw_u := tb4 (List.mem_of_getElem? (i := 102) (by decide +kernel)) (by decide +kernel)
theorem wd_4_103 : Cond.selects RX8 yX8_piece yX8_piece ∈ lw_u := tb4 (List.mem_of_getElem? (i := 103) (by decide +kernel)) (by decide +kernel)
theorem wd_4_104 : Cond.code yX8_piece prog_10_method_57_code 3 (some FieldType.int) ∈ lw_u := tb4 (List.mem_of_getElem? (i := 104) (by decide +kernel)) (by decide +kernel)
theorem wd_4_105 : Cond.methodLink RX8 162 yX8_end ∈ lw_u := tb4 (List.mem_of_getElem? (i := 105) (by decide +kernel)) (by decide +kernel)
theorem wd_4_107 : Cond.instanceMethod yX8_end ∈ lw_u := tb4 (List.mem_of_getElem? (i := 107) (by decide +kernel)) (by decide +kernel)
theorem wd_4_108 : Cond.code yX8_end prog_10_method_55_code 8 (some FieldType.int) ∈ lw_u := tb4 (List.mem_of_getElem? (i := 108) (by decide +kernel)) (by decide +kernel)
theorem wd_4_109 : Cond.methodLink RX8 166 yX8_groundOf ∈ lw_u := tb4 (List.mem_of_getElem? (i := 109) (by decide +kernel)) (by decide +kernel)
theorem wd_4_111 : Cond.instanceMethod yX8_groundOf ∈ lw_u := tb4 (List.mem_of_getElem? (i := 111) (by decide +kernel)) (by decide +kernel)
theorem wd_4_112 : Cond.code yX8_groundOf prog_10_method_56_code 4 (some FieldType.int) ∈ lw_u := tb4 (List.mem_of_getElem? (i := 112) (by decide +kernel)) (by decide +kernel)
theorem wd_4_113 : Cond.methodLink RL 66 yX8_blockers ∈ lw_u := tb4 (List.mem_of_getElem? (i := 113) (by decide +kernel)) (by decide +kernel)
theorem wd_4_114 : Cond.instanceMethod yX8_blockers ∈ lw_u := tb4 (List.mem_of_getElem? (i := 114) (by decide +kernel)) (by decide +kernel)
theorem wd_4_115 : Cond.selects RX8 yX8_blockers yX8_blockers ∈ lw_u := tb4 (List.mem_of_getElem? (i := 115) (by decide +kernel)) (by decide +kernel)
theorem wd_4_116 : Cond.code yX8_blockers prog_10_method_58_code 3 (some FieldType.int) ∈ lw_u := tb4 (List.mem_of_getElem? (i := 116) (by decide +kernel)) (by decide +kernel)
theorem wd_4_117 : Cond.methodLink RL 70 yX8_ways ∈ lw_u := tb4 (List.mem_of_getElem? (i := 117) (by decide +kernel)) (by decide +kernel)
theorem wd_4_118 : Cond.instanceMethod yX8_ways ∈ lw_u := tb4 (List.mem_of_getElem? (i := 118) (by decide +kernel)) (by decide +kernel)
theorem wd_4_119 : Cond.selects RX8 yX8_ways yX8_ways ∈ lw_u := tb4 (List.mem_of_getElem? (i := 119) (by decide +kernel)) (by decide +kernel)
theorem wd_4_120 : Cond.code yX8_ways prog_10_method_59_code 3 (some FieldType.int) ∈ lw_u := tb4 (List.mem_of_getElem? (i := 120) (by decide +kernel)) (by decide +kernel)
theorem wd_4_121 : Cond.methodLink RX8 169 yX8_isSet ∈ lw_u := tb4 (List.mem_of_getElem? (i := 121) (by decide +kernel)) (by decide +kernel)
theorem wd_4_123 : Cond.instanceMethod yX8_isSet ∈ lw_u := tb4 (List.mem_of_getElem? (i := 123) (by decide +kernel)) (by decide +kernel)
theorem wd_4_124 : Cond.code yX8_isSet prog_10_method_13_code 2 (some FieldType.boolean) ∈ lw_u := tb4 (List.mem_of_getElem? (i := 124) (by decide +kernel)) (by decide +kernel)
theorem wd_4_125 : Cond.methodLink RX8 57 yX8_all ∈ lw_u := tb4 (List.mem_of_getElem? (i := 125) (by decide +kernel)) (by decide +kernel)
theorem wd_4_127 : Cond.instanceMethod yX8_all ∈ lw_u := tb4 (List.mem_of_getElem? (i := 127) (by decide +kernel)) (by decide +kernel)
theorem wd_4_128 : Cond.code yX8_all prog_10_method_12_code 1 (some FieldType.int) ∈ lw_u := tb4 (List.mem_of_getElem? (i := 128) (by decide +kernel)) (by decide +kernel)
theorem wd_4_129 : Cond.methodLink RX8 89 yX8_waysOf ∈ lw_u := tb4 (List.mem_of_getElem? (i := 129) (by decide +kernel)) (by decide +kernel)
theorem wd_4_131 : Cond.instanceMethod yX8_waysOf ∈ lw_u := tb4 (List.mem_of_getElem? (i := 131) (by decide +kernel)) (by decide +kernel)
theorem wd_4_132 : Cond.code yX8_waysOf prog_10_method_20_code 5 (some FieldType.int) ∈ lw_u := tb4 (List.mem_of_getElem? (i := 132) (by decide +kernel)) (by decide +kernel)
theorem wd_4_133 : Cond.methodLink RX8 73 yX8_isFree ∈ lw_u := tb4 (List.mem_of_getElem? (i := 133) (by decide +kernel)) (by decide +kernel)
theorem wd_4_135 : Cond.instanceMethod yX8_isFree ∈ lw_u := tb4 (List.mem_of_getElem? (i := 135) (by decide +kernel)) (by decide +kernel)
theorem wd_4_136 : Cond.code yX8_isFree prog_10_method_19_code 4 (some FieldType.boolean) ∈ lw_u := tb4 (List.mem_of_getElem? (i := 136) (by decide +kernel)) (by decide +kernel)
theorem wd_4_137 : Cond.methodLink RL 74 yX8_contact ∈ lw_u := tb4 (List.mem_of_getElem? (i := 137) (by decide +kernel)) (by decide +kernel)
theorem wd_4_138 : Cond.instanceMethod yX8_contact ∈ lw_u := tb4 (List.mem_of_getElem? (i := 138) (by decide +kernel)) (by decide +kernel)
theorem wd_4_139 : Cond.selects RX8 yX8_contact yX8_contact ∈ lw_u := tb4 (List.mem_of_getElem? (i := 139) (by decide +kernel)) (by decide +kernel)
theorem wd_4_140 : Cond.code yX8_contact prog_10_method_60_code 3 (some FieldType.int) ∈ lw_u := tb4 (List.mem_of_getElem? (i := 140) (by decide +kernel)) (by decide +kernel)
theorem wd_4_141 : Cond.methodLink RX8 80 yX8_contactOf ∈ lw_u := tb4 (List.mem_of_getElem? (i := 141) (by decide +kernel)) (by decide +kernel)
theorem wd_4_143 : Cond.instanceMethod yX8_contactOf ∈ lw_u := tb4 (List.mem_of_getElem? (i := 143) (by decide +kernel)) (by decide +kernel)
theorem wd_4_144 : Cond.code yX8_contactOf prog_10_method_25_code 7 (some FieldType.int) ∈ lw_u := tb4 (List.mem_of_getElem? (i := 144) (by decide +kernel)) (by decide +kernel)
theorem wd_4_145 : Cond.methodLink RL 78 yX8_hangsTogether ∈ lw_u := tb4 (List.mem_of_getElem? (i := 145) (by decide +kernel)) (by decide +kernel)
theorem wd_4_146 : Cond.instanceMethod yX8_hangsTogether ∈ lw_u := tb4 (List.mem_of_getElem? (i := 146) (by decide +kernel)) (by decide +kernel)
theorem wd_4_147 : Cond.selects RX8 yX8_hangsTogether yX8_hangsTogether ∈ lw_u := tb4 (List.mem_of_getElem? (i := 147) (by decide +kernel)) (by decide +kernel)
theorem wd_4_148 : Cond.code yX8_hangsTogether prog_10_method_61_code 2 (some FieldType.int) ∈ lw_u := tb4 (List.mem_of_getElem? (i := 148) (by decide +kernel)) (by decide +kernel)
theorem wd_4_149 : Cond.methodLink RX8 172 yX8_hangs ∈ lw_u := tb4 (List.mem_of_getElem? (i := 149) (by decide +kernel)) (by decide +kernel)
theorem wd_4_151 : Cond.instanceMethod yX8_hangs ∈ lw_u := tb4 (List.mem_of_getElem? (i := 151) (by decide +kernel)) (by decide +kernel)
theorem wd_4_152 : Cond.code yX8_hangs prog_10_method_26_code 6 (some FieldType.boolean) ∈ lw_u := tb4 (List.mem_of_getElem? (i := 152) (by decide +kernel)) (by decide +kernel)
theorem wd_4_153 : Cond.methodLink RX8 76 yX8_has ∈ lw_u := tb4 (List.mem_of_getElem? (i := 153) (by decide +kernel)) (by decide +kernel)
theorem wd_4_154 : Cond.static yX8_has ∈ lw_u := tb4 (List.mem_of_getElem? (i := 154) (by decide +kernel)) (by decide +kernel)
theorem wd_4_155 : Cond.code yX8_has prog_10_method_22_code 2 (some FieldType.boolean) ∈ lw_u := tb4 (List.mem_of_getElem? (i := 155) (by decide +kernel)) (by decide +kernel)
theorem wd_4_156 : Cond.methodLink RL 82 yX8_props ∈ lw_u := tb4 (List.mem_of_getElem? (i := 156) (by decide +kernel)) (by decide +kernel)
theorem wd_4_157 : Cond.instanceMethod yX8_props ∈ lw_u := tb4 (List.mem_of_getElem? (i := 157) (by decide +kernel)) (by decide +kernel)
theorem wd_4_158 : Cond.selects RX8 yX8_props yX8_props ∈ lw_u := tb4 (List.mem_of_getElem? (i := 158) (by decide +kernel)) (by decide +kernel)
theorem wd_4_159 : Cond.code yX8_props prog_10_method_62_code 2 (some FieldType.int) ∈ lw_u := tb4 (List.mem_of_getElem? (i := 159) (by decide +kernel)) (by decide +kernel)
theorem wd_4_160 : Cond.methodLink RX8 92 yX8_propsOf ∈ lw_u := tb4 (List.mem_of_getElem? (i := 160) (by decide +kernel)) (by decide +kernel)
theorem wd_4_162 : Cond.instanceMethod yX8_propsOf ∈ lw_u := tb4 (List.mem_of_getElem? (i := 162) (by decide +kernel)) (by decide +kernel)
theorem wd_4_163 : Cond.code yX8_propsOf prog_10_method_23_code 4 (some FieldType.int) ∈ lw_u := tb4 (List.mem_of_getElem? (i := 163) (by decide +kernel)) (by decide +kernel)
theorem wd_4_164 : Cond.methodLink RL 86 yX8_standing ∈ lw_u := tb4 (List.mem_of_getElem? (i := 164) (by decide +kernel)) (by decide +kernel)
theorem wd_4_165 : Cond.instanceMethod yX8_standing ∈ lw_u := tb4 (List.mem_of_getElem? (i := 165) (by decide +kernel)) (by decide +kernel)
theorem wd_4_166 : Cond.selects RX8 yX8_standing yX8_standing ∈ lw_u := tb4 (List.mem_of_getElem? (i := 166) (by decide +kernel)) (by decide +kernel)
theorem wd_4_167 : Cond.code yX8_standing prog_10_method_63_code 2 (some FieldType.int) ∈ lw_u := tb4 (List.mem_of_getElem? (i := 167) (by decide +kernel)) (by decide +kernel)
theorem wd_4_168 : Cond.methodLink RX8 175 yX8_standingOf ∈ lw_u := tb4 (List.mem_of_getElem? (i := 168) (by decide +kernel)) (by decide +kernel)
theorem wd_4_170 : Cond.instanceMethod yX8_standingOf ∈ lw_u := tb4 (List.mem_of_getElem? (i := 170) (by decide +kernel)) (by decide +kernel)
theorem wd_4_171 : Cond.code yX8_standingOf prog_10_method_24_code 5 (some FieldType.int) ∈ lw_u := tb4 (List.mem_of_getElem? (i := 171) (by decide +kernel)) (by decide +kernel)
theorem wd_4_172 : Cond.methodLink RL 90 yX8_orders ∈ lw_u := tb4 (List.mem_of_getElem? (i := 172) (by decide +kernel)) (by decide +kernel)
theorem wd_4_173 : Cond.instanceMethod yX8_orders ∈ lw_u := tb4 (List.mem_of_getElem? (i := 173) (by decide +kernel)) (by decide +kernel)
theorem wd_4_174 : Cond.selects RX8 yX8_orders yX8_orders ∈ lw_u := tb4 (List.mem_of_getElem? (i := 174) (by decide +kernel)) (by decide +kernel)
theorem wd_4_175 : Cond.code yX8_orders prog_10_method_64_code 2 (some FieldType.int) ∈ lw_u := tb4 (List.mem_of_getElem? (i := 175) (by decide +kernel)) (by decide +kernel)
theorem wd_4_176 : Cond.methodLink RX8 178 yX8_findsOrders ∈ lw_u := tb4 (List.mem_of_getElem? (i := 176) (by decide +kernel)) (by decide +kernel)
theorem wd_4_178 : Cond.instanceMethod yX8_findsOrders ∈ lw_u := tb4 (List.mem_of_getElem? (i := 178) (by decide +kernel)) (by decide +kernel)
theorem wd_4_179 : Cond.code yX8_findsOrders prog_10_method_28_code 4 (none) ∈ lw_u := tb4 (List.mem_of_getElem? (i := 179) (by decide +kernel)) (by decide +kernel)
theorem wd_4_180 : Cond.methodLink RX8 83 yX8_isWithin ∈ lw_u := tb4 (List.mem_of_getElem? (i := 180) (by decide +kernel)) (by decide +kernel)
theorem wd_4_181 : Cond.static yX8_isWithin ∈ lw_u := tb4 (List.mem_of_getElem? (i := 181) (by decide +kernel)) (by decide +kernel)
theorem wd_4_182 : Cond.code yX8_isWithin prog_10_method_27_code 2 (some FieldType.boolean) ∈ lw_u := tb4 (List.mem_of_getElem? (i := 182) (by decide +kernel)) (by decide +kernel)
theorem wd_4_183 : Cond.methodLink RX8 86 yX8_comesLast ∈ lw_u := tb4 (List.mem_of_getElem? (i := 183) (by decide +kernel)) (by decide +kernel)
theorem wd_4_185 : Cond.instanceMethod yX8_comesLast ∈ lw_u := tb4 (List.mem_of_getElem? (i := 185) (by decide +kernel)) (by decide +kernel)
theorem wd_4_186 : Cond.code yX8_comesLast prog_10_method_29_code 6 (none) ∈ lw_u := tb4 (List.mem_of_getElem? (i := 186) (by decide +kernel)) (by decide +kernel)
theorem wd_4_187 : Cond.methodLink RL 94 yX8_fewestProps ∈ lw_u := tb4 (List.mem_of_getElem? (i := 187) (by decide +kernel)) (by decide +kernel)
theorem wd_4_188 : Cond.instanceMethod yX8_fewestProps ∈ lw_u := tb4 (List.mem_of_getElem? (i := 188) (by decide +kernel)) (by decide +kernel)
theorem wd_4_189 : Cond.selects RX8 yX8_fewestProps yX8_fewestProps ∈ lw_u := tb4 (List.mem_of_getElem? (i := 189) (by decide +kernel)) (by decide +kernel)
theorem wd_4_190 : Cond.code yX8_fewestProps prog_10_method_65_code 2 (some FieldType.int) ∈ lw_u := tb4 (List.mem_of_getElem? (i := 190) (by decide +kernel)) (by decide +kernel)
theorem wd_4_191 : Cond.methodLink RL 99 yX8_planned ∈ lw_u := tb4 (List.mem_of_getElem? (i := 191) (by decide +kernel)) (by decide +kernel)
theorem wd_4_192 : Cond.instanceMethod yX8_planned ∈ lw_u := tb4 (List.mem_of_getElem? (i := 192) (by decide +kernel)) (by decide +kernel)
theorem wd_4_193 : Cond.selects RX8 yX8_planned yX8_planned ∈ lw_u := tb4 (List.mem_of_getElem? (i := 193) (by decide +kernel)) (by decide +kernel)
theorem wd_4_194 : Cond.code yX8_planned prog_10_method_66_code 8 (some FieldType.int) ∈ lw_u := tb4 (List.mem_of_getElem? (i := 194) (by decide +kernel)) (by decide +kernel)
theorem wd_4_195 : Cond.methodLink RX8 98 yX8_bits ∈ lw_u := tb4 (List.mem_of_getElem? (i := 195) (by decide +kernel)) (by decide +kernel)
theorem wd_4_196 : Cond.static yX8_bits ∈ lw_u := tb4 (List.mem_of_getElem? (i := 196) (by decide +kernel)) (by decide +kernel)
theorem wd_4_197 : Cond.code yX8_bits prog_10_method_21_code 3 (some FieldType.int) ∈ lw_u := tb4 (List.mem_of_getElem? (i := 197) (by decide +kernel)) (by decide +kernel)
theorem wd_4_198 : Cond.methodLink RX8 182 yX8_findsLeads ∈ lw_u := tb4 (List.mem_of_getElem? (i := 198) (by decide +kernel)) (by decide +kernel)
theorem wd_4_200 : Cond.instanceMethod yX8_findsLeads ∈ lw_u := tb4 (List.mem_of_getElem? (i := 200) (by decide +kernel)) (by decide +kernel)
theorem wd_4_201 : Cond.code yX8_findsLeads prog_10_method_30_code 4 (none) ∈ lw_u := tb4 (List.mem_of_getElem? (i := 201) (by decide +kernel)) (by decide +kernel)
theorem wd_4_202 : Cond.methodLink RX8 95 yX8_canCome ∈ lw_u := tb4 (List.mem_of_getElem? (i := 202) (by decide +kernel)) (by decide +kernel)
theorem wd_4_204 : Cond.instanceMethod yX8_canCome ∈ lw_u := tb4 (List.mem_of_getElem? (i := 204) (by decide +kernel)) (by decide +kernel)
theorem wd_4_205 : Cond.code yX8_canCome prog_10_method_31_code 5 (some FieldType.boolean) ∈ lw_u := tb4 (List.mem_of_getElem? (i := 205) (by decide +kernel)) (by decide +kernel)
theorem wd_4_206 : Cond.methodLink RX8 185 yX8_lowest ∈ lw_u := tb4 (List.mem_of_getElem? (i := 206) (by decide +kernel)) (by decide +kernel)
theorem wd_4_207 : Cond.static yX8_lowest ∈ lw_u := tb4 (List.mem_of_getElem? (i := 207) (by decide +kernel)) (by decide +kernel)
theorem wd_4_208 : Cond.code yX8_lowest prog_10_method_32_code 2 (some FieldType.int) ∈ lw_u := tb4 (List.mem_of_getElem? (i := 208) (by decide +kernel)) (by decide +kernel)
theorem wd_4_209 : Cond.methodLink RL 103 yX8_locked ∈ lw_u := tb4 (List.mem_of_getElem? (i := 209) (by decide +kernel)) (by decide +kernel)
theorem wd_4_210 : Cond.instanceMethod yX8_locked ∈ lw_u := tb4 (List.mem_of_getElem? (i := 210) (by decide +kernel)) (by decide +kernel)
theorem wd_4_211 : Cond.selects RX8 yX8_locked yX8_locked ∈ lw_u := tb4 (List.mem_of_getElem? (i := 211) (by decide +kernel)) (by decide +kernel)
theorem wd_4_212 : Cond.code yX8_locked prog_10_method_67_code 2 (some FieldType.int) ∈ lw_u := tb4 (List.mem_of_getElem? (i := 212) (by decide +kernel)) (by decide +kernel)
theorem wd_4_213 : Cond.methodLink RX8 188 yX8_lockedOf ∈ lw_u := tb4 (List.mem_of_getElem? (i := 213) (by decide +kernel)) (by decide +kernel)
theorem wd_4_215 : Cond.instanceMethod yX8_lockedOf ∈ lw_u := tb4 (List.mem_of_getElem? (i := 215) (by decide +kernel)) (by decide +kernel)
theorem wd_4_216 : Cond.code yX8_lockedOf prog_10_method_33_code 5 (some FieldType.int) ∈ lw_u := tb4 (List.mem_of_getElem? (i := 216) (by decide +kernel)) (by decide +kernel)
theorem wd_4_217 : Cond.methodLink RL 108 yX8_firstGroup ∈ lw_u := tb4 (List.mem_of_getElem? (i := 217) (by decide +kernel)) (by decide +kernel)
theorem wd_4_218 : Cond.instanceMethod yX8_firstGroup ∈ lw_u := tb4 (List.mem_of_getElem? (i := 218) (by decide +kernel)) (by decide +kernel)
theorem wd_4_219 : Cond.selects RX8 yX8_firstGroup yX8_firstGroup ∈ lw_u := tb4 (List.mem_of_getElem? (i := 219) (by decide +kernel)) (by decide +kernel)
theorem wd_4_220 : Cond.code yX8_firstGroup prog_10_method_68_code 4 (some FieldType.int) ∈ lw_u := tb4 (List.mem_of_getElem? (i := 220) (by decide +kernel)) (by decide +kernel)
theorem wd_4_221 : Cond.methodLink RX8 191 yX8_groupOf ∈ lw_u := tb4 (List.mem_of_getElem? (i := 221) (by decide +kernel)) (by decide +kernel)
theorem wd_4_223 : Cond.instanceMethod yX8_groupOf ∈ lw_u := tb4 (List.mem_of_getElem? (i := 223) (by decide +kernel)) (by decide +kernel)
theorem wd_4_224 : Cond.code yX8_groupOf prog_10_method_35_code 5 (some FieldType.int) ∈ lw_u := tb4 (List.mem_of_getElem? (i := 224) (by decide +kernel)) (by decide +kernel)
theorem wd_4_225 : Cond.methodLink RX8 101 yX8_commonWays ∈ lw_u := tb4 (List.mem_of_getElem? (i := 225) (by decide +kernel)) (by decide +kernel)
theorem wd_4_227 : Cond.instanceMethod yX8_commonWays ∈ lw_u := tb4 (List.mem_of_getElem? (i := 227) (by decide +kernel)) (by decide +kernel)
theorem wd_4_228 : Cond.code yX8_commonWays prog_10_method_34_code 5 (some FieldType.int) ∈ lw_u := tb4 (List.mem_of_getElem? (i := 228) (by decide +kernel)) (by decide +kernel)
theorem wd_4_229 : Cond.methodLink RL 112 yX8_put ∈ lw_u := tb4 (List.mem_of_getElem? (i := 229) (by decide +kernel)) (by decide +kernel)
theorem wd_4_230 : Cond.instanceMethod yX8_put ∈ lw_u := tb4 (List.mem_of_getElem? (i := 230) (by decide +kernel)) (by decide +kernel)
theorem wd_4_231 : Cond.selects RX8 yX8_put yX8_put ∈ lw_u := tb4 (List.mem_of_getElem? (i := 231) (by decide +kernel)) (by decide +kernel)
theorem wd_4_232 : Cond.code yX8_put prog_10_method_69_code 3 (some FieldType.int) ∈ lw_u := tb4 (List.mem_of_getElem? (i := 232) (by decide +kernel)) (by decide +kernel)
theorem wd_4_233 : Cond.methodLink RL 116 yX8_takeOut ∈ lw_u := tb4 (List.mem_of_getElem? (i := 233) (by decide +kernel)) (by decide +kernel)
theorem wd_4_234 : Cond.instanceMethod yX8_takeOut ∈ lw_u := tb4 (List.mem_of_getElem? (i := 234) (by decide +kernel)) (by decide +kernel)
theorem wd_4_235 : Cond.selects RX8 yX8_takeOut yX8_takeOut ∈ lw_u := tb4 (List.mem_of_getElem? (i := 235) (by decide +kernel)) (by decide +kernel)
theorem wd_4_236 : Cond.code yX8_takeOut prog_10_method_70_code 3 (some FieldType.int) ∈ lw_u := tb4 (List.mem_of_getElem? (i := 236) (by decide +kernel)) (by decide +kernel)
theorem wd_4_237 : Cond.methodLink RL 120 yX8_putAll ∈ lw_u := tb4 (List.mem_of_getElem? (i := 237) (by decide +kernel)) (by decide +kernel)
theorem wd_4_238 : Cond.instanceMethod yX8_putAll ∈ lw_u := tb4 (List.mem_of_getElem? (i := 238) (by decide +kernel)) (by decide +kernel)
theorem wd_4_239 : Cond.selects RX8 yX8_putAll yX8_putAll ∈ lw_u := tb4 (List.mem_of_getElem? (i := 239) (by decide +kernel)) (by decide +kernel)
theorem wd_5_0 : Cond.code yX8_putAll prog_10_method_71_code 4 (some FieldType.int) ∈ lw_u := tb5 (List.mem_of_getElem? (i := 0) (by decide +kernel)) (by decide +kernel)
theorem wd_5_1 : Cond.methodLink RL 124 yX8_ifShift ∈ lw_u := tb5 (List.mem_of_getElem? (i := 1) (by decide +kernel)) (by decide +kernel)
theorem wd_5_2 : Cond.instanceMethod yX8_ifShift ∈ lw_u := tb5 (List.mem_of_getElem? (i := 2) (by decide +kernel)) (by decide +kernel)
theorem wd_5_3 : Cond.selects RX8 yX8_ifShift yX8_ifShift ∈ lw_u := tb5 (List.mem_of_getElem? (i := 3) (by decide +kernel)) (by decide +kernel)
theorem wd_5_4 : Cond.code yX8_ifShift prog_10_method_72_code 5 (some FieldType.int) ∈ lw_u := tb5 (List.mem_of_getElem? (i := 4) (by decide +kernel)) (by decide +kernel)
theorem wd_5_5 : Cond.methodLink RL 132 yX8_count ∈ lw_u := tb5 (List.mem_of_getElem? (i := 5) (by decide +kernel)) (by decide +kernel)
theorem wd_5_6 : Cond.instanceMethod yX8_count ∈ lw_u := tb5 (List.mem_of_getElem? (i := 6) (by decide +kernel)) (by decide +kernel)
theorem wd_5_7 : Cond.selects RX8 yX8_count yX8_count ∈ lw_u := tb5 (List.mem_of_getElem? (i := 7) (by decide +kernel)) (by decide +kernel)
theorem wd_5_8 : Cond.code yX8_count prog_10_method_74_code 2 (some FieldType.int) ∈ lw_u := tb5 (List.mem_of_getElem? (i := 8) (by decide +kernel)) (by decide +kernel)
theorem wd_5_9 : Cond.methodLink RX8 194 yX8_cellMany ∈ lw_u := tb5 (List.mem_of_getElem? (i := 9) (by decide +kernel)) (by decide +kernel)
theorem wd_5_11 : Cond.instanceMethod yX8_cellMany ∈ lw_u := tb5 (List.mem_of_getElem? (i := 11) (by decide +kernel)) (by decide +kernel)
theorem wd_5_12 : Cond.code yX8_cellMany prog_10_method_73_code 3 (some FieldType.int) ∈ lw_u := tb5 (List.mem_of_getElem? (i := 12) (by decide +kernel)) (by decide +kernel)
theorem wd_5_13 : Cond.methodLink RL 137 yX8_digest ∈ lw_u := tb5 (List.mem_of_getElem? (i := 13) (by decide +kernel)) (by decide +kernel)
theorem wd_5_14 : Cond.instanceMethod yX8_digest ∈ lw_u := tb5 (List.mem_of_getElem? (i := 14) (by decide +kernel)) (by decide +kernel)
theorem wd_5_15 : Cond.selects RX8 yX8_digest yX8_digest ∈ lw_u := tb5 (List.mem_of_getElem? (i := 15) (by decide +kernel)) (by decide +kernel)
theorem wd_5_16 : Cond.code yX8_digest prog_10_method_77_code 3 (some FieldType.long) ∈ lw_u := tb5 (List.mem_of_getElem? (i := 16) (by decide +kernel)) (by decide +kernel)
theorem wd_5_17 : Cond.constantLong RX8 222 (12942) ∈ lw_u := tb5 (List.mem_of_getElem? (i := 17) (by decide +kernel)) (by decide +kernel)
theorem wd_5_18 : Cond.methodLink RX8 224 yX8_count ∈ lw_u := tb5 (List.mem_of_getElem? (i := 18) (by decide +kernel)) (by decide +kernel)
theorem wd_5_19 : Cond.methodLink RX8 206 yX8_mixes ∈ lw_u := tb5 (List.mem_of_getElem? (i := 19) (by decide +kernel)) (by decide +kernel)
theorem wd_5_21 : Cond.instanceMethod yX8_mixes ∈ lw_u := tb5 (List.mem_of_getElem? (i := 21) (by decide +kernel)) (by decide +kernel)
theorem wd_5_22 : Cond.code yX8_mixes prog_10_method_75_code 2 (none) ∈ lw_u := tb5 (List.mem_of_getElem? (i := 22) (by decide +kernel)) (by decide +kernel)
theorem wd_5_23 : Cond.constantLong RX8 197 (31) ∈ lw_u := tb5 (List.mem_of_getElem? (i := 23) (by decide +kernel)) (by decide +kernel)
theorem wd_5_24 : Cond.methodLink RX8 227 yX8_piece ∈ lw_u := tb5 (List.mem_of_getElem? (i := 24) (by decide +kernel)) (by decide +kernel)
theorem wd_5_25 : Cond.methodLink RX8 230 yX8_blockers ∈ lw_u := tb5 (List.mem_of_getElem? (i := 25) (by decide +kernel)) (by decide +kernel)
theorem wd_5_26 : Cond.methodLink RX8 233 yX8_mixesSet ∈ lw_u := tb5 (List.mem_of_getElem? (i := 26) (by decide +kernel)) (by decide +kernel)
theorem wd_5_28 : Cond.instanceMethod yX8_mixesSet ∈ lw_u := tb5 (List.mem_of_getElem? (i := 28) (by decide +kernel)) (by decide +kernel)
theorem wd_5_29 : Cond.code yX8_mixesSet prog_10_method_76_code 3 (none) ∈ lw_u := tb5 (List.mem_of_getElem? (i := 29) (by decide +kernel)) (by decide +kernel)
theorem wd_5_30 : Cond.methodLink RX8 203 yX8_orders ∈ lw_u := tb5 (List.mem_of_getElem? (i := 30) (by decide +kernel)) (by decide +kernel)
theorem wd_5_31 : Cond.methodLink RX8 209 yX8_fewestProps ∈ lw_u := tb5 (List.mem_of_getElem? (i := 31) (by decide +kernel)) (by decide +kernel)
theorem wd_5_32 : Cond.methodLink RX8 212 yX8_planned ∈ lw_u := tb5 (List.mem_of_getElem? (i := 32) (by decide +kernel)) (by decide +kernel)
theorem wd_5_33 : Cond.methodLink RX8 215 yX8_firstGroup ∈ lw_u := tb5 (List.mem_of_getElem? (i := 33) (by decide +kernel)) (by decide +kernel)
theorem wd_5_34 : Cond.methodLink RX8 219 yX8_hangsTogether ∈ lw_u := tb5 (List.mem_of_getElem? (i := 34) (by decide +kernel)) (by decide +kernel)
theorem wd_p_0 : Cond.selects RX6 yX6_readSign yX6_readSign ∈ lw_u := tbq (List.mem_of_getElem? (i := 0) (by decide +kernel)) (by decide +kernel)
theorem wd_p_1 : Cond.selects RX6 yX6_readSeparator yX6_readSeparator ∈ lw_u := tbq (List.mem_of_getElem? (i := 1) (by decide +kernel)) (by decide +kernel)
theorem wd_p_2 : Cond.selects RX6 yX6_beginPiece yX6_beginPiece ∈ lw_u := tbq (List.mem_of_getElem? (i := 2) (by decide +kernel)) (by decide +kernel)
theorem wd_p_3 : Cond.selects RX6 yX6_readDigit yX6_readDigit ∈ lw_u := tbq (List.mem_of_getElem? (i := 3) (by decide +kernel)) (by decide +kernel)
theorem wd_p_4 : Cond.selects RX7 yX7_forgetPieces yX7_forgetPieces ∈ lw_u := tbq (List.mem_of_getElem? (i := 4) (by decide +kernel)) (by decide +kernel)
theorem wd_p_5 : Cond.selects RX7 yX7_isPiece yX7_isPiece ∈ lw_u := tbq (List.mem_of_getElem? (i := 5) (by decide +kernel)) (by decide +kernel)
theorem wd_p_6 : Cond.selects RX7 yX7_knownMeasures yX7_knownMeasures ∈ lw_u := tbq (List.mem_of_getElem? (i := 6) (by decide +kernel)) (by decide +kernel)
theorem wd_p_7 : Cond.selects RX3 yX3_measure yX3_measure ∈ lw_u := tbq (List.mem_of_getElem? (i := 7) (by decide +kernel)) (by decide +kernel)
theorem wd_p_8 : Cond.selects RX7 yX7_shiftFault yX7_shiftFault ∈ lw_u := tbq (List.mem_of_getElem? (i := 8) (by decide +kernel)) (by decide +kernel)
theorem wd_p_9 : Cond.selects RX1 yX1_isOpen yX1_isOpen ∈ lw_u := tbq (List.mem_of_getElem? (i := 9) (by decide +kernel)) (by decide +kernel)
theorem wd_p_10 : Cond.selects RX7 yX7_knownRelations yX7_knownRelations ∈ lw_u := tbq (List.mem_of_getElem? (i := 10) (by decide +kernel)) (by decide +kernel)
theorem wd_p_11 : Cond.selects RX5 yX5_reset yX5_reset ∈ lw_u := tbq (List.mem_of_getElem? (i := 11) (by decide +kernel)) (by decide +kernel)
theorem wd_p_12 : Cond.selects RX5 yX5_readLine yX5_readLine ∈ lw_u := tbq (List.mem_of_getElem? (i := 12) (by decide +kernel)) (by decide +kernel)
theorem wd_p_13 : Cond.selects RX5 yX5_block yX5_block ∈ lw_u := tbq (List.mem_of_getElem? (i := 13) (by decide +kernel)) (by decide +kernel)
theorem wd_p_14 : Cond.selects RX5 yX5_join yX5_join ∈ lw_u := tbq (List.mem_of_getElem? (i := 14) (by decide +kernel)) (by decide +kernel)
theorem wd_p_15 : Cond.selects RX7 yX7_isSet yX7_isSet ∈ lw_u := tbq (List.mem_of_getElem? (i := 15) (by decide +kernel)) (by decide +kernel)
theorem wd_p_16 : Cond.selects RX7 yX7_allPieces yX7_allPieces ∈ lw_u := tbq (List.mem_of_getElem? (i := 16) (by decide +kernel)) (by decide +kernel)
theorem wd_p_17 : Cond.selects RX7 yX7_knownPlanner yX7_knownPlanner ∈ lw_u := tbq (List.mem_of_getElem? (i := 17) (by decide +kernel)) (by decide +kernel)
theorem wd_p_18 : Cond.selects RX4 yX4_fillRow yX4_fillRow ∈ lw_u := tbq (List.mem_of_getElem? (i := 18) (by decide +kernel)) (by decide +kernel)
theorem wd_p_19 : Cond.selects RX4 yX4_markLeading yX4_markLeading ∈ lw_u := tbq (List.mem_of_getElem? (i := 19) (by decide +kernel)) (by decide +kernel)
theorem wd_p_20 : Cond.selects RX4 yX4_nextPlanned yX4_nextPlanned ∈ lw_u := tbq (List.mem_of_getElem? (i := 20) (by decide +kernel)) (by decide +kernel)
theorem wd_p_21 : Cond.selects RX4 yX4_followLeading yX4_followLeading ∈ lw_u := tbq (List.mem_of_getElem? (i := 21) (by decide +kernel)) (by decide +kernel)
theorem wd_p_22 : Cond.selects RX5 yX5_isGroupFree yX5_isGroupFree ∈ lw_u := tbq (List.mem_of_getElem? (i := 22) (by decide +kernel)) (by decide +kernel)
theorem wd_p_23 : Cond.selects RX7 yX7_step yX7_step ∈ lw_u := tbq (List.mem_of_getElem? (i := 23) (by decide +kernel)) (by decide +kernel)
theorem wd_p_24 : Cond.selects RX7 yX7_nextToPut yX7_nextToPut ∈ lw_u := tbq (List.mem_of_getElem? (i := 24) (by decide +kernel)) (by decide +kernel)
theorem wd_p_25 : Cond.selects RX7 yX7_mixPiece yX7_mixPiece ∈ lw_u := tbq (List.mem_of_getElem? (i := 25) (by decide +kernel)) (by decide +kernel)
theorem wd_p_26 : Cond.selects RX8 yX8_lays yX8_lays ∈ lw_u := tbq (List.mem_of_getElem? (i := 26) (by decide +kernel)) (by decide +kernel)
theorem wd_p_27 : Cond.selects RX8 yX8_at yX8_at ∈ lw_u := tbq (List.mem_of_getElem? (i := 27) (by decide +kernel)) (by decide +kernel)
theorem wd_p_28 : Cond.selects RX8 yX8_looks yX8_looks ∈ lw_u := tbq (List.mem_of_getElem? (i := 28) (by decide +kernel)) (by decide +kernel)
theorem wd_p_29 : Cond.selects RX8 yX8_copies yX8_copies ∈ lw_u := tbq (List.mem_of_getElem? (i := 29) (by decide +kernel)) (by decide +kernel)
theorem wd_p_30 : Cond.selects RX8 yX8_empties yX8_empties ∈ lw_u := tbq (List.mem_of_getElem? (i := 30) (by decide +kernel)) (by decide +kernel)
theorem wd_p_31 : Cond.selects RX8 yX8_reads yX8_reads ∈ lw_u := tbq (List.mem_of_getElem? (i := 31) (by decide +kernel)) (by decide +kernel)
theorem wd_p_32 : Cond.selects RX8 yX8_spaced yX8_spaced ∈ lw_u := tbq (List.mem_of_getElem? (i := 32) (by decide +kernel)) (by decide +kernel)
theorem wd_p_33 : Cond.selects RX8 yX8_readsBox yX8_readsBox ∈ lw_u := tbq (List.mem_of_getElem? (i := 33) (by decide +kernel)) (by decide +kernel)
theorem wd_p_34 : Cond.selects RX8 yX8_digit yX8_digit ∈ lw_u := tbq (List.mem_of_getElem? (i := 34) (by decide +kernel)) (by decide +kernel)
theorem wd_p_35 : Cond.selects RX8 yX8_fails yX8_fails ∈ lw_u := tbq (List.mem_of_getElem? (i := 35) (by decide +kernel)) (by decide +kernel)
theorem wd_p_36 : Cond.selects RX8 yX8_meets yX8_meets ∈ lw_u := tbq (List.mem_of_getElem? (i := 36) (by decide +kernel)) (by decide +kernel)
theorem wd_p_37 : Cond.selects RX8 yX8_fills yX8_fills ∈ lw_u := tbq (List.mem_of_getElem? (i := 37) (by decide +kernel)) (by decide +kernel)
theorem wd_p_38 : Cond.selects RX8 yX8_records yX8_records ∈ lw_u := tbq (List.mem_of_getElem? (i := 38) (by decide +kernel)) (by decide +kernel)
theorem wd_p_39 : Cond.selects RX8 yX8_isPiece yX8_isPiece ∈ lw_u := tbq (List.mem_of_getElem? (i := 39) (by decide +kernel)) (by decide +kernel)
theorem wd_p_40 : Cond.selects RX8 yX8_cellsOf yX8_cellsOf ∈ lw_u := tbq (List.mem_of_getElem? (i := 40) (by decide +kernel)) (by decide +kernel)
theorem wd_p_41 : Cond.selects RX8 yX8_wrongShift yX8_wrongShift ∈ lw_u := tbq (List.mem_of_getElem? (i := 41) (by decide +kernel)) (by decide +kernel)
theorem wd_p_42 : Cond.selects RX8 yX8_moves yX8_moves ∈ lw_u := tbq (List.mem_of_getElem? (i := 42) (by decide +kernel)) (by decide +kernel)
theorem wd_p_43 : Cond.selects RX8 yX8_end yX8_end ∈ lw_u := tbq (List.mem_of_getElem? (i := 43) (by decide +kernel)) (by decide +kernel)
theorem wd_p_44 : Cond.selects RX8 yX8_groundOf yX8_groundOf ∈ lw_u := tbq (List.mem_of_getElem? (i := 44) (by decide +kernel)) (by decide +kernel)
theorem wd_p_45 : Cond.selects RX8 yX8_isSet yX8_isSet ∈ lw_u := tbq (List.mem_of_getElem? (i := 45) (by decide +kernel)) (by decide +kernel)
theorem wd_p_46 : Cond.selects RX8 yX8_all yX8_all ∈ lw_u := tbq (List.mem_of_getElem? (i := 46) (by decide +kernel)) (by decide +kernel)
theorem wd_p_47 : Cond.selects RX8 yX8_waysOf yX8_waysOf ∈ lw_u := tbq (List.mem_of_getElem? (i := 47) (by decide +kernel)) (by decide +kernel)
theorem wd_p_48 : Cond.selects RX8 yX8_isFree yX8_isFree ∈ lw_u := tbq (List.mem_of_getElem? (i := 48) (by decide +kernel)) (by decide +kernel)
theorem wd_p_49 : Cond.selects RX8 yX8_contactOf yX8_contactOf ∈ lw_u := tbq (List.mem_of_getElem? (i := 49) (by decide +kernel)) (by decide +kernel)
theorem wd_p_50 : Cond.selects RX8 yX8_hangs yX8_hangs ∈ lw_u := tbq (List.mem_of_getElem? (i := 50) (by decide +kernel)) (by decide +kernel)
theorem wd_p_51 : Cond.selects RX8 yX8_propsOf yX8_propsOf ∈ lw_u := tbq (List.mem_of_getElem? (i := 51) (by decide +kernel)) (by decide +kernel)
theorem wd_p_52 : Cond.selects RX8 yX8_standingOf yX8_standingOf ∈ lw_u := tbq (List.mem_of_getElem? (i := 52) (by decide +kernel)) (by decide +kernel)
theorem wd_p_53 : Cond.selects RX8 yX8_findsOrders yX8_findsOrders ∈ lw_u := tbq (List.mem_of_getElem? (i := 53) (by decide +kernel)) (by decide +kernel)
theorem wd_p_54 : Cond.selects RX8 yX8_comesLast yX8_comesLast ∈ lw_u := tbq (List.mem_of_getElem? (i := 54) (by decide +kernel)) (by decide +kernel)
theorem wd_p_55 : Cond.selects RX8 yX8_findsLeads yX8_findsLeads ∈ lw_u := tbq (List.mem_of_getElem? (i := 55) (by decide +kernel)) (by decide +kernel)
theorem wd_p_56 : Cond.selects RX8 yX8_canCome yX8_canCome ∈ lw_u := tbq (List.mem_of_getElem? (i := 56) (by decide +kernel)) (by decide +kernel)
theorem wd_p_57 : Cond.selects RX8 yX8_lockedOf yX8_lockedOf ∈ lw_u := tbq (List.mem_of_getElem? (i := 57) (by decide +kernel)) (by decide +kernel)
theorem wd_p_58 : Cond.selects RX8 yX8_groupOf yX8_groupOf ∈ lw_u := tbq (List.mem_of_getElem? (i := 58) (by decide +kernel)) (by decide +kernel)
theorem wd_p_59 : Cond.selects RX8 yX8_commonWays yX8_commonWays ∈ lw_u := tbq (List.mem_of_getElem? (i := 59) (by decide +kernel)) (by decide +kernel)
theorem wd_p_60 : Cond.selects RX8 yX8_cellMany yX8_cellMany ∈ lw_u := tbq (List.mem_of_getElem? (i := 60) (by decide +kernel)) (by decide +kernel)
theorem wd_p_61 : Cond.selects RX8 yX8_mixes yX8_mixes ∈ lw_u := tbq (List.mem_of_getElem? (i := 61) (by decide +kernel)) (by decide +kernel)
theorem wd_p_62 : Cond.selects RX8 yX8_mixesSet yX8_mixesSet ∈ lw_u := tbq (List.mem_of_getElem? (i := 62) (by decide +kernel)) (by decide +kernel)
/-- the words on nest mates, which calls carry in the world -/
def nest (U : State) : Prop := va_Nw (Cond.methodLinkNest RX7 18 yX3_init RX7) U ∧ va_Nw (Cond.methodLinkNest RX7 25 yX5_init RX7) U ∧ va_Nw (Cond.fieldLinkNest RX4 39 RX5 "pieces" "I" RX7) U ∧ va_Nw (Cond.methodLinkNest RX7 48 yX6_init RX7) U ∧ va_Nw (Cond.methodLinkNest RX6 17 yX0_init RX7) U ∧ va_Nw (Cond.methodLinkNest RX7 55 yX0_init RX7) U ∧ va_Nw (Cond.methodLinkNest RX0 19 yX7_coordinate RX7) U ∧ va_Nw (Cond.methodLinkNest RX3 37 yX7_coordinate RX7) U ∧ va_Nw (Cond.methodLinkNest RX1 43 yX7_neighbor RX7) U ∧ va_Nw (Cond.methodLinkNest RX5 48 yX7_stride RX7) U ∧ va_Nw (Cond.methodLinkNest RX5 64 yX7_has RX7) U ∧ va_Nw (Cond.methodLinkNest RX4 76 yX7_has RX7) U
theorem nest_warm {s U : State} (hW : s.WarmedH U.vm) (h : nest s) : nest U := by
  obtain ⟨h0, h1, h2, h3, h4, h5, h6, h7, h8, h9, h10, h11⟩ := h
  exact ⟨va_Nw.warmM hW h0, va_Nw.warmM hW h1, va_Nw.warmF hW h2, va_Nw.warmM hW h3, va_Nw.warmM hW h4, va_Nw.warmM hW h5, va_Nw.warmM hW h6, va_Nw.warmM hW h7, va_Nw.warmM hW h8, va_Nw.warmM hW h9, va_Nw.warmM hW h10, va_Nw.warmM hW h11⟩
theorem nest_same {s U : State} (hW : s.vm = U.vm) (h : nest s) : nest U := by
  obtain ⟨h0, h1, h2, h3, h4, h5, h6, h7, h8, h9, h10, h11⟩ := h
  exact ⟨va_Nw.same rfl hW h0, va_Nw.same rfl hW h1, va_Nw.same rfl hW h2, va_Nw.same rfl hW h3, va_Nw.same rfl hW h4, va_Nw.same rfl hW h5, va_Nw.same rfl hW h6, va_Nw.same rfl hW h7, va_Nw.same rfl hW h8, va_Nw.same rfl hW h9, va_Nw.same rfl hW h10, va_Nw.same rfl hW h11⟩
theorem nest_of {A : Array Value} {s : State} (hts : ∀ w ∈ lw_tbl, w.before A s = true) : nest s := ⟨va_Nw.of rfl (hts _ wd_1_59), va_Nw.of rfl (hts _ wd_1_86), va_Nw.of rfl (hts _ wd_1_97), va_Nw.of rfl (hts _ wd_1_173), va_Nw.of rfl (hts _ wd_1_179), va_Nw.of rfl (hts _ wd_1_212), va_Nw.of rfl (hts _ wd_2_59), va_Nw.of rfl (hts _ wd_2_122), va_Nw.of rfl (hts _ wd_2_152), va_Nw.of rfl (hts _ wd_2_204), va_Nw.of rfl (hts _ wd_3_5), va_Nw.of rfl (hts _ wd_3_66)⟩
theorem nest_0 {U : State} (h : nest U) : va_Nw (Cond.methodLinkNest RX7 18 yX3_init RX7) U := h.1
theorem nest_1 {U : State} (h : nest U) : va_Nw (Cond.methodLinkNest RX7 25 yX5_init RX7) U := h.2.1
theorem nest_2 {U : State} (h : nest U) : va_Nw (Cond.fieldLinkNest RX4 39 RX5 "pieces" "I" RX7) U := h.2.2.1
theorem nest_3 {U : State} (h : nest U) : va_Nw (Cond.methodLinkNest RX7 48 yX6_init RX7) U := h.2.2.2.1
theorem nest_4 {U : State} (h : nest U) : va_Nw (Cond.methodLinkNest RX6 17 yX0_init RX7) U := h.2.2.2.2.1
theorem nest_5 {U : State} (h : nest U) : va_Nw (Cond.methodLinkNest RX7 55 yX0_init RX7) U := h.2.2.2.2.2.1
theorem nest_6 {U : State} (h : nest U) : va_Nw (Cond.methodLinkNest RX0 19 yX7_coordinate RX7) U := h.2.2.2.2.2.2.1
theorem nest_7 {U : State} (h : nest U) : va_Nw (Cond.methodLinkNest RX3 37 yX7_coordinate RX7) U := h.2.2.2.2.2.2.2.1
theorem nest_8 {U : State} (h : nest U) : va_Nw (Cond.methodLinkNest RX1 43 yX7_neighbor RX7) U := h.2.2.2.2.2.2.2.2.1
theorem nest_9 {U : State} (h : nest U) : va_Nw (Cond.methodLinkNest RX5 48 yX7_stride RX7) U := h.2.2.2.2.2.2.2.2.2.1
theorem nest_10 {U : State} (h : nest U) : va_Nw (Cond.methodLinkNest RX5 64 yX7_has RX7) U := h.2.2.2.2.2.2.2.2.2.2.1
theorem nest_11 {U : State} (h : nest U) : va_Nw (Cond.methodLinkNest RX4 76 yX7_has RX7) U := h.2.2.2.2.2.2.2.2.2.2.2
theorem innX0 : ∀ w ∈ u_ws RX0 TX0 1, w ∈ lw_u := by decide +kernel
theorem innX1 : ∀ w ∈ u_ws RX1 TX1 5, w ∈ lw_u := by decide +kernel
theorem innX2 : ∀ w ∈ u_ws RX2 TX2 3, w ∈ lw_u := by decide +kernel
theorem innX3 : ∀ w ∈ u_ws RX3 TX3 5, w ∈ lw_u := by decide +kernel
theorem innX4 : ∀ w ∈ u_ws RX4 TX4 9, w ∈ lw_u := by decide +kernel
theorem innX5 : ∀ w ∈ u_ws RX5 TX5 6, w ∈ lw_u := by decide +kernel
theorem innX6 : ∀ w ∈ u_ws RX6 TX6 7, w ∈ lw_u := by decide +kernel
theorem innX7 : ∀ w ∈ u_ws RX7 TX7 12, w ∈ lw_u := by decide +kernel
theorem innX8 : ∀ w ∈ u_ws RX8 TX8 14, w ∈ lw_u := by decide +kernel
theorem gdu {y : MethodName} {cc : ByteArray} {n : Nat} {r : Option FieldType} {y2 : MethodName} {c2 : ByteArray} {n2 : Nat} {r2 : Option FieldType} (h : Cond.code y2 c2 n2 r2 ∈ lw_u) : GoodIn (Cond.code y cc n r :: lw_u) (Cond.code y2 c2 n2 r2 :: lw_u) := by
  intro w hw
  have hw : w ∈ lw_u := by
    rcases List.mem_cons.mp hw with rfl | q
    · exact h
    · exact q
  exact ⟨List.mem_cons_of_mem _ hw, good_of_word (lw_good hw)⟩
theorem gdl {y2 : MethodName} {c2 : ByteArray} {n2 : Nat} {r2 : Option FieldType} (h : Cond.code y2 c2 n2 r2 ∈ lw_u) : GoodIn lw_u (Cond.code y2 c2 n2 r2 :: lw_u) := by
  intro w hw
  have hw : w ∈ lw_u := by
    rcases List.mem_cons.mp hw with rfl | q
    · exact h
    · exact q
  exact ⟨hw, good_of_word (lw_good hw)⟩
end
section
/-! ===== memory: cell number, place -> int; loops; the world of all cells ===== -/
abbrev Mem : Type := Nat → Nat → Int32
abbrev ix (i : Int32) : Nat := i.toNatClampNeg
def st (M : Mem) (k j : Nat) (v : Int32) : Mem := fun a => if a = k then upd (M k) j v else M a
def stf (M : Mem) (k : Nat) (f : Nat → Int32) : Mem := fun a => if a = k then f else M a
def bv {α β : Type} (a : α) (f : α → β) : β := f a
def lpN {σ ρ : Type} : Nat → (σ → Option (σ ⊕ ρ)) → σ → Option ρ
  | 0, _, _ => none
  | n + 1, b, s => match b s with
    | none => none
    | some (.inl s') => lpN n b s'
    | some (.inr r) => some r
theorem lp_rule {σ ρ : Type} {b : σ → Option (σ ⊕ ρ)} {P : σ → Prop} {K : ρ → Prop} (h : ∀ (s : σ) (o : σ ⊕ ρ), b s = some o → (∀ s', o = .inl s' → P s') → (∀ r, o = .inr r → K r) → P s) : ∀ (n : Nat) (s : σ) (r : ρ), lpN n b s = some r → K r → P s := by
  intro n
  induction n with
  | zero => intro s r hr; cases hr
  | succ n ih =>
    intro s r hr hK
    unfold lpN at hr
    cases hb : b s with
    | none => rw [hb] at hr; cases hr
    | some o =>
      rw [hb] at hr
      refine h s o hb (fun s' e => ?_) (fun r' e => ?_)
      · subst e; exact ih s' r hr hK
      · subst e; cases hr; exact hK
theorem g_if {c : Prop} [Decidable c] {α : Type} {x : Option α} {r : α} (h : (if c then x else none) = some r) : c ∧ x = some r := by
  by_cases q : c
  · rw [if_pos q] at h; exact ⟨q, h⟩
  · rw [if_neg q] at h; cases h
theorem i_t {c : Prop} [Decidable c] {α : Type} {x y r : α} (q : c) (h : (if c then x else y) = r) : x = r := by rw [if_pos q] at h; exact h
theorem i_f {c : Prop} [Decidable c] {α : Type} {x y r : α} (q : ¬ c) (h : (if c then x else y) = r) : y = r := by rw [if_neg q] at h; exact h
theorem b_v {α β : Type} {a : α} {f : α → β} {r : β} (h : bv a f = r) {y : α} (e : y = a) : f y = r := by subst e; exact h
theorem b_d {α β : Type} {x : Option α} {f : α → Option β} {r : β} (h : x.bind f = some r) : ∃ y, x = some y ∧ f y = some r := by
  cases x with
  | none => cases h
  | some y => exact ⟨y, rfl, h⟩
/-- a boolean on the stack -/
def isZ (v : Int32) : Prop := v = 0 ∨ v = 1
theorem isZ_nar {v : Int32} (h : isZ v) : narrow .boolean (.int v) = .int v := by rcases h with rfl | rfl <;> rfl
theorem isZ_vp {v : Int32} (h : isZ v) : vp_nar .boolean v = v := by rcases h with rfl | rfl <;> rfl
theorem isZ_fit {v : Int32} (h : isZ v) : fits .boolean (.int v) = true := by rcases h with rfl | rfl <;> rfl
theorem isZ_0 : isZ 0 := Or.inl rfl
theorem isZ_1 : isZ 1 := Or.inr rfl
/-! longs in two places -/
def lhi (v : Int64) : Int32 := Int32.ofInt (v.toInt / 4294967296)
def llo (v : Int64) : Int32 := Int32.ofInt v.toInt
def l64 (h q : Int32) : Int64 := Int64.ofInt (h.toInt * 4294967296 + q.toInt % 4294967296)
theorem l64_eq (v : Int64) : l64 (lhi v) (llo v) = v := by
  have h1 := v.toInt_lt
  have h2 := v.le_toInt
  unfold l64 lhi llo
  rw [Int32.toInt_ofInt, Int32.toInt_ofInt, Int.bmod_def, Int.bmod_def]
  apply Int64.toInt_inj.mp
  rw [Int64.toInt_ofInt, Int.bmod_def]
  simp only [Int32.size, Int64.size] at *
  omega
/-! ===== the cells ===== -/
abbrev cls : List vw_C := [(RX0, TX0, 1), (RX1, TX1, 5), (RX2, TX2, 3), (RX3, TX3, 5), (RX4, TX4, 9), (RX5, TX5, 6), (RX6, TX6, 7), (RX7, TX7, 12), (RX8, TX8, 14)]
/-- the numbers of classes, the classes of arrays (int, boolean, Frame), the cells' addresses, which cells are ours -/
abbrev En : Type := va_G × (ClassId × ClassId × ClassId) × (Nat → Nat) × (Nat → Prop)
abbrev En.D (X : En) : va_G := X.1
abbrev En.cI (X : En) : ClassId := X.2.1.1
abbrev En.cZ (X : En) : ClassId := X.2.1.2.1
abbrev En.cF (X : En) : ClassId := X.2.1.2.2
abbrev En.ad (X : En) : Nat → Nat := X.2.2.1
abbrev En.A (X : En) : Nat → Prop := X.2.2.2
def eI (X : En) (n : Nat) : (Nat → Int32) → va_E := fun f => .inl (X.cI, n, .inl f)
def eZ (X : En) (n : Nat) : (Nat → Int32) → va_E := fun f => .inl (X.cZ, n, .inl f)
def eFr (X : En) (k : Nat) : (Nat → Int32) → va_E := fun f => .inr (1, [.ref (X.ad (k + 1)), .ref (X.ad (k + 2)), .int (f 2), .int (f 3), .int (f 4)])
def eBx (X : En) (k : Nat) : (Nat → Int32) → va_E := fun _ => .inr (0, [.ref (X.ad (k + 1))])
def eRe (X : En) (k : Nat) : (Nat → Int32) → va_E := fun f => .inr (5, [.ref (X.ad (k + 1)), .ref (X.ad (k + 2)), .ref (X.ad (k + 3)), .ref (X.ad (k + 4)), .int (f 4), .int (f 5)])
def eRai (X : En) : (Nat → Int32) → va_E := fun f => .inr (7, [.ref (X.ad 1), .ref (X.ad 4), .ref (X.ad 9), .ref (X.ad 14), .ref (X.ad 21), .ref (X.ad 47), .ref (X.ad 51), .ref (X.ad 53), .ref (X.ad 56), .int (f 9), .int (f 10), .int (f 11)])
def eMea (X : En) : (Nat → Int32) → va_E := fun f => .inr (3, [.ref (X.ad 5), .ref (X.ad 6), .ref (X.ad 7), .ref (X.ad 8), .int (f 4)])
def ePla (X : En) : (Nat → Int32) → va_E := fun f => .inr (4, [.ref (X.ad 15), .ref (X.ad 16), .ref (X.ad 17), .ref (X.ad 18), .int (f 4), .ref (X.ad 9), .ref (X.ad 19), .ref (X.ad 20), .int (f 8)])
def eHis (X : En) : (Nat → Int32) → va_E := fun f => .inr (2, [.int (f 0), .ref (X.ad 22), .int (f 2)])
def eSta (X : En) : (Nat → Int32) → va_E := fun _ => .inl (X.cF, 8, .inr (.inr (.inr (.inr (fun j => some (X.ad (23 + 3 * j)))))))
def eTex (X : En) : (Nat → Int32) → va_E := fun f => .inr (6, [.int (f 0), .int (f 1), .ref (X.ad 48), .ref (X.ad 49), .int (f 4), .int (f 5), .int (f 6)])
def eMod (X : En) : (Nat → Int32) → va_E := fun f => .inr (8, [.ref (X.ad 62), .int (f 1), .ref (X.ad 63), .ref (X.ad 64), .ref (X.ad 65), .ref (X.ad 66), .ref (X.ad 67), .ref (X.ad 68), .ref (X.ad 69), .int (f 9), .int (f 10), .int (f 11), .ref (X.ad 70), .long (l64 (f 13) (f 14))])
def rdL (X : En) : List ((Nat → Int32) → va_E) := [eRai X, eFr X 1, eI X 216, eI X 8, eMea X, eI X 8, eI X 8, eI X 24, eI X 24, eRe X 9, eI X 64, eI X 48, eI X 8, eI X 8, ePla X, eI X 256, eI X 256, eI X 8, eI X 8, eI X 256, eZ X 256, eHis X, eSta X, eFr X 23, eI X 216, eI X 8, eFr X 26, eI X 216, eI X 8, eFr X 29, eI X 216, eI X 8, eFr X 32, eI X 216, eI X 8, eFr X 35, eI X 216, eI X 8, eFr X 38, eI X 216, eI X 8, eFr X 41, eI X 216, eI X 8, eFr X 44, eI X 216, eI X 8, eTex X, eI X 80, eBx X 49, eI X 6, eBx X 51, eI X 6, eFr X 53, eI X 216, eI X 8, eRe X 56, eI X 64, eI X 48, eI X 8, eI X 8, eMod X, eI X 2270, eI X 48, eI X 8, eZ X 8, eI X 256, eI X 256, eZ X 256, eI X 80, eZ X 216]
def rd (X : En) (k : Nat) (f : Nat → Int32) : va_E := (rdL X).getD k (eBx X 0) f
def wsL (X : En) (M : Mem) : va_W := (List.range 71).map (fun k => (X.ad k, rd X k (M k)))
abbrev tyL (X : En) : List (ClassId × FieldType) := [(X.cI, .int), (X.cZ, .boolean), (X.cF, .object RX1)]
def wd (X : En) (M : Mem) (H : Heap) : Prop := va_P X.D cls (wsL X M) H
def kn (X : En) (U : State) : Prop := va_K X.D cls (tyL X) U ∧ nest U ∧ ∀ M, va_D X.A (wsL X M)
theorem wsL_at (X : En) (M : Mem) {k : Nat} (hk : k < 71) {e : va_E} (he : rd X k (M k) = e) : (wsL X M)[k]? = some (X.ad k, e) := by
  unfold wsL
  rw [List.getElem?_map, List.getElem?_range hk, ← he]
  rfl
theorem wsL_set (X : En) (M : Mem) {k : Nat} (hk : k < 71) {f : Nat → Int32} {e : va_E} (he : rd X k f = e) : (wsL X M).set k (X.ad k, e) = wsL X (stf M k f) := by
  apply List.ext_getElem?
  intro i
  unfold wsL
  rw [List.getElem?_set]
  by_cases h : k = i
  · subst h
    rw [if_pos rfl, if_pos (by simpa using hk), List.getElem?_map, List.getElem?_range hk, ← he]
    simp [stf]
  · rw [if_neg h, List.getElem?_map, List.getElem?_map]
    by_cases hi : i < 71
    · rw [List.getElem?_range hi]
      simp [stf, Ne.symm h]
    · rw [List.getElem?_eq_none (by simpa using hi)]
      rfl
theorem st_stf (M : Mem) (k j : Nat) (v : Int32) : stf M k (upd (M k) j v) = st M k j v := rfl
theorem kn_moved {X : En} {u U : State} (hW : u.WarmedH U.vm) (h : kn X u) : kn X U := ⟨va_K.moved hW.alike h.1, nest_warm hW h.2.1, h.2.2⟩
/-- which numbers are Frames, Boxes, Relations -/
def isF (k : Nat) : Prop := k = 1 ∨ k = 53 ∨ ∃ j, j < 8 ∧ k = 23 + 3 * j
def isB (k : Nat) : Prop := k = 49 ∨ k = 51
def isR (k : Nat) : Prop := k = 9 ∨ k = 56
theorem isF_cases {k : Nat} (h : isF k) : k = 1 ∨ k = 53 ∨ k = 23 ∨ k = 26 ∨ k = 29 ∨ k = 32 ∨ k = 35 ∨ k = 38 ∨ k = 41 ∨ k = 44 := by
  rcases h with h | h | ⟨j, h1, h2⟩ <;> omega
theorem isF_1 : isF 1 := Or.inl rfl
theorem isF_53 : isF 53 := Or.inr (Or.inl rfl)
theorem isF_h {i : Int32} (h : vp_in i 8) : isF (23 + 3 * ix i) := Or.inr (Or.inr ⟨ix i, Nat.not_le.mp fun q => h (Or.inr q), rfl⟩)
theorem isB_49 : isB 49 := Or.inl rfl
theorem isB_51 : isB 51 := Or.inr rfl
theorem isR_9 : isR 9 := Or.inl rfl
theorem isR_56 : isR 56 := Or.inr rfl
theorem isF_lt {k : Nat} (h : isF k) : k + 2 < 71 := by rcases h with h | h | ⟨j, h1, h2⟩ <;> omega
theorem isF_lt0 {k : Nat} (h : isF k) : k < 71 := by have := isF_lt h; omega
theorem isF_lt1 {k : Nat} (h : isF k) : k + 1 < 71 := by have := isF_lt h; omega
theorem isB_lt0 {k : Nat} (h : isB k) : k < 71 := by rcases h with h | h <;> omega
theorem isB_lt1 {k : Nat} (h : isB k) : k + 1 < 71 := by rcases h with h | h <;> omega
theorem isR_lt0 {k : Nat} (h : isR k) : k < 71 := by rcases h with h | h <;> omega
theorem isR_lt1 {k : Nat} (h : isR k) : k + 1 < 71 := by rcases h with h | h <;> omega
theorem isR_lt2 {k : Nat} (h : isR k) : k + 2 < 71 := by rcases h with h | h <;> omega
theorem isR_lt3 {k : Nat} (h : isR k) : k + 3 < 71 := by rcases h with h | h <;> omega
theorem isR_lt4 {k : Nat} (h : isR k) : k + 4 < 71 := by rcases h with h | h <;> omega
theorem rd_F0 {X : En} {k : Nat} (h : isF k) (f : Nat → Int32) : rd X k f = eFr X k f := by rcases isF_cases h with h | h | h | h | h | h | h | h | h | h <;> subst h <;> rfl
theorem rd_F1 {X : En} {k : Nat} (h : isF k) (f : Nat → Int32) : rd X (k + 1) f = eI X 216 f := by rcases isF_cases h with h | h | h | h | h | h | h | h | h | h <;> subst h <;> rfl
theorem rd_F2 {X : En} {k : Nat} (h : isF k) (f : Nat → Int32) : rd X (k + 2) f = eI X 8 f := by rcases isF_cases h with h | h | h | h | h | h | h | h | h | h <;> subst h <;> rfl
theorem rd_B0 {X : En} {k : Nat} (h : isB k) (f : Nat → Int32) : rd X k f = eBx X k f := by rcases h with h | h <;> subst h <;> rfl
theorem rd_B1 {X : En} {k : Nat} (h : isB k) (f : Nat → Int32) : rd X (k + 1) f = eI X 6 f := by rcases h with h | h <;> subst h <;> rfl
theorem rd_R0 {X : En} {k : Nat} (h : isR k) (f : Nat → Int32) : rd X k f = eRe X k f := by rcases h with h | h <;> subst h <;> rfl
theorem rd_R1 {X : En} {k : Nat} (h : isR k) (f : Nat → Int32) : rd X (k + 1) f = eI X 64 f := by rcases h with h | h <;> subst h <;> rfl
theorem rd_R2 {X : En} {k : Nat} (h : isR k) (f : Nat → Int32) : rd X (k + 2) f = eI X 48 f := by rcases h with h | h <;> subst h <;> rfl
theorem rd_R3 {X : En} {k : Nat} (h : isR k) (f : Nat → Int32) : rd X (k + 3) f = eI X 8 f := by rcases h with h | h <;> subst h <;> rfl
theorem rd_R4 {X : En} {k : Nat} (h : isR k) (f : Nat → Int32) : rd X (k + 4) f = eI X 8 f := by rcases h with h | h <;> subst h <;> rfl
end
