section
-- ===== PART A: goes FIRST, ahead of the names: the tables' words, and 'selects' of the private methods out of them =====
/-- a private method of a class that the tables say can be made, by its rows of tables_1 -/
def lw_okq (q : MethodName × Nat) : Prop := (q.1.cls ≠ "java/lang/invoke/MethodHandle" ∧ q.1.cls ≠ "java/lang/invoke/VarHandle") ∧ Cond.instantiable q.1.cls q.2 ∈ tables_1 ∧ Cond.privateMethod q.1 ∈ tables_1 ∧ Cond.instanceMethod q.1 ∈ tables_1
theorem lw_p0 : lw_okq (⟨"FrameRaiser$Text", "readSign", "(ILFrameRaiser$Frame;)I"⟩, 7) := ⟨⟨by decide +kernel, by decide +kernel⟩, List.mem_of_getElem? (i := 172) (by decide +kernel), List.mem_of_getElem? (i := 272) (by decide +kernel), List.mem_of_getElem? (i := 273) (by decide +kernel)⟩
theorem lw_p1 : lw_okq (⟨"FrameRaiser$Text", "readSeparator", "(ILFrameRaiser$Frame;)I"⟩, 7) := ⟨⟨by decide +kernel, by decide +kernel⟩, List.mem_of_getElem? (i := 172) (by decide +kernel), List.mem_of_getElem? (i := 276) (by decide +kernel), List.mem_of_getElem? (i := 277) (by decide +kernel)⟩
theorem lw_p2 : lw_okq (⟨"FrameRaiser$Text", "beginPiece", "()I"⟩, 7) := ⟨⟨by decide +kernel, by decide +kernel⟩, List.mem_of_getElem? (i := 172) (by decide +kernel), List.mem_of_getElem? (i := 280) (by decide +kernel), List.mem_of_getElem? (i := 281) (by decide +kernel)⟩
theorem lw_p3 : lw_okq (⟨"FrameRaiser$Text", "readDigit", "(ILFrameRaiser$Frame;)I"⟩, 7) := ⟨⟨by decide +kernel, by decide +kernel⟩, List.mem_of_getElem? (i := 172) (by decide +kernel), List.mem_of_getElem? (i := 284) (by decide +kernel), List.mem_of_getElem? (i := 285) (by decide +kernel)⟩
theorem lw_p4 : lw_okq (⟨"FrameRaiser", "forgetPieces", "()V"⟩, 12) := ⟨⟨by decide +kernel, by decide +kernel⟩, List.mem_of_getElem? (i := 14) (by decide +kernel), List.mem_of_getElem? (i := 319) (by decide +kernel), List.mem_of_getElem? (i := 320) (by decide +kernel)⟩
theorem lw_p5 : lw_okq (⟨"FrameRaiser", "isPiece", "(I)Z"⟩, 12) := ⟨⟨by decide +kernel, by decide +kernel⟩, List.mem_of_getElem? (i := 14) (by decide +kernel), List.mem_of_getElem? (i := 347) (by decide +kernel), List.mem_of_getElem? (i := 348) (by decide +kernel)⟩
theorem lw_p6 : lw_okq (⟨"FrameRaiser", "knownMeasures", "()LFrameRaiser$Measures;"⟩, 12) := ⟨⟨by decide +kernel, by decide +kernel⟩, List.mem_of_getElem? (i := 14) (by decide +kernel), List.mem_of_getElem? (i := 351) (by decide +kernel), List.mem_of_getElem? (i := 352) (by decide +kernel)⟩
theorem lw_p7 : lw_okq (⟨"FrameRaiser$Measures", "measure", "(II)V"⟩, 5) := ⟨⟨by decide +kernel, by decide +kernel⟩, List.mem_of_getElem? (i := 58) (by decide +kernel), List.mem_of_getElem? (i := 359) (by decide +kernel), List.mem_of_getElem? (i := 360) (by decide +kernel)⟩
theorem lw_p8 : lw_okq (⟨"FrameRaiser", "shiftFault", "(II)I"⟩, 12) := ⟨⟨by decide +kernel, by decide +kernel⟩, List.mem_of_getElem? (i := 14) (by decide +kernel), List.mem_of_getElem? (i := 382) (by decide +kernel), List.mem_of_getElem? (i := 383) (by decide +kernel)⟩
theorem lw_p9 : lw_okq (⟨"FrameRaiser$Frame", "isOpen", "(II)Z"⟩, 5) := ⟨⟨by decide +kernel, by decide +kernel⟩, List.mem_of_getElem? (i := 22) (by decide +kernel), List.mem_of_getElem? (i := 400) (by decide +kernel), List.mem_of_getElem? (i := 401) (by decide +kernel)⟩
theorem lw_p10 : lw_okq (⟨"FrameRaiser", "knownRelations", "()LFrameRaiser$Relations;"⟩, 12) := ⟨⟨by decide +kernel, by decide +kernel⟩, List.mem_of_getElem? (i := 14) (by decide +kernel), List.mem_of_getElem? (i := 426) (by decide +kernel), List.mem_of_getElem? (i := 427) (by decide +kernel)⟩
theorem lw_p11 : lw_okq (⟨"FrameRaiser$Relations", "reset", "()V"⟩, 6) := ⟨⟨by decide +kernel, by decide +kernel⟩, List.mem_of_getElem? (i := 85) (by decide +kernel), List.mem_of_getElem? (i := 434) (by decide +kernel), List.mem_of_getElem? (i := 435) (by decide +kernel)⟩
theorem lw_p12 : lw_okq (⟨"FrameRaiser$Relations", "readLine", "(LFrameRaiser$Frame;II)V"⟩, 6) := ⟨⟨by decide +kernel, by decide +kernel⟩, List.mem_of_getElem? (i := 85) (by decide +kernel), List.mem_of_getElem? (i := 441) (by decide +kernel), List.mem_of_getElem? (i := 442) (by decide +kernel)⟩
theorem lw_p13 : lw_okq (⟨"FrameRaiser$Relations", "block", "(III)I"⟩, 6) := ⟨⟨by decide +kernel, by decide +kernel⟩, List.mem_of_getElem? (i := 85) (by decide +kernel), List.mem_of_getElem? (i := 446) (by decide +kernel), List.mem_of_getElem? (i := 447) (by decide +kernel)⟩
theorem lw_p14 : lw_okq (⟨"FrameRaiser$Relations", "join", "(III)V"⟩, 6) := ⟨⟨by decide +kernel, by decide +kernel⟩, List.mem_of_getElem? (i := 85) (by decide +kernel), List.mem_of_getElem? (i := 450) (by decide +kernel), List.mem_of_getElem? (i := 451) (by decide +kernel)⟩
theorem lw_p15 : lw_okq (⟨"FrameRaiser", "isSet", "(I)Z"⟩, 12) := ⟨⟨by decide +kernel, by decide +kernel⟩, List.mem_of_getElem? (i := 14) (by decide +kernel), List.mem_of_getElem? (i := 462) (by decide +kernel), List.mem_of_getElem? (i := 463) (by decide +kernel)⟩
def lw_privs_1 : List (MethodName × Nat) := [(⟨"FrameRaiser$Text", "readSign", "(ILFrameRaiser$Frame;)I"⟩, 7), (⟨"FrameRaiser$Text", "readSeparator", "(ILFrameRaiser$Frame;)I"⟩, 7), (⟨"FrameRaiser$Text", "beginPiece", "()I"⟩, 7), (⟨"FrameRaiser$Text", "readDigit", "(ILFrameRaiser$Frame;)I"⟩, 7), (⟨"FrameRaiser", "forgetPieces", "()V"⟩, 12), (⟨"FrameRaiser", "isPiece", "(I)Z"⟩, 12), (⟨"FrameRaiser", "knownMeasures", "()LFrameRaiser$Measures;"⟩, 12), (⟨"FrameRaiser$Measures", "measure", "(II)V"⟩, 5), (⟨"FrameRaiser", "shiftFault", "(II)I"⟩, 12), (⟨"FrameRaiser$Frame", "isOpen", "(II)Z"⟩, 5), (⟨"FrameRaiser", "knownRelations", "()LFrameRaiser$Relations;"⟩, 12), (⟨"FrameRaiser$Relations", "reset", "()V"⟩, 6), (⟨"FrameRaiser$Relations", "readLine", "(LFrameRaiser$Frame;II)V"⟩, 6), (⟨"FrameRaiser$Relations", "block", "(III)I"⟩, 6), (⟨"FrameRaiser$Relations", "join", "(III)V"⟩, 6), (⟨"FrameRaiser", "isSet", "(I)Z"⟩, 12)]
theorem lw_r1 : ∀ q ∈ lw_privs_1, lw_okq q := List.forall_mem_cons.mpr ⟨lw_p0, List.forall_mem_cons.mpr ⟨lw_p1, List.forall_mem_cons.mpr ⟨lw_p2, List.forall_mem_cons.mpr ⟨lw_p3, List.forall_mem_cons.mpr ⟨lw_p4, List.forall_mem_cons.mpr ⟨lw_p5, List.forall_mem_cons.mpr ⟨lw_p6, List.forall_mem_cons.mpr ⟨lw_p7, List.forall_mem_cons.mpr ⟨lw_p8, List.forall_mem_cons.mpr ⟨lw_p9, List.forall_mem_cons.mpr ⟨lw_p10, List.forall_mem_cons.mpr ⟨lw_p11, List.forall_mem_cons.mpr ⟨lw_p12, List.forall_mem_cons.mpr ⟨lw_p13, List.forall_mem_cons.mpr ⟨lw_p14, List.forall_mem_cons.mpr ⟨lw_p15, fun _ h => absurd h List.not_mem_nil⟩⟩⟩⟩⟩⟩⟩⟩⟩⟩⟩⟩⟩⟩⟩⟩
theorem lw_p16 : lw_okq (⟨"FrameRaiser", "allPieces", "()I"⟩, 12) := ⟨⟨by decide +kernel, by decide +kernel⟩, List.mem_of_getElem? (i := 14) (by decide +kernel), List.mem_of_getElem? (i := 466) (by decide +kernel), List.mem_of_getElem? (i := 467) (by decide +kernel)⟩
theorem lw_p17 : lw_okq (⟨"FrameRaiser", "knownPlanner", "()LFrameRaiser$Planner;"⟩, 12) := ⟨⟨by decide +kernel, by decide +kernel⟩, List.mem_of_getElem? (i := 14) (by decide +kernel), List.mem_of_getElem? (i := 507) (by decide +kernel), List.mem_of_getElem? (i := 508) (by decide +kernel)⟩
theorem lw_p18 : lw_okq (⟨"FrameRaiser$Planner", "fillRow", "(I)V"⟩, 9) := ⟨⟨by decide +kernel, by decide +kernel⟩, List.mem_of_getElem? (i := 112) (by decide +kernel), List.mem_of_getElem? (i := 515) (by decide +kernel), List.mem_of_getElem? (i := 516) (by decide +kernel)⟩
theorem lw_p19 : lw_okq (⟨"FrameRaiser$Planner", "markLeading", "(I)V"⟩, 9) := ⟨⟨by decide +kernel, by decide +kernel⟩, List.mem_of_getElem? (i := 112) (by decide +kernel), List.mem_of_getElem? (i := 539) (by decide +kernel), List.mem_of_getElem? (i := 540) (by decide +kernel)⟩
theorem lw_p20 : lw_okq (⟨"FrameRaiser$Planner", "nextPlanned", "(II)I"⟩, 9) := ⟨⟨by decide +kernel, by decide +kernel⟩, List.mem_of_getElem? (i := 112) (by decide +kernel), List.mem_of_getElem? (i := 543) (by decide +kernel), List.mem_of_getElem? (i := 544) (by decide +kernel)⟩
theorem lw_p21 : lw_okq (⟨"FrameRaiser$Planner", "followLeading", "(I)V"⟩, 9) := ⟨⟨by decide +kernel, by decide +kernel⟩, List.mem_of_getElem? (i := 112) (by decide +kernel), List.mem_of_getElem? (i := 548) (by decide +kernel), List.mem_of_getElem? (i := 549) (by decide +kernel)⟩
theorem lw_p22 : lw_okq (⟨"FrameRaiser$Relations", "isGroupFree", "(III)Z"⟩, 6) := ⟨⟨by decide +kernel, by decide +kernel⟩, List.mem_of_getElem? (i := 85) (by decide +kernel), List.mem_of_getElem? (i := 579) (by decide +kernel), List.mem_of_getElem? (i := 580) (by decide +kernel)⟩
theorem lw_p23 : lw_okq (⟨"FrameRaiser", "step", "(IIZ)I"⟩, 12) := ⟨⟨by decide +kernel, by decide +kernel⟩, List.mem_of_getElem? (i := 14) (by decide +kernel), List.mem_of_getElem? (i := 588) (by decide +kernel), List.mem_of_getElem? (i := 589) (by decide +kernel)⟩
theorem lw_p24 : lw_okq (⟨"FrameRaiser", "nextToPut", "()I"⟩, 12) := ⟨⟨by decide +kernel, by decide +kernel⟩, List.mem_of_getElem? (i := 14) (by decide +kernel), List.mem_of_getElem? (i := 604) (by decide +kernel), List.mem_of_getElem? (i := 605) (by decide +kernel)⟩
theorem lw_p25 : lw_okq (⟨"FrameRaiser", "mixPiece", "(JI)J"⟩, 12) := ⟨⟨by decide +kernel, by decide +kernel⟩, List.mem_of_getElem? (i := 14) (by decide +kernel), List.mem_of_getElem? (i := 633) (by decide +kernel), List.mem_of_getElem? (i := 634) (by decide +kernel)⟩
theorem lw_p26 : lw_okq (⟨"FrameRaiserModel", "lays", "()V"⟩, 14) := ⟨⟨by decide +kernel, by decide +kernel⟩, List.mem_of_getElem? (i := 646) (by decide +kernel), List.mem_of_getElem? (i := 652) (by decide +kernel), List.mem_of_getElem? (i := 653) (by decide +kernel)⟩
theorem lw_p27 : lw_okq (⟨"FrameRaiserModel", "at", "(I)I"⟩, 14) := ⟨⟨by decide +kernel, by decide +kernel⟩, List.mem_of_getElem? (i := 646) (by decide +kernel), List.mem_of_getElem? (i := 656) (by decide +kernel), List.mem_of_getElem? (i := 657) (by decide +kernel)⟩
theorem lw_p28 : lw_okq (⟨"FrameRaiserModel", "looks", "(III)V"⟩, 14) := ⟨⟨by decide +kernel, by decide +kernel⟩, List.mem_of_getElem? (i := 646) (by decide +kernel), List.mem_of_getElem? (i := 660) (by decide +kernel), List.mem_of_getElem? (i := 661) (by decide +kernel)⟩
theorem lw_p29 : lw_okq (⟨"FrameRaiserModel", "copies", "(II)V"⟩, 14) := ⟨⟨by decide +kernel, by decide +kernel⟩, List.mem_of_getElem? (i := 646) (by decide +kernel), List.mem_of_getElem? (i := 720) (by decide +kernel), List.mem_of_getElem? (i := 721) (by decide +kernel)⟩
theorem lw_p30 : lw_okq (⟨"FrameRaiserModel", "empties", "()V"⟩, 14) := ⟨⟨by decide +kernel, by decide +kernel⟩, List.mem_of_getElem? (i := 646) (by decide +kernel), List.mem_of_getElem? (i := 736) (by decide +kernel), List.mem_of_getElem? (i := 737) (by decide +kernel)⟩
theorem lw_p31 : lw_okq (⟨"FrameRaiserModel", "reads", "()V"⟩, 14) := ⟨⟨by decide +kernel, by decide +kernel⟩, List.mem_of_getElem? (i := 646) (by decide +kernel), List.mem_of_getElem? (i := 740) (by decide +kernel), List.mem_of_getElem? (i := 741) (by decide +kernel)⟩
def lw_privs_2 : List (MethodName × Nat) := [(⟨"FrameRaiser", "allPieces", "()I"⟩, 12), (⟨"FrameRaiser", "knownPlanner", "()LFrameRaiser$Planner;"⟩, 12), (⟨"FrameRaiser$Planner", "fillRow", "(I)V"⟩, 9), (⟨"FrameRaiser$Planner", "markLeading", "(I)V"⟩, 9), (⟨"FrameRaiser$Planner", "nextPlanned", "(II)I"⟩, 9), (⟨"FrameRaiser$Planner", "followLeading", "(I)V"⟩, 9), (⟨"FrameRaiser$Relations", "isGroupFree", "(III)Z"⟩, 6), (⟨"FrameRaiser", "step", "(IIZ)I"⟩, 12), (⟨"FrameRaiser", "nextToPut", "()I"⟩, 12), (⟨"FrameRaiser", "mixPiece", "(JI)J"⟩, 12), (⟨"FrameRaiserModel", "lays", "()V"⟩, 14), (⟨"FrameRaiserModel", "at", "(I)I"⟩, 14), (⟨"FrameRaiserModel", "looks", "(III)V"⟩, 14), (⟨"FrameRaiserModel", "copies", "(II)V"⟩, 14), (⟨"FrameRaiserModel", "empties", "()V"⟩, 14), (⟨"FrameRaiserModel", "reads", "()V"⟩, 14)]
theorem lw_r2 : ∀ q ∈ lw_privs_2, lw_okq q := List.forall_mem_cons.mpr ⟨lw_p16, List.forall_mem_cons.mpr ⟨lw_p17, List.forall_mem_cons.mpr ⟨lw_p18, List.forall_mem_cons.mpr ⟨lw_p19, List.forall_mem_cons.mpr ⟨lw_p20, List.forall_mem_cons.mpr ⟨lw_p21, List.forall_mem_cons.mpr ⟨lw_p22, List.forall_mem_cons.mpr ⟨lw_p23, List.forall_mem_cons.mpr ⟨lw_p24, List.forall_mem_cons.mpr ⟨lw_p25, List.forall_mem_cons.mpr ⟨lw_p26, List.forall_mem_cons.mpr ⟨lw_p27, List.forall_mem_cons.mpr ⟨lw_p28, List.forall_mem_cons.mpr ⟨lw_p29, List.forall_mem_cons.mpr ⟨lw_p30, List.forall_mem_cons.mpr ⟨lw_p31, fun _ h => absurd h List.not_mem_nil⟩⟩⟩⟩⟩⟩⟩⟩⟩⟩⟩⟩⟩⟩⟩⟩
theorem lw_p32 : lw_okq (⟨"FrameRaiserModel", "spaced", "(I)I"⟩, 14) := ⟨⟨by decide +kernel, by decide +kernel⟩, List.mem_of_getElem? (i := 646) (by decide +kernel), List.mem_of_getElem? (i := 744) (by decide +kernel), List.mem_of_getElem? (i := 745) (by decide +kernel)⟩
theorem lw_p33 : lw_okq (⟨"FrameRaiserModel", "readsBox", "(II)I"⟩, 14) := ⟨⟨by decide +kernel, by decide +kernel⟩, List.mem_of_getElem? (i := 646) (by decide +kernel), List.mem_of_getElem? (i := 748) (by decide +kernel), List.mem_of_getElem? (i := 749) (by decide +kernel)⟩
theorem lw_p34 : lw_okq (⟨"FrameRaiserModel", "digit", "(I)I"⟩, 14) := ⟨⟨by decide +kernel, by decide +kernel⟩, List.mem_of_getElem? (i := 646) (by decide +kernel), List.mem_of_getElem? (i := 752) (by decide +kernel), List.mem_of_getElem? (i := 753) (by decide +kernel)⟩
theorem lw_p35 : lw_okq (⟨"FrameRaiserModel", "fails", "(II)I"⟩, 14) := ⟨⟨by decide +kernel, by decide +kernel⟩, List.mem_of_getElem? (i := 646) (by decide +kernel), List.mem_of_getElem? (i := 756) (by decide +kernel), List.mem_of_getElem? (i := 757) (by decide +kernel)⟩
theorem lw_p36 : lw_okq (⟨"FrameRaiserModel", "meets", "(IIIIIII)Z"⟩, 14) := ⟨⟨by decide +kernel, by decide +kernel⟩, List.mem_of_getElem? (i := 646) (by decide +kernel), List.mem_of_getElem? (i := 760) (by decide +kernel), List.mem_of_getElem? (i := 761) (by decide +kernel)⟩
theorem lw_p37 : lw_okq (⟨"FrameRaiserModel", "fills", "(IIIIIII)V"⟩, 14) := ⟨⟨by decide +kernel, by decide +kernel⟩, List.mem_of_getElem? (i := 646) (by decide +kernel), List.mem_of_getElem? (i := 764) (by decide +kernel), List.mem_of_getElem? (i := 765) (by decide +kernel)⟩
theorem lw_p38 : lw_okq (⟨"FrameRaiserModel", "records", "()V"⟩, 14) := ⟨⟨by decide +kernel, by decide +kernel⟩, List.mem_of_getElem? (i := 646) (by decide +kernel), List.mem_of_getElem? (i := 768) (by decide +kernel), List.mem_of_getElem? (i := 769) (by decide +kernel)⟩
theorem lw_p39 : lw_okq (⟨"FrameRaiserModel", "isPiece", "(I)Z"⟩, 14) := ⟨⟨by decide +kernel, by decide +kernel⟩, List.mem_of_getElem? (i := 646) (by decide +kernel), List.mem_of_getElem? (i := 791) (by decide +kernel), List.mem_of_getElem? (i := 792) (by decide +kernel)⟩
theorem lw_p40 : lw_okq (⟨"FrameRaiserModel", "cellsOf", "(I)I"⟩, 14) := ⟨⟨by decide +kernel, by decide +kernel⟩, List.mem_of_getElem? (i := 646) (by decide +kernel), List.mem_of_getElem? (i := 795) (by decide +kernel), List.mem_of_getElem? (i := 796) (by decide +kernel)⟩
theorem lw_p41 : lw_okq (⟨"FrameRaiserModel", "wrongShift", "(II)I"⟩, 14) := ⟨⟨by decide +kernel, by decide +kernel⟩, List.mem_of_getElem? (i := 646) (by decide +kernel), List.mem_of_getElem? (i := 807) (by decide +kernel), List.mem_of_getElem? (i := 808) (by decide +kernel)⟩
theorem lw_p42 : lw_okq (⟨"FrameRaiserModel", "moves", "(II)V"⟩, 14) := ⟨⟨by decide +kernel, by decide +kernel⟩, List.mem_of_getElem? (i := 646) (by decide +kernel), List.mem_of_getElem? (i := 814) (by decide +kernel), List.mem_of_getElem? (i := 815) (by decide +kernel)⟩
theorem lw_p43 : lw_okq (⟨"FrameRaiserModel", "end", "(IIZ)I"⟩, 14) := ⟨⟨by decide +kernel, by decide +kernel⟩, List.mem_of_getElem? (i := 646) (by decide +kernel), List.mem_of_getElem? (i := 826) (by decide +kernel), List.mem_of_getElem? (i := 827) (by decide +kernel)⟩
theorem lw_p44 : lw_okq (⟨"FrameRaiserModel", "groundOf", "(I)I"⟩, 14) := ⟨⟨by decide +kernel, by decide +kernel⟩, List.mem_of_getElem? (i := 646) (by decide +kernel), List.mem_of_getElem? (i := 830) (by decide +kernel), List.mem_of_getElem? (i := 831) (by decide +kernel)⟩
theorem lw_p45 : lw_okq (⟨"FrameRaiserModel", "isSet", "(I)Z"⟩, 14) := ⟨⟨by decide +kernel, by decide +kernel⟩, List.mem_of_getElem? (i := 646) (by decide +kernel), List.mem_of_getElem? (i := 842) (by decide +kernel), List.mem_of_getElem? (i := 843) (by decide +kernel)⟩
theorem lw_p46 : lw_okq (⟨"FrameRaiserModel", "all", "()I"⟩, 14) := ⟨⟨by decide +kernel, by decide +kernel⟩, List.mem_of_getElem? (i := 646) (by decide +kernel), List.mem_of_getElem? (i := 846) (by decide +kernel), List.mem_of_getElem? (i := 847) (by decide +kernel)⟩
theorem lw_p47 : lw_okq (⟨"FrameRaiserModel", "waysOf", "(II)I"⟩, 14) := ⟨⟨by decide +kernel, by decide +kernel⟩, List.mem_of_getElem? (i := 646) (by decide +kernel), List.mem_of_getElem? (i := 850) (by decide +kernel), List.mem_of_getElem? (i := 851) (by decide +kernel)⟩
def lw_privs_3 : List (MethodName × Nat) := [(⟨"FrameRaiserModel", "spaced", "(I)I"⟩, 14), (⟨"FrameRaiserModel", "readsBox", "(II)I"⟩, 14), (⟨"FrameRaiserModel", "digit", "(I)I"⟩, 14), (⟨"FrameRaiserModel", "fails", "(II)I"⟩, 14), (⟨"FrameRaiserModel", "meets", "(IIIIIII)Z"⟩, 14), (⟨"FrameRaiserModel", "fills", "(IIIIIII)V"⟩, 14), (⟨"FrameRaiserModel", "records", "()V"⟩, 14), (⟨"FrameRaiserModel", "isPiece", "(I)Z"⟩, 14), (⟨"FrameRaiserModel", "cellsOf", "(I)I"⟩, 14), (⟨"FrameRaiserModel", "wrongShift", "(II)I"⟩, 14), (⟨"FrameRaiserModel", "moves", "(II)V"⟩, 14), (⟨"FrameRaiserModel", "end", "(IIZ)I"⟩, 14), (⟨"FrameRaiserModel", "groundOf", "(I)I"⟩, 14), (⟨"FrameRaiserModel", "isSet", "(I)Z"⟩, 14), (⟨"FrameRaiserModel", "all", "()I"⟩, 14), (⟨"FrameRaiserModel", "waysOf", "(II)I"⟩, 14)]
theorem lw_r3 : ∀ q ∈ lw_privs_3, lw_okq q := List.forall_mem_cons.mpr ⟨lw_p32, List.forall_mem_cons.mpr ⟨lw_p33, List.forall_mem_cons.mpr ⟨lw_p34, List.forall_mem_cons.mpr ⟨lw_p35, List.forall_mem_cons.mpr ⟨lw_p36, List.forall_mem_cons.mpr ⟨lw_p37, List.forall_mem_cons.mpr ⟨lw_p38, List.forall_mem_cons.mpr ⟨lw_p39, List.forall_mem_cons.mpr ⟨lw_p40, List.forall_mem_cons.mpr ⟨lw_p41, List.forall_mem_cons.mpr ⟨lw_p42, List.forall_mem_cons.mpr ⟨lw_p43, List.forall_mem_cons.mpr ⟨lw_p44, List.forall_mem_cons.mpr ⟨lw_p45, List.forall_mem_cons.mpr ⟨lw_p46, List.forall_mem_cons.mpr ⟨lw_p47, fun _ h => absurd h List.not_mem_nil⟩⟩⟩⟩⟩⟩⟩⟩⟩⟩⟩⟩⟩⟩⟩⟩
theorem lw_p48 : lw_okq (⟨"FrameRaiserModel", "isFree", "(III)Z"⟩, 14) := ⟨⟨by decide +kernel, by decide +kernel⟩, List.mem_of_getElem? (i := 646) (by decide +kernel), List.mem_of_getElem? (i := 854) (by decide +kernel), List.mem_of_getElem? (i := 855) (by decide +kernel)⟩
theorem lw_p49 : lw_okq (⟨"FrameRaiserModel", "contactOf", "(II)I"⟩, 14) := ⟨⟨by decide +kernel, by decide +kernel⟩, List.mem_of_getElem? (i := 646) (by decide +kernel), List.mem_of_getElem? (i := 862) (by decide +kernel), List.mem_of_getElem? (i := 863) (by decide +kernel)⟩
theorem lw_p50 : lw_okq (⟨"FrameRaiserModel", "hangs", "(I)Z"⟩, 14) := ⟨⟨by decide +kernel, by decide +kernel⟩, List.mem_of_getElem? (i := 646) (by decide +kernel), List.mem_of_getElem? (i := 870) (by decide +kernel), List.mem_of_getElem? (i := 871) (by decide +kernel)⟩
theorem lw_p51 : lw_okq (⟨"FrameRaiserModel", "propsOf", "(I)I"⟩, 14) := ⟨⟨by decide +kernel, by decide +kernel⟩, List.mem_of_getElem? (i := 646) (by decide +kernel), List.mem_of_getElem? (i := 881) (by decide +kernel), List.mem_of_getElem? (i := 882) (by decide +kernel)⟩
theorem lw_p52 : lw_okq (⟨"FrameRaiserModel", "standingOf", "(I)I"⟩, 14) := ⟨⟨by decide +kernel, by decide +kernel⟩, List.mem_of_getElem? (i := 646) (by decide +kernel), List.mem_of_getElem? (i := 889) (by decide +kernel), List.mem_of_getElem? (i := 890) (by decide +kernel)⟩
theorem lw_p53 : lw_okq (⟨"FrameRaiserModel", "findsOrders", "(I)V"⟩, 14) := ⟨⟨by decide +kernel, by decide +kernel⟩, List.mem_of_getElem? (i := 646) (by decide +kernel), List.mem_of_getElem? (i := 897) (by decide +kernel), List.mem_of_getElem? (i := 898) (by decide +kernel)⟩
theorem lw_p54 : lw_okq (⟨"FrameRaiserModel", "comesLast", "(II)V"⟩, 14) := ⟨⟨by decide +kernel, by decide +kernel⟩, List.mem_of_getElem? (i := 646) (by decide +kernel), List.mem_of_getElem? (i := 904) (by decide +kernel), List.mem_of_getElem? (i := 905) (by decide +kernel)⟩
theorem lw_p55 : lw_okq (⟨"FrameRaiserModel", "findsLeads", "(I)V"⟩, 14) := ⟨⟨by decide +kernel, by decide +kernel⟩, List.mem_of_getElem? (i := 646) (by decide +kernel), List.mem_of_getElem? (i := 919) (by decide +kernel), List.mem_of_getElem? (i := 920) (by decide +kernel)⟩
theorem lw_p56 : lw_okq (⟨"FrameRaiserModel", "canCome", "(III)Z"⟩, 14) := ⟨⟨by decide +kernel, by decide +kernel⟩, List.mem_of_getElem? (i := 646) (by decide +kernel), List.mem_of_getElem? (i := 923) (by decide +kernel), List.mem_of_getElem? (i := 924) (by decide +kernel)⟩
theorem lw_p57 : lw_okq (⟨"FrameRaiserModel", "lockedOf", "(I)I"⟩, 14) := ⟨⟨by decide +kernel, by decide +kernel⟩, List.mem_of_getElem? (i := 646) (by decide +kernel), List.mem_of_getElem? (i := 934) (by decide +kernel), List.mem_of_getElem? (i := 935) (by decide +kernel)⟩
theorem lw_p58 : lw_okq (⟨"FrameRaiserModel", "groupOf", "(I)I"⟩, 14) := ⟨⟨by decide +kernel, by decide +kernel⟩, List.mem_of_getElem? (i := 646) (by decide +kernel), List.mem_of_getElem? (i := 942) (by decide +kernel), List.mem_of_getElem? (i := 943) (by decide +kernel)⟩
theorem lw_p59 : lw_okq (⟨"FrameRaiserModel", "commonWays", "(II)I"⟩, 14) := ⟨⟨by decide +kernel, by decide +kernel⟩, List.mem_of_getElem? (i := 646) (by decide +kernel), List.mem_of_getElem? (i := 946) (by decide +kernel), List.mem_of_getElem? (i := 947) (by decide +kernel)⟩
theorem lw_p60 : lw_okq (⟨"FrameRaiserModel", "cellMany", "()I"⟩, 14) := ⟨⟨by decide +kernel, by decide +kernel⟩, List.mem_of_getElem? (i := 646) (by decide +kernel), List.mem_of_getElem? (i := 970) (by decide +kernel), List.mem_of_getElem? (i := 971) (by decide +kernel)⟩
theorem lw_p61 : lw_okq (⟨"FrameRaiserModel", "mixes", "(I)V"⟩, 14) := ⟨⟨by decide +kernel, by decide +kernel⟩, List.mem_of_getElem? (i := 646) (by decide +kernel), List.mem_of_getElem? (i := 980) (by decide +kernel), List.mem_of_getElem? (i := 981) (by decide +kernel)⟩
theorem lw_p62 : lw_okq (⟨"FrameRaiserModel", "mixesSet", "(I)V"⟩, 14) := ⟨⟨by decide +kernel, by decide +kernel⟩, List.mem_of_getElem? (i := 646) (by decide +kernel), List.mem_of_getElem? (i := 987) (by decide +kernel), List.mem_of_getElem? (i := 988) (by decide +kernel)⟩
def lw_privs_4 : List (MethodName × Nat) := [(⟨"FrameRaiserModel", "isFree", "(III)Z"⟩, 14), (⟨"FrameRaiserModel", "contactOf", "(II)I"⟩, 14), (⟨"FrameRaiserModel", "hangs", "(I)Z"⟩, 14), (⟨"FrameRaiserModel", "propsOf", "(I)I"⟩, 14), (⟨"FrameRaiserModel", "standingOf", "(I)I"⟩, 14), (⟨"FrameRaiserModel", "findsOrders", "(I)V"⟩, 14), (⟨"FrameRaiserModel", "comesLast", "(II)V"⟩, 14), (⟨"FrameRaiserModel", "findsLeads", "(I)V"⟩, 14), (⟨"FrameRaiserModel", "canCome", "(III)Z"⟩, 14), (⟨"FrameRaiserModel", "lockedOf", "(I)I"⟩, 14), (⟨"FrameRaiserModel", "groupOf", "(I)I"⟩, 14), (⟨"FrameRaiserModel", "commonWays", "(II)I"⟩, 14), (⟨"FrameRaiserModel", "cellMany", "()I"⟩, 14), (⟨"FrameRaiserModel", "mixes", "(I)V"⟩, 14), (⟨"FrameRaiserModel", "mixesSet", "(I)V"⟩, 14)]
theorem lw_r4 : ∀ q ∈ lw_privs_4, lw_okq q := List.forall_mem_cons.mpr ⟨lw_p48, List.forall_mem_cons.mpr ⟨lw_p49, List.forall_mem_cons.mpr ⟨lw_p50, List.forall_mem_cons.mpr ⟨lw_p51, List.forall_mem_cons.mpr ⟨lw_p52, List.forall_mem_cons.mpr ⟨lw_p53, List.forall_mem_cons.mpr ⟨lw_p54, List.forall_mem_cons.mpr ⟨lw_p55, List.forall_mem_cons.mpr ⟨lw_p56, List.forall_mem_cons.mpr ⟨lw_p57, List.forall_mem_cons.mpr ⟨lw_p58, List.forall_mem_cons.mpr ⟨lw_p59, List.forall_mem_cons.mpr ⟨lw_p60, List.forall_mem_cons.mpr ⟨lw_p61, List.forall_mem_cons.mpr ⟨lw_p62, fun _ h => absurd h List.not_mem_nil⟩⟩⟩⟩⟩⟩⟩⟩⟩⟩⟩⟩⟩⟩⟩
def lw_privs : List (MethodName × Nat) := lw_privs_1 ++ (lw_privs_2 ++ (lw_privs_3 ++ (lw_privs_4)))
def lw_tbl : List Cond := k2_sels lw_privs ++ tables_1
theorem lw_privs_ok : ∀ q ∈ lw_privs, lw_okq q := by
  show ∀ q ∈ lw_privs_1 ++ (lw_privs_2 ++ (lw_privs_3 ++ (lw_privs_4))), lw_okq q
  exact List.forall_mem_append.mpr ⟨lw_r1, List.forall_mem_append.mpr ⟨lw_r2, List.forall_mem_append.mpr ⟨lw_r3, lw_r4⟩⟩⟩
end
section
def RX0 : String := "FrameRaiser$Box"
def TX0 : u_T := fun k => match k with
  | _ => ("FrameRaiser$Box", "numbers", "[I", true)
def tyX0 : Nat → FieldType := fun k => match k with
  | _ => .array .int
theorem nmX0 : ∀ a, a < 1 → ∀ b, b < 1 → a ≠ b → (TX0 a).2.1 ≠ (TX0 b).2.1 := by decide +kernel
theorem tyX0_ok : ∀ k, k < 1 → parseFieldDescriptor (TX0 k).2.2.1 = some (tyX0 k) := by decide +kernel
abbrev cX0_init : ByteArray := prog_2_method_1_code
def yX0_init : MethodName := ⟨RX0, "<init>", "()V"⟩
abbrev cX0_takeAll : ByteArray := prog_2_method_2_code
def yX0_takeAll : MethodName := ⟨RX0, "takeAll", "(IIIIII)Z"⟩
abbrev cX0_take : ByteArray := prog_2_method_3_code
def yX0_take : MethodName := ⟨RX0, "take", "(II)Z"⟩
abbrev cX0_contains : ByteArray := prog_2_method_4_code
def yX0_contains : MethodName := ⟨RX0, "contains", "(I)Z"⟩
def RX1 : String := "FrameRaiser$Frame"
def TX1 : u_T := fun k => match k with
  | 0 => ("FrameRaiser$Frame", "owners", "[I", true)
  | 1 => ("FrameRaiser$Frame", "boxes", "[I", true)
  | 2 => ("FrameRaiser$Frame", "pieces", "I", false)
  | 3 => ("FrameRaiser$Frame", "building", "I", false)
  | _ => ("FrameRaiser$Frame", "steps", "I", false)
def tyX1 : Nat → FieldType := fun k => match k with
  | 0 => .array .int
  | 1 => .array .int
  | 2 => .int
  | 3 => .int
  | _ => .int
theorem nmX1 : ∀ a, a < 5 → ∀ b, b < 5 → a ≠ b → (TX1 a).2.1 ≠ (TX1 b).2.1 := by decide +kernel
theorem tyX1_ok : ∀ k, k < 5 → parseFieldDescriptor (TX1 k).2.2.1 = some (tyX1 k) := by decide +kernel
abbrev cX1_init : ByteArray := prog_3_method_1_code
def yX1_init : MethodName := ⟨RX1, "<init>", "()V"⟩
abbrev cX1_empty : ByteArray := prog_3_method_2_code
def yX1_empty : MethodName := ⟨RX1, "empty", "()V"⟩
abbrev cX1_copyFrom : ByteArray := prog_3_method_3_code
def yX1_copyFrom : MethodName := ⟨RX1, "copyFrom", "(LFrameRaiser$Frame;)V"⟩
abbrev cX1_meetsOther : ByteArray := prog_3_method_4_code
def yX1_meetsOther : MethodName := ⟨RX1, "meetsOther", "(LFrameRaiser$Box;I)Z"⟩
abbrev cX1_addBox : ByteArray := prog_3_method_5_code
def yX1_addBox : MethodName := ⟨RX1, "addBox", "(LFrameRaiser$Box;I)V"⟩
abbrev cX1_remove : ByteArray := prog_3_method_6_code
def yX1_remove : MethodName := ⟨RX1, "remove", "(I)V"⟩
abbrev cX1_canMove : ByteArray := prog_3_method_7_code
def yX1_canMove : MethodName := ⟨RX1, "canMove", "(II)Z"⟩
abbrev cX1_isOpen : ByteArray := prog_3_method_8_code
def yX1_isOpen : MethodName := ⟨RX1, "isOpen", "(II)Z"⟩
abbrev cX1_move : ByteArray := prog_3_method_9_code
def yX1_move : MethodName := ⟨RX1, "move", "(II)V"⟩
abbrev cX1_turn : ByteArray := prog_3_method_10_code
def yX1_turn : MethodName := ⟨RX1, "turn", "(I)V"⟩
def RX2 : String := "FrameRaiser$History"
def TX2 : u_T := fun k => match k with
  | 0 => ("FrameRaiser$History", "size", "I", false)
  | 1 => ("FrameRaiser$History", "states", "[LFrameRaiser$Frame;", true)
  | _ => ("FrameRaiser$History", "oldest", "I", false)
def tyX2 : Nat → FieldType := fun k => match k with
  | 0 => .int
  | 1 => .array (.object "FrameRaiser$Frame")
  | _ => .int
theorem nmX2 : ∀ a, a < 3 → ∀ b, b < 3 → a ≠ b → (TX2 a).2.1 ≠ (TX2 b).2.1 := by decide +kernel
theorem tyX2_ok : ∀ k, k < 3 → parseFieldDescriptor (TX2 k).2.2.1 = some (tyX2 k) := by decide +kernel
abbrev cX2_init : ByteArray := prog_4_method_1_code
def yX2_init : MethodName := ⟨RX2, "<init>", "()V"⟩
abbrev cX2_record : ByteArray := prog_4_method_2_code
def yX2_record : MethodName := ⟨RX2, "record", "(LFrameRaiser$Frame;)V"⟩
abbrev cX2_restore : ByteArray := prog_4_method_3_code
def yX2_restore : MethodName := ⟨RX2, "restore", "(LFrameRaiser$Frame;)V"⟩
def RX3 : String := "FrameRaiser$Measures"
def TX3 : u_T := fun k => match k with
  | 0 => ("FrameRaiser$Measures", "cells", "[I", true)
  | 1 => ("FrameRaiser$Measures", "groundCells", "[I", true)
  | 2 => ("FrameRaiser$Measures", "smallest", "[I", true)
  | 3 => ("FrameRaiser$Measures", "greatest", "[I", true)
  | _ => ("FrameRaiser$Measures", "allCells", "I", false)
def tyX3 : Nat → FieldType := fun k => match k with
  | 0 => .array .int
  | 1 => .array .int
  | 2 => .array .int
  | 3 => .array .int
  | _ => .int
theorem nmX3 : ∀ a, a < 5 → ∀ b, b < 5 → a ≠ b → (TX3 a).2.1 ≠ (TX3 b).2.1 := by decide +kernel
theorem tyX3_ok : ∀ k, k < 5 → parseFieldDescriptor (TX3 k).2.2.1 = some (tyX3 k) := by decide +kernel
abbrev cX3_init : ByteArray := prog_5_method_1_code
def yX3_init : MethodName := ⟨RX3, "<init>", "()V"⟩
abbrev cX3_read : ByteArray := prog_5_method_2_code
def yX3_read : MethodName := ⟨RX3, "read", "(LFrameRaiser$Frame;)V"⟩
abbrev cX3_measure : ByteArray := prog_5_method_3_code
def yX3_measure : MethodName := ⟨RX3, "measure", "(II)V"⟩
def RX4 : String := "FrameRaiser$Planner"
def TX4 : u_T := fun k => match k with
  | 0 => ("FrameRaiser$Planner", "orderCounts", "[I", true)
  | 1 => ("FrameRaiser$Planner", "fewest", "[I", true)
  | 2 => ("FrameRaiser$Planner", "planPieces", "[I", true)
  | 3 => ("FrameRaiser$Planner", "planWays", "[I", true)
  | 4 => ("FrameRaiser$Planner", "planSize", "I", false)
  | 5 => ("FrameRaiser$Planner", "relations", "LFrameRaiser$Relations;", true)
  | 6 => ("FrameRaiser$Planner", "propCounts", "[I", true)
  | 7 => ("FrameRaiser$Planner", "leadsOn", "[Z", true)
  | _ => ("FrameRaiser$Planner", "plannedSet", "I", false)
def tyX4 : Nat → FieldType := fun k => match k with
  | 0 => .array .int
  | 1 => .array .int
  | 2 => .array .int
  | 3 => .array .int
  | 4 => .int
  | 5 => .object "FrameRaiser$Relations"
  | 6 => .array .int
  | 7 => .array .boolean
  | _ => .int
theorem nmX4 : ∀ a, a < 9 → ∀ b, b < 9 → a ≠ b → (TX4 a).2.1 ≠ (TX4 b).2.1 := by decide +kernel
theorem tyX4_ok : ∀ k, k < 9 → parseFieldDescriptor (TX4 k).2.2.1 = some (tyX4 k) := by decide +kernel
abbrev cX4_init : ByteArray := prog_6_method_1_code
def yX4_init : MethodName := ⟨RX4, "<init>", "(LFrameRaiser$Relations;)V"⟩
abbrev cX4_fillTables : ByteArray := prog_6_method_2_code
def yX4_fillTables : MethodName := ⟨RX4, "fillTables", "()V"⟩
abbrev cX4_fillRow : ByteArray := prog_6_method_3_code
def yX4_fillRow : MethodName := ⟨RX4, "fillRow", "(I)V"⟩
abbrev cX4_plan : ByteArray := prog_6_method_4_code
def yX4_plan : MethodName := ⟨RX4, "plan", "(I)V"⟩
abbrev cX4_markLeading : ByteArray := prog_6_method_5_code
def yX4_markLeading : MethodName := ⟨RX4, "markLeading", "(I)V"⟩
abbrev cX4_followLeading : ByteArray := prog_6_method_6_code
def yX4_followLeading : MethodName := ⟨RX4, "followLeading", "(I)V"⟩
abbrev cX4_nextPlanned : ByteArray := prog_6_method_7_code
def yX4_nextPlanned : MethodName := ⟨RX4, "nextPlanned", "(II)I"⟩
def RX5 : String := "FrameRaiser$Relations"
def TX5 : u_T := fun k => match k with
  | 0 => ("FrameRaiser$Relations", "contacts", "[I", true)
  | 1 => ("FrameRaiser$Relations", "blocking", "[I", true)
  | 2 => ("FrameRaiser$Relations", "touching", "[I", true)
  | 3 => ("FrameRaiser$Relations", "below", "[I", true)
  | 4 => ("FrameRaiser$Relations", "grounded", "I", false)
  | _ => ("FrameRaiser$Relations", "pieces", "I", false)
def tyX5 : Nat → FieldType := fun k => match k with
  | 0 => .array .int
  | 1 => .array .int
  | 2 => .array .int
  | 3 => .array .int
  | 4 => .int
  | _ => .int
theorem nmX5 : ∀ a, a < 6 → ∀ b, b < 6 → a ≠ b → (TX5 a).2.1 ≠ (TX5 b).2.1 := by decide +kernel
theorem tyX5_ok : ∀ k, k < 6 → parseFieldDescriptor (TX5 k).2.2.1 = some (tyX5 k) := by decide +kernel
abbrev cX5_init : ByteArray := prog_7_method_1_code
def yX5_init : MethodName := ⟨RX5, "<init>", "()V"⟩
abbrev cX5_read : ByteArray := prog_7_method_2_code
def yX5_read : MethodName := ⟨RX5, "read", "(LFrameRaiser$Frame;)V"⟩
abbrev cX5_reset : ByteArray := prog_7_method_3_code
def yX5_reset : MethodName := ⟨RX5, "reset", "()V"⟩
abbrev cX5_lineStart : ByteArray := prog_7_method_4_code
def yX5_lineStart : MethodName := ⟨RX5, "lineStart", "(II)I"⟩
abbrev cX5_readLine : ByteArray := prog_7_method_5_code
def yX5_readLine : MethodName := ⟨RX5, "readLine", "(LFrameRaiser$Frame;II)V"⟩
abbrev cX5_block : ByteArray := prog_7_method_6_code
def yX5_block : MethodName := ⟨RX5, "block", "(III)I"⟩
abbrev cX5_join : ByteArray := prog_7_method_7_code
def yX5_join : MethodName := ⟨RX5, "join", "(III)V"⟩
abbrev cX5_blockersOf : ByteArray := prog_7_method_8_code
def yX5_blockersOf : MethodName := ⟨RX5, "blockersOf", "(II)I"⟩
abbrev cX5_isFree : ByteArray := prog_7_method_9_code
def yX5_isFree : MethodName := ⟨RX5, "isFree", "(III)Z"⟩
abbrev cX5_firstWay : ByteArray := prog_7_method_10_code
def yX5_firstWay : MethodName := ⟨RX5, "firstWay", "(II)I"⟩
abbrev cX5_isConnected : ByteArray := prog_7_method_11_code
def yX5_isConnected : MethodName := ⟨RX5, "isConnected", "(I)Z"⟩
abbrev cX5_propsOf : ByteArray := prog_7_method_12_code
def yX5_propsOf : MethodName := ⟨RX5, "propsOf", "(I)I"⟩
abbrev cX5_standingOf : ByteArray := prog_7_method_13_code
def yX5_standingOf : MethodName := ⟨RX5, "standingOf", "(I)I"⟩
abbrev cX5_lockedOf : ByteArray := prog_7_method_14_code
def yX5_lockedOf : MethodName := ⟨RX5, "lockedOf", "(I)I"⟩
abbrev cX5_smallestGroup : ByteArray := prog_7_method_15_code
def yX5_smallestGroup : MethodName := ⟨RX5, "smallestGroup", "(I)I"⟩
abbrev cX5_wayOfGroup : ByteArray := prog_7_method_16_code
def yX5_wayOfGroup : MethodName := ⟨RX5, "wayOfGroup", "(II)I"⟩
abbrev cX5_isGroupFree : ByteArray := prog_7_method_17_code
def yX5_isGroupFree : MethodName := ⟨RX5, "isGroupFree", "(III)Z"⟩
def RX6 : String := "FrameRaiser$Text"
def TX6 : u_T := fun k => match k with
  | 0 => ("FrameRaiser$Text", "length", "I", false)
  | 1 => ("FrameRaiser$Text", "fault", "I", false)
  | 2 => ("FrameRaiser$Text", "codes", "[I", true)
  | 3 => ("FrameRaiser$Text", "box", "LFrameRaiser$Box;", true)
  | 4 => ("FrameRaiser$Text", "place", "I", false)
  | 5 => ("FrameRaiser$Text", "digits", "I", false)
  | _ => ("FrameRaiser$Text", "piece", "I", false)
def tyX6 : Nat → FieldType := fun k => match k with
  | 0 => .int
  | 1 => .int
  | 2 => .array .int
  | 3 => .object "FrameRaiser$Box"
  | 4 => .int
  | 5 => .int
  | _ => .int
theorem nmX6 : ∀ a, a < 7 → ∀ b, b < 7 → a ≠ b → (TX6 a).2.1 ≠ (TX6 b).2.1 := by decide +kernel
theorem tyX6_ok : ∀ k, k < 7 → parseFieldDescriptor (TX6 k).2.2.1 = some (tyX6 k) := by decide +kernel
abbrev cX6_init : ByteArray := prog_8_method_1_code
def yX6_init : MethodName := ⟨RX6, "<init>", "()V"⟩
abbrev cX6_append : ByteArray := prog_8_method_2_code
def yX6_append : MethodName := ⟨RX6, "append", "(I)V"⟩
abbrev cX6_readInto : ByteArray := prog_8_method_3_code
def yX6_readInto : MethodName := ⟨RX6, "readInto", "(LFrameRaiser$Frame;)I"⟩
abbrev cX6_readSign : ByteArray := prog_8_method_4_code
def yX6_readSign : MethodName := ⟨RX6, "readSign", "(ILFrameRaiser$Frame;)I"⟩
abbrev cX6_readDigit : ByteArray := prog_8_method_5_code
def yX6_readDigit : MethodName := ⟨RX6, "readDigit", "(ILFrameRaiser$Frame;)I"⟩
abbrev cX6_readSeparator : ByteArray := prog_8_method_6_code
def yX6_readSeparator : MethodName := ⟨RX6, "readSeparator", "(ILFrameRaiser$Frame;)I"⟩
abbrev cX6_beginPiece : ByteArray := prog_8_method_7_code
def yX6_beginPiece : MethodName := ⟨RX6, "beginPiece", "()I"⟩
def RX7 : String := "FrameRaiser"
def TX7 : u_T := fun k => match k with
  | 0 => ("FrameRaiser", "frame", "LFrameRaiser$Frame;", true)
  | 1 => ("FrameRaiser", "measures", "LFrameRaiser$Measures;", true)
  | 2 => ("FrameRaiser", "relations", "LFrameRaiser$Relations;", true)
  | 3 => ("FrameRaiser", "planner", "LFrameRaiser$Planner;", true)
  | 4 => ("FrameRaiser", "history", "LFrameRaiser$History;", true)
  | 5 => ("FrameRaiser", "text", "LFrameRaiser$Text;", true)
  | 6 => ("FrameRaiser", "box", "LFrameRaiser$Box;", true)
  | 7 => ("FrameRaiser", "trialFrame", "LFrameRaiser$Frame;", true)
  | 8 => ("FrameRaiser", "trialRelations", "LFrameRaiser$Relations;", true)
  | 9 => ("FrameRaiser", "measured", "Z", false)
  | 10 => ("FrameRaiser", "related", "Z", false)
  | _ => ("FrameRaiser", "tabled", "Z", false)
def tyX7 : Nat → FieldType := fun k => match k with
  | 0 => .object "FrameRaiser$Frame"
  | 1 => .object "FrameRaiser$Measures"
  | 2 => .object "FrameRaiser$Relations"
  | 3 => .object "FrameRaiser$Planner"
  | 4 => .object "FrameRaiser$History"
  | 5 => .object "FrameRaiser$Text"
  | 6 => .object "FrameRaiser$Box"
  | 7 => .object "FrameRaiser$Frame"
  | 8 => .object "FrameRaiser$Relations"
  | 9 => .boolean
  | 10 => .boolean
  | _ => .boolean
theorem nmX7 : ∀ a, a < 12 → ∀ b, b < 12 → a ≠ b → (TX7 a).2.1 ≠ (TX7 b).2.1 := by decide +kernel
theorem tyX7_ok : ∀ k, k < 12 → parseFieldDescriptor (TX7 k).2.2.1 = some (tyX7 k) := by decide +kernel
abbrev cX7_init : ByteArray := prog_1_method_1_code
def yX7_init : MethodName := ⟨RX7, "<init>", "()V"⟩
abbrev cX7_type : ByteArray := prog_1_method_2_code
def yX7_type : MethodName := ⟨RX7, "type", "(I)I"⟩
abbrev cX7_clearText : ByteArray := prog_1_method_3_code
def yX7_clearText : MethodName := ⟨RX7, "clearText", "()I"⟩
abbrev cX7_load : ByteArray := prog_1_method_4_code
def yX7_load : MethodName := ⟨RX7, "load", "()I"⟩
abbrev cX7_faultKind : ByteArray := prog_1_method_5_code
def yX7_faultKind : MethodName := ⟨RX7, "faultKind", "()I"⟩
abbrev cX7_clear : ByteArray := prog_1_method_6_code
def yX7_clear : MethodName := ⟨RX7, "clear", "()I"⟩
abbrev cX7_addPiece : ByteArray := prog_1_method_7_code
def yX7_addPiece : MethodName := ⟨RX7, "addPiece", "(IIIIII)I"⟩
abbrev cX7_extend : ByteArray := prog_1_method_8_code
def yX7_extend : MethodName := ⟨RX7, "extend", "(IIIIIII)I"⟩
abbrev cX7_drop : ByteArray := prog_1_method_9_code
def yX7_drop : MethodName := ⟨RX7, "drop", "(I)I"⟩
abbrev cX7_shift : ByteArray := prog_1_method_10_code
def yX7_shift : MethodName := ⟨RX7, "shift", "(II)I"⟩
abbrev cX7_pieceAt : ByteArray := prog_1_method_11_code
def yX7_pieceAt : MethodName := ⟨RX7, "pieceAt", "(III)I"⟩
abbrev cX7_piece : ByteArray := prog_1_method_12_code
def yX7_piece : MethodName := ⟨RX7, "piece", "(II)I"⟩
abbrev cX7_blockers : ByteArray := prog_1_method_13_code
def yX7_blockers : MethodName := ⟨RX7, "blockers", "(II)I"⟩
abbrev cX7_ways : ByteArray := prog_1_method_14_code
def yX7_ways : MethodName := ⟨RX7, "ways", "(II)I"⟩
abbrev cX7_contact : ByteArray := prog_1_method_15_code
def yX7_contact : MethodName := ⟨RX7, "contact", "(II)I"⟩
abbrev cX7_hangsTogether : ByteArray := prog_1_method_16_code
def yX7_hangsTogether : MethodName := ⟨RX7, "hangsTogether", "(I)I"⟩
abbrev cX7_props : ByteArray := prog_1_method_17_code
def yX7_props : MethodName := ⟨RX7, "props", "(I)I"⟩
abbrev cX7_standing : ByteArray := prog_1_method_18_code
def yX7_standing : MethodName := ⟨RX7, "standing", "(I)I"⟩
abbrev cX7_orders : ByteArray := prog_1_method_19_code
def yX7_orders : MethodName := ⟨RX7, "orders", "(I)I"⟩
abbrev cX7_fewestProps : ByteArray := prog_1_method_20_code
def yX7_fewestProps : MethodName := ⟨RX7, "fewestProps", "(I)I"⟩
abbrev cX7_planned : ByteArray := prog_1_method_21_code
def yX7_planned : MethodName := ⟨RX7, "planned", "(IIZ)I"⟩
abbrev cX7_locked : ByteArray := prog_1_method_22_code
def yX7_locked : MethodName := ⟨RX7, "locked", "(I)I"⟩
abbrev cX7_firstGroup : ByteArray := prog_1_method_23_code
def yX7_firstGroup : MethodName := ⟨RX7, "firstGroup", "(IZ)I"⟩
abbrev cX7_put : ByteArray := prog_1_method_24_code
def yX7_put : MethodName := ⟨RX7, "put", "(II)I"⟩
abbrev cX7_takeOut : ByteArray := prog_1_method_25_code
def yX7_takeOut : MethodName := ⟨RX7, "takeOut", "(II)I"⟩
abbrev cX7_putAll : ByteArray := prog_1_method_26_code
def yX7_putAll : MethodName := ⟨RX7, "putAll", "()I"⟩
abbrev cX7_ifShift : ByteArray := prog_1_method_27_code
def yX7_ifShift : MethodName := ⟨RX7, "ifShift", "(II)I"⟩
abbrev cX7_undo : ByteArray := prog_1_method_28_code
def yX7_undo : MethodName := ⟨RX7, "undo", "()I"⟩
abbrev cX7_count : ByteArray := prog_1_method_29_code
def yX7_count : MethodName := ⟨RX7, "count", "(I)I"⟩
abbrev cX7_digest : ByteArray := prog_1_method_30_code
def yX7_digest : MethodName := ⟨RX7, "digest", "()J"⟩
abbrev cX7_mixPiece : ByteArray := prog_1_method_31_code
def yX7_mixPiece : MethodName := ⟨RX7, "mixPiece", "(JI)J"⟩
abbrev cX7_step : ByteArray := prog_1_method_32_code
def yX7_step : MethodName := ⟨RX7, "step", "(IIZ)I"⟩
abbrev cX7_nextToPut : ByteArray := prog_1_method_33_code
def yX7_nextToPut : MethodName := ⟨RX7, "nextToPut", "()I"⟩
abbrev cX7_shiftFault : ByteArray := prog_1_method_34_code
def yX7_shiftFault : MethodName := ⟨RX7, "shiftFault", "(II)I"⟩
abbrev cX7_isPiece : ByteArray := prog_1_method_35_code
def yX7_isPiece : MethodName := ⟨RX7, "isPiece", "(I)Z"⟩
abbrev cX7_isSet : ByteArray := prog_1_method_36_code
def yX7_isSet : MethodName := ⟨RX7, "isSet", "(I)Z"⟩
abbrev cX7_allPieces : ByteArray := prog_1_method_37_code
def yX7_allPieces : MethodName := ⟨RX7, "allPieces", "()I"⟩
abbrev cX7_forgetPieces : ByteArray := prog_1_method_38_code
def yX7_forgetPieces : MethodName := ⟨RX7, "forgetPieces", "()V"⟩
abbrev cX7_knownMeasures : ByteArray := prog_1_method_39_code
def yX7_knownMeasures : MethodName := ⟨RX7, "knownMeasures", "()LFrameRaiser$Measures;"⟩
abbrev cX7_knownRelations : ByteArray := prog_1_method_40_code
def yX7_knownRelations : MethodName := ⟨RX7, "knownRelations", "()LFrameRaiser$Relations;"⟩
abbrev cX7_knownPlanner : ByteArray := prog_1_method_41_code
def yX7_knownPlanner : MethodName := ⟨RX7, "knownPlanner", "()LFrameRaiser$Planner;"⟩
abbrev cX7_isDirection : ByteArray := prog_1_method_42_code
def yX7_isDirection : MethodName := ⟨RX7, "isDirection", "(I)Z"⟩
abbrev cX7_isCoordinate : ByteArray := prog_1_method_43_code
def yX7_isCoordinate : MethodName := ⟨RX7, "isCoordinate", "(I)Z"⟩
abbrev cX7_has : ByteArray := prog_1_method_44_code
def yX7_has : MethodName := ⟨RX7, "has", "(II)Z"⟩
abbrev cX7_coordinate : ByteArray := prog_1_method_45_code
def yX7_coordinate : MethodName := ⟨RX7, "coordinate", "(II)I"⟩
abbrev cX7_stride : ByteArray := prog_1_method_46_code
def yX7_stride : MethodName := ⟨RX7, "stride", "(I)I"⟩
abbrev cX7_neighbor : ByteArray := prog_1_method_47_code
def yX7_neighbor : MethodName := ⟨RX7, "neighbor", "(II)I"⟩
def RX8 : String := "FrameRaiserModel"
def TX8 : u_T := fun k => match k with
  | 0 => ("FrameRaiserModel", "page", "[I", true)
  | 1 => ("FrameRaiserModel", "backMany", "I", false)
  | 2 => ("FrameRaiserModel", "blocking", "[I", true)
  | 3 => ("FrameRaiserModel", "below", "[I", true)
  | 4 => ("FrameRaiserModel", "isGrounded", "[Z", true)
  | 5 => ("FrameRaiserModel", "ways", "[I", true)
  | 6 => ("FrameRaiserModel", "least", "[I", true)
  | 7 => ("FrameRaiserModel", "leads", "[Z", true)
  | 8 => ("FrameRaiserModel", "text", "[I", true)
  | 9 => ("FrameRaiserModel", "typed", "I", false)
  | 10 => ("FrameRaiserModel", "fault", "I", false)
  | 11 => ("FrameRaiserModel", "faultAt", "I", false)
  | 12 => ("FrameRaiserModel", "had", "[Z", true)
  | _ => ("FrameRaiserModel", "hash", "J", false)
def tyX8 : Nat → FieldType := fun k => match k with
  | 0 => .array .int
  | 1 => .int
  | 2 => .array .int
  | 3 => .array .int
  | 4 => .array .boolean
  | 5 => .array .int
  | 6 => .array .int
  | 7 => .array .boolean
  | 8 => .array .int
  | 9 => .int
  | 10 => .int
  | 11 => .int
  | 12 => .array .boolean
  | _ => .long
theorem nmX8 : ∀ a, a < 14 → ∀ b, b < 14 → a ≠ b → (TX8 a).2.1 ≠ (TX8 b).2.1 := by decide +kernel
theorem tyX8_ok : ∀ k, k < 14 → parseFieldDescriptor (TX8 k).2.2.1 = some (tyX8 k) := by decide +kernel
abbrev cX8_init : ByteArray := prog_10_method_1_code
def yX8_init : MethodName := ⟨RX8, "<init>", "()V"⟩
abbrev cX8_in : ByteArray := prog_10_method_3_code
def yX8_in : MethodName := ⟨RX8, "in", "(III)Z"⟩
abbrev cX8_copies : ByteArray := prog_10_method_4_code
def yX8_copies : MethodName := ⟨RX8, "copies", "(II)V"⟩
abbrev cX8_records : ByteArray := prog_10_method_5_code
def yX8_records : MethodName := ⟨RX8, "records", "()V"⟩
abbrev cX8_undo : ByteArray := prog_10_method_6_code
def yX8_undo : MethodName := ⟨RX8, "undo", "()I"⟩
abbrev cX8_place : ByteArray := prog_10_method_7_code
def yX8_place : MethodName := ⟨RX8, "place", "(III)I"⟩
abbrev cX8_at : ByteArray := prog_10_method_8_code
def yX8_at : MethodName := ⟨RX8, "at", "(I)I"⟩
abbrev cX8_step : ByteArray := prog_10_method_9_code
def yX8_step : MethodName := ⟨RX8, "step", "(II)I"⟩
abbrev cX8_isPiece : ByteArray := prog_10_method_10_code
def yX8_isPiece : MethodName := ⟨RX8, "isPiece", "(I)Z"⟩
abbrev cX8_isDirection : ByteArray := prog_10_method_11_code
def yX8_isDirection : MethodName := ⟨RX8, "isDirection", "(I)Z"⟩
abbrev cX8_all : ByteArray := prog_10_method_12_code
def yX8_all : MethodName := ⟨RX8, "all", "()I"⟩
abbrev cX8_isSet : ByteArray := prog_10_method_13_code
def yX8_isSet : MethodName := ⟨RX8, "isSet", "(I)Z"⟩
abbrev cX8_isBox : ByteArray := prog_10_method_14_code
def yX8_isBox : MethodName := ⟨RX8, "isBox", "(IIIIII)Z"⟩
abbrev cX8_meets : ByteArray := prog_10_method_15_code
def yX8_meets : MethodName := ⟨RX8, "meets", "(IIIIIII)Z"⟩
abbrev cX8_fills : ByteArray := prog_10_method_16_code
def yX8_fills : MethodName := ⟨RX8, "fills", "(IIIIIII)V"⟩
abbrev cX8_lays : ByteArray := prog_10_method_17_code
def yX8_lays : MethodName := ⟨RX8, "lays", "()V"⟩
abbrev cX8_looks : ByteArray := prog_10_method_18_code
def yX8_looks : MethodName := ⟨RX8, "looks", "(III)V"⟩
abbrev cX8_isFree : ByteArray := prog_10_method_19_code
def yX8_isFree : MethodName := ⟨RX8, "isFree", "(III)Z"⟩
abbrev cX8_waysOf : ByteArray := prog_10_method_20_code
def yX8_waysOf : MethodName := ⟨RX8, "waysOf", "(II)I"⟩
abbrev cX8_bits : ByteArray := prog_10_method_21_code
def yX8_bits : MethodName := ⟨RX8, "bits", "(I)I"⟩
abbrev cX8_has : ByteArray := prog_10_method_22_code
def yX8_has : MethodName := ⟨RX8, "has", "(II)Z"⟩
abbrev cX8_propsOf : ByteArray := prog_10_method_23_code
def yX8_propsOf : MethodName := ⟨RX8, "propsOf", "(I)I"⟩
abbrev cX8_standingOf : ByteArray := prog_10_method_24_code
def yX8_standingOf : MethodName := ⟨RX8, "standingOf", "(I)I"⟩
abbrev cX8_contactOf : ByteArray := prog_10_method_25_code
def yX8_contactOf : MethodName := ⟨RX8, "contactOf", "(II)I"⟩
abbrev cX8_hangs : ByteArray := prog_10_method_26_code
def yX8_hangs : MethodName := ⟨RX8, "hangs", "(I)Z"⟩
abbrev cX8_isWithin : ByteArray := prog_10_method_27_code
def yX8_isWithin : MethodName := ⟨RX8, "isWithin", "(II)Z"⟩
abbrev cX8_findsOrders : ByteArray := prog_10_method_28_code
def yX8_findsOrders : MethodName := ⟨RX8, "findsOrders", "(I)V"⟩
abbrev cX8_comesLast : ByteArray := prog_10_method_29_code
def yX8_comesLast : MethodName := ⟨RX8, "comesLast", "(II)V"⟩
abbrev cX8_findsLeads : ByteArray := prog_10_method_30_code
def yX8_findsLeads : MethodName := ⟨RX8, "findsLeads", "(I)V"⟩
abbrev cX8_canCome : ByteArray := prog_10_method_31_code
def yX8_canCome : MethodName := ⟨RX8, "canCome", "(III)Z"⟩
abbrev cX8_lowest : ByteArray := prog_10_method_32_code
def yX8_lowest : MethodName := ⟨RX8, "lowest", "(I)I"⟩
abbrev cX8_lockedOf : ByteArray := prog_10_method_33_code
def yX8_lockedOf : MethodName := ⟨RX8, "lockedOf", "(I)I"⟩
abbrev cX8_commonWays : ByteArray := prog_10_method_34_code
def yX8_commonWays : MethodName := ⟨RX8, "commonWays", "(II)I"⟩
abbrev cX8_groupOf : ByteArray := prog_10_method_35_code
def yX8_groupOf : MethodName := ⟨RX8, "groupOf", "(I)I"⟩
abbrev cX8_type : ByteArray := prog_10_method_36_code
def yX8_type : MethodName := ⟨RX8, "type", "(I)I"⟩
abbrev cX8_clearText : ByteArray := prog_10_method_37_code
def yX8_clearText : MethodName := ⟨RX8, "clearText", "()I"⟩
abbrev cX8_spaced : ByteArray := prog_10_method_38_code
def yX8_spaced : MethodName := ⟨RX8, "spaced", "(I)I"⟩
abbrev cX8_fails : ByteArray := prog_10_method_39_code
def yX8_fails : MethodName := ⟨RX8, "fails", "(II)I"⟩
abbrev cX8_digit : ByteArray := prog_10_method_40_code
def yX8_digit : MethodName := ⟨RX8, "digit", "(I)I"⟩
abbrev cX8_readsBox : ByteArray := prog_10_method_41_code
def yX8_readsBox : MethodName := ⟨RX8, "readsBox", "(II)I"⟩
abbrev cX8_reads : ByteArray := prog_10_method_42_code
def yX8_reads : MethodName := ⟨RX8, "reads", "()V"⟩
abbrev cX8_empties : ByteArray := prog_10_method_43_code
def yX8_empties : MethodName := ⟨RX8, "empties", "()V"⟩
abbrev cX8_load : ByteArray := prog_10_method_44_code
def yX8_load : MethodName := ⟨RX8, "load", "()I"⟩
abbrev cX8_faultKind : ByteArray := prog_10_method_45_code
def yX8_faultKind : MethodName := ⟨RX8, "faultKind", "()I"⟩
abbrev cX8_clear : ByteArray := prog_10_method_46_code
def yX8_clear : MethodName := ⟨RX8, "clear", "()I"⟩
abbrev cX8_addPiece : ByteArray := prog_10_method_47_code
def yX8_addPiece : MethodName := ⟨RX8, "addPiece", "(IIIIII)I"⟩
abbrev cX8_cellsOf : ByteArray := prog_10_method_48_code
def yX8_cellsOf : MethodName := ⟨RX8, "cellsOf", "(I)I"⟩
abbrev cX8_extend : ByteArray := prog_10_method_49_code
def yX8_extend : MethodName := ⟨RX8, "extend", "(IIIIIII)I"⟩
abbrev cX8_drop : ByteArray := prog_10_method_50_code
def yX8_drop : MethodName := ⟨RX8, "drop", "(I)I"⟩
abbrev cX8_wrongShift : ByteArray := prog_10_method_51_code
def yX8_wrongShift : MethodName := ⟨RX8, "wrongShift", "(II)I"⟩
abbrev cX8_moves : ByteArray := prog_10_method_52_code
def yX8_moves : MethodName := ⟨RX8, "moves", "(II)V"⟩
abbrev cX8_shift : ByteArray := prog_10_method_53_code
def yX8_shift : MethodName := ⟨RX8, "shift", "(II)I"⟩
abbrev cX8_pieceAt : ByteArray := prog_10_method_54_code
def yX8_pieceAt : MethodName := ⟨RX8, "pieceAt", "(III)I"⟩
abbrev cX8_end : ByteArray := prog_10_method_55_code
def yX8_end : MethodName := ⟨RX8, "end", "(IIZ)I"⟩
abbrev cX8_groundOf : ByteArray := prog_10_method_56_code
def yX8_groundOf : MethodName := ⟨RX8, "groundOf", "(I)I"⟩
abbrev cX8_piece : ByteArray := prog_10_method_57_code
def yX8_piece : MethodName := ⟨RX8, "piece", "(II)I"⟩
abbrev cX8_blockers : ByteArray := prog_10_method_58_code
def yX8_blockers : MethodName := ⟨RX8, "blockers", "(II)I"⟩
abbrev cX8_ways : ByteArray := prog_10_method_59_code
def yX8_ways : MethodName := ⟨RX8, "ways", "(II)I"⟩
abbrev cX8_contact : ByteArray := prog_10_method_60_code
def yX8_contact : MethodName := ⟨RX8, "contact", "(II)I"⟩
abbrev cX8_hangsTogether : ByteArray := prog_10_method_61_code
def yX8_hangsTogether : MethodName := ⟨RX8, "hangsTogether", "(I)I"⟩
abbrev cX8_props : ByteArray := prog_10_method_62_code
def yX8_props : MethodName := ⟨RX8, "props", "(I)I"⟩
abbrev cX8_standing : ByteArray := prog_10_method_63_code
def yX8_standing : MethodName := ⟨RX8, "standing", "(I)I"⟩
abbrev cX8_orders : ByteArray := prog_10_method_64_code
def yX8_orders : MethodName := ⟨RX8, "orders", "(I)I"⟩
abbrev cX8_fewestProps : ByteArray := prog_10_method_65_code
def yX8_fewestProps : MethodName := ⟨RX8, "fewestProps", "(I)I"⟩
abbrev cX8_planned : ByteArray := prog_10_method_66_code
def yX8_planned : MethodName := ⟨RX8, "planned", "(IIZ)I"⟩
abbrev cX8_locked : ByteArray := prog_10_method_67_code
def yX8_locked : MethodName := ⟨RX8, "locked", "(I)I"⟩
abbrev cX8_firstGroup : ByteArray := prog_10_method_68_code
def yX8_firstGroup : MethodName := ⟨RX8, "firstGroup", "(IZ)I"⟩
abbrev cX8_put : ByteArray := prog_10_method_69_code
def yX8_put : MethodName := ⟨RX8, "put", "(II)I"⟩
abbrev cX8_takeOut : ByteArray := prog_10_method_70_code
def yX8_takeOut : MethodName := ⟨RX8, "takeOut", "(II)I"⟩
abbrev cX8_putAll : ByteArray := prog_10_method_71_code
def yX8_putAll : MethodName := ⟨RX8, "putAll", "()I"⟩
abbrev cX8_ifShift : ByteArray := prog_10_method_72_code
def yX8_ifShift : MethodName := ⟨RX8, "ifShift", "(II)I"⟩
abbrev cX8_cellMany : ByteArray := prog_10_method_73_code
def yX8_cellMany : MethodName := ⟨RX8, "cellMany", "()I"⟩
abbrev cX8_count : ByteArray := prog_10_method_74_code
def yX8_count : MethodName := ⟨RX8, "count", "(I)I"⟩
abbrev cX8_mixes : ByteArray := prog_10_method_75_code
def yX8_mixes : MethodName := ⟨RX8, "mixes", "(I)V"⟩
abbrev cX8_mixesSet : ByteArray := prog_10_method_76_code
def yX8_mixesSet : MethodName := ⟨RX8, "mixesSet", "(I)V"⟩
abbrev cX8_digest : ByteArray := prog_10_method_77_code
def yX8_digest : MethodName := ⟨RX8, "digest", "()J"⟩
def RJ6 : String := "java/lang/Integer"
def TJ6 : u_T := fun k => match k with
  | _ => ("", "", "", false)
def tyJ6 : Nat → FieldType := fun k => match k with
  | _ => .int
theorem nmJ6 : ∀ a, a < 0 → ∀ b, b < 0 → a ≠ b → (TJ6 a).2.1 ≠ (TJ6 b).2.1 := by decide +kernel
theorem tyJ6_ok : ∀ k, k < 0 → parseFieldDescriptor (TJ6 k).2.2.1 = some (tyJ6 k) := by decide +kernel
abbrev cJ6_bitCount_0f7a4 : ByteArray := prog_11_method_49_code
def yJ6_bitCount_0f7a4 : MethodName := ⟨RJ6, "bitCount", "(I)I"⟩
def RJ9 : String := "java/lang/Math"
def TJ9 : u_T := fun k => match k with
  | _ => ("", "", "", false)
def tyJ9 : Nat → FieldType := fun k => match k with
  | _ => .int
theorem nmJ9 : ∀ a, a < 0 → ∀ b, b < 0 → a ≠ b → (TJ9 a).2.1 ≠ (TJ9 b).2.1 := by decide +kernel
theorem tyJ9_ok : ∀ k, k < 0 → parseFieldDescriptor (TJ9 k).2.2.1 = some (tyJ9 k) := by decide +kernel
abbrev cJ9_max_7cf53 : ByteArray := prog_12_method_65_code
def yJ9_max_7cf53 : MethodName := ⟨RJ9, "max", "(II)I"⟩
abbrev cJ9_min_7cf53 : ByteArray := prog_12_method_69_code
def yJ9_min_7cf53 : MethodName := ⟨RJ9, "min", "(II)I"⟩
def RJ10 : String := "java/lang/System"
def TJ10 : u_T := fun k => match k with
  | _ => ("", "", "", false)
def tyJ10 : Nat → FieldType := fun k => match k with
  | _ => .int
theorem nmJ10 : ∀ a, a < 0 → ∀ b, b < 0 → a ≠ b → (TJ10 a).2.1 ≠ (TJ10 b).2.1 := by decide +kernel
theorem tyJ10_ok : ∀ k, k < 0 → parseFieldDescriptor (TJ10 k).2.2.1 = some (tyJ10 k) := by decide +kernel
def RL : String := "FrameRaiserLaw"
abbrev cL_law : ByteArray := code
def yL_law : MethodName := ⟨RL, "law", "([I)Z"⟩
end
section
def lw_u : List Cond := lw_tbl.filter goodWord
theorem tb0 {w : Cond} (h : w ∈ tables_1) (g : goodWord w = true) : w ∈ lw_u := List.mem_filter.mpr ⟨List.mem_append_right _ h, g⟩
theorem tbq {w : Cond} (h : w ∈ k2_sels lw_privs) (g : goodWord w = true) : w ∈ lw_u := List.mem_filter.mpr ⟨List.mem_append_left _ h, g⟩
theorem tb1 {w : Cond} (h : w ∈ tables_1_1) (g : goodWord w = true) : w ∈ lw_u := tb0 (List.mem_append_left _ h) g
theorem tb2 {w : Cond} (h : w ∈ tables_1_2) (g : goodWord w = true) : w ∈ lw_u := tb0 (List.mem_append_right _ (List.mem_append_left _ h)) g
theorem tb3 {w : Cond} (h : w ∈ tables_1_3) (g : goodWord w = true) : w ∈ lw_u := tb0 (List.mem_append_right _ (List.mem_append_right _ (List.mem_append_left _ h))) g
theorem tb4 {w : Cond} (h : w ∈ tables_1_4) (g : goodWord w = true) : w ∈ lw_u := tb0 (List.mem_append_right _ (List.mem_append_right _ (List.mem_append_right _ (List.mem_append_left _ h)))) g
theorem tb5 {w : Cond} (h : w ∈ tables_1_5) (g : goodWord w = true) : w ∈ lw_u := tb0 (List.mem_append_right _ (List.mem_append_right _ (List.mem_append_right _ (List.mem_append_right _ h)))) g
theorem lw_good {w : Cond} (h : w ∈ lw_u) : goodWord w = true := (List.mem_filter.mp h).2
theorem lw_in {w : Cond} (h : w ∈ lw_u) : w ∈ lw_tbl := (List.mem_filter.mp h).1
theorem wd_1_0 : Cond.initialized RL ∈ lw_u := tb1 (List.mem_of_getElem? (i := 0) (by decide +kernel)) (by decide +kernel)
theorem wd_1_1 : Cond.initialized RX7 ∈ lw_u := tb1 (List.mem_of_getElem? (i := 1) (by decide +kernel)) (by decide +kernel)
theorem wd_1_2 : Cond.initialized RX1 ∈ lw_u := tb1 (List.mem_of_getElem? (i := 2) (by decide +kernel)) (by decide +kernel)
theorem wd_1_3 : Cond.initialized RX3 ∈ lw_u := tb1 (List.mem_of_getElem? (i := 3) (by decide +kernel)) (by decide +kernel)
theorem wd_1_4 : Cond.initialized RX5 ∈ lw_u := tb1 (List.mem_of_getElem? (i := 4) (by decide +kernel)) (by decide +kernel)
theorem wd_1_5 : Cond.initialized RX4 ∈ lw_u := tb1 (List.mem_of_getElem? (i := 5) (by decide +kernel)) (by decide +kernel)
theorem wd_1_6 : Cond.initialized RX2 ∈ lw_u := tb1 (List.mem_of_getElem? (i := 6) (by decide +kernel)) (by decide +kernel)
theorem wd_1_7 : Cond.initialized RX6 ∈ lw_u := tb1 (List.mem_of_getElem? (i := 7) (by decide +kernel)) (by decide +kernel)
theorem wd_1_8 : Cond.initialized RX0 ∈ lw_u := tb1 (List.mem_of_getElem? (i := 8) (by decide +kernel)) (by decide +kernel)
theorem wd_1_9 : Cond.initialized RX8 ∈ lw_u := tb1 (List.mem_of_getElem? (i := 9) (by decide +kernel)) (by decide +kernel)
theorem wd_1_10 : Cond.initialized RJ10 ∈ lw_u := tb1 (List.mem_of_getElem? (i := 10) (by decide +kernel)) (by decide +kernel)
theorem wd_1_11 : Cond.initialized RJ9 ∈ lw_u := tb1 (List.mem_of_getElem? (i := 11) (by decide +kernel)) (by decide +kernel)
theorem wd_1_12 : Cond.initialized RJ6 ∈ lw_u := tb1 (List.mem_of_getElem? (i := 12) (by decide +kernel)) (by decide +kernel)
theorem wd_1_13 : Cond.classLink RL 7 RX7 ∈ lw_u := tb1 (List.mem_of_getElem? (i := 13) (by decide +kernel)) (by decide +kernel)
theorem wd_1_14 : Cond.instantiable RX7 12 ∈ lw_u := tb1 (List.mem_of_getElem? (i := 14) (by decide +kernel)) (by decide +kernel)
theorem wd_1_15 : Cond.methodLink RL 9 yX7_init ∈ lw_u := tb1 (List.mem_of_getElem? (i := 15) (by decide +kernel)) (by decide +kernel)
theorem wd_1_16 : Cond.instanceMethod yX7_init ∈ lw_u := tb1 (List.mem_of_getElem? (i := 16) (by decide +kernel)) (by decide +kernel)
theorem wd_1_17 : Cond.code yX7_init prog_1_method_1_code 1 (none) ∈ lw_u := tb1 (List.mem_of_getElem? (i := 17) (by decide +kernel)) (by decide +kernel)
theorem wd_1_18 : Cond.methodLink RX7 1 ⟨"java/lang/Object", "<init>", "()V"⟩ ∈ lw_u := tb1 (List.mem_of_getElem? (i := 18) (by decide +kernel)) (by decide +kernel)
theorem wd_1_19 : Cond.instanceMethod ⟨"java/lang/Object", "<init>", "()V"⟩ ∈ lw_u := tb1 (List.mem_of_getElem? (i := 19) (by decide +kernel)) (by decide +kernel)
theorem wd_1_20 : Cond.code objectInit ⟨#[0xb1]⟩ 1 none ∈ lw_u := tb1 (List.mem_of_getElem? (i := 20) (by decide +kernel)) (by decide +kernel)
theorem wd_1_21 : Cond.classLink RX7 7 RX1 ∈ lw_u := tb1 (List.mem_of_getElem? (i := 21) (by decide +kernel)) (by decide +kernel)
theorem wd_1_22 : Cond.instantiable RX1 5 ∈ lw_u := tb1 (List.mem_of_getElem? (i := 22) (by decide +kernel)) (by decide +kernel)
theorem wd_1_23 : Cond.methodLink RX7 9 yX1_init ∈ lw_u := tb1 (List.mem_of_getElem? (i := 23) (by decide +kernel)) (by decide +kernel)
theorem wd_1_24 : Cond.instanceMethod yX1_init ∈ lw_u := tb1 (List.mem_of_getElem? (i := 24) (by decide +kernel)) (by decide +kernel)
theorem wd_1_25 : Cond.code yX1_init prog_3_method_1_code 1 (none) ∈ lw_u := tb1 (List.mem_of_getElem? (i := 25) (by decide +kernel)) (by decide +kernel)
theorem wd_1_26 : Cond.methodLink RX1 3 ⟨"java/lang/Object", "<init>", "()V"⟩ ∈ lw_u := tb1 (List.mem_of_getElem? (i := 26) (by decide +kernel)) (by decide +kernel)
theorem wd_1_27 : Cond.methodLink RX1 18 yX1_empty ∈ lw_u := tb1 (List.mem_of_getElem? (i := 27) (by decide +kernel)) (by decide +kernel)
theorem wd_1_28 : Cond.instanceMethod yX1_empty ∈ lw_u := tb1 (List.mem_of_getElem? (i := 28) (by decide +kernel)) (by decide +kernel)
theorem wd_1_29 : Cond.selects RX1 yX1_empty yX1_empty ∈ lw_u := tb1 (List.mem_of_getElem? (i := 29) (by decide +kernel)) (by decide +kernel)
theorem wd_1_30 : Cond.code yX1_empty prog_3_method_2_code 2 (none) ∈ lw_u := tb1 (List.mem_of_getElem? (i := 30) (by decide +kernel)) (by decide +kernel)
theorem wd_1_31 : Cond.fieldLink RX1 9 RX1 "owners" "[I" ∈ lw_u := tb1 (List.mem_of_getElem? (i := 31) (by decide +kernel)) (by decide +kernel)
theorem wd_1_32 : Cond.fieldLink RX5 34 RX1 "owners" "[I" ∈ lw_u := tb1 (List.mem_of_getElem? (i := 32) (by decide +kernel)) (by decide +kernel)
theorem wd_1_33 : Cond.fieldLink RX3 28 RX1 "owners" "[I" ∈ lw_u := tb1 (List.mem_of_getElem? (i := 33) (by decide +kernel)) (by decide +kernel)
theorem wd_1_34 : Cond.fieldLink RX7 138 RX1 "owners" "[I" ∈ lw_u := tb1 (List.mem_of_getElem? (i := 34) (by decide +kernel)) (by decide +kernel)
theorem wd_1_35 : Cond.fieldLink RX1 15 RX1 "boxes" "[I" ∈ lw_u := tb1 (List.mem_of_getElem? (i := 35) (by decide +kernel)) (by decide +kernel)
theorem wd_1_36 : Cond.fieldLink RX6 69 RX1 "boxes" "[I" ∈ lw_u := tb1 (List.mem_of_getElem? (i := 36) (by decide +kernel)) (by decide +kernel)
theorem wd_1_37 : Cond.fieldLink RX7 113 RX1 "boxes" "[I" ∈ lw_u := tb1 (List.mem_of_getElem? (i := 37) (by decide +kernel)) (by decide +kernel)
theorem wd_1_38 : Cond.fieldLink RX5 27 RX1 "pieces" "I" ∈ lw_u := tb1 (List.mem_of_getElem? (i := 38) (by decide +kernel)) (by decide +kernel)
theorem wd_1_39 : Cond.fieldLink RX1 21 RX1 "pieces" "I" ∈ lw_u := tb1 (List.mem_of_getElem? (i := 39) (by decide +kernel)) (by decide +kernel)
theorem wd_1_40 : Cond.fieldLink RX7 91 RX1 "pieces" "I" ∈ lw_u := tb1 (List.mem_of_getElem? (i := 40) (by decide +kernel)) (by decide +kernel)
theorem wd_1_41 : Cond.fieldLink RX1 25 RX1 "building" "I" ∈ lw_u := tb1 (List.mem_of_getElem? (i := 41) (by decide +kernel)) (by decide +kernel)
theorem wd_1_42 : Cond.fieldLink RX7 141 RX1 "building" "I" ∈ lw_u := tb1 (List.mem_of_getElem? (i := 42) (by decide +kernel)) (by decide +kernel)
theorem wd_1_43 : Cond.fieldLink RX1 28 RX1 "steps" "I" ∈ lw_u := tb1 (List.mem_of_getElem? (i := 43) (by decide +kernel)) (by decide +kernel)
theorem wd_1_44 : Cond.fieldLink RX7 249 RX1 "steps" "I" ∈ lw_u := tb1 (List.mem_of_getElem? (i := 44) (by decide +kernel)) (by decide +kernel)
theorem wd_1_56 : Cond.arrayClass FieldType.int ∈ lw_u := tb1 (List.mem_of_getElem? (i := 56) (by decide +kernel)) (by decide +kernel)
theorem wd_1_57 : Cond.classLink RX7 16 RX3 ∈ lw_u := tb1 (List.mem_of_getElem? (i := 57) (by decide +kernel)) (by decide +kernel)
theorem wd_1_58 : Cond.instantiable RX3 5 ∈ lw_u := tb1 (List.mem_of_getElem? (i := 58) (by decide +kernel)) (by decide +kernel)
theorem wd_1_59 : Cond.methodLinkNest RX7 18 yX3_init RX7 ∈ lw_tbl := List.mem_append_right _ (by first | exact List.mem_append_left _ (List.mem_of_getElem? (i := 59) (by decide +kernel)) | exact List.mem_append_right _ (List.mem_append_left _ (List.mem_of_getElem? (i := 59) (by decide +kernel))) | exact List.mem_append_right _ (List.mem_append_right _ (List.mem_append_left _ (List.mem_of_getElem? (i := 59) (by decide +kernel)))) | exact List.mem_append_right _ (List.mem_append_right _ (List.mem_append_right _ (List.mem_append_left _ (List.mem_of_getElem? (i := 59) (by decide +kernel))))))
theorem wd_1_60 : Cond.instanceMethod yX3_init ∈ lw_u := tb1 (List.mem_of_getElem? (i := 60) (by decide +kernel)) (by decide +kernel)
theorem wd_1_61 : Cond.code yX3_init prog_5_method_1_code 1 (none) ∈ lw_u := tb1 (List.mem_of_getElem? (i := 61) (by decide +kernel)) (by decide +kernel)
theorem wd_1_62 : Cond.methodLink RX3 3 ⟨"java/lang/Object", "<init>", "()V"⟩ ∈ lw_u := tb1 (List.mem_of_getElem? (i := 62) (by decide +kernel)) (by decide +kernel)
theorem wd_1_63 : Cond.fieldLink RX3 9 RX3 "cells" "[I" ∈ lw_u := tb1 (List.mem_of_getElem? (i := 63) (by decide +kernel)) (by decide +kernel)
theorem wd_1_64 : Cond.fieldLink RX7 121 RX3 "cells" "[I" ∈ lw_u := tb1 (List.mem_of_getElem? (i := 64) (by decide +kernel)) (by decide +kernel)
theorem wd_1_65 : Cond.fieldLink RX3 15 RX3 "groundCells" "[I" ∈ lw_u := tb1 (List.mem_of_getElem? (i := 65) (by decide +kernel)) (by decide +kernel)
theorem wd_1_66 : Cond.fieldLink RX7 148 RX3 "groundCells" "[I" ∈ lw_u := tb1 (List.mem_of_getElem? (i := 66) (by decide +kernel)) (by decide +kernel)
theorem wd_1_67 : Cond.fieldLink RX3 18 RX3 "smallest" "[I" ∈ lw_u := tb1 (List.mem_of_getElem? (i := 67) (by decide +kernel)) (by decide +kernel)
theorem wd_1_68 : Cond.fieldLink RX7 151 RX3 "smallest" "[I" ∈ lw_u := tb1 (List.mem_of_getElem? (i := 68) (by decide +kernel)) (by decide +kernel)
theorem wd_1_69 : Cond.fieldLink RX3 21 RX3 "greatest" "[I" ∈ lw_u := tb1 (List.mem_of_getElem? (i := 69) (by decide +kernel)) (by decide +kernel)
theorem wd_1_70 : Cond.fieldLink RX7 154 RX3 "greatest" "[I" ∈ lw_u := tb1 (List.mem_of_getElem? (i := 70) (by decide +kernel)) (by decide +kernel)
theorem wd_1_71 : Cond.fieldLink RX3 24 RX3 "allCells" "I" ∈ lw_u := tb1 (List.mem_of_getElem? (i := 71) (by decide +kernel)) (by decide +kernel)
theorem wd_1_72 : Cond.fieldLink RX7 246 RX3 "allCells" "I" ∈ lw_u := tb1 (List.mem_of_getElem? (i := 72) (by decide +kernel)) (by decide +kernel)
theorem wd_1_84 : Cond.classLink RX7 23 RX5 ∈ lw_u := tb1 (List.mem_of_getElem? (i := 84) (by decide +kernel)) (by decide +kernel)
theorem wd_1_85 : Cond.instantiable RX5 6 ∈ lw_u := tb1 (List.mem_of_getElem? (i := 85) (by decide +kernel)) (by decide +kernel)
theorem wd_1_86 : Cond.methodLinkNest RX7 25 yX5_init RX7 ∈ lw_tbl := List.mem_append_right _ (by first | exact List.mem_append_left _ (List.mem_of_getElem? (i := 86) (by decide +kernel)) | exact List.mem_append_right _ (List.mem_append_left _ (List.mem_of_getElem? (i := 86) (by decide +kernel))) | exact List.mem_append_right _ (List.mem_append_right _ (List.mem_append_left _ (List.mem_of_getElem? (i := 86) (by decide +kernel)))) | exact List.mem_append_right _ (List.mem_append_right _ (List.mem_append_right _ (List.mem_append_left _ (List.mem_of_getElem? (i := 86) (by decide +kernel))))))
theorem wd_1_87 : Cond.instanceMethod yX5_init ∈ lw_u := tb1 (List.mem_of_getElem? (i := 87) (by decide +kernel)) (by decide +kernel)
theorem wd_1_88 : Cond.code yX5_init prog_7_method_1_code 1 (none) ∈ lw_u := tb1 (List.mem_of_getElem? (i := 88) (by decide +kernel)) (by decide +kernel)
theorem wd_1_89 : Cond.methodLink RX5 3 ⟨"java/lang/Object", "<init>", "()V"⟩ ∈ lw_u := tb1 (List.mem_of_getElem? (i := 89) (by decide +kernel)) (by decide +kernel)
theorem wd_1_90 : Cond.fieldLink RX5 9 RX5 "contacts" "[I" ∈ lw_u := tb1 (List.mem_of_getElem? (i := 90) (by decide +kernel)) (by decide +kernel)
theorem wd_1_91 : Cond.fieldLink RX7 174 RX5 "contacts" "[I" ∈ lw_u := tb1 (List.mem_of_getElem? (i := 91) (by decide +kernel)) (by decide +kernel)
theorem wd_1_92 : Cond.fieldLink RX5 15 RX5 "blocking" "[I" ∈ lw_u := tb1 (List.mem_of_getElem? (i := 92) (by decide +kernel)) (by decide +kernel)
theorem wd_1_93 : Cond.fieldLink RX5 18 RX5 "touching" "[I" ∈ lw_u := tb1 (List.mem_of_getElem? (i := 93) (by decide +kernel)) (by decide +kernel)
theorem wd_1_94 : Cond.fieldLink RX5 21 RX5 "below" "[I" ∈ lw_u := tb1 (List.mem_of_getElem? (i := 94) (by decide +kernel)) (by decide +kernel)
theorem wd_1_95 : Cond.fieldLink RX5 37 RX5 "grounded" "I" ∈ lw_u := tb1 (List.mem_of_getElem? (i := 95) (by decide +kernel)) (by decide +kernel)
theorem wd_1_96 : Cond.fieldLink RX5 33 RX5 "pieces" "I" ∈ lw_u := tb1 (List.mem_of_getElem? (i := 96) (by decide +kernel)) (by decide +kernel)
theorem wd_1_97 : Cond.fieldLinkNest RX4 39 RX5 "pieces" "I" RX7 ∈ lw_tbl := List.mem_append_right _ (by first | exact List.mem_append_left _ (List.mem_of_getElem? (i := 97) (by decide +kernel)) | exact List.mem_append_right _ (List.mem_append_left _ (List.mem_of_getElem? (i := 97) (by decide +kernel))) | exact List.mem_append_right _ (List.mem_append_right _ (List.mem_append_left _ (List.mem_of_getElem? (i := 97) (by decide +kernel)))) | exact List.mem_append_right _ (List.mem_append_right _ (List.mem_append_right _ (List.mem_append_left _ (List.mem_of_getElem? (i := 97) (by decide +kernel))))))
theorem wd_1_111 : Cond.classLink RX7 30 RX4 ∈ lw_u := tb1 (List.mem_of_getElem? (i := 111) (by decide +kernel)) (by decide +kernel)
theorem wd_1_112 : Cond.instantiable RX4 9 ∈ lw_u := tb1 (List.mem_of_getElem? (i := 112) (by decide +kernel)) (by decide +kernel)
theorem wd_1_113 : Cond.methodLink RX7 32 yX4_init ∈ lw_u := tb1 (List.mem_of_getElem? (i := 113) (by decide +kernel)) (by decide +kernel)
theorem wd_1_114 : Cond.instanceMethod yX4_init ∈ lw_u := tb1 (List.mem_of_getElem? (i := 114) (by decide +kernel)) (by decide +kernel)
theorem wd_1_115 : Cond.code yX4_init prog_6_method_1_code 2 (none) ∈ lw_u := tb1 (List.mem_of_getElem? (i := 115) (by decide +kernel)) (by decide +kernel)
theorem wd_1_116 : Cond.methodLink RX4 3 ⟨"java/lang/Object", "<init>", "()V"⟩ ∈ lw_u := tb1 (List.mem_of_getElem? (i := 116) (by decide +kernel)) (by decide +kernel)
theorem wd_1_117 : Cond.fieldLink RX4 9 RX4 "orderCounts" "[I" ∈ lw_u := tb1 (List.mem_of_getElem? (i := 117) (by decide +kernel)) (by decide +kernel)
theorem wd_1_118 : Cond.fieldLink RX7 191 RX4 "orderCounts" "[I" ∈ lw_u := tb1 (List.mem_of_getElem? (i := 118) (by decide +kernel)) (by decide +kernel)
theorem wd_1_119 : Cond.fieldLink RX4 15 RX4 "fewest" "[I" ∈ lw_u := tb1 (List.mem_of_getElem? (i := 119) (by decide +kernel)) (by decide +kernel)
theorem wd_1_120 : Cond.fieldLink RX7 194 RX4 "fewest" "[I" ∈ lw_u := tb1 (List.mem_of_getElem? (i := 120) (by decide +kernel)) (by decide +kernel)
theorem wd_1_121 : Cond.fieldLink RX4 18 RX4 "planPieces" "[I" ∈ lw_u := tb1 (List.mem_of_getElem? (i := 121) (by decide +kernel)) (by decide +kernel)
theorem wd_1_122 : Cond.fieldLink RX7 206 RX4 "planPieces" "[I" ∈ lw_u := tb1 (List.mem_of_getElem? (i := 122) (by decide +kernel)) (by decide +kernel)
theorem wd_1_123 : Cond.fieldLink RX4 21 RX4 "planWays" "[I" ∈ lw_u := tb1 (List.mem_of_getElem? (i := 123) (by decide +kernel)) (by decide +kernel)
theorem wd_1_124 : Cond.fieldLink RX7 203 RX4 "planWays" "[I" ∈ lw_u := tb1 (List.mem_of_getElem? (i := 124) (by decide +kernel)) (by decide +kernel)
theorem wd_1_125 : Cond.fieldLink RX4 64 RX4 "planSize" "I" ∈ lw_u := tb1 (List.mem_of_getElem? (i := 125) (by decide +kernel)) (by decide +kernel)
theorem wd_1_126 : Cond.fieldLink RX7 200 RX4 "planSize" "I" ∈ lw_u := tb1 (List.mem_of_getElem? (i := 126) (by decide +kernel)) (by decide +kernel)
theorem wd_1_127 : Cond.fieldLink RX4 35 RX4 "relations" "LFrameRaiser$Relations;" ∈ lw_u := tb1 (List.mem_of_getElem? (i := 127) (by decide +kernel)) (by decide +kernel)
theorem wd_1_128 : Cond.fieldLink RX4 24 RX4 "propCounts" "[I" ∈ lw_u := tb1 (List.mem_of_getElem? (i := 128) (by decide +kernel)) (by decide +kernel)
theorem wd_1_129 : Cond.fieldLink RX4 27 RX4 "leadsOn" "[Z" ∈ lw_u := tb1 (List.mem_of_getElem? (i := 129) (by decide +kernel)) (by decide +kernel)
theorem wd_1_130 : Cond.fieldLink RX4 31 RX4 "plannedSet" "I" ∈ lw_u := tb1 (List.mem_of_getElem? (i := 130) (by decide +kernel)) (by decide +kernel)
theorem wd_1_151 : Cond.classLink RX7 39 RX2 ∈ lw_u := tb1 (List.mem_of_getElem? (i := 151) (by decide +kernel)) (by decide +kernel)
theorem wd_1_152 : Cond.instantiable RX2 3 ∈ lw_u := tb1 (List.mem_of_getElem? (i := 152) (by decide +kernel)) (by decide +kernel)
theorem wd_1_153 : Cond.methodLink RX7 41 yX2_init ∈ lw_u := tb1 (List.mem_of_getElem? (i := 153) (by decide +kernel)) (by decide +kernel)
theorem wd_1_154 : Cond.instanceMethod yX2_init ∈ lw_u := tb1 (List.mem_of_getElem? (i := 154) (by decide +kernel)) (by decide +kernel)
theorem wd_1_155 : Cond.code yX2_init prog_4_method_1_code 2 (none) ∈ lw_u := tb1 (List.mem_of_getElem? (i := 155) (by decide +kernel)) (by decide +kernel)
theorem wd_1_156 : Cond.methodLink RX2 3 ⟨"java/lang/Object", "<init>", "()V"⟩ ∈ lw_u := tb1 (List.mem_of_getElem? (i := 156) (by decide +kernel)) (by decide +kernel)
theorem wd_1_157 : Cond.classLink RX2 9 RX1 ∈ lw_u := tb1 (List.mem_of_getElem? (i := 157) (by decide +kernel)) (by decide +kernel)
theorem wd_1_158 : Cond.arrayOver (FieldType.object "FrameRaiser$Frame") ∈ lw_tbl := List.mem_append_right _ (by first | exact List.mem_append_left _ (List.mem_of_getElem? (i := 158) (by decide +kernel)) | exact List.mem_append_right _ (List.mem_append_left _ (List.mem_of_getElem? (i := 158) (by decide +kernel))) | exact List.mem_append_right _ (List.mem_append_right _ (List.mem_append_left _ (List.mem_of_getElem? (i := 158) (by decide +kernel)))) | exact List.mem_append_right _ (List.mem_append_right _ (List.mem_append_right _ (List.mem_append_left _ (List.mem_of_getElem? (i := 158) (by decide +kernel))))))
theorem wd_1_159 : Cond.methodLink RX2 17 yX1_init ∈ lw_u := tb1 (List.mem_of_getElem? (i := 159) (by decide +kernel)) (by decide +kernel)
theorem wd_1_160 : Cond.fieldLink RX2 22 RX2 "size" "I" ∈ lw_u := tb1 (List.mem_of_getElem? (i := 160) (by decide +kernel)) (by decide +kernel)
theorem wd_1_161 : Cond.fieldLink RX7 240 RX2 "size" "I" ∈ lw_u := tb1 (List.mem_of_getElem? (i := 161) (by decide +kernel)) (by decide +kernel)
theorem wd_1_162 : Cond.fieldLink RX2 11 RX2 "states" "[LFrameRaiser$Frame;" ∈ lw_u := tb1 (List.mem_of_getElem? (i := 162) (by decide +kernel)) (by decide +kernel)
theorem wd_1_163 : Cond.fieldLink RX2 18 RX2 "oldest" "I" ∈ lw_u := tb1 (List.mem_of_getElem? (i := 163) (by decide +kernel)) (by decide +kernel)
theorem wd_1_171 : Cond.classLink RX7 46 RX6 ∈ lw_u := tb1 (List.mem_of_getElem? (i := 171) (by decide +kernel)) (by decide +kernel)
theorem wd_1_172 : Cond.instantiable RX6 7 ∈ lw_u := tb1 (List.mem_of_getElem? (i := 172) (by decide +kernel)) (by decide +kernel)
theorem wd_1_173 : Cond.methodLinkNest RX7 48 yX6_init RX7 ∈ lw_tbl := List.mem_append_right _ (by first | exact List.mem_append_left _ (List.mem_of_getElem? (i := 173) (by decide +kernel)) | exact List.mem_append_right _ (List.mem_append_left _ (List.mem_of_getElem? (i := 173) (by decide +kernel))) | exact List.mem_append_right _ (List.mem_append_right _ (List.mem_append_left _ (List.mem_of_getElem? (i := 173) (by decide +kernel)))) | exact List.mem_append_right _ (List.mem_append_right _ (List.mem_append_right _ (List.mem_append_left _ (List.mem_of_getElem? (i := 173) (by decide +kernel))))))
theorem wd_1_174 : Cond.instanceMethod yX6_init ∈ lw_u := tb1 (List.mem_of_getElem? (i := 174) (by decide +kernel)) (by decide +kernel)
theorem wd_1_175 : Cond.code yX6_init prog_8_method_1_code 1 (none) ∈ lw_u := tb1 (List.mem_of_getElem? (i := 175) (by decide +kernel)) (by decide +kernel)
theorem wd_1_176 : Cond.methodLink RX6 3 ⟨"java/lang/Object", "<init>", "()V"⟩ ∈ lw_u := tb1 (List.mem_of_getElem? (i := 176) (by decide +kernel)) (by decide +kernel)
theorem wd_1_177 : Cond.classLink RX6 15 RX0 ∈ lw_u := tb1 (List.mem_of_getElem? (i := 177) (by decide +kernel)) (by decide +kernel)
theorem wd_1_178 : Cond.instantiable RX0 1 ∈ lw_u := tb1 (List.mem_of_getElem? (i := 178) (by decide +kernel)) (by decide +kernel)
theorem wd_1_179 : Cond.methodLinkNest RX6 17 yX0_init RX7 ∈ lw_tbl := List.mem_append_right _ (by first | exact List.mem_append_left _ (List.mem_of_getElem? (i := 179) (by decide +kernel)) | exact List.mem_append_right _ (List.mem_append_left _ (List.mem_of_getElem? (i := 179) (by decide +kernel))) | exact List.mem_append_right _ (List.mem_append_right _ (List.mem_append_left _ (List.mem_of_getElem? (i := 179) (by decide +kernel)))) | exact List.mem_append_right _ (List.mem_append_right _ (List.mem_append_right _ (List.mem_append_left _ (List.mem_of_getElem? (i := 179) (by decide +kernel))))))
theorem wd_1_180 : Cond.instanceMethod yX0_init ∈ lw_u := tb1 (List.mem_of_getElem? (i := 180) (by decide +kernel)) (by decide +kernel)
theorem wd_1_181 : Cond.code yX0_init prog_2_method_1_code 1 (none) ∈ lw_u := tb1 (List.mem_of_getElem? (i := 181) (by decide +kernel)) (by decide +kernel)
theorem wd_1_182 : Cond.methodLink RX0 3 ⟨"java/lang/Object", "<init>", "()V"⟩ ∈ lw_u := tb1 (List.mem_of_getElem? (i := 182) (by decide +kernel)) (by decide +kernel)
theorem wd_1_183 : Cond.fieldLink RX0 11 RX0 "numbers" "[I" ∈ lw_u := tb1 (List.mem_of_getElem? (i := 183) (by decide +kernel)) (by decide +kernel)
theorem wd_1_187 : Cond.fieldLink RX6 22 RX6 "length" "I" ∈ lw_u := tb1 (List.mem_of_getElem? (i := 187) (by decide +kernel)) (by decide +kernel)
theorem wd_1_188 : Cond.fieldLink RX7 66 RX6 "length" "I" ∈ lw_u := tb1 (List.mem_of_getElem? (i := 188) (by decide +kernel)) (by decide +kernel)
theorem wd_1_189 : Cond.fieldLink RX6 44 RX6 "fault" "I" ∈ lw_u := tb1 (List.mem_of_getElem? (i := 189) (by decide +kernel)) (by decide +kernel)
theorem wd_1_190 : Cond.fieldLink RX7 78 RX6 "fault" "I" ∈ lw_u := tb1 (List.mem_of_getElem? (i := 190) (by decide +kernel)) (by decide +kernel)
theorem wd_1_191 : Cond.fieldLink RX6 9 RX6 "codes" "[I" ∈ lw_u := tb1 (List.mem_of_getElem? (i := 191) (by decide +kernel)) (by decide +kernel)
theorem wd_1_192 : Cond.fieldLink RX6 18 RX6 "box" "LFrameRaiser$Box;" ∈ lw_u := tb1 (List.mem_of_getElem? (i := 192) (by decide +kernel)) (by decide +kernel)
theorem wd_1_193 : Cond.fieldLink RX6 31 RX6 "place" "I" ∈ lw_u := tb1 (List.mem_of_getElem? (i := 193) (by decide +kernel)) (by decide +kernel)
theorem wd_1_194 : Cond.fieldLink RX6 34 RX6 "digits" "I" ∈ lw_u := tb1 (List.mem_of_getElem? (i := 194) (by decide +kernel)) (by decide +kernel)
theorem wd_1_195 : Cond.fieldLink RX6 37 RX6 "piece" "I" ∈ lw_u := tb1 (List.mem_of_getElem? (i := 195) (by decide +kernel)) (by decide +kernel)
theorem wd_1_211 : Cond.classLink RX7 53 RX0 ∈ lw_u := tb1 (List.mem_of_getElem? (i := 211) (by decide +kernel)) (by decide +kernel)
theorem wd_1_212 : Cond.methodLinkNest RX7 55 yX0_init RX7 ∈ lw_tbl := List.mem_append_right _ (by first | exact List.mem_append_left _ (List.mem_of_getElem? (i := 212) (by decide +kernel)) | exact List.mem_append_right _ (List.mem_append_left _ (List.mem_of_getElem? (i := 212) (by decide +kernel))) | exact List.mem_append_right _ (List.mem_append_right _ (List.mem_append_left _ (List.mem_of_getElem? (i := 212) (by decide +kernel)))) | exact List.mem_append_right _ (List.mem_append_right _ (List.mem_append_right _ (List.mem_append_left _ (List.mem_of_getElem? (i := 212) (by decide +kernel))))))
theorem wd_1_213 : Cond.fieldLink RX7 10 RX7 "frame" "LFrameRaiser$Frame;" ∈ lw_u := tb1 (List.mem_of_getElem? (i := 213) (by decide +kernel)) (by decide +kernel)
theorem wd_1_214 : Cond.fieldLink RX7 19 RX7 "measures" "LFrameRaiser$Measures;" ∈ lw_u := tb1 (List.mem_of_getElem? (i := 214) (by decide +kernel)) (by decide +kernel)
theorem wd_1_215 : Cond.fieldLink RX7 26 RX7 "relations" "LFrameRaiser$Relations;" ∈ lw_u := tb1 (List.mem_of_getElem? (i := 215) (by decide +kernel)) (by decide +kernel)
theorem wd_1_216 : Cond.fieldLink RX7 35 RX7 "planner" "LFrameRaiser$Planner;" ∈ lw_u := tb1 (List.mem_of_getElem? (i := 216) (by decide +kernel)) (by decide +kernel)
theorem wd_1_217 : Cond.fieldLink RX7 42 RX7 "history" "LFrameRaiser$History;" ∈ lw_u := tb1 (List.mem_of_getElem? (i := 217) (by decide +kernel)) (by decide +kernel)
theorem wd_1_218 : Cond.fieldLink RX7 49 RX7 "text" "LFrameRaiser$Text;" ∈ lw_u := tb1 (List.mem_of_getElem? (i := 218) (by decide +kernel)) (by decide +kernel)
theorem wd_1_219 : Cond.fieldLink RX7 56 RX7 "box" "LFrameRaiser$Box;" ∈ lw_u := tb1 (List.mem_of_getElem? (i := 219) (by decide +kernel)) (by decide +kernel)
theorem wd_1_220 : Cond.fieldLink RX7 60 RX7 "trialFrame" "LFrameRaiser$Frame;" ∈ lw_u := tb1 (List.mem_of_getElem? (i := 220) (by decide +kernel)) (by decide +kernel)
theorem wd_1_221 : Cond.fieldLink RX7 63 RX7 "trialRelations" "LFrameRaiser$Relations;" ∈ lw_u := tb1 (List.mem_of_getElem? (i := 221) (by decide +kernel)) (by decide +kernel)
theorem wd_1_222 : Cond.fieldLink RX7 297 RX7 "measured" "Z" ∈ lw_u := tb1 (List.mem_of_getElem? (i := 222) (by decide +kernel)) (by decide +kernel)
theorem wd_1_223 : Cond.fieldLink RX7 301 RX7 "related" "Z" ∈ lw_u := tb1 (List.mem_of_getElem? (i := 223) (by decide +kernel)) (by decide +kernel)
theorem wd_1_224 : Cond.fieldLink RX7 304 RX7 "tabled" "Z" ∈ lw_u := tb1 (List.mem_of_getElem? (i := 224) (by decide +kernel)) (by decide +kernel)
theorem wd_2_10 : Cond.methodLink RL 13 yX7_type ∈ lw_u := tb2 (List.mem_of_getElem? (i := 10) (by decide +kernel)) (by decide +kernel)
theorem wd_2_11 : Cond.instanceMethod yX7_type ∈ lw_u := tb2 (List.mem_of_getElem? (i := 11) (by decide +kernel)) (by decide +kernel)
theorem wd_2_12 : Cond.selects RX7 yX7_type yX7_type ∈ lw_u := tb2 (List.mem_of_getElem? (i := 12) (by decide +kernel)) (by decide +kernel)
theorem wd_2_13 : Cond.code yX7_type prog_1_method_2_code 2 (some FieldType.int) ∈ lw_u := tb2 (List.mem_of_getElem? (i := 13) (by decide +kernel)) (by decide +kernel)
theorem wd_2_14 : Cond.methodLink RX7 70 yX6_append ∈ lw_u := tb2 (List.mem_of_getElem? (i := 14) (by decide +kernel)) (by decide +kernel)
theorem wd_2_15 : Cond.instanceMethod yX6_append ∈ lw_u := tb2 (List.mem_of_getElem? (i := 15) (by decide +kernel)) (by decide +kernel)
theorem wd_2_16 : Cond.selects RX6 yX6_append yX6_append ∈ lw_u := tb2 (List.mem_of_getElem? (i := 16) (by decide +kernel)) (by decide +kernel)
theorem wd_2_17 : Cond.code yX6_append prog_8_method_2_code 2 (none) ∈ lw_u := tb2 (List.mem_of_getElem? (i := 17) (by decide +kernel)) (by decide +kernel)
theorem wd_2_18 : Cond.methodLink RL 18 yX7_clearText ∈ lw_u := tb2 (List.mem_of_getElem? (i := 18) (by decide +kernel)) (by decide +kernel)
theorem wd_2_19 : Cond.instanceMethod yX7_clearText ∈ lw_u := tb2 (List.mem_of_getElem? (i := 19) (by decide +kernel)) (by decide +kernel)
theorem wd_2_20 : Cond.selects RX7 yX7_clearText yX7_clearText ∈ lw_u := tb2 (List.mem_of_getElem? (i := 20) (by decide +kernel)) (by decide +kernel)
theorem wd_2_21 : Cond.code yX7_clearText prog_1_method_3_code 2 (some FieldType.int) ∈ lw_u := tb2 (List.mem_of_getElem? (i := 21) (by decide +kernel)) (by decide +kernel)
theorem wd_2_22 : Cond.methodLink RL 23 yX7_load ∈ lw_u := tb2 (List.mem_of_getElem? (i := 22) (by decide +kernel)) (by decide +kernel)
theorem wd_2_23 : Cond.instanceMethod yX7_load ∈ lw_u := tb2 (List.mem_of_getElem? (i := 23) (by decide +kernel)) (by decide +kernel)
theorem wd_2_24 : Cond.selects RX7 yX7_load yX7_load ∈ lw_u := tb2 (List.mem_of_getElem? (i := 24) (by decide +kernel)) (by decide +kernel)
theorem wd_2_25 : Cond.code yX7_load prog_1_method_4_code 2 (some FieldType.int) ∈ lw_u := tb2 (List.mem_of_getElem? (i := 25) (by decide +kernel)) (by decide +kernel)
theorem wd_2_26 : Cond.methodLink RX7 74 yX6_readInto ∈ lw_u := tb2 (List.mem_of_getElem? (i := 26) (by decide +kernel)) (by decide +kernel)
theorem wd_2_27 : Cond.instanceMethod yX6_readInto ∈ lw_u := tb2 (List.mem_of_getElem? (i := 27) (by decide +kernel)) (by decide +kernel)
theorem wd_2_28 : Cond.selects RX6 yX6_readInto yX6_readInto ∈ lw_u := tb2 (List.mem_of_getElem? (i := 28) (by decide +kernel)) (by decide +kernel)
theorem wd_2_29 : Cond.code yX6_readInto prog_8_method_3_code 3 (some FieldType.int) ∈ lw_u := tb2 (List.mem_of_getElem? (i := 29) (by decide +kernel)) (by decide +kernel)
theorem wd_2_30 : Cond.methodLink RX6 26 yX1_empty ∈ lw_u := tb2 (List.mem_of_getElem? (i := 30) (by decide +kernel)) (by decide +kernel)
theorem wd_2_31 : Cond.methodLink RX6 40 yX6_readSign ∈ lw_u := tb2 (List.mem_of_getElem? (i := 31) (by decide +kernel)) (by decide +kernel)
theorem wd_2_33 : Cond.instanceMethod yX6_readSign ∈ lw_u := tb2 (List.mem_of_getElem? (i := 33) (by decide +kernel)) (by decide +kernel)
theorem wd_2_34 : Cond.code yX6_readSign prog_8_method_4_code 3 (some FieldType.int) ∈ lw_u := tb2 (List.mem_of_getElem? (i := 34) (by decide +kernel)) (by decide +kernel)
theorem wd_2_35 : Cond.methodLink RX6 47 yX6_readSeparator ∈ lw_u := tb2 (List.mem_of_getElem? (i := 35) (by decide +kernel)) (by decide +kernel)
theorem wd_2_37 : Cond.instanceMethod yX6_readSeparator ∈ lw_u := tb2 (List.mem_of_getElem? (i := 37) (by decide +kernel)) (by decide +kernel)
theorem wd_2_38 : Cond.code yX6_readSeparator prog_8_method_6_code 4 (some FieldType.int) ∈ lw_u := tb2 (List.mem_of_getElem? (i := 38) (by decide +kernel)) (by decide +kernel)
theorem wd_2_39 : Cond.methodLink RX6 65 yX6_beginPiece ∈ lw_u := tb2 (List.mem_of_getElem? (i := 39) (by decide +kernel)) (by decide +kernel)
theorem wd_2_41 : Cond.instanceMethod yX6_beginPiece ∈ lw_u := tb2 (List.mem_of_getElem? (i := 41) (by decide +kernel)) (by decide +kernel)
theorem wd_2_42 : Cond.code yX6_beginPiece prog_8_method_7_code 1 (some FieldType.int) ∈ lw_u := tb2 (List.mem_of_getElem? (i := 42) (by decide +kernel)) (by decide +kernel)
theorem wd_2_43 : Cond.methodLink RX6 50 yX6_readDigit ∈ lw_u := tb2 (List.mem_of_getElem? (i := 43) (by decide +kernel)) (by decide +kernel)
theorem wd_2_45 : Cond.instanceMethod yX6_readDigit ∈ lw_u := tb2 (List.mem_of_getElem? (i := 45) (by decide +kernel)) (by decide +kernel)
theorem wd_2_46 : Cond.code yX6_readDigit prog_8_method_5_code 3 (some FieldType.int) ∈ lw_u := tb2 (List.mem_of_getElem? (i := 46) (by decide +kernel)) (by decide +kernel)
theorem wd_2_47 : Cond.methodLink RX6 53 yX0_take ∈ lw_u := tb2 (List.mem_of_getElem? (i := 47) (by decide +kernel)) (by decide +kernel)
theorem wd_2_48 : Cond.instanceMethod yX0_take ∈ lw_u := tb2 (List.mem_of_getElem? (i := 48) (by decide +kernel)) (by decide +kernel)
theorem wd_2_49 : Cond.selects RX0 yX0_take yX0_take ∈ lw_u := tb2 (List.mem_of_getElem? (i := 49) (by decide +kernel)) (by decide +kernel)
theorem wd_2_50 : Cond.code yX0_take prog_2_method_3_code 5 (some FieldType.boolean) ∈ lw_u := tb2 (List.mem_of_getElem? (i := 50) (by decide +kernel)) (by decide +kernel)
theorem wd_2_51 : Cond.methodLink RX6 57 yX1_meetsOther ∈ lw_u := tb2 (List.mem_of_getElem? (i := 51) (by decide +kernel)) (by decide +kernel)
theorem wd_2_52 : Cond.instanceMethod yX1_meetsOther ∈ lw_u := tb2 (List.mem_of_getElem? (i := 52) (by decide +kernel)) (by decide +kernel)
theorem wd_2_53 : Cond.selects RX1 yX1_meetsOther yX1_meetsOther ∈ lw_u := tb2 (List.mem_of_getElem? (i := 53) (by decide +kernel)) (by decide +kernel)
theorem wd_2_54 : Cond.code yX1_meetsOther prog_3_method_4_code 5 (some FieldType.boolean) ∈ lw_u := tb2 (List.mem_of_getElem? (i := 54) (by decide +kernel)) (by decide +kernel)
theorem wd_2_55 : Cond.methodLink RX1 37 yX0_contains ∈ lw_u := tb2 (List.mem_of_getElem? (i := 55) (by decide +kernel)) (by decide +kernel)
theorem wd_2_56 : Cond.instanceMethod yX0_contains ∈ lw_u := tb2 (List.mem_of_getElem? (i := 56) (by decide +kernel)) (by decide +kernel)
theorem wd_2_57 : Cond.selects RX0 yX0_contains yX0_contains ∈ lw_u := tb2 (List.mem_of_getElem? (i := 57) (by decide +kernel)) (by decide +kernel)
theorem wd_2_58 : Cond.code yX0_contains prog_2_method_4_code 4 (some FieldType.boolean) ∈ lw_u := tb2 (List.mem_of_getElem? (i := 58) (by decide +kernel)) (by decide +kernel)
theorem wd_2_59 : Cond.methodLinkNest RX0 19 yX7_coordinate RX7 ∈ lw_tbl := List.mem_append_right _ (by first | exact List.mem_append_left _ (List.mem_of_getElem? (i := 59) (by decide +kernel)) | exact List.mem_append_right _ (List.mem_append_left _ (List.mem_of_getElem? (i := 59) (by decide +kernel))) | exact List.mem_append_right _ (List.mem_append_right _ (List.mem_append_left _ (List.mem_of_getElem? (i := 59) (by decide +kernel)))) | exact List.mem_append_right _ (List.mem_append_right _ (List.mem_append_right _ (List.mem_append_left _ (List.mem_of_getElem? (i := 59) (by decide +kernel))))))
theorem wd_2_60 : Cond.static yX7_coordinate ∈ lw_u := tb2 (List.mem_of_getElem? (i := 60) (by decide +kernel)) (by decide +kernel)
theorem wd_2_61 : Cond.code yX7_coordinate prog_1_method_45_code 2 (some FieldType.int) ∈ lw_u := tb2 (List.mem_of_getElem? (i := 61) (by decide +kernel)) (by decide +kernel)
theorem wd_2_62 : Cond.methodLink RX6 61 yX1_addBox ∈ lw_u := tb2 (List.mem_of_getElem? (i := 62) (by decide +kernel)) (by decide +kernel)
theorem wd_2_63 : Cond.instanceMethod yX1_addBox ∈ lw_u := tb2 (List.mem_of_getElem? (i := 63) (by decide +kernel)) (by decide +kernel)
theorem wd_2_64 : Cond.selects RX1 yX1_addBox yX1_addBox ∈ lw_u := tb2 (List.mem_of_getElem? (i := 64) (by decide +kernel)) (by decide +kernel)
theorem wd_2_65 : Cond.code yX1_addBox prog_3_method_5_code 4 (none) ∈ lw_u := tb2 (List.mem_of_getElem? (i := 65) (by decide +kernel)) (by decide +kernel)
theorem wd_2_66 : Cond.methodLink RX7 81 yX2_record ∈ lw_u := tb2 (List.mem_of_getElem? (i := 66) (by decide +kernel)) (by decide +kernel)
theorem wd_2_67 : Cond.instanceMethod yX2_record ∈ lw_u := tb2 (List.mem_of_getElem? (i := 67) (by decide +kernel)) (by decide +kernel)
theorem wd_2_68 : Cond.selects RX2 yX2_record yX2_record ∈ lw_u := tb2 (List.mem_of_getElem? (i := 68) (by decide +kernel)) (by decide +kernel)
theorem wd_2_69 : Cond.code yX2_record prog_4_method_2_code 2 (none) ∈ lw_u := tb2 (List.mem_of_getElem? (i := 69) (by decide +kernel)) (by decide +kernel)
theorem wd_2_70 : Cond.methodLink RX2 25 yX1_copyFrom ∈ lw_u := tb2 (List.mem_of_getElem? (i := 70) (by decide +kernel)) (by decide +kernel)
theorem wd_2_71 : Cond.instanceMethod yX1_copyFrom ∈ lw_u := tb2 (List.mem_of_getElem? (i := 71) (by decide +kernel)) (by decide +kernel)
theorem wd_2_72 : Cond.selects RX1 yX1_copyFrom yX1_copyFrom ∈ lw_u := tb2 (List.mem_of_getElem? (i := 72) (by decide +kernel)) (by decide +kernel)
theorem wd_2_73 : Cond.code yX1_copyFrom prog_3_method_3_code 2 (none) ∈ lw_u := tb2 (List.mem_of_getElem? (i := 73) (by decide +kernel)) (by decide +kernel)
theorem wd_2_74 : Cond.methodLink RX1 31 ⟨"java/lang/System", "arraycopy", "(Ljava/lang/Object;ILjava/lang/Object;II)V"⟩ ∈ lw_u := tb2 (List.mem_of_getElem? (i := 74) (by decide +kernel)) (by decide +kernel)
theorem wd_2_75 : Cond.static ⟨"java/lang/System", "arraycopy", "(Ljava/lang/Object;ILjava/lang/Object;II)V"⟩ ∈ lw_u := tb2 (List.mem_of_getElem? (i := 75) (by decide +kernel)) (by decide +kernel)
theorem wd_2_76 : Cond.native ⟨"java/lang/System", "arraycopy", "(Ljava/lang/Object;ILjava/lang/Object;II)V"⟩ ∈ lw_u := tb2 (List.mem_of_getElem? (i := 76) (by decide +kernel)) (by decide +kernel)
theorem wd_2_77 : Cond.methodLink RX7 85 yX1_copyFrom ∈ lw_u := tb2 (List.mem_of_getElem? (i := 77) (by decide +kernel)) (by decide +kernel)
theorem wd_2_78 : Cond.methodLink RX7 88 yX7_forgetPieces ∈ lw_u := tb2 (List.mem_of_getElem? (i := 78) (by decide +kernel)) (by decide +kernel)
theorem wd_2_80 : Cond.instanceMethod yX7_forgetPieces ∈ lw_u := tb2 (List.mem_of_getElem? (i := 80) (by decide +kernel)) (by decide +kernel)
theorem wd_2_81 : Cond.code yX7_forgetPieces prog_1_method_38_code 1 (none) ∈ lw_u := tb2 (List.mem_of_getElem? (i := 81) (by decide +kernel)) (by decide +kernel)
theorem wd_2_82 : Cond.methodLink RL 27 yX7_faultKind ∈ lw_u := tb2 (List.mem_of_getElem? (i := 82) (by decide +kernel)) (by decide +kernel)
theorem wd_2_83 : Cond.instanceMethod yX7_faultKind ∈ lw_u := tb2 (List.mem_of_getElem? (i := 83) (by decide +kernel)) (by decide +kernel)
theorem wd_2_84 : Cond.selects RX7 yX7_faultKind yX7_faultKind ∈ lw_u := tb2 (List.mem_of_getElem? (i := 84) (by decide +kernel)) (by decide +kernel)
theorem wd_2_85 : Cond.code yX7_faultKind prog_1_method_5_code 1 (some FieldType.int) ∈ lw_u := tb2 (List.mem_of_getElem? (i := 85) (by decide +kernel)) (by decide +kernel)
theorem wd_2_86 : Cond.methodLink RL 31 yX7_clear ∈ lw_u := tb2 (List.mem_of_getElem? (i := 86) (by decide +kernel)) (by decide +kernel)
theorem wd_2_87 : Cond.instanceMethod yX7_clear ∈ lw_u := tb2 (List.mem_of_getElem? (i := 87) (by decide +kernel)) (by decide +kernel)
theorem wd_2_88 : Cond.selects RX7 yX7_clear yX7_clear ∈ lw_u := tb2 (List.mem_of_getElem? (i := 88) (by decide +kernel)) (by decide +kernel)
theorem wd_2_89 : Cond.code yX7_clear prog_1_method_6_code 2 (some FieldType.int) ∈ lw_u := tb2 (List.mem_of_getElem? (i := 89) (by decide +kernel)) (by decide +kernel)
theorem wd_2_90 : Cond.methodLink RX7 94 yX1_empty ∈ lw_u := tb2 (List.mem_of_getElem? (i := 90) (by decide +kernel)) (by decide +kernel)
theorem wd_2_91 : Cond.methodLink RL 35 yX7_addPiece ∈ lw_u := tb2 (List.mem_of_getElem? (i := 91) (by decide +kernel)) (by decide +kernel)
theorem wd_2_92 : Cond.instanceMethod yX7_addPiece ∈ lw_u := tb2 (List.mem_of_getElem? (i := 92) (by decide +kernel)) (by decide +kernel)
theorem wd_2_93 : Cond.selects RX7 yX7_addPiece yX7_addPiece ∈ lw_u := tb2 (List.mem_of_getElem? (i := 93) (by decide +kernel)) (by decide +kernel)
theorem wd_2_94 : Cond.code yX7_addPiece prog_1_method_7_code 7 (some FieldType.int) ∈ lw_u := tb2 (List.mem_of_getElem? (i := 94) (by decide +kernel)) (by decide +kernel)
theorem wd_2_95 : Cond.methodLink RX7 97 yX0_takeAll ∈ lw_u := tb2 (List.mem_of_getElem? (i := 95) (by decide +kernel)) (by decide +kernel)
theorem wd_2_96 : Cond.instanceMethod yX0_takeAll ∈ lw_u := tb2 (List.mem_of_getElem? (i := 96) (by decide +kernel)) (by decide +kernel)
theorem wd_2_97 : Cond.selects RX0 yX0_takeAll yX0_takeAll ∈ lw_u := tb2 (List.mem_of_getElem? (i := 97) (by decide +kernel)) (by decide +kernel)
theorem wd_2_98 : Cond.code yX0_takeAll prog_2_method_2_code 7 (some FieldType.boolean) ∈ lw_u := tb2 (List.mem_of_getElem? (i := 98) (by decide +kernel)) (by decide +kernel)
theorem wd_2_99 : Cond.methodLink RX0 15 yX0_take ∈ lw_u := tb2 (List.mem_of_getElem? (i := 99) (by decide +kernel)) (by decide +kernel)
theorem wd_2_100 : Cond.methodLink RX7 101 yX1_meetsOther ∈ lw_u := tb2 (List.mem_of_getElem? (i := 100) (by decide +kernel)) (by decide +kernel)
theorem wd_2_101 : Cond.methodLink RX7 105 yX1_addBox ∈ lw_u := tb2 (List.mem_of_getElem? (i := 101) (by decide +kernel)) (by decide +kernel)
theorem wd_2_102 : Cond.methodLink RL 40 yX7_extend ∈ lw_u := tb2 (List.mem_of_getElem? (i := 102) (by decide +kernel)) (by decide +kernel)
theorem wd_2_103 : Cond.instanceMethod yX7_extend ∈ lw_u := tb2 (List.mem_of_getElem? (i := 103) (by decide +kernel)) (by decide +kernel)
theorem wd_2_104 : Cond.selects RX7 yX7_extend yX7_extend ∈ lw_u := tb2 (List.mem_of_getElem? (i := 104) (by decide +kernel)) (by decide +kernel)
theorem wd_2_105 : Cond.code yX7_extend prog_1_method_8_code 8 (some FieldType.int) ∈ lw_u := tb2 (List.mem_of_getElem? (i := 105) (by decide +kernel)) (by decide +kernel)
theorem wd_2_106 : Cond.methodLink RX7 109 yX7_isPiece ∈ lw_u := tb2 (List.mem_of_getElem? (i := 106) (by decide +kernel)) (by decide +kernel)
theorem wd_2_108 : Cond.instanceMethod yX7_isPiece ∈ lw_u := tb2 (List.mem_of_getElem? (i := 108) (by decide +kernel)) (by decide +kernel)
theorem wd_2_109 : Cond.code yX7_isPiece prog_1_method_35_code 2 (some FieldType.boolean) ∈ lw_u := tb2 (List.mem_of_getElem? (i := 109) (by decide +kernel)) (by decide +kernel)
theorem wd_2_110 : Cond.methodLink RX7 117 yX7_knownMeasures ∈ lw_u := tb2 (List.mem_of_getElem? (i := 110) (by decide +kernel)) (by decide +kernel)
theorem wd_2_112 : Cond.instanceMethod yX7_knownMeasures ∈ lw_u := tb2 (List.mem_of_getElem? (i := 112) (by decide +kernel)) (by decide +kernel)
theorem wd_2_113 : Cond.code yX7_knownMeasures prog_1_method_39_code 1 (some (FieldType.object "FrameRaiser$Measures")) ∈ lw_u := tb2 (List.mem_of_getElem? (i := 113) (by decide +kernel)) (by decide +kernel)
theorem wd_2_114 : Cond.methodLink RX7 307 yX3_read ∈ lw_u := tb2 (List.mem_of_getElem? (i := 114) (by decide +kernel)) (by decide +kernel)
theorem wd_2_115 : Cond.instanceMethod yX3_read ∈ lw_u := tb2 (List.mem_of_getElem? (i := 115) (by decide +kernel)) (by decide +kernel)
theorem wd_2_116 : Cond.selects RX3 yX3_read yX3_read ∈ lw_u := tb2 (List.mem_of_getElem? (i := 116) (by decide +kernel)) (by decide +kernel)
theorem wd_2_117 : Cond.code yX3_read prog_5_method_2_code 3 (none) ∈ lw_u := tb2 (List.mem_of_getElem? (i := 117) (by decide +kernel)) (by decide +kernel)
theorem wd_2_118 : Cond.methodLink RX3 33 yX3_measure ∈ lw_u := tb2 (List.mem_of_getElem? (i := 118) (by decide +kernel)) (by decide +kernel)
theorem wd_2_120 : Cond.instanceMethod yX3_measure ∈ lw_u := tb2 (List.mem_of_getElem? (i := 120) (by decide +kernel)) (by decide +kernel)
theorem wd_2_121 : Cond.code yX3_measure prog_5_method_3_code 5 (none) ∈ lw_u := tb2 (List.mem_of_getElem? (i := 121) (by decide +kernel)) (by decide +kernel)
theorem wd_2_122 : Cond.methodLinkNest RX3 37 yX7_coordinate RX7 ∈ lw_tbl := List.mem_append_right _ (by first | exact List.mem_append_left _ (List.mem_of_getElem? (i := 122) (by decide +kernel)) | exact List.mem_append_right _ (List.mem_append_left _ (List.mem_of_getElem? (i := 122) (by decide +kernel))) | exact List.mem_append_right _ (List.mem_append_right _ (List.mem_append_left _ (List.mem_of_getElem? (i := 122) (by decide +kernel)))) | exact List.mem_append_right _ (List.mem_append_right _ (List.mem_append_right _ (List.mem_append_left _ (List.mem_of_getElem? (i := 122) (by decide +kernel))))))
theorem wd_2_123 : Cond.methodLink RX3 41 yJ9_min_7cf53 ∈ lw_u := tb2 (List.mem_of_getElem? (i := 123) (by decide +kernel)) (by decide +kernel)
theorem wd_2_124 : Cond.static yJ9_min_7cf53 ∈ lw_u := tb2 (List.mem_of_getElem? (i := 124) (by decide +kernel)) (by decide +kernel)
theorem wd_2_125 : Cond.code yJ9_min_7cf53 prog_12_method_69_code 2 (some FieldType.int) ∈ lw_u := tb2 (List.mem_of_getElem? (i := 125) (by decide +kernel)) (by decide +kernel)
theorem wd_2_126 : Cond.methodLink RX3 46 yJ9_max_7cf53 ∈ lw_u := tb2 (List.mem_of_getElem? (i := 126) (by decide +kernel)) (by decide +kernel)
theorem wd_2_127 : Cond.static yJ9_max_7cf53 ∈ lw_u := tb2 (List.mem_of_getElem? (i := 127) (by decide +kernel)) (by decide +kernel)
theorem wd_2_128 : Cond.code yJ9_max_7cf53 prog_12_method_65_code 2 (some FieldType.int) ∈ lw_u := tb2 (List.mem_of_getElem? (i := 128) (by decide +kernel)) (by decide +kernel)
theorem wd_2_129 : Cond.methodLink RL 45 yX7_drop ∈ lw_u := tb2 (List.mem_of_getElem? (i := 129) (by decide +kernel)) (by decide +kernel)
theorem wd_2_130 : Cond.instanceMethod yX7_drop ∈ lw_u := tb2 (List.mem_of_getElem? (i := 130) (by decide +kernel)) (by decide +kernel)
theorem wd_2_131 : Cond.selects RX7 yX7_drop yX7_drop ∈ lw_u := tb2 (List.mem_of_getElem? (i := 131) (by decide +kernel)) (by decide +kernel)
theorem wd_2_132 : Cond.code yX7_drop prog_1_method_9_code 2 (some FieldType.int) ∈ lw_u := tb2 (List.mem_of_getElem? (i := 132) (by decide +kernel)) (by decide +kernel)
theorem wd_2_133 : Cond.methodLink RX7 124 yX1_remove ∈ lw_u := tb2 (List.mem_of_getElem? (i := 133) (by decide +kernel)) (by decide +kernel)
theorem wd_2_134 : Cond.instanceMethod yX1_remove ∈ lw_u := tb2 (List.mem_of_getElem? (i := 134) (by decide +kernel)) (by decide +kernel)
theorem wd_2_135 : Cond.selects RX1 yX1_remove yX1_remove ∈ lw_u := tb2 (List.mem_of_getElem? (i := 135) (by decide +kernel)) (by decide +kernel)
theorem wd_2_136 : Cond.code yX1_remove prog_3_method_6_code 4 (none) ∈ lw_u := tb2 (List.mem_of_getElem? (i := 136) (by decide +kernel)) (by decide +kernel)
theorem wd_2_137 : Cond.methodLink RL 49 yX7_shift ∈ lw_u := tb2 (List.mem_of_getElem? (i := 137) (by decide +kernel)) (by decide +kernel)
theorem wd_2_138 : Cond.instanceMethod yX7_shift ∈ lw_u := tb2 (List.mem_of_getElem? (i := 138) (by decide +kernel)) (by decide +kernel)
theorem wd_2_139 : Cond.selects RX7 yX7_shift yX7_shift ∈ lw_u := tb2 (List.mem_of_getElem? (i := 139) (by decide +kernel)) (by decide +kernel)
theorem wd_2_140 : Cond.code yX7_shift prog_1_method_10_code 4 (some FieldType.int) ∈ lw_u := tb2 (List.mem_of_getElem? (i := 140) (by decide +kernel)) (by decide +kernel)
theorem wd_2_141 : Cond.methodLink RX7 127 yX7_shiftFault ∈ lw_u := tb2 (List.mem_of_getElem? (i := 141) (by decide +kernel)) (by decide +kernel)
theorem wd_2_143 : Cond.instanceMethod yX7_shiftFault ∈ lw_u := tb2 (List.mem_of_getElem? (i := 143) (by decide +kernel)) (by decide +kernel)
theorem wd_2_144 : Cond.code yX7_shiftFault prog_1_method_34_code 3 (some FieldType.int) ∈ lw_u := tb2 (List.mem_of_getElem? (i := 144) (by decide +kernel)) (by decide +kernel)
theorem wd_2_145 : Cond.methodLink RX7 157 yX7_isDirection ∈ lw_u := tb2 (List.mem_of_getElem? (i := 145) (by decide +kernel)) (by decide +kernel)
theorem wd_2_146 : Cond.static yX7_isDirection ∈ lw_u := tb2 (List.mem_of_getElem? (i := 146) (by decide +kernel)) (by decide +kernel)
theorem wd_2_147 : Cond.code yX7_isDirection prog_1_method_42_code 1 (some FieldType.boolean) ∈ lw_u := tb2 (List.mem_of_getElem? (i := 147) (by decide +kernel)) (by decide +kernel)
theorem wd_2_148 : Cond.methodLink RX7 294 yX1_canMove ∈ lw_u := tb2 (List.mem_of_getElem? (i := 148) (by decide +kernel)) (by decide +kernel)
theorem wd_2_149 : Cond.instanceMethod yX1_canMove ∈ lw_u := tb2 (List.mem_of_getElem? (i := 149) (by decide +kernel)) (by decide +kernel)
theorem wd_2_150 : Cond.selects RX1 yX1_canMove yX1_canMove ∈ lw_u := tb2 (List.mem_of_getElem? (i := 150) (by decide +kernel)) (by decide +kernel)
theorem wd_2_151 : Cond.code yX1_canMove prog_3_method_7_code 4 (some FieldType.boolean) ∈ lw_u := tb2 (List.mem_of_getElem? (i := 151) (by decide +kernel)) (by decide +kernel)
theorem wd_2_152 : Cond.methodLinkNest RX1 43 yX7_neighbor RX7 ∈ lw_tbl := List.mem_append_right _ (by first | exact List.mem_append_left _ (List.mem_of_getElem? (i := 152) (by decide +kernel)) | exact List.mem_append_right _ (List.mem_append_left _ (List.mem_of_getElem? (i := 152) (by decide +kernel))) | exact List.mem_append_right _ (List.mem_append_right _ (List.mem_append_left _ (List.mem_of_getElem? (i := 152) (by decide +kernel)))) | exact List.mem_append_right _ (List.mem_append_right _ (List.mem_append_right _ (List.mem_append_left _ (List.mem_of_getElem? (i := 152) (by decide +kernel))))))
theorem wd_2_153 : Cond.static yX7_neighbor ∈ lw_u := tb2 (List.mem_of_getElem? (i := 153) (by decide +kernel)) (by decide +kernel)
theorem wd_2_154 : Cond.code yX7_neighbor prog_1_method_47_code 4 (some FieldType.int) ∈ lw_u := tb2 (List.mem_of_getElem? (i := 154) (by decide +kernel)) (by decide +kernel)
theorem wd_2_155 : Cond.methodLink RX7 311 yX7_coordinate ∈ lw_u := tb2 (List.mem_of_getElem? (i := 155) (by decide +kernel)) (by decide +kernel)
theorem wd_2_156 : Cond.methodLink RX7 314 yX7_stride ∈ lw_u := tb2 (List.mem_of_getElem? (i := 156) (by decide +kernel)) (by decide +kernel)
theorem wd_2_157 : Cond.static yX7_stride ∈ lw_u := tb2 (List.mem_of_getElem? (i := 157) (by decide +kernel)) (by decide +kernel)
theorem wd_2_158 : Cond.code yX7_stride prog_1_method_46_code 1 (some FieldType.int) ∈ lw_u := tb2 (List.mem_of_getElem? (i := 158) (by decide +kernel)) (by decide +kernel)
theorem wd_2_159 : Cond.methodLink RX1 47 yX1_isOpen ∈ lw_u := tb2 (List.mem_of_getElem? (i := 159) (by decide +kernel)) (by decide +kernel)
theorem wd_2_161 : Cond.instanceMethod yX1_isOpen ∈ lw_u := tb2 (List.mem_of_getElem? (i := 161) (by decide +kernel)) (by decide +kernel)
theorem wd_2_162 : Cond.code yX1_isOpen prog_3_method_8_code 3 (some FieldType.boolean) ∈ lw_u := tb2 (List.mem_of_getElem? (i := 162) (by decide +kernel)) (by decide +kernel)
theorem wd_2_163 : Cond.methodLink RX7 131 yX1_move ∈ lw_u := tb2 (List.mem_of_getElem? (i := 163) (by decide +kernel)) (by decide +kernel)
theorem wd_2_164 : Cond.instanceMethod yX1_move ∈ lw_u := tb2 (List.mem_of_getElem? (i := 164) (by decide +kernel)) (by decide +kernel)
theorem wd_2_165 : Cond.selects RX1 yX1_move yX1_move ∈ lw_u := tb2 (List.mem_of_getElem? (i := 165) (by decide +kernel)) (by decide +kernel)
theorem wd_2_166 : Cond.code yX1_move prog_3_method_9_code 7 (none) ∈ lw_u := tb2 (List.mem_of_getElem? (i := 166) (by decide +kernel)) (by decide +kernel)
theorem wd_2_167 : Cond.methodLink RL 54 yX7_pieceAt ∈ lw_u := tb2 (List.mem_of_getElem? (i := 167) (by decide +kernel)) (by decide +kernel)
theorem wd_2_168 : Cond.instanceMethod yX7_pieceAt ∈ lw_u := tb2 (List.mem_of_getElem? (i := 168) (by decide +kernel)) (by decide +kernel)
theorem wd_2_169 : Cond.selects RX7 yX7_pieceAt yX7_pieceAt ∈ lw_u := tb2 (List.mem_of_getElem? (i := 169) (by decide +kernel)) (by decide +kernel)
theorem wd_2_170 : Cond.code yX7_pieceAt prog_1_method_11_code 5 (some FieldType.int) ∈ lw_u := tb2 (List.mem_of_getElem? (i := 170) (by decide +kernel)) (by decide +kernel)
theorem wd_2_171 : Cond.methodLink RX7 135 yX7_isCoordinate ∈ lw_u := tb2 (List.mem_of_getElem? (i := 171) (by decide +kernel)) (by decide +kernel)
theorem wd_2_172 : Cond.static yX7_isCoordinate ∈ lw_u := tb2 (List.mem_of_getElem? (i := 172) (by decide +kernel)) (by decide +kernel)
theorem wd_2_173 : Cond.code yX7_isCoordinate prog_1_method_43_code 1 (some FieldType.boolean) ∈ lw_u := tb2 (List.mem_of_getElem? (i := 173) (by decide +kernel)) (by decide +kernel)
theorem wd_2_174 : Cond.methodLink RL 59 yX7_piece ∈ lw_u := tb2 (List.mem_of_getElem? (i := 174) (by decide +kernel)) (by decide +kernel)
theorem wd_2_175 : Cond.instanceMethod yX7_piece ∈ lw_u := tb2 (List.mem_of_getElem? (i := 175) (by decide +kernel)) (by decide +kernel)
theorem wd_2_176 : Cond.selects RX7 yX7_piece yX7_piece ∈ lw_u := tb2 (List.mem_of_getElem? (i := 176) (by decide +kernel)) (by decide +kernel)
theorem wd_2_177 : Cond.code yX7_piece prog_1_method_12_code 4 (some FieldType.int) ∈ lw_u := tb2 (List.mem_of_getElem? (i := 177) (by decide +kernel)) (by decide +kernel)
theorem wd_2_178 : Cond.methodLink RX7 144 yX7_has ∈ lw_u := tb2 (List.mem_of_getElem? (i := 178) (by decide +kernel)) (by decide +kernel)
theorem wd_2_179 : Cond.static yX7_has ∈ lw_u := tb2 (List.mem_of_getElem? (i := 179) (by decide +kernel)) (by decide +kernel)
theorem wd_2_180 : Cond.code yX7_has prog_1_method_44_code 2 (some FieldType.boolean) ∈ lw_u := tb2 (List.mem_of_getElem? (i := 180) (by decide +kernel)) (by decide +kernel)
theorem wd_2_181 : Cond.methodLink RL 63 yX7_blockers ∈ lw_u := tb2 (List.mem_of_getElem? (i := 181) (by decide +kernel)) (by decide +kernel)
theorem wd_2_182 : Cond.instanceMethod yX7_blockers ∈ lw_u := tb2 (List.mem_of_getElem? (i := 182) (by decide +kernel)) (by decide +kernel)
theorem wd_2_183 : Cond.selects RX7 yX7_blockers yX7_blockers ∈ lw_u := tb2 (List.mem_of_getElem? (i := 183) (by decide +kernel)) (by decide +kernel)
theorem wd_2_184 : Cond.code yX7_blockers prog_1_method_13_code 3 (some FieldType.int) ∈ lw_u := tb2 (List.mem_of_getElem? (i := 184) (by decide +kernel)) (by decide +kernel)
theorem wd_2_185 : Cond.methodLink RX7 160 yX7_knownRelations ∈ lw_u := tb2 (List.mem_of_getElem? (i := 185) (by decide +kernel)) (by decide +kernel)
theorem wd_2_187 : Cond.instanceMethod yX7_knownRelations ∈ lw_u := tb2 (List.mem_of_getElem? (i := 187) (by decide +kernel)) (by decide +kernel)
theorem wd_2_188 : Cond.code yX7_knownRelations prog_1_method_40_code 1 (some (FieldType.object "FrameRaiser$Relations")) ∈ lw_u := tb2 (List.mem_of_getElem? (i := 188) (by decide +kernel)) (by decide +kernel)
theorem wd_2_189 : Cond.methodLink RX7 229 yX5_read ∈ lw_u := tb2 (List.mem_of_getElem? (i := 189) (by decide +kernel)) (by decide +kernel)
theorem wd_2_190 : Cond.instanceMethod yX5_read ∈ lw_u := tb2 (List.mem_of_getElem? (i := 190) (by decide +kernel)) (by decide +kernel)
theorem wd_2_191 : Cond.selects RX5 yX5_read yX5_read ∈ lw_u := tb2 (List.mem_of_getElem? (i := 191) (by decide +kernel)) (by decide +kernel)
theorem wd_2_192 : Cond.code yX5_read prog_7_method_2_code 4 (none) ∈ lw_u := tb2 (List.mem_of_getElem? (i := 192) (by decide +kernel)) (by decide +kernel)
theorem wd_2_193 : Cond.methodLink RX5 24 yX5_reset ∈ lw_u := tb2 (List.mem_of_getElem? (i := 193) (by decide +kernel)) (by decide +kernel)
theorem wd_2_195 : Cond.instanceMethod yX5_reset ∈ lw_u := tb2 (List.mem_of_getElem? (i := 195) (by decide +kernel)) (by decide +kernel)
theorem wd_2_196 : Cond.code yX5_reset prog_7_method_3_code 2 (none) ∈ lw_u := tb2 (List.mem_of_getElem? (i := 196) (by decide +kernel)) (by decide +kernel)
theorem wd_2_197 : Cond.methodLink RX5 40 yX5_lineStart ∈ lw_u := tb2 (List.mem_of_getElem? (i := 197) (by decide +kernel)) (by decide +kernel)
theorem wd_2_198 : Cond.static yX5_lineStart ∈ lw_u := tb2 (List.mem_of_getElem? (i := 198) (by decide +kernel)) (by decide +kernel)
theorem wd_2_199 : Cond.code yX5_lineStart prog_7_method_4_code 2 (some FieldType.int) ∈ lw_u := tb2 (List.mem_of_getElem? (i := 199) (by decide +kernel)) (by decide +kernel)
theorem wd_2_200 : Cond.methodLink RX5 44 yX5_readLine ∈ lw_u := tb2 (List.mem_of_getElem? (i := 200) (by decide +kernel)) (by decide +kernel)
theorem wd_2_202 : Cond.instanceMethod yX5_readLine ∈ lw_u := tb2 (List.mem_of_getElem? (i := 202) (by decide +kernel)) (by decide +kernel)
theorem wd_2_203 : Cond.code yX5_readLine prog_7_method_5_code 10 (none) ∈ lw_u := tb2 (List.mem_of_getElem? (i := 203) (by decide +kernel)) (by decide +kernel)
theorem wd_2_204 : Cond.methodLinkNest RX5 48 yX7_stride RX7 ∈ lw_tbl := List.mem_append_right _ (by first | exact List.mem_append_left _ (List.mem_of_getElem? (i := 204) (by decide +kernel)) | exact List.mem_append_right _ (List.mem_append_left _ (List.mem_of_getElem? (i := 204) (by decide +kernel))) | exact List.mem_append_right _ (List.mem_append_right _ (List.mem_append_left _ (List.mem_of_getElem? (i := 204) (by decide +kernel)))) | exact List.mem_append_right _ (List.mem_append_right _ (List.mem_append_right _ (List.mem_append_left _ (List.mem_of_getElem? (i := 204) (by decide +kernel))))))
theorem wd_2_205 : Cond.methodLink RX5 52 yX5_block ∈ lw_u := tb2 (List.mem_of_getElem? (i := 205) (by decide +kernel)) (by decide +kernel)
theorem wd_2_207 : Cond.instanceMethod yX5_block ∈ lw_u := tb2 (List.mem_of_getElem? (i := 207) (by decide +kernel)) (by decide +kernel)
theorem wd_2_208 : Cond.code yX5_block prog_7_method_6_code 5 (some FieldType.int) ∈ lw_u := tb2 (List.mem_of_getElem? (i := 208) (by decide +kernel)) (by decide +kernel)
theorem wd_2_209 : Cond.methodLink RX5 56 yX5_join ∈ lw_u := tb2 (List.mem_of_getElem? (i := 209) (by decide +kernel)) (by decide +kernel)
theorem wd_2_211 : Cond.instanceMethod yX5_join ∈ lw_u := tb2 (List.mem_of_getElem? (i := 211) (by decide +kernel)) (by decide +kernel)
theorem wd_2_212 : Cond.code yX5_join prog_7_method_7_code 4 (none) ∈ lw_u := tb2 (List.mem_of_getElem? (i := 212) (by decide +kernel)) (by decide +kernel)
theorem wd_2_213 : Cond.methodLink RX7 164 yX5_blockersOf ∈ lw_u := tb2 (List.mem_of_getElem? (i := 213) (by decide +kernel)) (by decide +kernel)
theorem wd_2_214 : Cond.instanceMethod yX5_blockersOf ∈ lw_u := tb2 (List.mem_of_getElem? (i := 214) (by decide +kernel)) (by decide +kernel)
theorem wd_2_215 : Cond.selects RX5 yX5_blockersOf yX5_blockersOf ∈ lw_u := tb2 (List.mem_of_getElem? (i := 215) (by decide +kernel)) (by decide +kernel)
theorem wd_2_216 : Cond.code yX5_blockersOf prog_7_method_8_code 3 (some FieldType.int) ∈ lw_u := tb2 (List.mem_of_getElem? (i := 216) (by decide +kernel)) (by decide +kernel)
theorem wd_2_217 : Cond.methodLink RL 67 yX7_ways ∈ lw_u := tb2 (List.mem_of_getElem? (i := 217) (by decide +kernel)) (by decide +kernel)
theorem wd_2_218 : Cond.instanceMethod yX7_ways ∈ lw_u := tb2 (List.mem_of_getElem? (i := 218) (by decide +kernel)) (by decide +kernel)
theorem wd_2_219 : Cond.selects RX7 yX7_ways yX7_ways ∈ lw_u := tb2 (List.mem_of_getElem? (i := 219) (by decide +kernel)) (by decide +kernel)
theorem wd_2_220 : Cond.code yX7_ways prog_1_method_14_code 6 (some FieldType.int) ∈ lw_u := tb2 (List.mem_of_getElem? (i := 220) (by decide +kernel)) (by decide +kernel)
theorem wd_2_221 : Cond.methodLink RX7 167 yX7_isSet ∈ lw_u := tb2 (List.mem_of_getElem? (i := 221) (by decide +kernel)) (by decide +kernel)
theorem wd_2_223 : Cond.instanceMethod yX7_isSet ∈ lw_u := tb2 (List.mem_of_getElem? (i := 223) (by decide +kernel)) (by decide +kernel)
theorem wd_2_224 : Cond.code yX7_isSet prog_1_method_36_code 2 (some FieldType.boolean) ∈ lw_u := tb2 (List.mem_of_getElem? (i := 224) (by decide +kernel)) (by decide +kernel)
theorem wd_2_225 : Cond.methodLink RX7 232 yX7_allPieces ∈ lw_u := tb2 (List.mem_of_getElem? (i := 225) (by decide +kernel)) (by decide +kernel)
theorem wd_2_227 : Cond.instanceMethod yX7_allPieces ∈ lw_u := tb2 (List.mem_of_getElem? (i := 227) (by decide +kernel)) (by decide +kernel)
theorem wd_2_228 : Cond.code yX7_allPieces prog_1_method_37_code 1 (some FieldType.int) ∈ lw_u := tb2 (List.mem_of_getElem? (i := 228) (by decide +kernel)) (by decide +kernel)
theorem wd_2_229 : Cond.methodLink RX7 170 yX5_isFree ∈ lw_u := tb2 (List.mem_of_getElem? (i := 229) (by decide +kernel)) (by decide +kernel)
theorem wd_2_230 : Cond.instanceMethod yX5_isFree ∈ lw_u := tb2 (List.mem_of_getElem? (i := 230) (by decide +kernel)) (by decide +kernel)
theorem wd_2_231 : Cond.selects RX5 yX5_isFree yX5_isFree ∈ lw_u := tb2 (List.mem_of_getElem? (i := 231) (by decide +kernel)) (by decide +kernel)
theorem wd_2_232 : Cond.code yX5_isFree prog_7_method_9_code 4 (some FieldType.boolean) ∈ lw_u := tb2 (List.mem_of_getElem? (i := 232) (by decide +kernel)) (by decide +kernel)
theorem wd_2_233 : Cond.methodLink RL 71 yX7_contact ∈ lw_u := tb2 (List.mem_of_getElem? (i := 233) (by decide +kernel)) (by decide +kernel)
theorem wd_2_234 : Cond.instanceMethod yX7_contact ∈ lw_u := tb2 (List.mem_of_getElem? (i := 234) (by decide +kernel)) (by decide +kernel)
theorem wd_2_235 : Cond.selects RX7 yX7_contact yX7_contact ∈ lw_u := tb2 (List.mem_of_getElem? (i := 235) (by decide +kernel)) (by decide +kernel)
theorem wd_2_236 : Cond.code yX7_contact prog_1_method_15_code 3 (some FieldType.int) ∈ lw_u := tb2 (List.mem_of_getElem? (i := 236) (by decide +kernel)) (by decide +kernel)
theorem wd_2_237 : Cond.methodLink RL 75 yX7_hangsTogether ∈ lw_u := tb2 (List.mem_of_getElem? (i := 237) (by decide +kernel)) (by decide +kernel)
theorem wd_2_238 : Cond.instanceMethod yX7_hangsTogether ∈ lw_u := tb2 (List.mem_of_getElem? (i := 238) (by decide +kernel)) (by decide +kernel)
theorem wd_2_239 : Cond.selects RX7 yX7_hangsTogether yX7_hangsTogether ∈ lw_u := tb2 (List.mem_of_getElem? (i := 239) (by decide +kernel)) (by decide +kernel)
theorem wd_3_0 : Cond.code yX7_hangsTogether prog_1_method_16_code 2 (some FieldType.int) ∈ lw_u := tb3 (List.mem_of_getElem? (i := 0) (by decide +kernel)) (by decide +kernel)
theorem wd_3_1 : Cond.methodLink RX7 177 yX5_isConnected ∈ lw_u := tb3 (List.mem_of_getElem? (i := 1) (by decide +kernel)) (by decide +kernel)
theorem wd_3_2 : Cond.instanceMethod yX5_isConnected ∈ lw_u := tb3 (List.mem_of_getElem? (i := 2) (by decide +kernel)) (by decide +kernel)
theorem wd_3_3 : Cond.selects RX5 yX5_isConnected yX5_isConnected ∈ lw_u := tb3 (List.mem_of_getElem? (i := 3) (by decide +kernel)) (by decide +kernel)
theorem wd_3_4 : Cond.code yX5_isConnected prog_7_method_11_code 5 (some FieldType.boolean) ∈ lw_u := tb3 (List.mem_of_getElem? (i := 4) (by decide +kernel)) (by decide +kernel)
theorem wd_3_5 : Cond.methodLinkNest RX5 64 yX7_has RX7 ∈ lw_tbl := List.mem_append_right _ (by first | exact List.mem_append_left _ (List.mem_of_getElem? (i := 5) (by decide +kernel)) | exact List.mem_append_right _ (List.mem_append_left _ (List.mem_of_getElem? (i := 5) (by decide +kernel))) | exact List.mem_append_right _ (List.mem_append_right _ (List.mem_append_left _ (List.mem_of_getElem? (i := 5) (by decide +kernel)))) | exact List.mem_append_right _ (List.mem_append_right _ (List.mem_append_right _ (List.mem_append_left _ (List.mem_of_getElem? (i := 5) (by decide +kernel))))))
theorem wd_3_6 : Cond.methodLink RL 79 yX7_props ∈ lw_u := tb3 (List.mem_of_getElem? (i := 6) (by decide +kernel)) (by decide +kernel)
theorem wd_3_7 : Cond.instanceMethod yX7_props ∈ lw_u := tb3 (List.mem_of_getElem? (i := 7) (by decide +kernel)) (by decide +kernel)
theorem wd_3_8 : Cond.selects RX7 yX7_props yX7_props ∈ lw_u := tb3 (List.mem_of_getElem? (i := 8) (by decide +kernel)) (by decide +kernel)
theorem wd_3_9 : Cond.code yX7_props prog_1_method_17_code 2 (some FieldType.int) ∈ lw_u := tb3 (List.mem_of_getElem? (i := 9) (by decide +kernel)) (by decide +kernel)
theorem wd_3_10 : Cond.methodLink RX7 180 yX5_propsOf ∈ lw_u := tb3 (List.mem_of_getElem? (i := 10) (by decide +kernel)) (by decide +kernel)
theorem wd_3_11 : Cond.instanceMethod yX5_propsOf ∈ lw_u := tb3 (List.mem_of_getElem? (i := 11) (by decide +kernel)) (by decide +kernel)
theorem wd_3_12 : Cond.selects RX5 yX5_propsOf yX5_propsOf ∈ lw_u := tb3 (List.mem_of_getElem? (i := 12) (by decide +kernel)) (by decide +kernel)
theorem wd_3_13 : Cond.code yX5_propsOf prog_7_method_12_code 4 (some FieldType.int) ∈ lw_u := tb3 (List.mem_of_getElem? (i := 13) (by decide +kernel)) (by decide +kernel)
theorem wd_3_14 : Cond.methodLink RL 83 yX7_standing ∈ lw_u := tb3 (List.mem_of_getElem? (i := 14) (by decide +kernel)) (by decide +kernel)
theorem wd_3_15 : Cond.instanceMethod yX7_standing ∈ lw_u := tb3 (List.mem_of_getElem? (i := 15) (by decide +kernel)) (by decide +kernel)
theorem wd_3_16 : Cond.selects RX7 yX7_standing yX7_standing ∈ lw_u := tb3 (List.mem_of_getElem? (i := 16) (by decide +kernel)) (by decide +kernel)
theorem wd_3_17 : Cond.code yX7_standing prog_1_method_18_code 2 (some FieldType.int) ∈ lw_u := tb3 (List.mem_of_getElem? (i := 17) (by decide +kernel)) (by decide +kernel)
theorem wd_3_18 : Cond.methodLink RX7 184 yX5_standingOf ∈ lw_u := tb3 (List.mem_of_getElem? (i := 18) (by decide +kernel)) (by decide +kernel)
theorem wd_3_19 : Cond.instanceMethod yX5_standingOf ∈ lw_u := tb3 (List.mem_of_getElem? (i := 19) (by decide +kernel)) (by decide +kernel)
theorem wd_3_20 : Cond.selects RX5 yX5_standingOf yX5_standingOf ∈ lw_u := tb3 (List.mem_of_getElem? (i := 20) (by decide +kernel)) (by decide +kernel)
theorem wd_3_21 : Cond.code yX5_standingOf prog_7_method_13_code 5 (some FieldType.int) ∈ lw_u := tb3 (List.mem_of_getElem? (i := 21) (by decide +kernel)) (by decide +kernel)
theorem wd_3_22 : Cond.methodLink RL 87 yX7_orders ∈ lw_u := tb3 (List.mem_of_getElem? (i := 22) (by decide +kernel)) (by decide +kernel)
theorem wd_3_23 : Cond.instanceMethod yX7_orders ∈ lw_u := tb3 (List.mem_of_getElem? (i := 23) (by decide +kernel)) (by decide +kernel)
theorem wd_3_24 : Cond.selects RX7 yX7_orders yX7_orders ∈ lw_u := tb3 (List.mem_of_getElem? (i := 24) (by decide +kernel)) (by decide +kernel)
theorem wd_3_25 : Cond.code yX7_orders prog_1_method_19_code 2 (some FieldType.int) ∈ lw_u := tb3 (List.mem_of_getElem? (i := 25) (by decide +kernel)) (by decide +kernel)
theorem wd_3_26 : Cond.methodLink RX7 187 yX7_knownPlanner ∈ lw_u := tb3 (List.mem_of_getElem? (i := 26) (by decide +kernel)) (by decide +kernel)
theorem wd_3_28 : Cond.instanceMethod yX7_knownPlanner ∈ lw_u := tb3 (List.mem_of_getElem? (i := 28) (by decide +kernel)) (by decide +kernel)
theorem wd_3_29 : Cond.code yX7_knownPlanner prog_1_method_41_code 1 (some (FieldType.object "FrameRaiser$Planner")) ∈ lw_u := tb3 (List.mem_of_getElem? (i := 29) (by decide +kernel)) (by decide +kernel)
theorem wd_3_30 : Cond.methodLink RX7 308 yX4_fillTables ∈ lw_u := tb3 (List.mem_of_getElem? (i := 30) (by decide +kernel)) (by decide +kernel)
theorem wd_3_31 : Cond.instanceMethod yX4_fillTables ∈ lw_u := tb3 (List.mem_of_getElem? (i := 31) (by decide +kernel)) (by decide +kernel)
theorem wd_3_32 : Cond.selects RX4 yX4_fillTables yX4_fillTables ∈ lw_u := tb3 (List.mem_of_getElem? (i := 32) (by decide +kernel)) (by decide +kernel)
theorem wd_3_33 : Cond.code yX4_fillTables prog_6_method_2_code 3 (none) ∈ lw_u := tb3 (List.mem_of_getElem? (i := 33) (by decide +kernel)) (by decide +kernel)
theorem wd_3_34 : Cond.methodLink RX4 44 yX4_fillRow ∈ lw_u := tb3 (List.mem_of_getElem? (i := 34) (by decide +kernel)) (by decide +kernel)
theorem wd_3_36 : Cond.instanceMethod yX4_fillRow ∈ lw_u := tb3 (List.mem_of_getElem? (i := 36) (by decide +kernel)) (by decide +kernel)
theorem wd_3_37 : Cond.code yX4_fillRow prog_6_method_3_code 6 (none) ∈ lw_u := tb3 (List.mem_of_getElem? (i := 37) (by decide +kernel)) (by decide +kernel)
theorem wd_3_38 : Cond.methodLink RX4 48 yX5_firstWay ∈ lw_u := tb3 (List.mem_of_getElem? (i := 38) (by decide +kernel)) (by decide +kernel)
theorem wd_3_39 : Cond.instanceMethod yX5_firstWay ∈ lw_u := tb3 (List.mem_of_getElem? (i := 39) (by decide +kernel)) (by decide +kernel)
theorem wd_3_40 : Cond.selects RX5 yX5_firstWay yX5_firstWay ∈ lw_u := tb3 (List.mem_of_getElem? (i := 40) (by decide +kernel)) (by decide +kernel)
theorem wd_3_41 : Cond.code yX5_firstWay prog_7_method_10_code 4 (some FieldType.int) ∈ lw_u := tb3 (List.mem_of_getElem? (i := 41) (by decide +kernel)) (by decide +kernel)
theorem wd_3_42 : Cond.methodLink RX5 60 yX5_isFree ∈ lw_u := tb3 (List.mem_of_getElem? (i := 42) (by decide +kernel)) (by decide +kernel)
theorem wd_3_43 : Cond.methodLink RX4 52 yJ9_min_7cf53 ∈ lw_u := tb3 (List.mem_of_getElem? (i := 43) (by decide +kernel)) (by decide +kernel)
theorem wd_3_44 : Cond.methodLink RX4 57 yX5_propsOf ∈ lw_u := tb3 (List.mem_of_getElem? (i := 44) (by decide +kernel)) (by decide +kernel)
theorem wd_3_45 : Cond.methodLink RX4 61 yJ9_max_7cf53 ∈ lw_u := tb3 (List.mem_of_getElem? (i := 45) (by decide +kernel)) (by decide +kernel)
theorem wd_3_46 : Cond.methodLink RL 91 yX7_fewestProps ∈ lw_u := tb3 (List.mem_of_getElem? (i := 46) (by decide +kernel)) (by decide +kernel)
theorem wd_3_47 : Cond.instanceMethod yX7_fewestProps ∈ lw_u := tb3 (List.mem_of_getElem? (i := 47) (by decide +kernel)) (by decide +kernel)
theorem wd_3_48 : Cond.selects RX7 yX7_fewestProps yX7_fewestProps ∈ lw_u := tb3 (List.mem_of_getElem? (i := 48) (by decide +kernel)) (by decide +kernel)
theorem wd_3_49 : Cond.code yX7_fewestProps prog_1_method_20_code 2 (some FieldType.int) ∈ lw_u := tb3 (List.mem_of_getElem? (i := 49) (by decide +kernel)) (by decide +kernel)
theorem wd_3_50 : Cond.methodLink RL 95 yX7_planned ∈ lw_u := tb3 (List.mem_of_getElem? (i := 50) (by decide +kernel)) (by decide +kernel)
theorem wd_3_51 : Cond.instanceMethod yX7_planned ∈ lw_u := tb3 (List.mem_of_getElem? (i := 51) (by decide +kernel)) (by decide +kernel)
theorem wd_3_52 : Cond.selects RX7 yX7_planned yX7_planned ∈ lw_u := tb3 (List.mem_of_getElem? (i := 52) (by decide +kernel)) (by decide +kernel)
theorem wd_3_53 : Cond.code yX7_planned prog_1_method_21_code 5 (some FieldType.int) ∈ lw_u := tb3 (List.mem_of_getElem? (i := 53) (by decide +kernel)) (by decide +kernel)
theorem wd_3_54 : Cond.methodLink RX7 197 yX4_plan ∈ lw_u := tb3 (List.mem_of_getElem? (i := 54) (by decide +kernel)) (by decide +kernel)
theorem wd_3_55 : Cond.instanceMethod yX4_plan ∈ lw_u := tb3 (List.mem_of_getElem? (i := 55) (by decide +kernel)) (by decide +kernel)
theorem wd_3_56 : Cond.selects RX4 yX4_plan yX4_plan ∈ lw_u := tb3 (List.mem_of_getElem? (i := 56) (by decide +kernel)) (by decide +kernel)
theorem wd_3_57 : Cond.code yX4_plan prog_6_method_4_code 2 (none) ∈ lw_u := tb3 (List.mem_of_getElem? (i := 57) (by decide +kernel)) (by decide +kernel)
theorem wd_3_58 : Cond.methodLink RX4 67 yX4_markLeading ∈ lw_u := tb3 (List.mem_of_getElem? (i := 58) (by decide +kernel)) (by decide +kernel)
theorem wd_3_60 : Cond.instanceMethod yX4_markLeading ∈ lw_u := tb3 (List.mem_of_getElem? (i := 60) (by decide +kernel)) (by decide +kernel)
theorem wd_3_61 : Cond.code yX4_markLeading prog_6_method_5_code 3 (none) ∈ lw_u := tb3 (List.mem_of_getElem? (i := 61) (by decide +kernel)) (by decide +kernel)
theorem wd_3_62 : Cond.methodLink RX4 73 yX4_nextPlanned ∈ lw_u := tb3 (List.mem_of_getElem? (i := 62) (by decide +kernel)) (by decide +kernel)
theorem wd_3_64 : Cond.instanceMethod yX4_nextPlanned ∈ lw_u := tb3 (List.mem_of_getElem? (i := 64) (by decide +kernel)) (by decide +kernel)
theorem wd_3_65 : Cond.code yX4_nextPlanned prog_6_method_7_code 5 (some FieldType.int) ∈ lw_u := tb3 (List.mem_of_getElem? (i := 65) (by decide +kernel)) (by decide +kernel)
theorem wd_3_66 : Cond.methodLinkNest RX4 76 yX7_has RX7 ∈ lw_tbl := List.mem_append_right _ (by first | exact List.mem_append_left _ (List.mem_of_getElem? (i := 66) (by decide +kernel)) | exact List.mem_append_right _ (List.mem_append_left _ (List.mem_of_getElem? (i := 66) (by decide +kernel))) | exact List.mem_append_right _ (List.mem_append_right _ (List.mem_append_left _ (List.mem_of_getElem? (i := 66) (by decide +kernel)))) | exact List.mem_append_right _ (List.mem_append_right _ (List.mem_append_right _ (List.mem_append_left _ (List.mem_of_getElem? (i := 66) (by decide +kernel))))))
theorem wd_3_67 : Cond.methodLink RX4 70 yX4_followLeading ∈ lw_u := tb3 (List.mem_of_getElem? (i := 67) (by decide +kernel)) (by decide +kernel)
theorem wd_3_69 : Cond.instanceMethod yX4_followLeading ∈ lw_u := tb3 (List.mem_of_getElem? (i := 69) (by decide +kernel)) (by decide +kernel)
theorem wd_3_70 : Cond.code yX4_followLeading prog_6_method_6_code 5 (none) ∈ lw_u := tb3 (List.mem_of_getElem? (i := 70) (by decide +kernel)) (by decide +kernel)
theorem wd_3_71 : Cond.methodLink RL 100 yX7_locked ∈ lw_u := tb3 (List.mem_of_getElem? (i := 71) (by decide +kernel)) (by decide +kernel)
theorem wd_3_72 : Cond.instanceMethod yX7_locked ∈ lw_u := tb3 (List.mem_of_getElem? (i := 72) (by decide +kernel)) (by decide +kernel)
theorem wd_3_73 : Cond.selects RX7 yX7_locked yX7_locked ∈ lw_u := tb3 (List.mem_of_getElem? (i := 73) (by decide +kernel)) (by decide +kernel)
theorem wd_3_74 : Cond.code yX7_locked prog_1_method_22_code 2 (some FieldType.int) ∈ lw_u := tb3 (List.mem_of_getElem? (i := 74) (by decide +kernel)) (by decide +kernel)
theorem wd_3_75 : Cond.methodLink RX7 209 yX5_lockedOf ∈ lw_u := tb3 (List.mem_of_getElem? (i := 75) (by decide +kernel)) (by decide +kernel)
theorem wd_3_76 : Cond.instanceMethod yX5_lockedOf ∈ lw_u := tb3 (List.mem_of_getElem? (i := 76) (by decide +kernel)) (by decide +kernel)
theorem wd_3_77 : Cond.selects RX5 yX5_lockedOf yX5_lockedOf ∈ lw_u := tb3 (List.mem_of_getElem? (i := 77) (by decide +kernel)) (by decide +kernel)
theorem wd_3_78 : Cond.code yX5_lockedOf prog_7_method_14_code 5 (some FieldType.int) ∈ lw_u := tb3 (List.mem_of_getElem? (i := 78) (by decide +kernel)) (by decide +kernel)
theorem wd_3_79 : Cond.methodLink RX5 68 yX5_firstWay ∈ lw_u := tb3 (List.mem_of_getElem? (i := 79) (by decide +kernel)) (by decide +kernel)
theorem wd_3_80 : Cond.methodLink RL 104 yX7_firstGroup ∈ lw_u := tb3 (List.mem_of_getElem? (i := 80) (by decide +kernel)) (by decide +kernel)
theorem wd_3_81 : Cond.instanceMethod yX7_firstGroup ∈ lw_u := tb3 (List.mem_of_getElem? (i := 81) (by decide +kernel)) (by decide +kernel)
theorem wd_3_82 : Cond.selects RX7 yX7_firstGroup yX7_firstGroup ∈ lw_u := tb3 (List.mem_of_getElem? (i := 82) (by decide +kernel)) (by decide +kernel)
theorem wd_3_83 : Cond.code yX7_firstGroup prog_1_method_23_code 5 (some FieldType.int) ∈ lw_u := tb3 (List.mem_of_getElem? (i := 83) (by decide +kernel)) (by decide +kernel)
theorem wd_3_84 : Cond.methodLink RX7 212 yX5_smallestGroup ∈ lw_u := tb3 (List.mem_of_getElem? (i := 84) (by decide +kernel)) (by decide +kernel)
theorem wd_3_85 : Cond.instanceMethod yX5_smallestGroup ∈ lw_u := tb3 (List.mem_of_getElem? (i := 85) (by decide +kernel)) (by decide +kernel)
theorem wd_3_86 : Cond.selects RX5 yX5_smallestGroup yX5_smallestGroup ∈ lw_u := tb3 (List.mem_of_getElem? (i := 86) (by decide +kernel)) (by decide +kernel)
theorem wd_3_87 : Cond.code yX5_smallestGroup prog_7_method_15_code 6 (some FieldType.int) ∈ lw_u := tb3 (List.mem_of_getElem? (i := 87) (by decide +kernel)) (by decide +kernel)
theorem wd_3_88 : Cond.methodLink RX5 71 yJ6_bitCount_0f7a4 ∈ lw_u := tb3 (List.mem_of_getElem? (i := 88) (by decide +kernel)) (by decide +kernel)
theorem wd_3_89 : Cond.static yJ6_bitCount_0f7a4 ∈ lw_u := tb3 (List.mem_of_getElem? (i := 89) (by decide +kernel)) (by decide +kernel)
theorem wd_3_90 : Cond.code yJ6_bitCount_0f7a4 prog_11_method_49_code 1 (some FieldType.int) ∈ lw_u := tb3 (List.mem_of_getElem? (i := 90) (by decide +kernel)) (by decide +kernel)
theorem wd_3_91 : Cond.constant RJ6 265 (1431655765) ∈ lw_u := tb3 (List.mem_of_getElem? (i := 91) (by decide +kernel)) (by decide +kernel)
theorem wd_3_92 : Cond.constant RJ6 266 (858993459) ∈ lw_u := tb3 (List.mem_of_getElem? (i := 92) (by decide +kernel)) (by decide +kernel)
theorem wd_3_93 : Cond.constant RJ6 267 (252645135) ∈ lw_u := tb3 (List.mem_of_getElem? (i := 93) (by decide +kernel)) (by decide +kernel)
theorem wd_3_94 : Cond.methodLink RX5 76 yX5_wayOfGroup ∈ lw_u := tb3 (List.mem_of_getElem? (i := 94) (by decide +kernel)) (by decide +kernel)
theorem wd_3_95 : Cond.instanceMethod yX5_wayOfGroup ∈ lw_u := tb3 (List.mem_of_getElem? (i := 95) (by decide +kernel)) (by decide +kernel)
theorem wd_3_96 : Cond.selects RX5 yX5_wayOfGroup yX5_wayOfGroup ∈ lw_u := tb3 (List.mem_of_getElem? (i := 96) (by decide +kernel)) (by decide +kernel)
theorem wd_3_97 : Cond.code yX5_wayOfGroup prog_7_method_16_code 4 (some FieldType.int) ∈ lw_u := tb3 (List.mem_of_getElem? (i := 97) (by decide +kernel)) (by decide +kernel)
theorem wd_3_98 : Cond.methodLink RX5 79 yX5_isGroupFree ∈ lw_u := tb3 (List.mem_of_getElem? (i := 98) (by decide +kernel)) (by decide +kernel)
theorem wd_3_100 : Cond.instanceMethod yX5_isGroupFree ∈ lw_u := tb3 (List.mem_of_getElem? (i := 100) (by decide +kernel)) (by decide +kernel)
theorem wd_3_101 : Cond.code yX5_isGroupFree prog_7_method_17_code 5 (some FieldType.boolean) ∈ lw_u := tb3 (List.mem_of_getElem? (i := 101) (by decide +kernel)) (by decide +kernel)
theorem wd_3_102 : Cond.methodLink RX7 215 yX5_wayOfGroup ∈ lw_u := tb3 (List.mem_of_getElem? (i := 102) (by decide +kernel)) (by decide +kernel)
theorem wd_3_103 : Cond.methodLink RL 109 yX7_put ∈ lw_u := tb3 (List.mem_of_getElem? (i := 103) (by decide +kernel)) (by decide +kernel)
theorem wd_3_104 : Cond.instanceMethod yX7_put ∈ lw_u := tb3 (List.mem_of_getElem? (i := 104) (by decide +kernel)) (by decide +kernel)
theorem wd_3_105 : Cond.selects RX7 yX7_put yX7_put ∈ lw_u := tb3 (List.mem_of_getElem? (i := 105) (by decide +kernel)) (by decide +kernel)
theorem wd_3_106 : Cond.code yX7_put prog_1_method_24_code 3 (some FieldType.int) ∈ lw_u := tb3 (List.mem_of_getElem? (i := 106) (by decide +kernel)) (by decide +kernel)
theorem wd_3_107 : Cond.methodLink RX7 218 yX7_step ∈ lw_u := tb3 (List.mem_of_getElem? (i := 107) (by decide +kernel)) (by decide +kernel)
theorem wd_3_109 : Cond.instanceMethod yX7_step ∈ lw_u := tb3 (List.mem_of_getElem? (i := 109) (by decide +kernel)) (by decide +kernel)
theorem wd_3_110 : Cond.code yX7_step prog_1_method_32_code 5 (some FieldType.int) ∈ lw_u := tb3 (List.mem_of_getElem? (i := 110) (by decide +kernel)) (by decide +kernel)
theorem wd_3_111 : Cond.methodLink RX7 226 yX1_turn ∈ lw_u := tb3 (List.mem_of_getElem? (i := 111) (by decide +kernel)) (by decide +kernel)
theorem wd_3_112 : Cond.instanceMethod yX1_turn ∈ lw_u := tb3 (List.mem_of_getElem? (i := 112) (by decide +kernel)) (by decide +kernel)
theorem wd_3_113 : Cond.selects RX1 yX1_turn yX1_turn ∈ lw_u := tb3 (List.mem_of_getElem? (i := 113) (by decide +kernel)) (by decide +kernel)
theorem wd_3_114 : Cond.code yX1_turn prog_3_method_10_code 2 (none) ∈ lw_u := tb3 (List.mem_of_getElem? (i := 114) (by decide +kernel)) (by decide +kernel)
theorem wd_3_115 : Cond.methodLink RL 113 yX7_takeOut ∈ lw_u := tb3 (List.mem_of_getElem? (i := 115) (by decide +kernel)) (by decide +kernel)
theorem wd_3_116 : Cond.instanceMethod yX7_takeOut ∈ lw_u := tb3 (List.mem_of_getElem? (i := 116) (by decide +kernel)) (by decide +kernel)
theorem wd_3_117 : Cond.selects RX7 yX7_takeOut yX7_takeOut ∈ lw_u := tb3 (List.mem_of_getElem? (i := 117) (by decide +kernel)) (by decide +kernel)
theorem wd_3_118 : Cond.code yX7_takeOut prog_1_method_25_code 3 (some FieldType.int) ∈ lw_u := tb3 (List.mem_of_getElem? (i := 118) (by decide +kernel)) (by decide +kernel)
theorem wd_3_119 : Cond.methodLink RL 117 yX7_putAll ∈ lw_u := tb3 (List.mem_of_getElem? (i := 119) (by decide +kernel)) (by decide +kernel)
theorem wd_3_120 : Cond.instanceMethod yX7_putAll ∈ lw_u := tb3 (List.mem_of_getElem? (i := 120) (by decide +kernel)) (by decide +kernel)
theorem wd_3_121 : Cond.selects RX7 yX7_putAll yX7_putAll ∈ lw_u := tb3 (List.mem_of_getElem? (i := 121) (by decide +kernel)) (by decide +kernel)
theorem wd_3_122 : Cond.code yX7_putAll prog_1_method_26_code 4 (some FieldType.int) ∈ lw_u := tb3 (List.mem_of_getElem? (i := 122) (by decide +kernel)) (by decide +kernel)
theorem wd_3_123 : Cond.methodLink RX7 222 yX7_nextToPut ∈ lw_u := tb3 (List.mem_of_getElem? (i := 123) (by decide +kernel)) (by decide +kernel)
theorem wd_3_125 : Cond.instanceMethod yX7_nextToPut ∈ lw_u := tb3 (List.mem_of_getElem? (i := 125) (by decide +kernel)) (by decide +kernel)
theorem wd_3_126 : Cond.code yX7_nextToPut prog_1_method_33_code 3 (some FieldType.int) ∈ lw_u := tb3 (List.mem_of_getElem? (i := 126) (by decide +kernel)) (by decide +kernel)
theorem wd_3_127 : Cond.methodLink RX7 291 yX5_firstWay ∈ lw_u := tb3 (List.mem_of_getElem? (i := 127) (by decide +kernel)) (by decide +kernel)
theorem wd_3_128 : Cond.methodLink RL 121 yX7_ifShift ∈ lw_u := tb3 (List.mem_of_getElem? (i := 128) (by decide +kernel)) (by decide +kernel)
theorem wd_3_129 : Cond.instanceMethod yX7_ifShift ∈ lw_u := tb3 (List.mem_of_getElem? (i := 129) (by decide +kernel)) (by decide +kernel)
theorem wd_3_130 : Cond.selects RX7 yX7_ifShift yX7_ifShift ∈ lw_u := tb3 (List.mem_of_getElem? (i := 130) (by decide +kernel)) (by decide +kernel)
theorem wd_3_131 : Cond.code yX7_ifShift prog_1_method_27_code 4 (some FieldType.int) ∈ lw_u := tb3 (List.mem_of_getElem? (i := 131) (by decide +kernel)) (by decide +kernel)
theorem wd_3_132 : Cond.methodLink RX7 235 yJ6_bitCount_0f7a4 ∈ lw_u := tb3 (List.mem_of_getElem? (i := 132) (by decide +kernel)) (by decide +kernel)
theorem wd_3_133 : Cond.methodLink RL 125 yX7_undo ∈ lw_u := tb3 (List.mem_of_getElem? (i := 133) (by decide +kernel)) (by decide +kernel)
theorem wd_3_134 : Cond.instanceMethod yX7_undo ∈ lw_u := tb3 (List.mem_of_getElem? (i := 134) (by decide +kernel)) (by decide +kernel)
theorem wd_3_135 : Cond.selects RX7 yX7_undo yX7_undo ∈ lw_u := tb3 (List.mem_of_getElem? (i := 135) (by decide +kernel)) (by decide +kernel)
theorem wd_3_136 : Cond.code yX7_undo prog_1_method_28_code 1 (some FieldType.int) ∈ lw_u := tb3 (List.mem_of_getElem? (i := 136) (by decide +kernel)) (by decide +kernel)
theorem wd_3_137 : Cond.methodLink RX7 243 yX2_restore ∈ lw_u := tb3 (List.mem_of_getElem? (i := 137) (by decide +kernel)) (by decide +kernel)
theorem wd_3_138 : Cond.instanceMethod yX2_restore ∈ lw_u := tb3 (List.mem_of_getElem? (i := 138) (by decide +kernel)) (by decide +kernel)
theorem wd_3_139 : Cond.selects RX2 yX2_restore yX2_restore ∈ lw_u := tb3 (List.mem_of_getElem? (i := 139) (by decide +kernel)) (by decide +kernel)
theorem wd_3_140 : Cond.code yX2_restore prog_4_method_3_code 2 (none) ∈ lw_u := tb3 (List.mem_of_getElem? (i := 140) (by decide +kernel)) (by decide +kernel)
theorem wd_3_141 : Cond.methodLink RL 129 yX7_count ∈ lw_u := tb3 (List.mem_of_getElem? (i := 141) (by decide +kernel)) (by decide +kernel)
theorem wd_3_142 : Cond.instanceMethod yX7_count ∈ lw_u := tb3 (List.mem_of_getElem? (i := 142) (by decide +kernel)) (by decide +kernel)
theorem wd_3_143 : Cond.selects RX7 yX7_count yX7_count ∈ lw_u := tb3 (List.mem_of_getElem? (i := 143) (by decide +kernel)) (by decide +kernel)
theorem wd_3_144 : Cond.code yX7_count prog_1_method_29_code 2 (some FieldType.int) ∈ lw_u := tb3 (List.mem_of_getElem? (i := 144) (by decide +kernel)) (by decide +kernel)
theorem wd_3_145 : Cond.methodLink RL 133 yX7_digest ∈ lw_u := tb3 (List.mem_of_getElem? (i := 145) (by decide +kernel)) (by decide +kernel)
theorem wd_3_146 : Cond.instanceMethod yX7_digest ∈ lw_u := tb3 (List.mem_of_getElem? (i := 146) (by decide +kernel)) (by decide +kernel)
theorem wd_3_147 : Cond.selects RX7 yX7_digest yX7_digest ∈ lw_u := tb3 (List.mem_of_getElem? (i := 147) (by decide +kernel)) (by decide +kernel)
theorem wd_3_148 : Cond.code yX7_digest prog_1_method_30_code 6 (some FieldType.long) ∈ lw_u := tb3 (List.mem_of_getElem? (i := 148) (by decide +kernel)) (by decide +kernel)
theorem wd_3_149 : Cond.constantLong RX7 252 (12942) ∈ lw_u := tb3 (List.mem_of_getElem? (i := 149) (by decide +kernel)) (by decide +kernel)
theorem wd_3_150 : Cond.constantLong RX7 254 (31) ∈ lw_u := tb3 (List.mem_of_getElem? (i := 150) (by decide +kernel)) (by decide +kernel)
theorem wd_3_151 : Cond.methodLink RX7 256 yX7_count ∈ lw_u := tb3 (List.mem_of_getElem? (i := 151) (by decide +kernel)) (by decide +kernel)
theorem wd_3_152 : Cond.methodLink RX7 259 yX7_mixPiece ∈ lw_u := tb3 (List.mem_of_getElem? (i := 152) (by decide +kernel)) (by decide +kernel)
theorem wd_3_154 : Cond.instanceMethod yX7_mixPiece ∈ lw_u := tb3 (List.mem_of_getElem? (i := 154) (by decide +kernel)) (by decide +kernel)
theorem wd_3_155 : Cond.code yX7_mixPiece prog_1_method_31_code 7 (some FieldType.long) ∈ lw_u := tb3 (List.mem_of_getElem? (i := 155) (by decide +kernel)) (by decide +kernel)
theorem wd_3_156 : Cond.methodLink RX7 285 yX7_piece ∈ lw_u := tb3 (List.mem_of_getElem? (i := 156) (by decide +kernel)) (by decide +kernel)
theorem wd_3_157 : Cond.methodLink RX7 288 yX7_blockers ∈ lw_u := tb3 (List.mem_of_getElem? (i := 157) (by decide +kernel)) (by decide +kernel)
theorem wd_3_158 : Cond.methodLink RX7 263 yX7_orders ∈ lw_u := tb3 (List.mem_of_getElem? (i := 158) (by decide +kernel)) (by decide +kernel)
theorem wd_3_159 : Cond.methodLink RX7 266 yX7_fewestProps ∈ lw_u := tb3 (List.mem_of_getElem? (i := 159) (by decide +kernel)) (by decide +kernel)
theorem wd_3_160 : Cond.methodLink RX7 269 yX7_planned ∈ lw_u := tb3 (List.mem_of_getElem? (i := 160) (by decide +kernel)) (by decide +kernel)
theorem wd_3_161 : Cond.methodLink RX7 272 yX7_locked ∈ lw_u := tb3 (List.mem_of_getElem? (i := 161) (by decide +kernel)) (by decide +kernel)
theorem wd_3_162 : Cond.methodLink RX7 275 yX7_firstGroup ∈ lw_u := tb3 (List.mem_of_getElem? (i := 162) (by decide +kernel)) (by decide +kernel)
theorem wd_3_163 : Cond.methodLink RX7 279 yX7_standing ∈ lw_u := tb3 (List.mem_of_getElem? (i := 163) (by decide +kernel)) (by decide +kernel)
theorem wd_3_164 : Cond.methodLink RX7 282 yX7_hangsTogether ∈ lw_u := tb3 (List.mem_of_getElem? (i := 164) (by decide +kernel)) (by decide +kernel)
theorem wd_3_165 : Cond.classLink RL 10 RX8 ∈ lw_u := tb3 (List.mem_of_getElem? (i := 165) (by decide +kernel)) (by decide +kernel)
theorem wd_3_166 : Cond.instantiable RX8 14 ∈ lw_u := tb3 (List.mem_of_getElem? (i := 166) (by decide +kernel)) (by decide +kernel)
theorem wd_3_167 : Cond.methodLink RL 12 yX8_init ∈ lw_u := tb3 (List.mem_of_getElem? (i := 167) (by decide +kernel)) (by decide +kernel)
theorem wd_3_168 : Cond.instanceMethod yX8_init ∈ lw_u := tb3 (List.mem_of_getElem? (i := 168) (by decide +kernel)) (by decide +kernel)
theorem wd_3_169 : Cond.code yX8_init prog_10_method_1_code 1 (none) ∈ lw_u := tb3 (List.mem_of_getElem? (i := 169) (by decide +kernel)) (by decide +kernel)
theorem wd_3_170 : Cond.methodLink RX8 1 ⟨"java/lang/Object", "<init>", "()V"⟩ ∈ lw_u := tb3 (List.mem_of_getElem? (i := 170) (by decide +kernel)) (by decide +kernel)
theorem wd_3_171 : Cond.methodLink RX8 38 yX8_lays ∈ lw_u := tb3 (List.mem_of_getElem? (i := 171) (by decide +kernel)) (by decide +kernel)
theorem wd_3_173 : Cond.instanceMethod yX8_lays ∈ lw_u := tb3 (List.mem_of_getElem? (i := 173) (by decide +kernel)) (by decide +kernel)
theorem wd_3_174 : Cond.code yX8_lays prog_10_method_17_code 5 (none) ∈ lw_u := tb3 (List.mem_of_getElem? (i := 174) (by decide +kernel)) (by decide +kernel)
theorem wd_3_175 : Cond.methodLink RX8 61 yX8_at ∈ lw_u := tb3 (List.mem_of_getElem? (i := 175) (by decide +kernel)) (by decide +kernel)
theorem wd_3_177 : Cond.instanceMethod yX8_at ∈ lw_u := tb3 (List.mem_of_getElem? (i := 177) (by decide +kernel)) (by decide +kernel)
theorem wd_3_178 : Cond.code yX8_at prog_10_method_8_code 2 (some FieldType.int) ∈ lw_u := tb3 (List.mem_of_getElem? (i := 178) (by decide +kernel)) (by decide +kernel)
theorem wd_3_179 : Cond.methodLink RX8 65 yX8_looks ∈ lw_u := tb3 (List.mem_of_getElem? (i := 179) (by decide +kernel)) (by decide +kernel)
theorem wd_3_181 : Cond.instanceMethod yX8_looks ∈ lw_u := tb3 (List.mem_of_getElem? (i := 181) (by decide +kernel)) (by decide +kernel)
theorem wd_3_182 : Cond.code yX8_looks prog_10_method_18_code 6 (none) ∈ lw_u := tb3 (List.mem_of_getElem? (i := 182) (by decide +kernel)) (by decide +kernel)
theorem wd_3_183 : Cond.methodLink RX8 69 yX8_step ∈ lw_u := tb3 (List.mem_of_getElem? (i := 183) (by decide +kernel)) (by decide +kernel)
theorem wd_3_184 : Cond.static yX8_step ∈ lw_u := tb3 (List.mem_of_getElem? (i := 184) (by decide +kernel)) (by decide +kernel)
theorem wd_3_185 : Cond.code yX8_step prog_10_method_9_code 5 (some FieldType.int) ∈ lw_u := tb3 (List.mem_of_getElem? (i := 185) (by decide +kernel)) (by decide +kernel)
theorem wd_3_186 : Cond.methodLink RX8 49 yX8_in ∈ lw_u := tb3 (List.mem_of_getElem? (i := 186) (by decide +kernel)) (by decide +kernel)
theorem wd_3_187 : Cond.static yX8_in ∈ lw_u := tb3 (List.mem_of_getElem? (i := 187) (by decide +kernel)) (by decide +kernel)
theorem wd_3_188 : Cond.code yX8_in prog_10_method_3_code 3 (some FieldType.boolean) ∈ lw_u := tb3 (List.mem_of_getElem? (i := 188) (by decide +kernel)) (by decide +kernel)
theorem wd_3_189 : Cond.methodLink RX8 53 yX8_place ∈ lw_u := tb3 (List.mem_of_getElem? (i := 189) (by decide +kernel)) (by decide +kernel)
theorem wd_3_190 : Cond.static yX8_place ∈ lw_u := tb3 (List.mem_of_getElem? (i := 190) (by decide +kernel)) (by decide +kernel)
theorem wd_3_191 : Cond.code yX8_place prog_10_method_7_code 3 (some FieldType.int) ∈ lw_u := tb3 (List.mem_of_getElem? (i := 191) (by decide +kernel)) (by decide +kernel)
theorem wd_3_192 : Cond.fieldLink RX8 7 RX8 "page" "[I" ∈ lw_u := tb3 (List.mem_of_getElem? (i := 192) (by decide +kernel)) (by decide +kernel)
theorem wd_3_193 : Cond.fieldLink RX8 41 RX8 "backMany" "I" ∈ lw_u := tb3 (List.mem_of_getElem? (i := 193) (by decide +kernel)) (by decide +kernel)
theorem wd_3_194 : Cond.fieldLink RX8 13 RX8 "blocking" "[I" ∈ lw_u := tb3 (List.mem_of_getElem? (i := 194) (by decide +kernel)) (by decide +kernel)
theorem wd_3_195 : Cond.fieldLink RX8 16 RX8 "below" "[I" ∈ lw_u := tb3 (List.mem_of_getElem? (i := 195) (by decide +kernel)) (by decide +kernel)
theorem wd_3_196 : Cond.fieldLink RX8 19 RX8 "isGrounded" "[Z" ∈ lw_u := tb3 (List.mem_of_getElem? (i := 196) (by decide +kernel)) (by decide +kernel)
theorem wd_3_197 : Cond.fieldLink RX8 23 RX8 "ways" "[I" ∈ lw_u := tb3 (List.mem_of_getElem? (i := 197) (by decide +kernel)) (by decide +kernel)
theorem wd_3_198 : Cond.fieldLink RX8 26 RX8 "least" "[I" ∈ lw_u := tb3 (List.mem_of_getElem? (i := 198) (by decide +kernel)) (by decide +kernel)
theorem wd_3_199 : Cond.fieldLink RX8 29 RX8 "leads" "[Z" ∈ lw_u := tb3 (List.mem_of_getElem? (i := 199) (by decide +kernel)) (by decide +kernel)
theorem wd_3_200 : Cond.fieldLink RX8 32 RX8 "text" "[I" ∈ lw_u := tb3 (List.mem_of_getElem? (i := 200) (by decide +kernel)) (by decide +kernel)
theorem wd_3_201 : Cond.fieldLink RX8 104 RX8 "typed" "I" ∈ lw_u := tb3 (List.mem_of_getElem? (i := 201) (by decide +kernel)) (by decide +kernel)
theorem wd_3_202 : Cond.fieldLink RX8 107 RX8 "fault" "I" ∈ lw_u := tb3 (List.mem_of_getElem? (i := 202) (by decide +kernel)) (by decide +kernel)
theorem wd_3_203 : Cond.fieldLink RX8 110 RX8 "faultAt" "I" ∈ lw_u := tb3 (List.mem_of_getElem? (i := 203) (by decide +kernel)) (by decide +kernel)
theorem wd_3_204 : Cond.fieldLink RX8 35 RX8 "had" "[Z" ∈ lw_u := tb3 (List.mem_of_getElem? (i := 204) (by decide +kernel)) (by decide +kernel)
theorem wd_3_205 : Cond.fieldLink RX8 199 RX8 "hash" "J" ∈ lw_u := tb3 (List.mem_of_getElem? (i := 205) (by decide +kernel)) (by decide +kernel)
theorem wd_3_235 : Cond.methodLink RL 128 yX8_undo ∈ lw_u := tb3 (List.mem_of_getElem? (i := 235) (by decide +kernel)) (by decide +kernel)
theorem wd_3_236 : Cond.instanceMethod yX8_undo ∈ lw_u := tb3 (List.mem_of_getElem? (i := 236) (by decide +kernel)) (by decide +kernel)
theorem wd_3_237 : Cond.selects RX8 yX8_undo yX8_undo ∈ lw_u := tb3 (List.mem_of_getElem? (i := 237) (by decide +kernel)) (by decide +kernel)
theorem wd_3_238 : Cond.code yX8_undo prog_10_method_6_code 1 (some FieldType.int) ∈ lw_u := tb3 (List.mem_of_getElem? (i := 238) (by decide +kernel)) (by decide +kernel)
theorem wd_3_239 : Cond.methodLink RX8 45 yX8_copies ∈ lw_u := tb3 (List.mem_of_getElem? (i := 239) (by decide +kernel)) (by decide +kernel)
theorem wd_4_1 : Cond.instanceMethod yX8_copies ∈ lw_u := tb4 (List.mem_of_getElem? (i := 1) (by decide +kernel)) (by decide +kernel)
theorem wd_4_2 : Cond.code yX8_copies prog_10_method_4_code 4 (none) ∈ lw_u := tb4 (List.mem_of_getElem? (i := 2) (by decide +kernel)) (by decide +kernel)
theorem wd_4_3 : Cond.methodLink RL 17 yX8_type ∈ lw_u := tb4 (List.mem_of_getElem? (i := 3) (by decide +kernel)) (by decide +kernel)
theorem wd_4_4 : Cond.instanceMethod yX8_type ∈ lw_u := tb4 (List.mem_of_getElem? (i := 4) (by decide +kernel)) (by decide +kernel)
theorem wd_4_5 : Cond.selects RX8 yX8_type yX8_type ∈ lw_u := tb4 (List.mem_of_getElem? (i := 5) (by decide +kernel)) (by decide +kernel)
theorem wd_4_6 : Cond.code yX8_type prog_10_method_36_code 2 (some FieldType.int) ∈ lw_u := tb4 (List.mem_of_getElem? (i := 6) (by decide +kernel)) (by decide +kernel)
theorem wd_4_7 : Cond.methodLink RL 22 yX8_clearText ∈ lw_u := tb4 (List.mem_of_getElem? (i := 7) (by decide +kernel)) (by decide +kernel)
theorem wd_4_8 : Cond.instanceMethod yX8_clearText ∈ lw_u := tb4 (List.mem_of_getElem? (i := 8) (by decide +kernel)) (by decide +kernel)
theorem wd_4_9 : Cond.selects RX8 yX8_clearText yX8_clearText ∈ lw_u := tb4 (List.mem_of_getElem? (i := 9) (by decide +kernel)) (by decide +kernel)
theorem wd_4_10 : Cond.code yX8_clearText prog_10_method_37_code 2 (some FieldType.int) ∈ lw_u := tb4 (List.mem_of_getElem? (i := 10) (by decide +kernel)) (by decide +kernel)
theorem wd_4_11 : Cond.methodLink RL 26 yX8_load ∈ lw_u := tb4 (List.mem_of_getElem? (i := 11) (by decide +kernel)) (by decide +kernel)
theorem wd_4_12 : Cond.instanceMethod yX8_load ∈ lw_u := tb4 (List.mem_of_getElem? (i := 12) (by decide +kernel)) (by decide +kernel)
theorem wd_4_13 : Cond.selects RX8 yX8_load yX8_load ∈ lw_u := tb4 (List.mem_of_getElem? (i := 13) (by decide +kernel)) (by decide +kernel)
theorem wd_4_14 : Cond.code yX8_load prog_10_method_44_code 3 (some FieldType.int) ∈ lw_u := tb4 (List.mem_of_getElem? (i := 14) (by decide +kernel)) (by decide +kernel)
theorem wd_4_15 : Cond.methodLink RX8 133 yX8_empties ∈ lw_u := tb4 (List.mem_of_getElem? (i := 15) (by decide +kernel)) (by decide +kernel)
theorem wd_4_17 : Cond.instanceMethod yX8_empties ∈ lw_u := tb4 (List.mem_of_getElem? (i := 17) (by decide +kernel)) (by decide +kernel)
theorem wd_4_18 : Cond.code yX8_empties prog_10_method_43_code 2 (none) ∈ lw_u := tb4 (List.mem_of_getElem? (i := 18) (by decide +kernel)) (by decide +kernel)
theorem wd_4_19 : Cond.methodLink RX8 136 yX8_reads ∈ lw_u := tb4 (List.mem_of_getElem? (i := 19) (by decide +kernel)) (by decide +kernel)
theorem wd_4_21 : Cond.instanceMethod yX8_reads ∈ lw_u := tb4 (List.mem_of_getElem? (i := 21) (by decide +kernel)) (by decide +kernel)
theorem wd_4_22 : Cond.code yX8_reads prog_10_method_42_code 3 (none) ∈ lw_u := tb4 (List.mem_of_getElem? (i := 22) (by decide +kernel)) (by decide +kernel)
theorem wd_4_23 : Cond.methodLink RX8 127 yX8_spaced ∈ lw_u := tb4 (List.mem_of_getElem? (i := 23) (by decide +kernel)) (by decide +kernel)
theorem wd_4_25 : Cond.instanceMethod yX8_spaced ∈ lw_u := tb4 (List.mem_of_getElem? (i := 25) (by decide +kernel)) (by decide +kernel)
theorem wd_4_26 : Cond.code yX8_spaced prog_10_method_38_code 3 (some FieldType.int) ∈ lw_u := tb4 (List.mem_of_getElem? (i := 26) (by decide +kernel)) (by decide +kernel)
theorem wd_4_27 : Cond.methodLink RX8 130 yX8_readsBox ∈ lw_u := tb4 (List.mem_of_getElem? (i := 27) (by decide +kernel)) (by decide +kernel)
theorem wd_4_29 : Cond.instanceMethod yX8_readsBox ∈ lw_u := tb4 (List.mem_of_getElem? (i := 29) (by decide +kernel)) (by decide +kernel)
theorem wd_4_30 : Cond.code yX8_readsBox prog_10_method_41_code 9 (some FieldType.int) ∈ lw_u := tb4 (List.mem_of_getElem? (i := 30) (by decide +kernel)) (by decide +kernel)
theorem wd_4_31 : Cond.methodLink RX8 113 yX8_digit ∈ lw_u := tb4 (List.mem_of_getElem? (i := 31) (by decide +kernel)) (by decide +kernel)
theorem wd_4_33 : Cond.instanceMethod yX8_digit ∈ lw_u := tb4 (List.mem_of_getElem? (i := 33) (by decide +kernel)) (by decide +kernel)
theorem wd_4_34 : Cond.code yX8_digit prog_10_method_40_code 2 (some FieldType.int) ∈ lw_u := tb4 (List.mem_of_getElem? (i := 34) (by decide +kernel)) (by decide +kernel)
theorem wd_4_35 : Cond.methodLink RX8 116 yX8_fails ∈ lw_u := tb4 (List.mem_of_getElem? (i := 35) (by decide +kernel)) (by decide +kernel)
theorem wd_4_37 : Cond.instanceMethod yX8_fails ∈ lw_u := tb4 (List.mem_of_getElem? (i := 37) (by decide +kernel)) (by decide +kernel)
theorem wd_4_38 : Cond.code yX8_fails prog_10_method_39_code 3 (some FieldType.int) ∈ lw_u := tb4 (List.mem_of_getElem? (i := 38) (by decide +kernel)) (by decide +kernel)
theorem wd_4_39 : Cond.methodLink RX8 119 yX8_meets ∈ lw_u := tb4 (List.mem_of_getElem? (i := 39) (by decide +kernel)) (by decide +kernel)
theorem wd_4_41 : Cond.instanceMethod yX8_meets ∈ lw_u := tb4 (List.mem_of_getElem? (i := 41) (by decide +kernel)) (by decide +kernel)
theorem wd_4_42 : Cond.code yX8_meets prog_10_method_15_code 11 (some FieldType.boolean) ∈ lw_u := tb4 (List.mem_of_getElem? (i := 42) (by decide +kernel)) (by decide +kernel)
theorem wd_4_43 : Cond.methodLink RX8 123 yX8_fills ∈ lw_u := tb4 (List.mem_of_getElem? (i := 43) (by decide +kernel)) (by decide +kernel)
theorem wd_4_45 : Cond.instanceMethod yX8_fills ∈ lw_u := tb4 (List.mem_of_getElem? (i := 45) (by decide +kernel)) (by decide +kernel)
theorem wd_4_46 : Cond.code yX8_fills prog_10_method_16_code 9 (none) ∈ lw_u := tb4 (List.mem_of_getElem? (i := 46) (by decide +kernel)) (by decide +kernel)
theorem wd_4_47 : Cond.methodLink RX8 139 yX8_records ∈ lw_u := tb4 (List.mem_of_getElem? (i := 47) (by decide +kernel)) (by decide +kernel)
theorem wd_4_49 : Cond.instanceMethod yX8_records ∈ lw_u := tb4 (List.mem_of_getElem? (i := 49) (by decide +kernel)) (by decide +kernel)
theorem wd_4_50 : Cond.code yX8_records prog_10_method_5_code 2 (none) ∈ lw_u := tb4 (List.mem_of_getElem? (i := 50) (by decide +kernel)) (by decide +kernel)
theorem wd_4_51 : Cond.methodLink RL 30 yX8_faultKind ∈ lw_u := tb4 (List.mem_of_getElem? (i := 51) (by decide +kernel)) (by decide +kernel)
theorem wd_4_52 : Cond.instanceMethod yX8_faultKind ∈ lw_u := tb4 (List.mem_of_getElem? (i := 52) (by decide +kernel)) (by decide +kernel)
theorem wd_4_53 : Cond.selects RX8 yX8_faultKind yX8_faultKind ∈ lw_u := tb4 (List.mem_of_getElem? (i := 53) (by decide +kernel)) (by decide +kernel)
theorem wd_4_54 : Cond.code yX8_faultKind prog_10_method_45_code 1 (some FieldType.int) ∈ lw_u := tb4 (List.mem_of_getElem? (i := 54) (by decide +kernel)) (by decide +kernel)
theorem wd_4_55 : Cond.methodLink RL 34 yX8_clear ∈ lw_u := tb4 (List.mem_of_getElem? (i := 55) (by decide +kernel)) (by decide +kernel)
theorem wd_4_56 : Cond.instanceMethod yX8_clear ∈ lw_u := tb4 (List.mem_of_getElem? (i := 56) (by decide +kernel)) (by decide +kernel)
theorem wd_4_57 : Cond.selects RX8 yX8_clear yX8_clear ∈ lw_u := tb4 (List.mem_of_getElem? (i := 57) (by decide +kernel)) (by decide +kernel)
theorem wd_4_58 : Cond.code yX8_clear prog_10_method_46_code 2 (some FieldType.int) ∈ lw_u := tb4 (List.mem_of_getElem? (i := 58) (by decide +kernel)) (by decide +kernel)
theorem wd_4_59 : Cond.methodLink RL 39 yX8_addPiece ∈ lw_u := tb4 (List.mem_of_getElem? (i := 59) (by decide +kernel)) (by decide +kernel)
theorem wd_4_60 : Cond.instanceMethod yX8_addPiece ∈ lw_u := tb4 (List.mem_of_getElem? (i := 60) (by decide +kernel)) (by decide +kernel)
theorem wd_4_61 : Cond.selects RX8 yX8_addPiece yX8_addPiece ∈ lw_u := tb4 (List.mem_of_getElem? (i := 61) (by decide +kernel)) (by decide +kernel)
theorem wd_4_62 : Cond.code yX8_addPiece prog_10_method_47_code 8 (some FieldType.int) ∈ lw_u := tb4 (List.mem_of_getElem? (i := 62) (by decide +kernel)) (by decide +kernel)
theorem wd_4_63 : Cond.methodLink RX8 142 yX8_isBox ∈ lw_u := tb4 (List.mem_of_getElem? (i := 63) (by decide +kernel)) (by decide +kernel)
theorem wd_4_64 : Cond.static yX8_isBox ∈ lw_u := tb4 (List.mem_of_getElem? (i := 64) (by decide +kernel)) (by decide +kernel)
theorem wd_4_65 : Cond.code yX8_isBox prog_10_method_14_code 7 (some FieldType.boolean) ∈ lw_u := tb4 (List.mem_of_getElem? (i := 65) (by decide +kernel)) (by decide +kernel)
theorem wd_4_66 : Cond.methodLink RL 44 yX8_extend ∈ lw_u := tb4 (List.mem_of_getElem? (i := 66) (by decide +kernel)) (by decide +kernel)
theorem wd_4_67 : Cond.instanceMethod yX8_extend ∈ lw_u := tb4 (List.mem_of_getElem? (i := 67) (by decide +kernel)) (by decide +kernel)
theorem wd_4_68 : Cond.selects RX8 yX8_extend yX8_extend ∈ lw_u := tb4 (List.mem_of_getElem? (i := 68) (by decide +kernel)) (by decide +kernel)
theorem wd_4_69 : Cond.code yX8_extend prog_10_method_49_code 8 (some FieldType.int) ∈ lw_u := tb4 (List.mem_of_getElem? (i := 69) (by decide +kernel)) (by decide +kernel)
theorem wd_4_70 : Cond.methodLink RX8 146 yX8_isPiece ∈ lw_u := tb4 (List.mem_of_getElem? (i := 70) (by decide +kernel)) (by decide +kernel)
theorem wd_4_72 : Cond.instanceMethod yX8_isPiece ∈ lw_u := tb4 (List.mem_of_getElem? (i := 72) (by decide +kernel)) (by decide +kernel)
theorem wd_4_73 : Cond.code yX8_isPiece prog_10_method_10_code 2 (some FieldType.boolean) ∈ lw_u := tb4 (List.mem_of_getElem? (i := 73) (by decide +kernel)) (by decide +kernel)
theorem wd_4_74 : Cond.methodLink RX8 150 yX8_cellsOf ∈ lw_u := tb4 (List.mem_of_getElem? (i := 74) (by decide +kernel)) (by decide +kernel)
theorem wd_4_76 : Cond.instanceMethod yX8_cellsOf ∈ lw_u := tb4 (List.mem_of_getElem? (i := 76) (by decide +kernel)) (by decide +kernel)
theorem wd_4_77 : Cond.code yX8_cellsOf prog_10_method_48_code 4 (some FieldType.int) ∈ lw_u := tb4 (List.mem_of_getElem? (i := 77) (by decide +kernel)) (by decide +kernel)
theorem wd_4_78 : Cond.methodLink RL 48 yX8_drop ∈ lw_u := tb4 (List.mem_of_getElem? (i := 78) (by decide +kernel)) (by decide +kernel)
theorem wd_4_79 : Cond.instanceMethod yX8_drop ∈ lw_u := tb4 (List.mem_of_getElem? (i := 79) (by decide +kernel)) (by decide +kernel)
theorem wd_4_80 : Cond.selects RX8 yX8_drop yX8_drop ∈ lw_u := tb4 (List.mem_of_getElem? (i := 80) (by decide +kernel)) (by decide +kernel)
theorem wd_4_81 : Cond.code yX8_drop prog_10_method_50_code 4 (some FieldType.int) ∈ lw_u := tb4 (List.mem_of_getElem? (i := 81) (by decide +kernel)) (by decide +kernel)
theorem wd_4_82 : Cond.methodLink RL 53 yX8_shift ∈ lw_u := tb4 (List.mem_of_getElem? (i := 82) (by decide +kernel)) (by decide +kernel)
theorem wd_4_83 : Cond.instanceMethod yX8_shift ∈ lw_u := tb4 (List.mem_of_getElem? (i := 83) (by decide +kernel)) (by decide +kernel)
theorem wd_4_84 : Cond.selects RX8 yX8_shift yX8_shift ∈ lw_u := tb4 (List.mem_of_getElem? (i := 84) (by decide +kernel)) (by decide +kernel)
theorem wd_4_85 : Cond.code yX8_shift prog_10_method_53_code 4 (some FieldType.int) ∈ lw_u := tb4 (List.mem_of_getElem? (i := 85) (by decide +kernel)) (by decide +kernel)
theorem wd_4_86 : Cond.methodLink RX8 156 yX8_wrongShift ∈ lw_u := tb4 (List.mem_of_getElem? (i := 86) (by decide +kernel)) (by decide +kernel)
theorem wd_4_88 : Cond.instanceMethod yX8_wrongShift ∈ lw_u := tb4 (List.mem_of_getElem? (i := 88) (by decide +kernel)) (by decide +kernel)
theorem wd_4_89 : Cond.code yX8_wrongShift prog_10_method_51_code 6 (some FieldType.int) ∈ lw_u := tb4 (List.mem_of_getElem? (i := 89) (by decide +kernel)) (by decide +kernel)
theorem wd_4_90 : Cond.methodLink RX8 153 yX8_isDirection ∈ lw_u := tb4 (List.mem_of_getElem? (i := 90) (by decide +kernel)) (by decide +kernel)
theorem wd_4_91 : Cond.static yX8_isDirection ∈ lw_u := tb4 (List.mem_of_getElem? (i := 91) (by decide +kernel)) (by decide +kernel)
theorem wd_4_92 : Cond.code yX8_isDirection prog_10_method_11_code 1 (some FieldType.boolean) ∈ lw_u := tb4 (List.mem_of_getElem? (i := 92) (by decide +kernel)) (by decide +kernel)
theorem wd_4_93 : Cond.methodLink RX8 159 yX8_moves ∈ lw_u := tb4 (List.mem_of_getElem? (i := 93) (by decide +kernel)) (by decide +kernel)
theorem wd_4_95 : Cond.instanceMethod yX8_moves ∈ lw_u := tb4 (List.mem_of_getElem? (i := 95) (by decide +kernel)) (by decide +kernel)
theorem wd_4_96 : Cond.code yX8_moves prog_10_method_52_code 4 (none) ∈ lw_u := tb4 (List.mem_of_getElem? (i := 96) (by decide +kernel)) (by decide +kernel)
theorem wd_4_97 : Cond.methodLink RL 58 yX8_pieceAt ∈ lw_u := tb4 (List.mem_of_getElem? (i := 97) (by decide +kernel)) (by decide +kernel)
theorem wd_4_98 : Cond.instanceMethod yX8_pieceAt ∈ lw_u := tb4 (List.mem_of_getElem? (i := 98) (by decide +kernel)) (by decide +kernel)
theorem wd_4_99 : Cond.selects RX8 yX8_pieceAt yX8_pieceAt ∈ lw_u := tb4 (List.mem_of_getElem? (i := 99) (by decide +kernel)) (by decide +kernel)
theorem wd_4_100 : Cond.code yX8_pieceAt prog_10_method_54_code 5 (some FieldType.int) ∈ lw_u := tb4 (List.mem_of_getElem? (i := 100) (by decide +kernel)) (by decide +kernel)
theorem wd_4_101 : Cond.methodLink RL 62 yX8_piece ∈ lw_u := tb4 (List.mem_of_getElem? (i := 101) (by decide +kernel)) (by decide +kernel)
theorem wd_4_102 : Cond.instanceMethod yX8_piece ∈ lw_u := tb4 (List.mem_of_getElem? (i := 102) (by decide +kernel)) (by decide +kernel)
theorem wd_4_103 : Cond.selects RX8 yX8_piece yX8_piece ∈ lw_u := tb4 (List.mem_of_getElem? (i := 103) (by decide +kernel)) (by decide +kernel)
theorem wd_4_104 : Cond.code yX8_piece prog_10_method_57_code 3 (some FieldType.int) ∈ lw_u := tb4 (List.mem_of_getElem? (i := 104) (by decide +kernel)) (by decide +kernel)
theorem wd_4_105 : Cond.methodLink RX8 162 yX8_end ∈ lw_u := tb4 (List.mem_of_getElem? (i := 105) (by decide +kernel)) (by decide +kernel)
theorem wd_4_107 : Cond.instanceMethod yX8_end ∈ lw_u := tb4 (List.mem_of_getElem? (i := 107) (by decide +kernel)) (by decide +kernel)
theorem wd_4_108 : Cond.code yX8_end prog_10_method_55_code 8 (some FieldType.int) ∈ lw_u := tb4 (List.mem_of_getElem? (i := 108) (by decide +kernel)) (by decide +kernel)
theorem wd_4_109 : Cond.methodLink RX8 166 yX8_groundOf ∈ lw_u := tb4 (List.mem_of_getElem? (i := 109) (by decide +kernel)) (by decide +kernel)
theorem wd_4_111 : Cond.instanceMethod yX8_groundOf ∈ lw_u := tb4 (List.mem_of_getElem? (i := 111) (by decide +kernel)) (by decide +kernel)
theorem wd_4_112 : Cond.code yX8_groundOf prog_10_method_56_code 4 (some FieldType.int) ∈ lw_u := tb4 (List.mem_of_getElem? (i := 112) (by decide +kernel)) (by decide +kernel)
theorem wd_4_113 : Cond.methodLink RL 66 yX8_blockers ∈ lw_u := tb4 (List.mem_of_getElem? (i := 113) (by decide +kernel)) (by decide +kernel)
theorem wd_4_114 : Cond.instanceMethod yX8_blockers ∈ lw_u := tb4 (List.mem_of_getElem? (i := 114) (by decide +kernel)) (by decide +kernel)
theorem wd_4_115 : Cond.selects RX8 yX8_blockers yX8_blockers ∈ lw_u := tb4 (List.mem_of_getElem? (i := 115) (by decide +kernel)) (by decide +kernel)
theorem wd_4_116 : Cond.code yX8_blockers prog_10_method_58_code 3 (some FieldType.int) ∈ lw_u := tb4 (List.mem_of_getElem? (i := 116) (by decide +kernel)) (by decide +kernel)
theorem wd_4_117 : Cond.methodLink RL 70 yX8_ways ∈ lw_u := tb4 (List.mem_of_getElem? (i := 117) (by decide +kernel)) (by decide +kernel)
theorem wd_4_118 : Cond.instanceMethod yX8_ways ∈ lw_u := tb4 (List.mem_of_getElem? (i := 118) (by decide +kernel)) (by decide +kernel)
theorem wd_4_119 : Cond.selects RX8 yX8_ways yX8_ways ∈ lw_u := tb4 (List.mem_of_getElem? (i := 119) (by decide +kernel)) (by decide +kernel)
theorem wd_4_120 : Cond.code yX8_ways prog_10_method_59_code 3 (some FieldType.int) ∈ lw_u := tb4 (List.mem_of_getElem? (i := 120) (by decide +kernel)) (by decide +kernel)
theorem wd_4_121 : Cond.methodLink RX8 169 yX8_isSet ∈ lw_u := tb4 (List.mem_of_getElem? (i := 121) (by decide +kernel)) (by decide +kernel)
theorem wd_4_123 : Cond.instanceMethod yX8_isSet ∈ lw_u := tb4 (List.mem_of_getElem? (i := 123) (by decide +kernel)) (by decide +kernel)
theorem wd_4_124 : Cond.code yX8_isSet prog_10_method_13_code 2 (some FieldType.boolean) ∈ lw_u := tb4 (List.mem_of_getElem? (i := 124) (by decide +kernel)) (by decide +kernel)
theorem wd_4_125 : Cond.methodLink RX8 57 yX8_all ∈ lw_u := tb4 (List.mem_of_getElem? (i := 125) (by decide +kernel)) (by decide +kernel)
theorem wd_4_127 : Cond.instanceMethod yX8_all ∈ lw_u := tb4 (List.mem_of_getElem? (i := 127) (by decide +kernel)) (by decide +kernel)
theorem wd_4_128 : Cond.code yX8_all prog_10_method_12_code 1 (some FieldType.int) ∈ lw_u := tb4 (List.mem_of_getElem? (i := 128) (by decide +kernel)) (by decide +kernel)
theorem wd_4_129 : Cond.methodLink RX8 89 yX8_waysOf ∈ lw_u := tb4 (List.mem_of_getElem? (i := 129) (by decide +kernel)) (by decide +kernel)
theorem wd_4_131 : Cond.instanceMethod yX8_waysOf ∈ lw_u := tb4 (List.mem_of_getElem? (i := 131) (by decide +kernel)) (by decide +kernel)
theorem wd_4_132 : Cond.code yX8_waysOf prog_10_method_20_code 5 (some FieldType.int) ∈ lw_u := tb4 (List.mem_of_getElem? (i := 132) (by decide +kernel)) (by decide +kernel)
theorem wd_4_133 : Cond.methodLink RX8 73 yX8_isFree ∈ lw_u := tb4 (List.mem_of_getElem? (i := 133) (by decide +kernel)) (by decide +kernel)
theorem wd_4_135 : Cond.instanceMethod yX8_isFree ∈ lw_u := tb4 (List.mem_of_getElem? (i := 135) (by decide +kernel)) (by decide +kernel)
theorem wd_4_136 : Cond.code yX8_isFree prog_10_method_19_code 4 (some FieldType.boolean) ∈ lw_u := tb4 (List.mem_of_getElem? (i := 136) (by decide +kernel)) (by decide +kernel)
theorem wd_4_137 : Cond.methodLink RL 74 yX8_contact ∈ lw_u := tb4 (List.mem_of_getElem? (i := 137) (by decide +kernel)) (by decide +kernel)
theorem wd_4_138 : Cond.instanceMethod yX8_contact ∈ lw_u := tb4 (List.mem_of_getElem? (i := 138) (by decide +kernel)) (by decide +kernel)
theorem wd_4_139 : Cond.selects RX8 yX8_contact yX8_contact ∈ lw_u := tb4 (List.mem_of_getElem? (i := 139) (by decide +kernel)) (by decide +kernel)
theorem wd_4_140 : Cond.code yX8_contact prog_10_method_60_code 3 (some FieldType.int) ∈ lw_u := tb4 (List.mem_of_getElem? (i := 140) (by decide +kernel)) (by decide +kernel)
theorem wd_4_141 : Cond.methodLink RX8 80 yX8_contactOf ∈ lw_u := tb4 (List.mem_of_getElem? (i := 141) (by decide +kernel)) (by decide +kernel)
theorem wd_4_143 : Cond.instanceMethod yX8_contactOf ∈ lw_u := tb4 (List.mem_of_getElem? (i := 143) (by decide +kernel)) (by decide +kernel)
theorem wd_4_144 : Cond.code yX8_contactOf prog_10_method_25_code 7 (some FieldType.int) ∈ lw_u := tb4 (List.mem_of_getElem? (i := 144) (by decide +kernel)) (by decide +kernel)
theorem wd_4_145 : Cond.methodLink RL 78 yX8_hangsTogether ∈ lw_u := tb4 (List.mem_of_getElem? (i := 145) (by decide +kernel)) (by decide +kernel)
theorem wd_4_146 : Cond.instanceMethod yX8_hangsTogether ∈ lw_u := tb4 (List.mem_of_getElem? (i := 146) (by decide +kernel)) (by decide +kernel)
theorem wd_4_147 : Cond.selects RX8 yX8_hangsTogether yX8_hangsTogether ∈ lw_u := tb4 (List.mem_of_getElem? (i := 147) (by decide +kernel)) (by decide +kernel)
theorem wd_4_148 : Cond.code yX8_hangsTogether prog_10_method_61_code 2 (some FieldType.int) ∈ lw_u := tb4 (List.mem_of_getElem? (i := 148) (by decide +kernel)) (by decide +kernel)
theorem wd_4_149 : Cond.methodLink RX8 172 yX8_hangs ∈ lw_u := tb4 (List.mem_of_getElem? (i := 149) (by decide +kernel)) (by decide +kernel)
theorem wd_4_151 : Cond.instanceMethod yX8_hangs ∈ lw_u := tb4 (List.mem_of_getElem? (i := 151) (by decide +kernel)) (by decide +kernel)
theorem wd_4_152 : Cond.code yX8_hangs prog_10_method_26_code 6 (some FieldType.boolean) ∈ lw_u := tb4 (List.mem_of_getElem? (i := 152) (by decide +kernel)) (by decide +kernel)
theorem wd_4_153 : Cond.methodLink RX8 76 yX8_has ∈ lw_u := tb4 (List.mem_of_getElem? (i := 153) (by decide +kernel)) (by decide +kernel)
theorem wd_4_154 : Cond.static yX8_has ∈ lw_u := tb4 (List.mem_of_getElem? (i := 154) (by decide +kernel)) (by decide +kernel)
theorem wd_4_155 : Cond.code yX8_has prog_10_method_22_code 2 (some FieldType.boolean) ∈ lw_u := tb4 (List.mem_of_getElem? (i := 155) (by decide +kernel)) (by decide +kernel)
theorem wd_4_156 : Cond.methodLink RL 82 yX8_props ∈ lw_u := tb4 (List.mem_of_getElem? (i := 156) (by decide +kernel)) (by decide +kernel)
theorem wd_4_157 : Cond.instanceMethod yX8_props ∈ lw_u := tb4 (List.mem_of_getElem? (i := 157) (by decide +kernel)) (by decide +kernel)
theorem wd_4_158 : Cond.selects RX8 yX8_props yX8_props ∈ lw_u := tb4 (List.mem_of_getElem? (i := 158) (by decide +kernel)) (by decide +kernel)
theorem wd_4_159 : Cond.code yX8_props prog_10_method_62_code 2 (some FieldType.int) ∈ lw_u := tb4 (List.mem_of_getElem? (i := 159) (by decide +kernel)) (by decide +kernel)
theorem wd_4_160 : Cond.methodLink RX8 92 yX8_propsOf ∈ lw_u := tb4 (List.mem_of_getElem? (i := 160) (by decide +kernel)) (by decide +kernel)
theorem wd_4_162 : Cond.instanceMethod yX8_propsOf ∈ lw_u := tb4 (List.mem_of_getElem? (i := 162) (by decide +kernel)) (by decide +kernel)
theorem wd_4_163 : Cond.code yX8_propsOf prog_10_method_23_code 4 (some FieldType.int) ∈ lw_u := tb4 (List.mem_of_getElem? (i := 163) (by decide +kernel)) (by decide +kernel)
theorem wd_4_164 : Cond.methodLink RL 86 yX8_standing ∈ lw_u := tb4 (List.mem_of_getElem? (i := 164) (by decide +kernel)) (by decide +kernel)
theorem wd_4_165 : Cond.instanceMethod yX8_standing ∈ lw_u := tb4 (List.mem_of_getElem? (i := 165) (by decide +kernel)) (by decide +kernel)
theorem wd_4_166 : Cond.selects RX8 yX8_standing yX8_standing ∈ lw_u := tb4 (List.mem_of_getElem? (i := 166) (by decide +kernel)) (by decide +kernel)
theorem wd_4_167 : Cond.code yX8_standing prog_10_method_63_code 2 (some FieldType.int) ∈ lw_u := tb4 (List.mem_of_getElem? (i := 167) (by decide +kernel)) (by decide +kernel)
theorem wd_4_168 : Cond.methodLink RX8 175 yX8_standingOf ∈ lw_u := tb4 (List.mem_of_getElem? (i := 168) (by decide +kernel)) (by decide +kernel)
theorem wd_4_170 : Cond.instanceMethod yX8_standingOf ∈ lw_u := tb4 (List.mem_of_getElem? (i := 170) (by decide +kernel)) (by decide +kernel)
theorem wd_4_171 : Cond.code yX8_standingOf prog_10_method_24_code 5 (some FieldType.int) ∈ lw_u := tb4 (List.mem_of_getElem? (i := 171) (by decide +kernel)) (by decide +kernel)
theorem wd_4_172 : Cond.methodLink RL 90 yX8_orders ∈ lw_u := tb4 (List.mem_of_getElem? (i := 172) (by decide +kernel)) (by decide +kernel)
theorem wd_4_173 : Cond.instanceMethod yX8_orders ∈ lw_u := tb4 (List.mem_of_getElem? (i := 173) (by decide +kernel)) (by decide +kernel)
theorem wd_4_174 : Cond.selects RX8 yX8_orders yX8_orders ∈ lw_u := tb4 (List.mem_of_getElem? (i := 174) (by decide +kernel)) (by decide +kernel)
theorem wd_4_175 : Cond.code yX8_orders prog_10_method_64_code 2 (some FieldType.int) ∈ lw_u := tb4 (List.mem_of_getElem? (i := 175) (by decide +kernel)) (by decide +kernel)
theorem wd_4_176 : Cond.methodLink RX8 178 yX8_findsOrders ∈ lw_u := tb4 (List.mem_of_getElem? (i := 176) (by decide +kernel)) (by decide +kernel)
theorem wd_4_178 : Cond.instanceMethod yX8_findsOrders ∈ lw_u := tb4 (List.mem_of_getElem? (i := 178) (by decide +kernel)) (by decide +kernel)
theorem wd_4_179 : Cond.code yX8_findsOrders prog_10_method_28_code 4 (none) ∈ lw_u := tb4 (List.mem_of_getElem? (i := 179) (by decide +kernel)) (by decide +kernel)
theorem wd_4_180 : Cond.methodLink RX8 83 yX8_isWithin ∈ lw_u := tb4 (List.mem_of_getElem? (i := 180) (by decide +kernel)) (by decide +kernel)
theorem wd_4_181 : Cond.static yX8_isWithin ∈ lw_u := tb4 (List.mem_of_getElem? (i := 181) (by decide +kernel)) (by decide +kernel)
theorem wd_4_182 : Cond.code yX8_isWithin prog_10_method_27_code 2 (some FieldType.boolean) ∈ lw_u := tb4 (List.mem_of_getElem? (i := 182) (by decide +kernel)) (by decide +kernel)
theorem wd_4_183 : Cond.methodLink RX8 86 yX8_comesLast ∈ lw_u := tb4 (List.mem_of_getElem? (i := 183) (by decide +kernel)) (by decide +kernel)
theorem wd_4_185 : Cond.instanceMethod yX8_comesLast ∈ lw_u := tb4 (List.mem_of_getElem? (i := 185) (by decide +kernel)) (by decide +kernel)
theorem wd_4_186 : Cond.code yX8_comesLast prog_10_method_29_code 6 (none) ∈ lw_u := tb4 (List.mem_of_getElem? (i := 186) (by decide +kernel)) (by decide +kernel)
theorem wd_4_187 : Cond.methodLink RL 94 yX8_fewestProps ∈ lw_u := tb4 (List.mem_of_getElem? (i := 187) (by decide +kernel)) (by decide +kernel)
theorem wd_4_188 : Cond.instanceMethod yX8_fewestProps ∈ lw_u := tb4 (List.mem_of_getElem? (i := 188) (by decide +kernel)) (by decide +kernel)
theorem wd_4_189 : Cond.selects RX8 yX8_fewestProps yX8_fewestProps ∈ lw_u := tb4 (List.mem_of_getElem? (i := 189) (by decide +kernel)) (by decide +kernel)
theorem wd_4_190 : Cond.code yX8_fewestProps prog_10_method_65_code 2 (some FieldType.int) ∈ lw_u := tb4 (List.mem_of_getElem? (i := 190) (by decide +kernel)) (by decide +kernel)
theorem wd_4_191 : Cond.methodLink RL 99 yX8_planned ∈ lw_u := tb4 (List.mem_of_getElem? (i := 191) (by decide +kernel)) (by decide +kernel)
theorem wd_4_192 : Cond.instanceMethod yX8_planned ∈ lw_u := tb4 (List.mem_of_getElem? (i := 192) (by decide +kernel)) (by decide +kernel)
theorem wd_4_193 : Cond.selects RX8 yX8_planned yX8_planned ∈ lw_u := tb4 (List.mem_of_getElem? (i := 193) (by decide +kernel)) (by decide +kernel)
theorem wd_4_194 : Cond.code yX8_planned prog_10_method_66_code 8 (some FieldType.int) ∈ lw_u := tb4 (List.mem_of_getElem? (i := 194) (by decide +kernel)) (by decide +kernel)
theorem wd_4_195 : Cond.methodLink RX8 98 yX8_bits ∈ lw_u := tb4 (List.mem_of_getElem? (i := 195) (by decide +kernel)) (by decide +kernel)
theorem wd_4_196 : Cond.static yX8_bits ∈ lw_u := tb4 (List.mem_of_getElem? (i := 196) (by decide +kernel)) (by decide +kernel)
theorem wd_4_197 : Cond.code yX8_bits prog_10_method_21_code 3 (some FieldType.int) ∈ lw_u := tb4 (List.mem_of_getElem? (i := 197) (by decide +kernel)) (by decide +kernel)
theorem wd_4_198 : Cond.methodLink RX8 182 yX8_findsLeads ∈ lw_u := tb4 (List.mem_of_getElem? (i := 198) (by decide +kernel)) (by decide +kernel)
theorem wd_4_200 : Cond.instanceMethod yX8_findsLeads ∈ lw_u := tb4 (List.mem_of_getElem? (i := 200) (by decide +kernel)) (by decide +kernel)
theorem wd_4_201 : Cond.code yX8_findsLeads prog_10_method_30_code 4 (none) ∈ lw_u := tb4 (List.mem_of_getElem? (i := 201) (by decide +kernel)) (by decide +kernel)
theorem wd_4_202 : Cond.methodLink RX8 95 yX8_canCome ∈ lw_u := tb4 (List.mem_of_getElem? (i := 202) (by decide +kernel)) (by decide +kernel)
theorem wd_4_204 : Cond.instanceMethod yX8_canCome ∈ lw_u := tb4 (List.mem_of_getElem? (i := 204) (by decide +kernel)) (by decide +kernel)
theorem wd_4_205 : Cond.code yX8_canCome prog_10_method_31_code 5 (some FieldType.boolean) ∈ lw_u := tb4 (List.mem_of_getElem? (i := 205) (by decide +kernel)) (by decide +kernel)
theorem wd_4_206 : Cond.methodLink RX8 185 yX8_lowest ∈ lw_u := tb4 (List.mem_of_getElem? (i := 206) (by decide +kernel)) (by decide +kernel)
theorem wd_4_207 : Cond.static yX8_lowest ∈ lw_u := tb4 (List.mem_of_getElem? (i := 207) (by decide +kernel)) (by decide +kernel)
theorem wd_4_208 : Cond.code yX8_lowest prog_10_method_32_code 2 (some FieldType.int) ∈ lw_u := tb4 (List.mem_of_getElem? (i := 208) (by decide +kernel)) (by decide +kernel)
theorem wd_4_209 : Cond.methodLink RL 103 yX8_locked ∈ lw_u := tb4 (List.mem_of_getElem? (i := 209) (by decide +kernel)) (by decide +kernel)
theorem wd_4_210 : Cond.instanceMethod yX8_locked ∈ lw_u := tb4 (List.mem_of_getElem? (i := 210) (by decide +kernel)) (by decide +kernel)
theorem wd_4_211 : Cond.selects RX8 yX8_locked yX8_locked ∈ lw_u := tb4 (List.mem_of_getElem? (i := 211) (by decide +kernel)) (by decide +kernel)
theorem wd_4_212 : Cond.code yX8_locked prog_10_method_67_code 2 (some FieldType.int) ∈ lw_u := tb4 (List.mem_of_getElem? (i := 212) (by decide +kernel)) (by decide +kernel)
theorem wd_4_213 : Cond.methodLink RX8 188 yX8_lockedOf ∈ lw_u := tb4 (List.mem_of_getElem? (i := 213) (by decide +kernel)) (by decide +kernel)
theorem wd_4_215 : Cond.instanceMethod yX8_lockedOf ∈ lw_u := tb4 (List.mem_of_getElem? (i := 215) (by decide +kernel)) (by decide +kernel)
theorem wd_4_216 : Cond.code yX8_lockedOf prog_10_method_33_code 5 (some FieldType.int) ∈ lw_u := tb4 (List.mem_of_getElem? (i := 216) (by decide +kernel)) (by decide +kernel)
theorem wd_4_217 : Cond.methodLink RL 108 yX8_firstGroup ∈ lw_u := tb4 (List.mem_of_getElem? (i := 217) (by decide +kernel)) (by decide +kernel)
theorem wd_4_218 : Cond.instanceMethod yX8_firstGroup ∈ lw_u := tb4 (List.mem_of_getElem? (i := 218) (by decide +kernel)) (by decide +kernel)
theorem wd_4_219 : Cond.selects RX8 yX8_firstGroup yX8_firstGroup ∈ lw_u := tb4 (List.mem_of_getElem? (i := 219) (by decide +kernel)) (by decide +kernel)
theorem wd_4_220 : Cond.code yX8_firstGroup prog_10_method_68_code 4 (some FieldType.int) ∈ lw_u := tb4 (List.mem_of_getElem? (i := 220) (by decide +kernel)) (by decide +kernel)
theorem wd_4_221 : Cond.methodLink RX8 191 yX8_groupOf ∈ lw_u := tb4 (List.mem_of_getElem? (i := 221) (by decide +kernel)) (by decide +kernel)
theorem wd_4_223 : Cond.instanceMethod yX8_groupOf ∈ lw_u := tb4 (List.mem_of_getElem? (i := 223) (by decide +kernel)) (by decide +kernel)
theorem wd_4_224 : Cond.code yX8_groupOf prog_10_method_35_code 5 (some FieldType.int) ∈ lw_u := tb4 (List.mem_of_getElem? (i := 224) (by decide +kernel)) (by decide +kernel)
theorem wd_4_225 : Cond.methodLink RX8 101 yX8_commonWays ∈ lw_u := tb4 (List.mem_of_getElem? (i := 225) (by decide +kernel)) (by decide +kernel)
theorem wd_4_227 : Cond.instanceMethod yX8_commonWays ∈ lw_u := tb4 (List.mem_of_getElem? (i := 227) (by decide +kernel)) (by decide +kernel)
theorem wd_4_228 : Cond.code yX8_commonWays prog_10_method_34_code 5 (some FieldType.int) ∈ lw_u := tb4 (List.mem_of_getElem? (i := 228) (by decide +kernel)) (by decide +kernel)
theorem wd_4_229 : Cond.methodLink RL 112 yX8_put ∈ lw_u := tb4 (List.mem_of_getElem? (i := 229) (by decide +kernel)) (by decide +kernel)
theorem wd_4_230 : Cond.instanceMethod yX8_put ∈ lw_u := tb4 (List.mem_of_getElem? (i := 230) (by decide +kernel)) (by decide +kernel)
theorem wd_4_231 : Cond.selects RX8 yX8_put yX8_put ∈ lw_u := tb4 (List.mem_of_getElem? (i := 231) (by decide +kernel)) (by decide +kernel)
theorem wd_4_232 : Cond.code yX8_put prog_10_method_69_code 3 (some FieldType.int) ∈ lw_u := tb4 (List.mem_of_getElem? (i := 232) (by decide +kernel)) (by decide +kernel)
theorem wd_4_233 : Cond.methodLink RL 116 yX8_takeOut ∈ lw_u := tb4 (List.mem_of_getElem? (i := 233) (by decide +kernel)) (by decide +kernel)
theorem wd_4_234 : Cond.instanceMethod yX8_takeOut ∈ lw_u := tb4 (List.mem_of_getElem? (i := 234) (by decide +kernel)) (by decide +kernel)
theorem wd_4_235 : Cond.selects RX8 yX8_takeOut yX8_takeOut ∈ lw_u := tb4 (List.mem_of_getElem? (i := 235) (by decide +kernel)) (by decide +kernel)
theorem wd_4_236 : Cond.code yX8_takeOut prog_10_method_70_code 3 (some FieldType.int) ∈ lw_u := tb4 (List.mem_of_getElem? (i := 236) (by decide +kernel)) (by decide +kernel)
theorem wd_4_237 : Cond.methodLink RL 120 yX8_putAll ∈ lw_u := tb4 (List.mem_of_getElem? (i := 237) (by decide +kernel)) (by decide +kernel)
theorem wd_4_238 : Cond.instanceMethod yX8_putAll ∈ lw_u := tb4 (List.mem_of_getElem? (i := 238) (by decide +kernel)) (by decide +kernel)
theorem wd_4_239 : Cond.selects RX8 yX8_putAll yX8_putAll ∈ lw_u := tb4 (List.mem_of_getElem? (i := 239) (by decide +kernel)) (by decide +kernel)
theorem wd_5_0 : Cond.code yX8_putAll prog_10_method_71_code 4 (some FieldType.int) ∈ lw_u := tb5 (List.mem_of_getElem? (i := 0) (by decide +kernel)) (by decide +kernel)
theorem wd_5_1 : Cond.methodLink RL 124 yX8_ifShift ∈ lw_u := tb5 (List.mem_of_getElem? (i := 1) (by decide +kernel)) (by decide +kernel)
theorem wd_5_2 : Cond.instanceMethod yX8_ifShift ∈ lw_u := tb5 (List.mem_of_getElem? (i := 2) (by decide +kernel)) (by decide +kernel)
theorem wd_5_3 : Cond.selects RX8 yX8_ifShift yX8_ifShift ∈ lw_u := tb5 (List.mem_of_getElem? (i := 3) (by decide +kernel)) (by decide +kernel)
theorem wd_5_4 : Cond.code yX8_ifShift prog_10_method_72_code 5 (some FieldType.int) ∈ lw_u := tb5 (List.mem_of_getElem? (i := 4) (by decide +kernel)) (by decide +kernel)
theorem wd_5_5 : Cond.methodLink RL 132 yX8_count ∈ lw_u := tb5 (List.mem_of_getElem? (i := 5) (by decide +kernel)) (by decide +kernel)
theorem wd_5_6 : Cond.instanceMethod yX8_count ∈ lw_u := tb5 (List.mem_of_getElem? (i := 6) (by decide +kernel)) (by decide +kernel)
theorem wd_5_7 : Cond.selects RX8 yX8_count yX8_count ∈ lw_u := tb5 (List.mem_of_getElem? (i := 7) (by decide +kernel)) (by decide +kernel)
theorem wd_5_8 : Cond.code yX8_count prog_10_method_74_code 2 (some FieldType.int) ∈ lw_u := tb5 (List.mem_of_getElem? (i := 8) (by decide +kernel)) (by decide +kernel)
theorem wd_5_9 : Cond.methodLink RX8 194 yX8_cellMany ∈ lw_u := tb5 (List.mem_of_getElem? (i := 9) (by decide +kernel)) (by decide +kernel)
theorem wd_5_11 : Cond.instanceMethod yX8_cellMany ∈ lw_u := tb5 (List.mem_of_getElem? (i := 11) (by decide +kernel)) (by decide +kernel)
theorem wd_5_12 : Cond.code yX8_cellMany prog_10_method_73_code 3 (some FieldType.int) ∈ lw_u := tb5 (List.mem_of_getElem? (i := 12) (by decide +kernel)) (by decide +kernel)
theorem wd_5_13 : Cond.methodLink RL 137 yX8_digest ∈ lw_u := tb5 (List.mem_of_getElem? (i := 13) (by decide +kernel)) (by decide +kernel)
theorem wd_5_14 : Cond.instanceMethod yX8_digest ∈ lw_u := tb5 (List.mem_of_getElem? (i := 14) (by decide +kernel)) (by decide +kernel)
theorem wd_5_15 : Cond.selects RX8 yX8_digest yX8_digest ∈ lw_u := tb5 (List.mem_of_getElem? (i := 15) (by decide +kernel)) (by decide +kernel)
theorem wd_5_16 : Cond.code yX8_digest prog_10_method_77_code 3 (some FieldType.long) ∈ lw_u := tb5 (List.mem_of_getElem? (i := 16) (by decide +kernel)) (by decide +kernel)
theorem wd_5_17 : Cond.constantLong RX8 222 (12942) ∈ lw_u := tb5 (List.mem_of_getElem? (i := 17) (by decide +kernel)) (by decide +kernel)
theorem wd_5_18 : Cond.methodLink RX8 224 yX8_count ∈ lw_u := tb5 (List.mem_of_getElem? (i := 18) (by decide +kernel)) (by decide +kernel)
theorem wd_5_19 : Cond.methodLink RX8 206 yX8_mixes ∈ lw_u := tb5 (List.mem_of_getElem? (i := 19) (by decide +kernel)) (by decide +kernel)
theorem wd_5_21 : Cond.instanceMethod yX8_mixes ∈ lw_u := tb5 (List.mem_of_getElem? (i := 21) (by decide +kernel)) (by decide +kernel)
theorem wd_5_22 : Cond.code yX8_mixes prog_10_method_75_code 2 (none) ∈ lw_u := tb5 (List.mem_of_getElem? (i := 22) (by decide +kernel)) (by decide +kernel)
theorem wd_5_23 : Cond.constantLong RX8 197 (31) ∈ lw_u := tb5 (List.mem_of_getElem? (i := 23) (by decide +kernel)) (by decide +kernel)
theorem wd_5_24 : Cond.methodLink RX8 227 yX8_piece ∈ lw_u := tb5 (List.mem_of_getElem? (i := 24) (by decide +kernel)) (by decide +kernel)
theorem wd_5_25 : Cond.methodLink RX8 230 yX8_blockers ∈ lw_u := tb5 (List.mem_of_getElem? (i := 25) (by decide +kernel)) (by decide +kernel)
theorem wd_5_26 : Cond.methodLink RX8 233 yX8_mixesSet ∈ lw_u := tb5 (List.mem_of_getElem? (i := 26) (by decide +kernel)) (by decide +kernel)
theorem wd_5_28 : Cond.instanceMethod yX8_mixesSet ∈ lw_u := tb5 (List.mem_of_getElem? (i := 28) (by decide +kernel)) (by decide +kernel)
theorem wd_5_29 : Cond.code yX8_mixesSet prog_10_method_76_code 3 (none) ∈ lw_u := tb5 (List.mem_of_getElem? (i := 29) (by decide +kernel)) (by decide +kernel)
theorem wd_5_30 : Cond.methodLink RX8 203 yX8_orders ∈ lw_u := tb5 (List.mem_of_getElem? (i := 30) (by decide +kernel)) (by decide +kernel)
theorem wd_5_31 : Cond.methodLink RX8 209 yX8_fewestProps ∈ lw_u := tb5 (List.mem_of_getElem? (i := 31) (by decide +kernel)) (by decide +kernel)
theorem wd_5_32 : Cond.methodLink RX8 212 yX8_planned ∈ lw_u := tb5 (List.mem_of_getElem? (i := 32) (by decide +kernel)) (by decide +kernel)
theorem wd_5_33 : Cond.methodLink RX8 215 yX8_firstGroup ∈ lw_u := tb5 (List.mem_of_getElem? (i := 33) (by decide +kernel)) (by decide +kernel)
theorem wd_5_34 : Cond.methodLink RX8 219 yX8_hangsTogether ∈ lw_u := tb5 (List.mem_of_getElem? (i := 34) (by decide +kernel)) (by decide +kernel)
theorem wd_p_0 : Cond.selects RX6 yX6_readSign yX6_readSign ∈ lw_u := tbq (List.mem_of_getElem? (i := 0) (by decide +kernel)) (by decide +kernel)
theorem wd_p_1 : Cond.selects RX6 yX6_readSeparator yX6_readSeparator ∈ lw_u := tbq (List.mem_of_getElem? (i := 1) (by decide +kernel)) (by decide +kernel)
theorem wd_p_2 : Cond.selects RX6 yX6_beginPiece yX6_beginPiece ∈ lw_u := tbq (List.mem_of_getElem? (i := 2) (by decide +kernel)) (by decide +kernel)
theorem wd_p_3 : Cond.selects RX6 yX6_readDigit yX6_readDigit ∈ lw_u := tbq (List.mem_of_getElem? (i := 3) (by decide +kernel)) (by decide +kernel)
theorem wd_p_4 : Cond.selects RX7 yX7_forgetPieces yX7_forgetPieces ∈ lw_u := tbq (List.mem_of_getElem? (i := 4) (by decide +kernel)) (by decide +kernel)
theorem wd_p_5 : Cond.selects RX7 yX7_isPiece yX7_isPiece ∈ lw_u := tbq (List.mem_of_getElem? (i := 5) (by decide +kernel)) (by decide +kernel)
theorem wd_p_6 : Cond.selects RX7 yX7_knownMeasures yX7_knownMeasures ∈ lw_u := tbq (List.mem_of_getElem? (i := 6) (by decide +kernel)) (by decide +kernel)
theorem wd_p_7 : Cond.selects RX3 yX3_measure yX3_measure ∈ lw_u := tbq (List.mem_of_getElem? (i := 7) (by decide +kernel)) (by decide +kernel)
theorem wd_p_8 : Cond.selects RX7 yX7_shiftFault yX7_shiftFault ∈ lw_u := tbq (List.mem_of_getElem? (i := 8) (by decide +kernel)) (by decide +kernel)
theorem wd_p_9 : Cond.selects RX1 yX1_isOpen yX1_isOpen ∈ lw_u := tbq (List.mem_of_getElem? (i := 9) (by decide +kernel)) (by decide +kernel)
theorem wd_p_10 : Cond.selects RX7 yX7_knownRelations yX7_knownRelations ∈ lw_u := tbq (List.mem_of_getElem? (i := 10) (by decide +kernel)) (by decide +kernel)
theorem wd_p_11 : Cond.selects RX5 yX5_reset yX5_reset ∈ lw_u := tbq (List.mem_of_getElem? (i := 11) (by decide +kernel)) (by decide +kernel)
theorem wd_p_12 : Cond.selects RX5 yX5_readLine yX5_readLine ∈ lw_u := tbq (List.mem_of_getElem? (i := 12) (by decide +kernel)) (by decide +kernel)
theorem wd_p_13 : Cond.selects RX5 yX5_block yX5_block ∈ lw_u := tbq (List.mem_of_getElem? (i := 13) (by decide +kernel)) (by decide +kernel)
theorem wd_p_14 : Cond.selects RX5 yX5_join yX5_join ∈ lw_u := tbq (List.mem_of_getElem? (i := 14) (by decide +kernel)) (by decide +kernel)
theorem wd_p_15 : Cond.selects RX7 yX7_isSet yX7_isSet ∈ lw_u := tbq (List.mem_of_getElem? (i := 15) (by decide +kernel)) (by decide +kernel)
theorem wd_p_16 : Cond.selects RX7 yX7_allPieces yX7_allPieces ∈ lw_u := tbq (List.mem_of_getElem? (i := 16) (by decide +kernel)) (by decide +kernel)
theorem wd_p_17 : Cond.selects RX7 yX7_knownPlanner yX7_knownPlanner ∈ lw_u := tbq (List.mem_of_getElem? (i := 17) (by decide +kernel)) (by decide +kernel)
theorem wd_p_18 : Cond.selects RX4 yX4_fillRow yX4_fillRow ∈ lw_u := tbq (List.mem_of_getElem? (i := 18) (by decide +kernel)) (by decide +kernel)
theorem wd_p_19 : Cond.selects RX4 yX4_markLeading yX4_markLeading ∈ lw_u := tbq (List.mem_of_getElem? (i := 19) (by decide +kernel)) (by decide +kernel)
theorem wd_p_20 : Cond.selects RX4 yX4_nextPlanned yX4_nextPlanned ∈ lw_u := tbq (List.mem_of_getElem? (i := 20) (by decide +kernel)) (by decide +kernel)
theorem wd_p_21 : Cond.selects RX4 yX4_followLeading yX4_followLeading ∈ lw_u := tbq (List.mem_of_getElem? (i := 21) (by decide +kernel)) (by decide +kernel)
theorem wd_p_22 : Cond.selects RX5 yX5_isGroupFree yX5_isGroupFree ∈ lw_u := tbq (List.mem_of_getElem? (i := 22) (by decide +kernel)) (by decide +kernel)
theorem wd_p_23 : Cond.selects RX7 yX7_step yX7_step ∈ lw_u := tbq (List.mem_of_getElem? (i := 23) (by decide +kernel)) (by decide +kernel)
theorem wd_p_24 : Cond.selects RX7 yX7_nextToPut yX7_nextToPut ∈ lw_u := tbq (List.mem_of_getElem? (i := 24) (by decide +kernel)) (by decide +kernel)
theorem wd_p_25 : Cond.selects RX7 yX7_mixPiece yX7_mixPiece ∈ lw_u := tbq (List.mem_of_getElem? (i := 25) (by decide +kernel)) (by decide +kernel)
theorem wd_p_26 : Cond.selects RX8 yX8_lays yX8_lays ∈ lw_u := tbq (List.mem_of_getElem? (i := 26) (by decide +kernel)) (by decide +kernel)
theorem wd_p_27 : Cond.selects RX8 yX8_at yX8_at ∈ lw_u := tbq (List.mem_of_getElem? (i := 27) (by decide +kernel)) (by decide +kernel)
theorem wd_p_28 : Cond.selects RX8 yX8_looks yX8_looks ∈ lw_u := tbq (List.mem_of_getElem? (i := 28) (by decide +kernel)) (by decide +kernel)
theorem wd_p_29 : Cond.selects RX8 yX8_copies yX8_copies ∈ lw_u := tbq (List.mem_of_getElem? (i := 29) (by decide +kernel)) (by decide +kernel)
theorem wd_p_30 : Cond.selects RX8 yX8_empties yX8_empties ∈ lw_u := tbq (List.mem_of_getElem? (i := 30) (by decide +kernel)) (by decide +kernel)
theorem wd_p_31 : Cond.selects RX8 yX8_reads yX8_reads ∈ lw_u := tbq (List.mem_of_getElem? (i := 31) (by decide +kernel)) (by decide +kernel)
theorem wd_p_32 : Cond.selects RX8 yX8_spaced yX8_spaced ∈ lw_u := tbq (List.mem_of_getElem? (i := 32) (by decide +kernel)) (by decide +kernel)
theorem wd_p_33 : Cond.selects RX8 yX8_readsBox yX8_readsBox ∈ lw_u := tbq (List.mem_of_getElem? (i := 33) (by decide +kernel)) (by decide +kernel)
theorem wd_p_34 : Cond.selects RX8 yX8_digit yX8_digit ∈ lw_u := tbq (List.mem_of_getElem? (i := 34) (by decide +kernel)) (by decide +kernel)
theorem wd_p_35 : Cond.selects RX8 yX8_fails yX8_fails ∈ lw_u := tbq (List.mem_of_getElem? (i := 35) (by decide +kernel)) (by decide +kernel)
theorem wd_p_36 : Cond.selects RX8 yX8_meets yX8_meets ∈ lw_u := tbq (List.mem_of_getElem? (i := 36) (by decide +kernel)) (by decide +kernel)
theorem wd_p_37 : Cond.selects RX8 yX8_fills yX8_fills ∈ lw_u := tbq (List.mem_of_getElem? (i := 37) (by decide +kernel)) (by decide +kernel)
theorem wd_p_38 : Cond.selects RX8 yX8_records yX8_records ∈ lw_u := tbq (List.mem_of_getElem? (i := 38) (by decide +kernel)) (by decide +kernel)
theorem wd_p_39 : Cond.selects RX8 yX8_isPiece yX8_isPiece ∈ lw_u := tbq (List.mem_of_getElem? (i := 39) (by decide +kernel)) (by decide +kernel)
theorem wd_p_40 : Cond.selects RX8 yX8_cellsOf yX8_cellsOf ∈ lw_u := tbq (List.mem_of_getElem? (i := 40) (by decide +kernel)) (by decide +kernel)
theorem wd_p_41 : Cond.selects RX8 yX8_wrongShift yX8_wrongShift ∈ lw_u := tbq (List.mem_of_getElem? (i := 41) (by decide +kernel)) (by decide +kernel)
theorem wd_p_42 : Cond.selects RX8 yX8_moves yX8_moves ∈ lw_u := tbq (List.mem_of_getElem? (i := 42) (by decide +kernel)) (by decide +kernel)
theorem wd_p_43 : Cond.selects RX8 yX8_end yX8_end ∈ lw_u := tbq (List.mem_of_getElem? (i := 43) (by decide +kernel)) (by decide +kernel)
theorem wd_p_44 : Cond.selects RX8 yX8_groundOf yX8_groundOf ∈ lw_u := tbq (List.mem_of_getElem? (i := 44) (by decide +kernel)) (by decide +kernel)
theorem wd_p_45 : Cond.selects RX8 yX8_isSet yX8_isSet ∈ lw_u := tbq (List.mem_of_getElem? (i := 45) (by decide +kernel)) (by decide +kernel)
theorem wd_p_46 : Cond.selects RX8 yX8_all yX8_all ∈ lw_u := tbq (List.mem_of_getElem? (i := 46) (by decide +kernel)) (by decide +kernel)
theorem wd_p_47 : Cond.selects RX8 yX8_waysOf yX8_waysOf ∈ lw_u := tbq (List.mem_of_getElem? (i := 47) (by decide +kernel)) (by decide +kernel)
theorem wd_p_48 : Cond.selects RX8 yX8_isFree yX8_isFree ∈ lw_u := tbq (List.mem_of_getElem? (i := 48) (by decide +kernel)) (by decide +kernel)
theorem wd_p_49 : Cond.selects RX8 yX8_contactOf yX8_contactOf ∈ lw_u := tbq (List.mem_of_getElem? (i := 49) (by decide +kernel)) (by decide +kernel)
theorem wd_p_50 : Cond.selects RX8 yX8_hangs yX8_hangs ∈ lw_u := tbq (List.mem_of_getElem? (i := 50) (by decide +kernel)) (by decide +kernel)
theorem wd_p_51 : Cond.selects RX8 yX8_propsOf yX8_propsOf ∈ lw_u := tbq (List.mem_of_getElem? (i := 51) (by decide +kernel)) (by decide +kernel)
theorem wd_p_52 : Cond.selects RX8 yX8_standingOf yX8_standingOf ∈ lw_u := tbq (List.mem_of_getElem? (i := 52) (by decide +kernel)) (by decide +kernel)
theorem wd_p_53 : Cond.selects RX8 yX8_findsOrders yX8_findsOrders ∈ lw_u := tbq (List.mem_of_getElem? (i := 53) (by decide +kernel)) (by decide +kernel)
theorem wd_p_54 : Cond.selects RX8 yX8_comesLast yX8_comesLast ∈ lw_u := tbq (List.mem_of_getElem? (i := 54) (by decide +kernel)) (by decide +kernel)
theorem wd_p_55 : Cond.selects RX8 yX8_findsLeads yX8_findsLeads ∈ lw_u := tbq (List.mem_of_getElem? (i := 55) (by decide +kernel)) (by decide +kernel)
theorem wd_p_56 : Cond.selects RX8 yX8_canCome yX8_canCome ∈ lw_u := tbq (List.mem_of_getElem? (i := 56) (by decide +kernel)) (by decide +kernel)
theorem wd_p_57 : Cond.selects RX8 yX8_lockedOf yX8_lockedOf ∈ lw_u := tbq (List.mem_of_getElem? (i := 57) (by decide +kernel)) (by decide +kernel)
theorem wd_p_58 : Cond.selects RX8 yX8_groupOf yX8_groupOf ∈ lw_u := tbq (List.mem_of_getElem? (i := 58) (by decide +kernel)) (by decide +kernel)
theorem wd_p_59 : Cond.selects RX8 yX8_commonWays yX8_commonWays ∈ lw_u := tbq (List.mem_of_getElem? (i := 59) (by decide +kernel)) (by decide +kernel)
theorem wd_p_60 : Cond.selects RX8 yX8_cellMany yX8_cellMany ∈ lw_u := tbq (List.mem_of_getElem? (i := 60) (by decide +kernel)) (by decide +kernel)
theorem wd_p_61 : Cond.selects RX8 yX8_mixes yX8_mixes ∈ lw_u := tbq (List.mem_of_getElem? (i := 61) (by decide +kernel)) (by decide +kernel)
theorem wd_p_62 : Cond.selects RX8 yX8_mixesSet yX8_mixesSet ∈ lw_u := tbq (List.mem_of_getElem? (i := 62) (by decide +kernel)) (by decide +kernel)
/-- the words on nest mates, which calls carry in the world -/
def nest (U : State) : Prop := va_Nw (Cond.methodLinkNest RX7 18 yX3_init RX7) U ∧ va_Nw (Cond.methodLinkNest RX7 25 yX5_init RX7) U ∧ va_Nw (Cond.fieldLinkNest RX4 39 RX5 "pieces" "I" RX7) U ∧ va_Nw (Cond.methodLinkNest RX7 48 yX6_init RX7) U ∧ va_Nw (Cond.methodLinkNest RX6 17 yX0_init RX7) U ∧ va_Nw (Cond.methodLinkNest RX7 55 yX0_init RX7) U ∧ va_Nw (Cond.methodLinkNest RX0 19 yX7_coordinate RX7) U ∧ va_Nw (Cond.methodLinkNest RX3 37 yX7_coordinate RX7) U ∧ va_Nw (Cond.methodLinkNest RX1 43 yX7_neighbor RX7) U ∧ va_Nw (Cond.methodLinkNest RX5 48 yX7_stride RX7) U ∧ va_Nw (Cond.methodLinkNest RX5 64 yX7_has RX7) U ∧ va_Nw (Cond.methodLinkNest RX4 76 yX7_has RX7) U
theorem nest_warm {s U : State} (hW : s.WarmedH U.vm) (h : nest s) : nest U := by
  obtain ⟨h0, h1, h2, h3, h4, h5, h6, h7, h8, h9, h10, h11⟩ := h
  exact ⟨va_Nw.warmM hW h0, va_Nw.warmM hW h1, va_Nw.warmF hW h2, va_Nw.warmM hW h3, va_Nw.warmM hW h4, va_Nw.warmM hW h5, va_Nw.warmM hW h6, va_Nw.warmM hW h7, va_Nw.warmM hW h8, va_Nw.warmM hW h9, va_Nw.warmM hW h10, va_Nw.warmM hW h11⟩
theorem nest_same {s U : State} (hW : s.vm = U.vm) (h : nest s) : nest U := by
  obtain ⟨h0, h1, h2, h3, h4, h5, h6, h7, h8, h9, h10, h11⟩ := h
  exact ⟨va_Nw.same rfl hW h0, va_Nw.same rfl hW h1, va_Nw.same rfl hW h2, va_Nw.same rfl hW h3, va_Nw.same rfl hW h4, va_Nw.same rfl hW h5, va_Nw.same rfl hW h6, va_Nw.same rfl hW h7, va_Nw.same rfl hW h8, va_Nw.same rfl hW h9, va_Nw.same rfl hW h10, va_Nw.same rfl hW h11⟩
theorem nest_of {A : Array Value} {s : State} (hts : ∀ w ∈ lw_tbl, w.before A s = true) : nest s := ⟨va_Nw.of rfl (hts _ wd_1_59), va_Nw.of rfl (hts _ wd_1_86), va_Nw.of rfl (hts _ wd_1_97), va_Nw.of rfl (hts _ wd_1_173), va_Nw.of rfl (hts _ wd_1_179), va_Nw.of rfl (hts _ wd_1_212), va_Nw.of rfl (hts _ wd_2_59), va_Nw.of rfl (hts _ wd_2_122), va_Nw.of rfl (hts _ wd_2_152), va_Nw.of rfl (hts _ wd_2_204), va_Nw.of rfl (hts _ wd_3_5), va_Nw.of rfl (hts _ wd_3_66)⟩
theorem nest_0 {U : State} (h : nest U) : va_Nw (Cond.methodLinkNest RX7 18 yX3_init RX7) U := h.1
theorem nest_1 {U : State} (h : nest U) : va_Nw (Cond.methodLinkNest RX7 25 yX5_init RX7) U := h.2.1
theorem nest_2 {U : State} (h : nest U) : va_Nw (Cond.fieldLinkNest RX4 39 RX5 "pieces" "I" RX7) U := h.2.2.1
theorem nest_3 {U : State} (h : nest U) : va_Nw (Cond.methodLinkNest RX7 48 yX6_init RX7) U := h.2.2.2.1
theorem nest_4 {U : State} (h : nest U) : va_Nw (Cond.methodLinkNest RX6 17 yX0_init RX7) U := h.2.2.2.2.1
theorem nest_5 {U : State} (h : nest U) : va_Nw (Cond.methodLinkNest RX7 55 yX0_init RX7) U := h.2.2.2.2.2.1
theorem nest_6 {U : State} (h : nest U) : va_Nw (Cond.methodLinkNest RX0 19 yX7_coordinate RX7) U := h.2.2.2.2.2.2.1
theorem nest_7 {U : State} (h : nest U) : va_Nw (Cond.methodLinkNest RX3 37 yX7_coordinate RX7) U := h.2.2.2.2.2.2.2.1
theorem nest_8 {U : State} (h : nest U) : va_Nw (Cond.methodLinkNest RX1 43 yX7_neighbor RX7) U := h.2.2.2.2.2.2.2.2.1
theorem nest_9 {U : State} (h : nest U) : va_Nw (Cond.methodLinkNest RX5 48 yX7_stride RX7) U := h.2.2.2.2.2.2.2.2.2.1
theorem nest_10 {U : State} (h : nest U) : va_Nw (Cond.methodLinkNest RX5 64 yX7_has RX7) U := h.2.2.2.2.2.2.2.2.2.2.1
theorem nest_11 {U : State} (h : nest U) : va_Nw (Cond.methodLinkNest RX4 76 yX7_has RX7) U := h.2.2.2.2.2.2.2.2.2.2.2
theorem innX0 : ∀ w ∈ u_ws RX0 TX0 1, w ∈ lw_u := by decide +kernel
theorem innX1 : ∀ w ∈ u_ws RX1 TX1 5, w ∈ lw_u := by decide +kernel
theorem innX2 : ∀ w ∈ u_ws RX2 TX2 3, w ∈ lw_u := by decide +kernel
theorem innX3 : ∀ w ∈ u_ws RX3 TX3 5, w ∈ lw_u := by decide +kernel
theorem innX4 : ∀ w ∈ u_ws RX4 TX4 9, w ∈ lw_u := by decide +kernel
theorem innX5 : ∀ w ∈ u_ws RX5 TX5 6, w ∈ lw_u := by decide +kernel
theorem innX6 : ∀ w ∈ u_ws RX6 TX6 7, w ∈ lw_u := by decide +kernel
theorem innX7 : ∀ w ∈ u_ws RX7 TX7 12, w ∈ lw_u := by decide +kernel
theorem innX8 : ∀ w ∈ u_ws RX8 TX8 14, w ∈ lw_u := by decide +kernel
theorem gdu {y : MethodName} {cc : ByteArray} {n : Nat} {r : Option FieldType} {y2 : MethodName} {c2 : ByteArray} {n2 : Nat} {r2 : Option FieldType} (h : Cond.code y2 c2 n2 r2 ∈ lw_u) : GoodIn (Cond.code y cc n r :: lw_u) (Cond.code y2 c2 n2 r2 :: lw_u) := by
  intro w hw
  have hw : w ∈ lw_u := by
    rcases List.mem_cons.mp hw with rfl | q
    · exact h
    · exact q
  exact ⟨List.mem_cons_of_mem _ hw, good_of_word (lw_good hw)⟩
theorem gdl {y2 : MethodName} {c2 : ByteArray} {n2 : Nat} {r2 : Option FieldType} (h : Cond.code y2 c2 n2 r2 ∈ lw_u) : GoodIn lw_u (Cond.code y2 c2 n2 r2 :: lw_u) := by
  intro w hw
  have hw : w ∈ lw_u := by
    rcases List.mem_cons.mp hw with rfl | q
    · exact h
    · exact q
  exact ⟨hw, good_of_word (lw_good hw)⟩
end
section
/-! ===== memory: cell number, place -> int; loops; the world of all cells ===== -/
abbrev Mem : Type := Nat → Nat → Int32
abbrev ix (i : Int32) : Nat := i.toNatClampNeg
def st (M : Mem) (k j : Nat) (v : Int32) : Mem := fun a => if a = k then upd (M k) j v else M a
def stf (M : Mem) (k : Nat) (f : Nat → Int32) : Mem := fun a => if a = k then f else M a
def bv {α β : Type} (a : α) (f : α → β) : β := f a
def lpN {σ ρ : Type} : Nat → (σ → Option (σ ⊕ ρ)) → σ → Option ρ
  | 0, _, _ => none
  | n + 1, b, s => match b s with
    | none => none
    | some (.inl s') => lpN n b s'
    | some (.inr r) => some r
theorem lp_rule {σ ρ : Type} {b : σ → Option (σ ⊕ ρ)} {P : σ → Prop} {K : ρ → Prop} (h : ∀ (s : σ) (o : σ ⊕ ρ), b s = some o → (∀ s', o = .inl s' → P s') → (∀ r, o = .inr r → K r) → P s) : ∀ (n : Nat) (s : σ) (r : ρ), lpN n b s = some r → K r → P s := by
  intro n
  induction n with
  | zero => intro s r hr; cases hr
  | succ n ih =>
    intro s r hr hK
    unfold lpN at hr
    cases hb : b s with
    | none => rw [hb] at hr; cases hr
    | some o =>
      rw [hb] at hr
      refine h s o hb (fun s' e => ?_) (fun r' e => ?_)
      · subst e; exact ih s' r hr hK
      · subst e; cases hr; exact hK
theorem g_if {c : Prop} [Decidable c] {α : Type} {x : Option α} {r : α} (h : (if c then x else none) = some r) : c ∧ x = some r := by
  by_cases q : c
  · rw [if_pos q] at h; exact ⟨q, h⟩
  · rw [if_neg q] at h; cases h
theorem i_t {c : Prop} [Decidable c] {α : Type} {x y r : α} (q : c) (h : (if c then x else y) = r) : x = r := by rw [if_pos q] at h; exact h
theorem i_f {c : Prop} [Decidable c] {α : Type} {x y r : α} (q : ¬ c) (h : (if c then x else y) = r) : y = r := by rw [if_neg q] at h; exact h
theorem b_v {α β : Type} {a : α} {f : α → β} {r : β} (h : bv a f = r) {y : α} (e : y = a) : f y = r := by subst e; exact h
theorem b_d {α β : Type} {x : Option α} {f : α → Option β} {r : β} (h : x.bind f = some r) : ∃ y, x = some y ∧ f y = some r := by
  cases x with
  | none => cases h
  | some y => exact ⟨y, rfl, h⟩
/-- a boolean on the stack -/
abbrev isZ (v : Int32) : Prop := v = 0 ∨ v = 1
theorem isZ_nar {v : Int32} (h : isZ v) : narrow .boolean (.int v) = .int v := by rcases h with rfl | rfl <;> rfl
theorem isZ_vp {v : Int32} (h : isZ v) : vp_nar .boolean v = v := by rcases h with rfl | rfl <;> rfl
theorem isZ_fit {v : Int32} (h : isZ v) : fits .boolean (.int v) = true := by rcases h with rfl | rfl <;> rfl
theorem isZ_0 : isZ 0 := Or.inl rfl
theorem isZ_1 : isZ 1 := Or.inr rfl
/-- an index within (decidable) -/
abbrev inb (i : Int32) (n : Nat) : Prop := ¬ (i < 0 ∨ n ≤ i.toNatClampNeg)
def rm (x y : Int32) : Int32 := x - x / y * y
def sl (x y : Int32) : Int32 := x <<< (y &&& 31)
def sr (x y : Int32) : Int32 := x >>> (y &&& 31)
def us (x y : Int32) : Int32 := (x.toUInt32 >>> (y.toUInt32 &&& Int32.toUInt32 31)).toInt32
def mn (x y : Int32) : Int32 := if y < x then y else x
def mx (x y : Int32) : Int32 := if x < y then y else x
def u2 {A B T : Type} (f : A → B → T) (q : A × B) : T := f q.1 q.2
def u3 {A B C T : Type} (f : A → B → C → T) (q : A × B × C) : T := f q.1 q.2.1 q.2.2
def u4 {A B C D T : Type} (f : A → B → C → D → T) (q : A × B × C × D) : T := f q.1 q.2.1 q.2.2.1 q.2.2.2
def u5 {A B C D E T : Type} (f : A → B → C → D → E → T) (q : A × B × C × D × E) : T := f q.1 q.2.1 q.2.2.1 q.2.2.2.1 q.2.2.2.2
def u1 {A T : Type} (f : A → T) (q : A) : T := f q
theorem u1_e {A T : Type} {f : A → T} {a : A} {r : T} (h : u1 f a = r) : f a = r := h
theorem u2_e {A B T : Type} {f : A → B → T} {a : A} {b : B} {r : T} (h : u2 f (a, b) = r) : f a b = r := h
theorem u3_e {A B C T : Type} {f : A → B → C → T} {a : A} {b : B} {c : C} {r : T} (h : u3 f (a, b, c) = r) : f a b c = r := h
theorem u4_e {A B C D T : Type} {f : A → B → C → D → T} {a : A} {b : B} {c : C} {d : D} {r : T} (h : u4 f (a, b, c, d) = r) : f a b c d = r := h
theorem u5_e {A B C D E T : Type} {f : A → B → C → D → E → T} {a : A} {b : B} {c : C} {d : D} {e : E} {r : T} (h : u5 f (a, b, c, d, e) = r) : f a b c d e = r := h
def el {A B T : Type} (f : A → T) (h : B → T) (q : A ⊕ B) : T := match q with
  | .inl a => f a
  | .inr b => h b
theorem el_l {A B T : Type} {f : A → T} {h : B → T} {a : A} {r : T} (e : el f h (.inl a) = r) : f a = r := e
theorem el_r {A B T : Type} {f : A → T} {h : B → T} {b : B} {r : T} (e : el f h (.inr b) = r) : h b = r := e
/-! longs in two places -/
def lhi (v : Int64) : Int32 := Int32.ofInt (v.toInt / 4294967296)
def llo (v : Int64) : Int32 := Int32.ofInt v.toInt
def l64 (h q : Int32) : Int64 := Int64.ofInt (h.toInt * 4294967296 + q.toInt % 4294967296)
theorem l64_eq (v : Int64) : l64 (lhi v) (llo v) = v := by
  have h1 := v.toInt_lt
  have h2 := v.le_toInt
  unfold l64 lhi llo
  rw [Int32.toInt_ofInt, Int32.toInt_ofInt, Int.bmod_def, Int.bmod_def]
  apply Int64.toInt_inj.mp
  rw [Int64.toInt_ofInt, Int.bmod_def]
  simp only [Int32.size, Int64.size] at *
  omega
def stl (M : Mem) (k j : Nat) (v : Int64) : Mem := stf M k (upd (upd (M k) j (lhi v)) (j + 1) (llo v))
def scp (M : Mem) (k0 k1 n : Nat) : Mem := stf M k1 (va_cpy (M k0) (M k1) 0 0 n)
/-! ===== the cells ===== -/
abbrev cls : List vw_C := [(RX0, TX0, 1), (RX1, TX1, 5), (RX2, TX2, 3), (RX3, TX3, 5), (RX4, TX4, 9), (RX5, TX5, 6), (RX6, TX6, 7), (RX7, TX7, 12), (RX8, TX8, 14)]
/-- the numbers of classes, the classes of arrays (int, boolean, Frame), the cells' addresses, which cells are ours -/
abbrev En : Type := va_G × (ClassId × ClassId × ClassId) × (Nat → Nat) × (Nat → Prop)
abbrev En.D (X : En) : va_G := X.1
abbrev En.cI (X : En) : ClassId := X.2.1.1
abbrev En.cZ (X : En) : ClassId := X.2.1.2.1
abbrev En.cF (X : En) : ClassId := X.2.1.2.2
abbrev En.ad (X : En) : Nat → Nat := X.2.2.1
abbrev En.A (X : En) : Nat → Prop := X.2.2.2
def eI (X : En) (n : Nat) : (Nat → Int32) → va_E := fun f => .inl (X.cI, n, .inl f)
def eZ (X : En) (n : Nat) : (Nat → Int32) → va_E := fun f => .inl (X.cZ, n, .inl f)
def eFr (X : En) (k : Nat) : (Nat → Int32) → va_E := fun f => .inr (1, [.ref (X.ad (k + 1)), .ref (X.ad (k + 2)), .int (f 2), .int (f 3), .int (f 4)])
def eBx (X : En) (k : Nat) : (Nat → Int32) → va_E := fun _ => .inr (0, [.ref (X.ad (k + 1))])
def eRe (X : En) (k : Nat) : (Nat → Int32) → va_E := fun f => .inr (5, [.ref (X.ad (k + 1)), .ref (X.ad (k + 2)), .ref (X.ad (k + 3)), .ref (X.ad (k + 4)), .int (f 4), .int (f 5)])
def eRai (X : En) : (Nat → Int32) → va_E := fun f => .inr (7, [.ref (X.ad 1), .ref (X.ad 4), .ref (X.ad 9), .ref (X.ad 14), .ref (X.ad 21), .ref (X.ad 47), .ref (X.ad 51), .ref (X.ad 53), .ref (X.ad 56), .int (f 9), .int (f 10), .int (f 11)])
def eMea (X : En) : (Nat → Int32) → va_E := fun f => .inr (3, [.ref (X.ad 5), .ref (X.ad 6), .ref (X.ad 7), .ref (X.ad 8), .int (f 4)])
def ePla (X : En) : (Nat → Int32) → va_E := fun f => .inr (4, [.ref (X.ad 15), .ref (X.ad 16), .ref (X.ad 17), .ref (X.ad 18), .int (f 4), .ref (X.ad 9), .ref (X.ad 19), .ref (X.ad 20), .int (f 8)])
def eHis (X : En) : (Nat → Int32) → va_E := fun f => .inr (2, [.int (f 0), .ref (X.ad 22), .int (f 2)])
def eSta (X : En) : (Nat → Int32) → va_E := fun _ => .inl (X.cF, 8, .inr (.inr (.inr (.inr (fun j => some (X.ad (23 + 3 * j)))))))
def eTex (X : En) : (Nat → Int32) → va_E := fun f => .inr (6, [.int (f 0), .int (f 1), .ref (X.ad 48), .ref (X.ad 49), .int (f 4), .int (f 5), .int (f 6)])
def eMod (X : En) : (Nat → Int32) → va_E := fun f => .inr (8, [.ref (X.ad 62), .int (f 1), .ref (X.ad 63), .ref (X.ad 64), .ref (X.ad 65), .ref (X.ad 66), .ref (X.ad 67), .ref (X.ad 68), .ref (X.ad 69), .int (f 9), .int (f 10), .int (f 11), .ref (X.ad 70), .long (l64 (f 13) (f 14))])
def rdL (X : En) : List ((Nat → Int32) → va_E) := [eRai X, eFr X 1, eI X 216, eI X 8, eMea X, eI X 8, eI X 8, eI X 24, eI X 24, eRe X 9, eI X 64, eI X 48, eI X 8, eI X 8, ePla X, eI X 256, eI X 256, eI X 8, eI X 8, eI X 256, eZ X 256, eHis X, eSta X, eFr X 23, eI X 216, eI X 8, eFr X 26, eI X 216, eI X 8, eFr X 29, eI X 216, eI X 8, eFr X 32, eI X 216, eI X 8, eFr X 35, eI X 216, eI X 8, eFr X 38, eI X 216, eI X 8, eFr X 41, eI X 216, eI X 8, eFr X 44, eI X 216, eI X 8, eTex X, eI X 80, eBx X 49, eI X 6, eBx X 51, eI X 6, eFr X 53, eI X 216, eI X 8, eRe X 56, eI X 64, eI X 48, eI X 8, eI X 8, eMod X, eI X 2270, eI X 48, eI X 8, eZ X 8, eI X 256, eI X 256, eZ X 256, eI X 80, eZ X 216]
def rd (X : En) (k : Nat) (f : Nat → Int32) : va_E := (rdL X).getD k (eBx X 0) f
def wsL (X : En) (M : Mem) : va_W := (List.range 71).map (fun k => (X.ad k, rd X k (M k)))
abbrev tyL (X : En) : List (ClassId × FieldType) := [(X.cI, .int), (X.cZ, .boolean), (X.cF, .object RX1)]
def wd (X : En) (M : Mem) (H : Heap) : Prop := va_P X.D cls (wsL X M) H
def kn (X : En) (U : State) : Prop := va_K X.D cls (tyL X) U ∧ nest U ∧ ∀ M, va_D X.A (wsL X M)
theorem wsL_at (X : En) (M : Mem) {k : Nat} (hk : k < 71) {e : va_E} (he : rd X k (M k) = e) : (wsL X M)[k]? = some (X.ad k, e) := by
  unfold wsL
  rw [List.getElem?_map, List.getElem?_range hk, ← he]
  rfl
theorem wsL_set (X : En) (M : Mem) {k : Nat} (hk : k < 71) {f : Nat → Int32} {e : va_E} (he : rd X k f = e) : (wsL X M).set k (X.ad k, e) = wsL X (stf M k f) := by
  apply List.ext_getElem?
  intro i
  unfold wsL
  rw [List.getElem?_set]
  by_cases h : k = i
  · subst h
    rw [if_pos rfl, if_pos (by simpa using hk), List.getElem?_map, List.getElem?_range hk, ← he]
    simp [stf]
  · rw [if_neg h, List.getElem?_map, List.getElem?_map]
    by_cases hi : i < 71
    · rw [List.getElem?_range hi]
      simp [stf, Ne.symm h]
    · rw [List.getElem?_eq_none (by simpa using hi)]
      rfl
theorem st_stf (M : Mem) (k j : Nat) (v : Int32) : stf M k (upd (M k) j v) = st M k j v := rfl
theorem kn_moved {X : En} {u U : State} (hW : u.WarmedH U.vm) (h : kn X u) : kn X U := ⟨va_K.moved hW.alike h.1, nest_warm hW h.2.1, h.2.2⟩
/-- which numbers are Frames, Boxes, Relations -/
def isF (k : Nat) : Prop := k = 1 ∨ k = 53 ∨ ∃ j, j < 8 ∧ k = 23 + 3 * j
def isB (k : Nat) : Prop := k = 49 ∨ k = 51
def isR (k : Nat) : Prop := k = 9 ∨ k = 56
theorem isF_cases {k : Nat} (h : isF k) : k = 1 ∨ k = 53 ∨ k = 23 ∨ k = 26 ∨ k = 29 ∨ k = 32 ∨ k = 35 ∨ k = 38 ∨ k = 41 ∨ k = 44 := by
  rcases h with h | h | ⟨j, h1, h2⟩ <;> omega
theorem isF_1 : isF 1 := Or.inl rfl
theorem isF_53 : isF 53 := Or.inr (Or.inl rfl)
theorem isF_h {i : Int32} (h : vp_in i 8) : isF (23 + 3 * ix i) := Or.inr (Or.inr ⟨ix i, Nat.not_le.mp fun q => h (Or.inr q), rfl⟩)
theorem isB_49 : isB 49 := Or.inl rfl
theorem isB_51 : isB 51 := Or.inr rfl
theorem isR_9 : isR 9 := Or.inl rfl
theorem isR_56 : isR 56 := Or.inr rfl
theorem isF_lt {k : Nat} (h : isF k) : k + 2 < 71 := by rcases h with h | h | ⟨j, h1, h2⟩ <;> omega
theorem isF_lt0 {k : Nat} (h : isF k) : k < 71 := by have := isF_lt h; omega
theorem isF_lt1 {k : Nat} (h : isF k) : k + 1 < 71 := by have := isF_lt h; omega
theorem isB_lt0 {k : Nat} (h : isB k) : k < 71 := by rcases h with h | h <;> omega
theorem isB_lt1 {k : Nat} (h : isB k) : k + 1 < 71 := by rcases h with h | h <;> omega
theorem isR_lt0 {k : Nat} (h : isR k) : k < 71 := by rcases h with h | h <;> omega
theorem isR_lt1 {k : Nat} (h : isR k) : k + 1 < 71 := by rcases h with h | h <;> omega
theorem isR_lt2 {k : Nat} (h : isR k) : k + 2 < 71 := by rcases h with h | h <;> omega
theorem isR_lt3 {k : Nat} (h : isR k) : k + 3 < 71 := by rcases h with h | h <;> omega
theorem isR_lt4 {k : Nat} (h : isR k) : k + 4 < 71 := by rcases h with h | h <;> omega
theorem rd_F0 {X : En} {k : Nat} (h : isF k) (f : Nat → Int32) : rd X k f = eFr X k f := by rcases isF_cases h with h | h | h | h | h | h | h | h | h | h <;> subst h <;> rfl
theorem rd_F1 {X : En} {k : Nat} (h : isF k) (f : Nat → Int32) : rd X (k + 1) f = eI X 216 f := by rcases isF_cases h with h | h | h | h | h | h | h | h | h | h <;> subst h <;> rfl
theorem rd_F2 {X : En} {k : Nat} (h : isF k) (f : Nat → Int32) : rd X (k + 2) f = eI X 8 f := by rcases isF_cases h with h | h | h | h | h | h | h | h | h | h <;> subst h <;> rfl
theorem rd_B0 {X : En} {k : Nat} (h : isB k) (f : Nat → Int32) : rd X k f = eBx X k f := by rcases h with h | h <;> subst h <;> rfl
theorem rd_B1 {X : En} {k : Nat} (h : isB k) (f : Nat → Int32) : rd X (k + 1) f = eI X 6 f := by rcases h with h | h <;> subst h <;> rfl
theorem rd_R0 {X : En} {k : Nat} (h : isR k) (f : Nat → Int32) : rd X k f = eRe X k f := by rcases h with h | h <;> subst h <;> rfl
theorem rd_R1 {X : En} {k : Nat} (h : isR k) (f : Nat → Int32) : rd X (k + 1) f = eI X 64 f := by rcases h with h | h <;> subst h <;> rfl
theorem rd_R2 {X : En} {k : Nat} (h : isR k) (f : Nat → Int32) : rd X (k + 2) f = eI X 48 f := by rcases h with h | h <;> subst h <;> rfl
theorem rd_R3 {X : En} {k : Nat} (h : isR k) (f : Nat → Int32) : rd X (k + 3) f = eI X 8 f := by rcases h with h | h <;> subst h <;> rfl
theorem rd_R4 {X : En} {k : Nat} (h : isR k) (f : Nat → Int32) : rd X (k + 4) f = eI X 8 f := by rcases h with h | h <;> subst h <;> rfl
theorem hash_set (X : En) (M : Mem) (v : Int64) : rd X 61 (upd (upd (M 61) 13 (lhi v)) 14 (llo v)) = .inr (8, ([.ref (X.ad 62), .int (M 61 1), .ref (X.ad 63), .ref (X.ad 64), .ref (X.ad 65), .ref (X.ad 66), .ref (X.ad 67), .ref (X.ad 68), .ref (X.ad 69), .int (M 61 9), .int (M 61 10), .int (M 61 11), .ref (X.ad 70), .long (l64 (M 61 13) (M 61 14))] : List Value).set 13 (.long v)) := by
  show eMod X _ = _
  simp [eMod, upd, l64_eq]
theorem sw_out7 {x : Int32} (h0 : ¬ x = 0) (h1 : ¬ x = 1) (h2 : ¬ x = 2) (h3 : ¬ x = 3) (h4 : ¬ x = 4) (h5 : ¬ x = 5) (h6 : ¬ x = 6) : x.toInt < 0 ∨ 6 < x.toInt := by
  rcases Int.lt_or_le x.toInt 0 with h | h
  · exact Or.inl h
  · refine Or.inr (Int.lt_of_not_ge fun q => ?_)
    have e : x.toInt = 0 ∨ x.toInt = 1 ∨ x.toInt = 2 ∨ x.toInt = 3 ∨ x.toInt = 4 ∨ x.toInt = 5 ∨ x.toInt = 6 := by omega
    rcases e with e | e | e | e | e | e | e
    · exact h0 (Int32.toInt_inj.mp e)
    · exact h1 (Int32.toInt_inj.mp e)
    · exact h2 (Int32.toInt_inj.mp e)
    · exact h3 (Int32.toInt_inj.mp e)
    · exact h4 (Int32.toInt_inj.mp e)
    · exact h5 (Int32.toInt_inj.mp e)
    · exact h6 (Int32.toInt_inj.mp e)
end
section
/-! ===== rows over the world of all cells ===== -/
abbrev Qi (X : En) (r : Int32) (M : Mem) : Array Value → State → Outcome → State → Prop := va_Qi (fun r' (_ : Unit) => r' = r) (fun _ t => wd X M t.heap) X.A
abbrev Ql (X : En) (r : Int64) (M : Mem) : Array Value → State → Outcome → State → Prop := va_Ql (fun r' (_ : Unit) => r' = r) (fun _ t => wd X M t.heap) X.A
abbrev Qv (X : En) (M : Mem) : Array Value → State → Outcome → State → Prop := va_Qv (fun (_ : Unit) => True) (fun _ t => wd X M t.heap) X.A
abbrev Qr (X : En) (k : Nat) (M : Mem) : Array Value → State → Outcome → State → Prop := va_Qr (fun (_ : Unit) => True) (fun _ a t => a = X.ad k ∧ wd X M t.heap) X.A
abbrev Pw (X : En) (av : List Value) (M : Mem) : Array Value → State → Prop := va_Pc av (fun U => wd X M U.heap ∧ kn X U)
abbrev Cn (l : Launch) (X : En) (y : MethodName) (cc : ByteArray) (n : Nat) (ret : Option FieldType) (f q : Nat) (av : List Value) (M : Mem) (Q : Array Value → State → Outcome → State → Prop) : Prop :=
  Met l y (Cond.code y cc n ret :: lw_u) ({ frames := f, cells := 0, slots := 0, locals := q } : Room) (Pw X av M) Q 0 0 X.A
theorem Pw_blind {X : En} {av : List Value} {M : Mem} : FrameBlind (Pw X av M) := fun a U g mk q => ⟨q.1, q.2.1, va_K.moved (u := U) (U := U.calling g mk a) (Vm.Alike.refl U.vm) q.2.2.1, nest_same (s := U) (U := U.calling g mk a) rfl q.2.2.2.1, q.2.2.2.2⟩
section RW
variable {p : Program} {l : Launch} {e : Env} {R : Room} {s : State} {m : MethodId} {args : Array Value} {below : List Frame} {meth : Method} {c : Code} {H : Heap} {locs : List Loc} {cells slots : Nat} {Q : State → Prop} {cc : ByteArray} {pc : Nat} {ls : Array Slot} {rest : List Value} {X : En} {M : Mem} {H0 : Heap} {own : String}
theorem gf (hx : p.tables.exec = Jvm.exec) (hb : c.code = cc) (hts : ∀ w ∈ lw_u, w.before args s = true) (hown : s.vm.findClass own = some m.cls) (hk : kn X s) (hP : wd X M H) {k : Nat} (hk71 : k < 71) {ci : Nat} {fs : List Value} (he : rd X k (M k) = .inr (ci, fs)) {C : String} {T : u_T} {N : Nat} (hc : cls[ci]? = some (C, T, N)) (hin : ∀ w ∈ u_ws C T N, w ∈ lw_u) (j : Nat) (hj : j < N) {index : Nat} (hlink : Cond.fieldLink own index (T j).1 (T j).2.1 (T j).2.2.1 ∈ lw_u) {v : Value} (hv : fs[j]? = some v) (hdg : decode cc pc = .ok (.getfield index, 3))
    (kk : W p l e R s m args below meth c H locs cells slots Q (F0 m (pc + 3) ls (v :: rest))) : W p l e R s m args below meth c H locs cells slots Q (F0 m pc ls (.ref (X.ad k) :: rest)) :=
  va_get hx hb hts hin hown hk.1 hP k (wsL_at X M hk71 he) hc j hj (hts _ hlink) (fun _ h => h) hv hdg kk
theorem gfN (hx : p.tables.exec = Jvm.exec) (hb : c.code = cc) (hts : ∀ w ∈ lw_u, w.before args s = true) (hown : s.vm.findClass own = some m.cls) (hk : kn X s) (hP : wd X M H) {k : Nat} (hk71 : k < 71) {ci : Nat} {fs : List Value} (he : rd X k (M k) = .inr (ci, fs)) {C host : String} {T : u_T} {N : Nat} (hc : cls[ci]? = some (C, T, N)) (hin : ∀ w ∈ u_ws C T N, w ∈ lw_u) (j : Nat) (hj : j < N) {index : Nat} (hlink : va_Nw (Cond.fieldLinkNest own index (T j).1 (T j).2.1 (T j).2.2.1 host) s) {v : Value} (hv : fs[j]? = some v) (hdg : decode cc pc = .ok (.getfield index, 3))
    (kk : W p l e R s m args below meth c H locs cells slots Q (F0 m (pc + 3) ls (v :: rest))) : W p l e R s m args below meth c H locs cells slots Q (F0 m pc ls (.ref (X.ad k) :: rest)) :=
  va_getN hx hb hts hin hown hk.1 hP k (wsL_at X M hk71 he) hc j hj (va_Nw.use rfl hlink) (fun _ h => h) hv hdg kk
theorem pf (hx : p.tables.exec = Jvm.exec) (hb : c.code = cc) (hts : ∀ w ∈ lw_u, w.before args s = true) (hown : s.vm.findClass own = some m.cls) (hk : kn X s) (hP : wd X M H) (hS : va_S X.A H0 H locs) {k : Nat} (hk71 : k < 71) {ci : Nat} {fs : List Value} (he : rd X k (M k) = .inr (ci, fs)) {C : String} {T : u_T} {N : Nat} (hc : cls[ci]? = some (C, T, N)) (hin : ∀ w ∈ u_ws C T N, w ∈ lw_u) (ty0 : Nat → FieldType) (hty : ∀ k, k < N → parseFieldDescriptor (T k).2.2.1 = some (ty0 k)) (hnm : ∀ a, a < N → ∀ b, b < N → a ≠ b → (T a).2.1 ≠ (T b).2.1) (j : Nat) (hj : j < N) {index : Nat} (hlink : Cond.fieldLink own index (T j).1 (T j).2.1 (T j).2.2.1 ∈ lw_u) (hfin : (T j).2.2.2 = false) {v : Value} (hn : narrow (ty0 j) v = v) (hfit : fits (ty0 j) v = true) (hl : j < fs.length) {f : Nat → Int32} (hset : rd X k f = .inr (ci, fs.set j v)) (hdg : decode cc pc = .ok (.putfield index, 3))
    (kk : ∀ (H1 : Heap) (locs1 : List Loc) (M1 : Mem), M1 = stf M k f → wd X M1 H1 → va_S X.A H0 H1 locs1 → W p l e R s m args below meth c H1 locs1 cells slots Q (F0 m (pc + 3) ls rest)) : W p l e R s m args below meth c H locs cells slots Q (F0 m pc ls (v :: .ref (X.ad k) :: rest)) := by
  refine va_put hx hb hts hin ty0 hty hnm hown hk.1 hP (hk.2.2 M) hS k (wsL_at X M hk71 he) hc j hj (hts _ hlink) (fun _ h => h) hfin (hty j hj) hn hfit hl hdg (fun H1 locs1 hP1 _ hS1 => kk H1 locs1 _ rfl ?_ hS1)
  rw [wsL_set X M hk71 hset] at hP1
  exact hP1
theorem ald (hx : p.tables.exec = Jvm.exec) (hb : c.code = cc) (hk : kn X s) (hP : wd X M H) {k n : Nat} (hk71 : k < 71) (he : rd X k (M k) = eI X n (M k)) {i : Int32} (hin : vp_in i n) (hdg : decode cc pc = .ok (.iaload, 1))
    (kk : W p l e R s m args below meth c H locs cells slots Q (F0 m (pc + 1) ls (.int (M k (ix i)) :: rest))) : W p l e R s m args below meth c H locs cells slots Q (F0 m pc ls (.int i :: .ref (X.ad k) :: rest)) :=
  va_iald hx hb hk.1 hP k 0 (wsL_at X M hk71 he) rfl hin hdg kk
theorem zald (hx : p.tables.exec = Jvm.exec) (hb : c.code = cc) (hk : kn X s) (hP : wd X M H) {k n : Nat} (hk71 : k < 71) (he : rd X k (M k) = eZ X n (M k)) {i : Int32} (hin : vp_in i n) (hdg : decode cc pc = .ok (.baload, 1))
    (kk : W p l e R s m args below meth c H locs cells slots Q (F0 m (pc + 1) ls (.int (M k (ix i)) :: rest))) : W p l e R s m args below meth c H locs cells slots Q (F0 m pc ls (.int i :: .ref (X.ad k) :: rest)) :=
  va_zald hx hb hk.1 hP k 1 (wsL_at X M hk71 he) rfl hin hdg kk
theorem aald (hx : p.tables.exec = Jvm.exec) (hb : c.code = cc) (hk : kn X s) (hP : wd X M H) {i : Int32} (hin : vp_in i 8) (hdg : decode cc pc = .ok (.aaload, 1))
    (kk : W p l e R s m args below meth c H locs cells slots Q (F0 m (pc + 1) ls (.ref (X.ad (23 + 3 * ix i)) :: rest))) : W p l e R s m args below meth c H locs cells slots Q (F0 m pc ls (.int i :: .ref (X.ad 22) :: rest)) :=
  va_aldq hx hb hk.1 hP 22 2 (wsL_at X M (by decide) (e := eSta X (M 22)) rfl) rfl hin hdg kk
theorem ast (hx : p.tables.exec = Jvm.exec) (hb : c.code = cc) (hk : kn X s) (hP : wd X M H) (hS : va_S X.A H0 H locs) {k n : Nat} (hk71 : k < 71) (he : ∀ f, rd X k f = eI X n f) {i v : Int32} (hin : vp_in i n) (hdg : decode cc pc = .ok (.iastore, 1))
    (kk : ∀ (H1 : Heap) (locs1 : List Loc) (M1 : Mem), M1 = st M k (ix i) v → wd X M1 H1 → va_S X.A H0 H1 locs1 → W p l e R s m args below meth c H1 locs1 cells slots Q (F0 m (pc + 1) ls rest)) : W p l e R s m args below meth c H locs cells slots Q (F0 m pc ls (.int v :: .int i :: .ref (X.ad k) :: rest)) := by
  refine va_iast hx hb hk.1 hP (hk.2.2 M) hS k 0 (wsL_at X M hk71 (he (M k))) rfl hin hdg (fun H1 locs1 hP1 _ hS1 => kk H1 locs1 _ rfl ?_ hS1)
  have h := wsL_set X M hk71 (he (upd (M k) (ix i) v))
  rw [st_stf] at h
  show va_P _ _ _ _
  rw [← h]
  exact hP1
theorem zast (hx : p.tables.exec = Jvm.exec) (hb : c.code = cc) (hk : kn X s) (hP : wd X M H) (hS : va_S X.A H0 H locs) {k n : Nat} (hk71 : k < 71) (he : ∀ f, rd X k f = eZ X n f) {i v : Int32} (hin : vp_in i n) (hz : isZ v) (hdg : decode cc pc = .ok (.bastore, 1))
    (kk : ∀ (H1 : Heap) (locs1 : List Loc) (M1 : Mem), M1 = st M k (ix i) v → wd X M1 H1 → va_S X.A H0 H1 locs1 → W p l e R s m args below meth c H1 locs1 cells slots Q (F0 m (pc + 1) ls rest)) : W p l e R s m args below meth c H locs cells slots Q (F0 m pc ls (.int v :: .int i :: .ref (X.ad k) :: rest)) := by
  refine va_zast hx hb hk.1 hP (hk.2.2 M) hS k 1 (wsL_at X M hk71 (he (M k))) rfl hin hdg (fun H1 locs1 hP1 _ hS1 => kk H1 locs1 _ rfl ?_ hS1)
  have h := wsL_set X M hk71 (he (upd (M k) (ix i) v))
  rw [st_stf] at h
  show va_P _ _ _ _
  rw [← h]
  rw [isZ_vp hz] at hP1
  exact hP1
theorem acp (hx : p.tables.exec = Jvm.exec) (hb : c.code = cc) (hml : c.maxLocals = ls.size) (hts : ∀ w ∈ lw_u, w.before args s = true) (hown : s.vm.findClass own = some m.cls) (hk : kn X s) (hP : wd X M H) (hS : va_S X.A H0 H locs) {index : Nat} (hlink : Cond.methodLink own index arraycopyName ∈ lw_u) (hnat : Cond.native arraycopyName ∈ lw_u) (hstat : Cond.static arraycopyName ∈ lw_u) (hini : Cond.initialized "java/lang/System" ∈ lw_u)
    {k0 k1 n : Nat} (h0 : k0 < 71) (h1 : k1 < 71) (e0 : ∀ f, rd X k0 f = eI X n f) (e1 : ∀ f, rd X k1 f = eI X n f) {v : Int32} (hv : v = nI n) (hn : n < 2 ^ 31) (hframes : 1 ≤ R.frames) (hlocals : (rest.map fun v => v.category).sum + (nativeFrameWords "java/lang/System" "arraycopy" 5 + 11) ≤ R.locals) (hdg : decode cc pc = .ok (.invokestatic index, 3))
    (kk : ∀ (H1 : Heap) (locs1 : List Loc) (M1 : Mem), M1 = scp M k0 k1 n → wd X M1 H1 → va_S X.A H0 H1 locs1 → W p l e R s m args below meth c H1 locs1 cells slots Q (F0 m (pc + 3) ls rest)) : W p l e R s m args below meth c H locs cells slots Q (F0 m pc ls (.int v :: .int 0 :: .ref (X.ad k1) :: .int 0 :: .ref (X.ad k0) :: rest)) := by
  subst hv
  have hc : (nI n).toNatClampNeg = n := nI_clamp hn
  refine va_copyi hx hb hml hown (hts _ hlink) (hts _ hnat) (hts _ hstat) (hts _ hini) hk.1 hP (hk.2.2 M) hS k0 k1 0 0 (wsL_at X M h0 (e0 (M k0))) (wsL_at X M h1 (e1 (M k1))) rfl rfl rfl (by decide) (by decide) (nI_pos hn) (by rw [hc]; show 0 + n ≤ n; omega) (by rw [hc]; show 0 + n ≤ n; omega) (fun i _ => rfl) hframes hlocals hdg (fun H1 locs1 hP1 _ hS1 => kk H1 locs1 _ rfl ?_ hS1)
  rw [hc] at hP1
  have h := wsL_set X M h1 (e1 (va_cpy (M k0) (M k1) 0 0 n))
  show va_P _ _ (wsL X (stf M k1 (va_cpy (M k0) (M k1) 0 0 n))) _
  rw [← h]
  exact hP1
/-! calls -/
theorem pwS {av : List Value} (hk : kn X s) (hP : wd X M H) : PreS s H (Pw X av M) av := ⟨Pw_blind, fun U hU hW => ⟨rfl, by rw [hU]; exact hP, kn_moved hW hk⟩⟩
theorem pwV {k ci : Nat} {fs : List Value} {C : String} {T : u_T} {N : Nat} {As : List Value} (hk : kn X s) (hP : wd X M H) (hk71 : k < 71) (he : rd X k (M k) = .inr (ci, fs)) (hc : cls[ci]? = some (C, T, N)) : PreV s H C (X.ad k) (Pw X (.ref (X.ad k) :: As) M) As :=
  ⟨Pw_blind, va_recv hk.1 hP hc (wsL_at X M hk71 he), fun U hU hW => ⟨rfl, by rw [hU]; exact hP, kn_moved hW hk⟩⟩
variable {y : MethodName} {bytes : ByteArray} {maxL nL n index f q : Nat} {ret : Option FieldType} {Qc : Array Value → State → Outcome → State → Prop} {As : List Value} {st0 : List Value}
abbrev Hd (y : MethodName) (n : Nat) : Prop := y.cls ≠ "java/lang/invoke/MethodHandle" ∧ y.cls ≠ "java/lang/invoke/VarHandle" ∧ (parseMethodDescriptor y.desc).map (fun d => d.parameters.length) = some n
theorem runV {k ci : Nat} {fs : List Value} {C : String} {T : u_T} {N : Nat} (hx : p.tables.exec = Jvm.exec) (hb : c.code = cc) (hml : c.maxLocals = nL) (hts : ∀ w ∈ lw_u, w.before args s = true) (hown : s.vm.findClass own = some m.cls) (hk : kn X s) (hP : wd X M H) (hM : Cn l X y bytes maxL ret f q (.ref (X.ad k) :: As) M Qc)
    (hcode : Cond.code y bytes maxL ret ∈ lw_u) (hin : Cond.instanceMethod y ∈ lw_u) (hsel : Cond.selects C y y ∈ lw_u) (hini : Cond.initialized y.cls ∈ lw_u) (hd : Hd y n) (hk71 : k < 71) (he : rd X k (M k) = .inr (ci, fs)) (hc : cls[ci]? = some (C, T, N)) (hn : As.length = n)
    (hlk : Cond.methodLink own index y ∈ lw_u) (hR : f + 1 ≤ R.frames ∧ 8 + (maxL + 11) + q ≤ R.locals) (hsize : ls.size = nL) (hst : st0 = As.reverse ++ .ref (X.ad k) :: rest) (hW : (rest.map fun v => v.category).sum ≤ 8) (hdg : decode cc pc = .ok (.invokevirtual index, 3)) (hcs : cells ≤ R.cells ∧ slots ≤ R.slots) :
    va_Run p l e R s m args below meth c H locs cells slots 0 0 (F0 m pc ls st0) rest (Qc (Value.ref (X.ad k) :: As).toArray) X.A :=
  va_runV (Ts := lw_u) ⟨hx, hb, hml, hown, hts⟩ hM ⟨callB_of n hts (gdl hcode) rfl rfl rfl (hts _ hini) (hts _ hlk) hd hR, hts _ hin, hts _ hsel⟩ (pwV hk hP hk71 he hc) rfl hn hsize hst (lv_room hW) hdg hcs
theorem runS (hx : p.tables.exec = Jvm.exec) (hb : c.code = cc) (hml : c.maxLocals = nL) (hts : ∀ w ∈ lw_u, w.before args s = true) (hown : s.vm.findClass own = some m.cls) (hk : kn X s) (hP : wd X M H) (hM : Cn l X y bytes maxL ret f q As M Qc)
    (hcode : Cond.code y bytes maxL ret ∈ lw_u) (hin : Cond.static y ∈ lw_u) (hini : Cond.initialized y.cls ∈ lw_u) (hd : Hd y n) (hn : As.length = n)
    (hlk : Cond.methodLink own index y ∈ lw_u) (hR : f + 1 ≤ R.frames ∧ 8 + (maxL + 11) + q ≤ R.locals) (hsize : ls.size = nL) (hst : st0 = As.reverse ++ rest) (hW : (rest.map fun v => v.category).sum ≤ 8) (hdg : decode cc pc = .ok (.invokestatic index, 3)) (hcs : cells ≤ R.cells ∧ slots ≤ R.slots) :
    va_Run p l e R s m args below meth c H locs cells slots 0 0 (F0 m pc ls st0) rest (Qc As.toArray) X.A :=
  va_runS (Ts := lw_u) ⟨hx, hb, hml, hown, hts⟩ hM ⟨callB_of n hts (gdl hcode) rfl rfl rfl (hts _ hini) (hts _ hlk) hd hR, hts _ hin⟩ (pwS hk hP) rfl hn hsize hst (lv_room hW) hdg hcs
theorem runSN {host : String} (hx : p.tables.exec = Jvm.exec) (hb : c.code = cc) (hml : c.maxLocals = nL) (hts : ∀ w ∈ lw_u, w.before args s = true) (hown : s.vm.findClass own = some m.cls) (hk : kn X s) (hP : wd X M H) (hM : Cn l X y bytes maxL ret f q As M Qc)
    (hcode : Cond.code y bytes maxL ret ∈ lw_u) (hin : Cond.static y ∈ lw_u) (hini : Cond.initialized y.cls ∈ lw_u) (hd : Hd y n) (hn : As.length = n)
    (hlk : va_Nw (Cond.methodLinkNest own index y host) s) (hR : f + 1 ≤ R.frames ∧ 8 + (maxL + 11) + q ≤ R.locals) (hsize : ls.size = nL) (hst : st0 = As.reverse ++ rest) (hW : (rest.map fun v => v.category).sum ≤ 8) (hdg : decode cc pc = .ok (.invokestatic index, 3)) (hcs : cells ≤ R.cells ∧ slots ≤ R.slots) :
    va_Run p l e R s m args below meth c H locs cells slots 0 0 (F0 m pc ls st0) rest (Qc As.toArray) X.A :=
  va_runSN (Ts := lw_u) ⟨hx, hb, hml, hown, hts⟩ hM ⟨va_cnB n hts (gdl hcode) rfl rfl rfl hlk (hts _ hini) hd hR, hts _ hin, trivial⟩ (pwS hk hP) rfl hn hsize hst (lv_room hW) hdg hcs
variable {M' : Mem} {r : Int32} {rl : Int64} {a : Array Value}
theorem cal_i (hr : va_Run p l e R s m args below meth c H locs cells slots 0 0 (F0 m pc ls st0) rest (Qi X r M' a) X.A) (hS : va_S X.A H0 H locs) (kk : ∀ (H1 : Heap) (locs1 : List Loc), wd X M' H1 → va_S X.A H0 H1 locs1 → W p l e R s m args below meth c H1 locs1 cells slots Q (F0 m (pc + 3) ls (.int r :: rest))) : W p l e R s m args below meth c H locs cells slots Q (F0 m pc ls st0) :=
  va_calli hr hS (fun _ _ h => h) (fun _ h => h) (fun r1 u t H1 locs1 ht hvm hw hB hz1 hk1 hS1 => by subst hw; exact kk H1 locs1 (by rw [← ht]; exact hB) hS1)
theorem cal_l (hr : va_Run p l e R s m args below meth c H locs cells slots 0 0 (F0 m pc ls st0) rest (Ql X rl M' a) X.A) (hS : va_S X.A H0 H locs) (kk : ∀ (H1 : Heap) (locs1 : List Loc), wd X M' H1 → va_S X.A H0 H1 locs1 → W p l e R s m args below meth c H1 locs1 cells slots Q (F0 m (pc + 3) ls (.long rl :: rest))) : W p l e R s m args below meth c H locs cells slots Q (F0 m pc ls st0) :=
  va_calll hr hS (fun _ _ h => h) (fun _ h => h) (fun r1 u t H1 locs1 ht hvm hw hB hz1 hk1 hS1 => by subst hw; exact kk H1 locs1 (by rw [← ht]; exact hB) hS1)
theorem cal_v (hr : va_Run p l e R s m args below meth c H locs cells slots 0 0 (F0 m pc ls st0) rest (Qv X M' a) X.A) (hS : va_S X.A H0 H locs) (kk : ∀ (H1 : Heap) (locs1 : List Loc), wd X M' H1 → va_S X.A H0 H1 locs1 → W p l e R s m args below meth c H1 locs1 cells slots Q (F0 m (pc + 3) ls rest)) : W p l e R s m args below meth c H locs cells slots Q (F0 m pc ls st0) :=
  va_callv hr hS (fun _ _ h => h) (fun _ h => h) (fun u t H1 locs1 ht hvm hw hB hz1 hk1 hS1 => kk H1 locs1 (by rw [← ht]; exact hB) hS1)
theorem cal_r {k : Nat} (hr : va_Run p l e R s m args below meth c H locs cells slots 0 0 (F0 m pc ls st0) rest (Qr X k M' a) X.A) (hS : va_S X.A H0 H locs) (kk : ∀ (H1 : Heap) (locs1 : List Loc), wd X M' H1 → va_S X.A H0 H1 locs1 → W p l e R s m args below meth c H1 locs1 cells slots Q (F0 m (pc + 3) ls (.ref (X.ad k) :: rest))) : W p l e R s m args below meth c H locs cells slots Q (F0 m pc ls st0) :=
  va_callr hr hS (fun _ _ h => h) (fun _ h => h) (fun u ra t H1 locs1 ht hvm hw hB hz1 hk1 hS1 => by obtain ⟨h1, h2⟩ := hB; subst h1; exact kk H1 locs1 (by rw [← ht]; exact h2) hS1)
/-! ends -/
theorem ret_i {v : Int32} (hx : p.tables.exec = Jvm.exec) (hb : c.code = cc) (hr : meth.sig.returnType = some .int) (hlocks : meth.locks = false) (hP : wd X M H) (hS : va_S X.A s.heap H locs) (he : v = r) (hdg : decode cc pc = .ok (.ireturn, 1)) : W p l e R s m args below meth c H locs cells slots (MQ below (Qi X r M) args s cells slots X.A) (F0 m pc ls [.int v]) :=
  W.iret (v := v) hx hb hr (fun t ht hW => ⟨⟨v, (), rfl, he, by show wd X M t.heap; rw [ht]; exact hP⟩, hS.F ht⟩) hS.2.2 hdg hlocks
theorem ret_z {v : Int32} (hx : p.tables.exec = Jvm.exec) (hb : c.code = cc) (hr : meth.sig.returnType = some .boolean) (hlocks : meth.locks = false) (hP : wd X M H) (hS : va_S X.A s.heap H locs) (hz : isZ v) (he : v = r) (hdg : decode cc pc = .ok (.ireturn, 1)) : W p l e R s m args below meth c H locs cells slots (MQ below (Qi X r M) args s cells slots X.A) (F0 m pc ls [.int v]) :=
  W.zret (v := v) hx hb hr (isZ_nar hz) (fun t ht hW => ⟨⟨v, (), rfl, he, by show wd X M t.heap; rw [ht]; exact hP⟩, hS.F ht⟩) hS.2.2 hdg hlocks
theorem ret_l {v : Int64} (hx : p.tables.exec = Jvm.exec) (hb : c.code = cc) (hr : meth.sig.returnType = some .long) (hlocks : meth.locks = false) (hP : wd X M H) (hS : va_S X.A s.heap H locs) (he : v = rl) (hdg : decode cc pc = .ok (.lreturn, 1)) : W p l e R s m args below meth c H locs cells slots (MQ below (Ql X rl M) args s cells slots X.A) (F0 m pc ls [.long v]) :=
  W.lret (v := v) hx hb hr (fun t ht hW => ⟨⟨v, (), rfl, he, by show wd X M t.heap; rw [ht]; exact hP⟩, hS.F ht⟩) hS.2.2 hdg hlocks
theorem ret_v (hx : p.tables.exec = Jvm.exec) (hb : c.code = cc) (hr : meth.sig.returnType = none) (hlocks : meth.locks = false) (hP : wd X M H) (hS : va_S X.A s.heap H locs) (hdg : decode cc pc = .ok (.return_, 1)) : W p l e R s m args below meth c H locs cells slots (MQ below (Qv X M) args s cells slots X.A) (F0 m pc ls []) :=
  W.vret hx hb hr (fun t ht hW => ⟨⟨(), rfl, trivial, by show wd X M t.heap; rw [ht]; exact hP⟩, hS.F ht⟩) hS.2.2 hdg hlocks
theorem ret_r {k : Nat} {C : String} (hx : p.tables.exec = Jvm.exec) (hb : c.code = cc) (hr : meth.sig.returnType = some (.object C)) (hlocks : meth.locks = false) (hP : wd X M H) (hS : va_S X.A s.heap H locs) (hdg : decode cc pc = .ok (.areturn, 1)) : W p l e R s m args below meth c H locs cells slots (MQ below (Qr X k M) args s cells slots X.A) (F0 m pc ls [.ref (X.ad k)]) :=
  W.aret (v := .ref (X.ad k)) hx hb hr (Or.inl ⟨C, rfl⟩) (Or.inr ⟨_, rfl⟩) (fun t ht hW => ⟨⟨(), X.ad k, rfl, trivial, ⟨rfl, by show wd X M t.heap; rw [ht]; exact hP⟩⟩, hS.F ht⟩) hS.2.2 hdg hlocks
/-! arithmetic under names -/
theorem rw_irem (hx : p.tables.exec = Jvm.exec) (hb : c.code = cc) {x y : Int32} (hdg : decode cc pc = .ok (.irem, 1)) (hne : ¬ y = 0) (k : W p l e R s m args below meth c H locs cells slots Q (F0 m (pc + 1) ls (.int (rm x y) :: rest))) : W p l e R s m args below meth c H locs cells slots Q (F0 m pc ls (.int y :: .int x :: rest)) := lv_irem hx hb hdg hne k
theorem rw_ishl (hx : p.tables.exec = Jvm.exec) (hb : c.code = cc) {x y : Int32} (hdg : decode cc pc = .ok (.ishl, 1)) (k : W p l e R s m args below meth c H locs cells slots Q (F0 m (pc + 1) ls (.int (sl x y) :: rest))) : W p l e R s m args below meth c H locs cells slots Q (F0 m pc ls (.int y :: .int x :: rest)) := lv_ishl hx hb hdg k
theorem rw_ishr (hx : p.tables.exec = Jvm.exec) (hb : c.code = cc) {x y : Int32} (hdg : decode cc pc = .ok (.ishr, 1)) (k : W p l e R s m args below meth c H locs cells slots Q (F0 m (pc + 1) ls (.int (sr x y) :: rest))) : W p l e R s m args below meth c H locs cells slots Q (F0 m pc ls (.int y :: .int x :: rest)) := lv_ishr hx hb hdg k
theorem rw_iushr (hx : p.tables.exec = Jvm.exec) (hb : c.code = cc) {x y : Int32} (hdg : decode cc pc = .ok (.iushr, 1)) (k : W p l e R s m args below meth c H locs cells slots Q (F0 m (pc + 1) ls (.int (us x y) :: rest))) : W p l e R s m args below meth c H locs cells slots Q (F0 m pc ls (.int y :: .int x :: rest)) := lv_iushr hx hb hdg rfl k
theorem rw_min (hx : p.tables.exec = Jvm.exec) (hb : c.code = cc) (hml : c.maxLocals = ls.size) (hts : ∀ w ∈ lw_u, w.before args s = true) (hown : s.vm.findClass own = some m.cls) (hlink : Cond.methodLink own index Lib.Math.min.name ∈ lw_u) (hstat : Cond.static Lib.Math.min.name ∈ lw_u) (hini : Cond.initialized "java/lang/Math" ∈ lw_u) (hcode : Cond.code Lib.Math.min.name Lib.Math.min.code 2 (some .int) ∈ lw_u) (hframes : 1 ≤ R.frames) (hlocals : (rest.map fun v => v.category).sum + 13 ≤ R.locals) (hc : cells ≤ R.cells) (hs : slots ≤ R.slots) {x y : Int32} (hdg : decode cc pc = .ok (.invokestatic index, 3))
    (kk : W p l e R s m args below meth c H locs cells slots Q (F0 m (pc + 3) ls (.int (mn x y) :: rest))) : W p l e R s m args below meth c H locs cells slots Q (F0 m pc ls (.int y :: .int x :: rest)) := va_mmin hx hb hml hown (hts _ hlink) (hts _ hstat) (hts _ hini) (hts _ hcode) hframes hlocals hc hs hdg kk
theorem rw_max (hx : p.tables.exec = Jvm.exec) (hb : c.code = cc) (hml : c.maxLocals = ls.size) (hts : ∀ w ∈ lw_u, w.before args s = true) (hown : s.vm.findClass own = some m.cls) (hlink : Cond.methodLink own index Lib.Math.max.name ∈ lw_u) (hstat : Cond.static Lib.Math.max.name ∈ lw_u) (hini : Cond.initialized "java/lang/Math" ∈ lw_u) (hcode : Cond.code Lib.Math.max.name Lib.Math.max.code 2 (some .int) ∈ lw_u) (hframes : 1 ≤ R.frames) (hlocals : (rest.map fun v => v.category).sum + 13 ≤ R.locals) (hc : cells ≤ R.cells) (hs : slots ≤ R.slots) {x y : Int32} (hdg : decode cc pc = .ok (.invokestatic index, 3))
    (kk : W p l e R s m args below meth c H locs cells slots Q (F0 m (pc + 3) ls (.int (mx x y) :: rest))) : W p l e R s m args below meth c H locs cells slots Q (F0 m pc ls (.int y :: .int x :: rest)) := va_mmax hx hb hml hown (hts _ hlink) (hts _ hstat) (hts _ hini) (hts _ hcode) hframes hlocals hc hs hdg kk
end RW
abbrev Fx (p : Program) (c : Code) (m : MethodId) (s : State) (args : Array Value) (X : En) (cc : ByteArray) (nL : Nat) (own : String) : Prop := p.tables.exec = Jvm.exec ∧ c.code = cc ∧ c.maxLocals = nL ∧ (∀ w ∈ lw_u, w.before args s = true) ∧ s.vm.findClass own = some m.cls ∧ kn X s
abbrev WW (p : Program) (l : Launch) (e : Env) (f q : Nat) (s : State) (m : MethodId) (av : List Value) (below : List Frame) (meth : Method) (c : Code) (X : En) (Qc : Array Value → State → Outcome → State → Prop) (H : Heap) (locs : List Loc) (pc : Nat) (ls : Array Slot) (stk : List Value) : Prop :=
  W p l e ({ frames := f, cells := 0, slots := 0, locals := q } : Room) s m av.toArray below meth c H locs 0 0 (MQ below Qc av.toArray s 0 0 X.A) (F0 m pc ls stk)
end
section
section FR
variable {p : Program} {l : Launch} {e : Env} {R : Room} {s : State} {m : MethodId} {args : Array Value} {below : List Frame} {meth : Method} {c : Code} {H : Heap} {locs : List Loc} {cells slots : Nat} {Q : State → Prop} {cc : ByteArray} {pc : Nat} {ls : Array Slot} {rest : List Value} {X : En} {M : Mem} {H0 : Heap} {own : String} {index : Nat}
theorem gX0_0 (hx : p.tables.exec = Jvm.exec) (hb : c.code = cc) (hts : ∀ w ∈ lw_u, w.before args s = true) (hown : s.vm.findClass own = some m.cls) (hk : kn X s) (hP : wd X M H) {k : Nat} (hF : isB k) (hlink : Cond.fieldLink own index RX0 "numbers" "[I" ∈ lw_u) (hdg : decode cc pc = .ok (.getfield index, 3)) (kk : W p l e R s m args below meth c H locs cells slots Q (F0 m (pc + 3) ls (.ref (X.ad (k + 1)) :: rest))) : W p l e R s m args below meth c H locs cells slots Q (F0 m pc ls (.ref (X.ad k) :: rest)) :=
  gf hx hb hts hown hk hP (isB_lt0 hF) (rd_B0 hF _) (C := RX0) (T := TX0) (N := 1) rfl innX0 0 (by decide) hlink rfl hdg kk
theorem gX1_0 (hx : p.tables.exec = Jvm.exec) (hb : c.code = cc) (hts : ∀ w ∈ lw_u, w.before args s = true) (hown : s.vm.findClass own = some m.cls) (hk : kn X s) (hP : wd X M H) {k : Nat} (hF : isF k) (hlink : Cond.fieldLink own index RX1 "owners" "[I" ∈ lw_u) (hdg : decode cc pc = .ok (.getfield index, 3)) (kk : W p l e R s m args below meth c H locs cells slots Q (F0 m (pc + 3) ls (.ref (X.ad (k + 1)) :: rest))) : W p l e R s m args below meth c H locs cells slots Q (F0 m pc ls (.ref (X.ad k) :: rest)) :=
  gf hx hb hts hown hk hP (isF_lt0 hF) (rd_F0 hF _) (C := RX1) (T := TX1) (N := 5) rfl innX1 0 (by decide) hlink rfl hdg kk
theorem gX1_1 (hx : p.tables.exec = Jvm.exec) (hb : c.code = cc) (hts : ∀ w ∈ lw_u, w.before args s = true) (hown : s.vm.findClass own = some m.cls) (hk : kn X s) (hP : wd X M H) {k : Nat} (hF : isF k) (hlink : Cond.fieldLink own index RX1 "boxes" "[I" ∈ lw_u) (hdg : decode cc pc = .ok (.getfield index, 3)) (kk : W p l e R s m args below meth c H locs cells slots Q (F0 m (pc + 3) ls (.ref (X.ad (k + 2)) :: rest))) : W p l e R s m args below meth c H locs cells slots Q (F0 m pc ls (.ref (X.ad k) :: rest)) :=
  gf hx hb hts hown hk hP (isF_lt0 hF) (rd_F0 hF _) (C := RX1) (T := TX1) (N := 5) rfl innX1 1 (by decide) hlink rfl hdg kk
theorem gX1_2 (hx : p.tables.exec = Jvm.exec) (hb : c.code = cc) (hts : ∀ w ∈ lw_u, w.before args s = true) (hown : s.vm.findClass own = some m.cls) (hk : kn X s) (hP : wd X M H) {k : Nat} (hF : isF k) (hlink : Cond.fieldLink own index RX1 "pieces" "I" ∈ lw_u) (hdg : decode cc pc = .ok (.getfield index, 3)) (kk : W p l e R s m args below meth c H locs cells slots Q (F0 m (pc + 3) ls (.int (M k 2) :: rest))) : W p l e R s m args below meth c H locs cells slots Q (F0 m pc ls (.ref (X.ad k) :: rest)) :=
  gf hx hb hts hown hk hP (isF_lt0 hF) (rd_F0 hF _) (C := RX1) (T := TX1) (N := 5) rfl innX1 2 (by decide) hlink rfl hdg kk
theorem gX1_3 (hx : p.tables.exec = Jvm.exec) (hb : c.code = cc) (hts : ∀ w ∈ lw_u, w.before args s = true) (hown : s.vm.findClass own = some m.cls) (hk : kn X s) (hP : wd X M H) {k : Nat} (hF : isF k) (hlink : Cond.fieldLink own index RX1 "building" "I" ∈ lw_u) (hdg : decode cc pc = .ok (.getfield index, 3)) (kk : W p l e R s m args below meth c H locs cells slots Q (F0 m (pc + 3) ls (.int (M k 3) :: rest))) : W p l e R s m args below meth c H locs cells slots Q (F0 m pc ls (.ref (X.ad k) :: rest)) :=
  gf hx hb hts hown hk hP (isF_lt0 hF) (rd_F0 hF _) (C := RX1) (T := TX1) (N := 5) rfl innX1 3 (by decide) hlink rfl hdg kk
theorem gX1_4 (hx : p.tables.exec = Jvm.exec) (hb : c.code = cc) (hts : ∀ w ∈ lw_u, w.before args s = true) (hown : s.vm.findClass own = some m.cls) (hk : kn X s) (hP : wd X M H) {k : Nat} (hF : isF k) (hlink : Cond.fieldLink own index RX1 "steps" "I" ∈ lw_u) (hdg : decode cc pc = .ok (.getfield index, 3)) (kk : W p l e R s m args below meth c H locs cells slots Q (F0 m (pc + 3) ls (.int (M k 4) :: rest))) : W p l e R s m args below meth c H locs cells slots Q (F0 m pc ls (.ref (X.ad k) :: rest)) :=
  gf hx hb hts hown hk hP (isF_lt0 hF) (rd_F0 hF _) (C := RX1) (T := TX1) (N := 5) rfl innX1 4 (by decide) hlink rfl hdg kk
theorem gX2_0 (hx : p.tables.exec = Jvm.exec) (hb : c.code = cc) (hts : ∀ w ∈ lw_u, w.before args s = true) (hown : s.vm.findClass own = some m.cls) (hk : kn X s) (hP : wd X M H) (hlink : Cond.fieldLink own index RX2 "size" "I" ∈ lw_u) (hdg : decode cc pc = .ok (.getfield index, 3)) (kk : W p l e R s m args below meth c H locs cells slots Q (F0 m (pc + 3) ls (.int (M 21 0) :: rest))) : W p l e R s m args below meth c H locs cells slots Q (F0 m pc ls (.ref (X.ad 21) :: rest)) :=
  gf hx hb hts hown hk hP (by decide) rfl (C := RX2) (T := TX2) (N := 3) rfl innX2 0 (by decide) hlink rfl hdg kk
theorem gX2_1 (hx : p.tables.exec = Jvm.exec) (hb : c.code = cc) (hts : ∀ w ∈ lw_u, w.before args s = true) (hown : s.vm.findClass own = some m.cls) (hk : kn X s) (hP : wd X M H) (hlink : Cond.fieldLink own index RX2 "states" "[LFrameRaiser$Frame;" ∈ lw_u) (hdg : decode cc pc = .ok (.getfield index, 3)) (kk : W p l e R s m args below meth c H locs cells slots Q (F0 m (pc + 3) ls (.ref (X.ad 22) :: rest))) : W p l e R s m args below meth c H locs cells slots Q (F0 m pc ls (.ref (X.ad 21) :: rest)) :=
  gf hx hb hts hown hk hP (by decide) rfl (C := RX2) (T := TX2) (N := 3) rfl innX2 1 (by decide) hlink rfl hdg kk
theorem gX2_2 (hx : p.tables.exec = Jvm.exec) (hb : c.code = cc) (hts : ∀ w ∈ lw_u, w.before args s = true) (hown : s.vm.findClass own = some m.cls) (hk : kn X s) (hP : wd X M H) (hlink : Cond.fieldLink own index RX2 "oldest" "I" ∈ lw_u) (hdg : decode cc pc = .ok (.getfield index, 3)) (kk : W p l e R s m args below meth c H locs cells slots Q (F0 m (pc + 3) ls (.int (M 21 2) :: rest))) : W p l e R s m args below meth c H locs cells slots Q (F0 m pc ls (.ref (X.ad 21) :: rest)) :=
  gf hx hb hts hown hk hP (by decide) rfl (C := RX2) (T := TX2) (N := 3) rfl innX2 2 (by decide) hlink rfl hdg kk
theorem gX3_0 (hx : p.tables.exec = Jvm.exec) (hb : c.code = cc) (hts : ∀ w ∈ lw_u, w.before args s = true) (hown : s.vm.findClass own = some m.cls) (hk : kn X s) (hP : wd X M H) (hlink : Cond.fieldLink own index RX3 "cells" "[I" ∈ lw_u) (hdg : decode cc pc = .ok (.getfield index, 3)) (kk : W p l e R s m args below meth c H locs cells slots Q (F0 m (pc + 3) ls (.ref (X.ad 5) :: rest))) : W p l e R s m args below meth c H locs cells slots Q (F0 m pc ls (.ref (X.ad 4) :: rest)) :=
  gf hx hb hts hown hk hP (by decide) rfl (C := RX3) (T := TX3) (N := 5) rfl innX3 0 (by decide) hlink rfl hdg kk
theorem gX3_1 (hx : p.tables.exec = Jvm.exec) (hb : c.code = cc) (hts : ∀ w ∈ lw_u, w.before args s = true) (hown : s.vm.findClass own = some m.cls) (hk : kn X s) (hP : wd X M H) (hlink : Cond.fieldLink own index RX3 "groundCells" "[I" ∈ lw_u) (hdg : decode cc pc = .ok (.getfield index, 3)) (kk : W p l e R s m args below meth c H locs cells slots Q (F0 m (pc + 3) ls (.ref (X.ad 6) :: rest))) : W p l e R s m args below meth c H locs cells slots Q (F0 m pc ls (.ref (X.ad 4) :: rest)) :=
  gf hx hb hts hown hk hP (by decide) rfl (C := RX3) (T := TX3) (N := 5) rfl innX3 1 (by decide) hlink rfl hdg kk
theorem gX3_2 (hx : p.tables.exec = Jvm.exec) (hb : c.code = cc) (hts : ∀ w ∈ lw_u, w.before args s = true) (hown : s.vm.findClass own = some m.cls) (hk : kn X s) (hP : wd X M H) (hlink : Cond.fieldLink own index RX3 "smallest" "[I" ∈ lw_u) (hdg : decode cc pc = .ok (.getfield index, 3)) (kk : W p l e R s m args below meth c H locs cells slots Q (F0 m (pc + 3) ls (.ref (X.ad 7) :: rest))) : W p l e R s m args below meth c H locs cells slots Q (F0 m pc ls (.ref (X.ad 4) :: rest)) :=
  gf hx hb hts hown hk hP (by decide) rfl (C := RX3) (T := TX3) (N := 5) rfl innX3 2 (by decide) hlink rfl hdg kk
theorem gX3_3 (hx : p.tables.exec = Jvm.exec) (hb : c.code = cc) (hts : ∀ w ∈ lw_u, w.before args s = true) (hown : s.vm.findClass own = some m.cls) (hk : kn X s) (hP : wd X M H) (hlink : Cond.fieldLink own index RX3 "greatest" "[I" ∈ lw_u) (hdg : decode cc pc = .ok (.getfield index, 3)) (kk : W p l e R s m args below meth c H locs cells slots Q (F0 m (pc + 3) ls (.ref (X.ad 8) :: rest))) : W p l e R s m args below meth c H locs cells slots Q (F0 m pc ls (.ref (X.ad 4) :: rest)) :=
  gf hx hb hts hown hk hP (by decide) rfl (C := RX3) (T := TX3) (N := 5) rfl innX3 3 (by decide) hlink rfl hdg kk
theorem gX3_4 (hx : p.tables.exec = Jvm.exec) (hb : c.code = cc) (hts : ∀ w ∈ lw_u, w.before args s = true) (hown : s.vm.findClass own = some m.cls) (hk : kn X s) (hP : wd X M H) (hlink : Cond.fieldLink own index RX3 "allCells" "I" ∈ lw_u) (hdg : decode cc pc = .ok (.getfield index, 3)) (kk : W p l e R s m args below meth c H locs cells slots Q (F0 m (pc + 3) ls (.int (M 4 4) :: rest))) : W p l e R s m args below meth c H locs cells slots Q (F0 m pc ls (.ref (X.ad 4) :: rest)) :=
  gf hx hb hts hown hk hP (by decide) rfl (C := RX3) (T := TX3) (N := 5) rfl innX3 4 (by decide) hlink rfl hdg kk
theorem gX4_0 (hx : p.tables.exec = Jvm.exec) (hb : c.code = cc) (hts : ∀ w ∈ lw_u, w.before args s = true) (hown : s.vm.findClass own = some m.cls) (hk : kn X s) (hP : wd X M H) (hlink : Cond.fieldLink own index RX4 "orderCounts" "[I" ∈ lw_u) (hdg : decode cc pc = .ok (.getfield index, 3)) (kk : W p l e R s m args below meth c H locs cells slots Q (F0 m (pc + 3) ls (.ref (X.ad 15) :: rest))) : W p l e R s m args below meth c H locs cells slots Q (F0 m pc ls (.ref (X.ad 14) :: rest)) :=
  gf hx hb hts hown hk hP (by decide) rfl (C := RX4) (T := TX4) (N := 9) rfl innX4 0 (by decide) hlink rfl hdg kk
theorem gX4_1 (hx : p.tables.exec = Jvm.exec) (hb : c.code = cc) (hts : ∀ w ∈ lw_u, w.before args s = true) (hown : s.vm.findClass own = some m.cls) (hk : kn X s) (hP : wd X M H) (hlink : Cond.fieldLink own index RX4 "fewest" "[I" ∈ lw_u) (hdg : decode cc pc = .ok (.getfield index, 3)) (kk : W p l e R s m args below meth c H locs cells slots Q (F0 m (pc + 3) ls (.ref (X.ad 16) :: rest))) : W p l e R s m args below meth c H locs cells slots Q (F0 m pc ls (.ref (X.ad 14) :: rest)) :=
  gf hx hb hts hown hk hP (by decide) rfl (C := RX4) (T := TX4) (N := 9) rfl innX4 1 (by decide) hlink rfl hdg kk
theorem gX4_2 (hx : p.tables.exec = Jvm.exec) (hb : c.code = cc) (hts : ∀ w ∈ lw_u, w.before args s = true) (hown : s.vm.findClass own = some m.cls) (hk : kn X s) (hP : wd X M H) (hlink : Cond.fieldLink own index RX4 "planPieces" "[I" ∈ lw_u) (hdg : decode cc pc = .ok (.getfield index, 3)) (kk : W p l e R s m args below meth c H locs cells slots Q (F0 m (pc + 3) ls (.ref (X.ad 17) :: rest))) : W p l e R s m args below meth c H locs cells slots Q (F0 m pc ls (.ref (X.ad 14) :: rest)) :=
  gf hx hb hts hown hk hP (by decide) rfl (C := RX4) (T := TX4) (N := 9) rfl innX4 2 (by decide) hlink rfl hdg kk
theorem gX4_3 (hx : p.tables.exec = Jvm.exec) (hb : c.code = cc) (hts : ∀ w ∈ lw_u, w.before args s = true) (hown : s.vm.findClass own = some m.cls) (hk : kn X s) (hP : wd X M H) (hlink : Cond.fieldLink own index RX4 "planWays" "[I" ∈ lw_u) (hdg : decode cc pc = .ok (.getfield index, 3)) (kk : W p l e R s m args below meth c H locs cells slots Q (F0 m (pc + 3) ls (.ref (X.ad 18) :: rest))) : W p l e R s m args below meth c H locs cells slots Q (F0 m pc ls (.ref (X.ad 14) :: rest)) :=
  gf hx hb hts hown hk hP (by decide) rfl (C := RX4) (T := TX4) (N := 9) rfl innX4 3 (by decide) hlink rfl hdg kk
theorem gX4_4 (hx : p.tables.exec = Jvm.exec) (hb : c.code = cc) (hts : ∀ w ∈ lw_u, w.before args s = true) (hown : s.vm.findClass own = some m.cls) (hk : kn X s) (hP : wd X M H) (hlink : Cond.fieldLink own index RX4 "planSize" "I" ∈ lw_u) (hdg : decode cc pc = .ok (.getfield index, 3)) (kk : W p l e R s m args below meth c H locs cells slots Q (F0 m (pc + 3) ls (.int (M 14 4) :: rest))) : W p l e R s m args below meth c H locs cells slots Q (F0 m pc ls (.ref (X.ad 14) :: rest)) :=
  gf hx hb hts hown hk hP (by decide) rfl (C := RX4) (T := TX4) (N := 9) rfl innX4 4 (by decide) hlink rfl hdg kk
theorem gX4_5 (hx : p.tables.exec = Jvm.exec) (hb : c.code = cc) (hts : ∀ w ∈ lw_u, w.before args s = true) (hown : s.vm.findClass own = some m.cls) (hk : kn X s) (hP : wd X M H) (hlink : Cond.fieldLink own index RX4 "relations" "LFrameRaiser$Relations;" ∈ lw_u) (hdg : decode cc pc = .ok (.getfield index, 3)) (kk : W p l e R s m args below meth c H locs cells slots Q (F0 m (pc + 3) ls (.ref (X.ad 9) :: rest))) : W p l e R s m args below meth c H locs cells slots Q (F0 m pc ls (.ref (X.ad 14) :: rest)) :=
  gf hx hb hts hown hk hP (by decide) rfl (C := RX4) (T := TX4) (N := 9) rfl innX4 5 (by decide) hlink rfl hdg kk
theorem gX4_6 (hx : p.tables.exec = Jvm.exec) (hb : c.code = cc) (hts : ∀ w ∈ lw_u, w.before args s = true) (hown : s.vm.findClass own = some m.cls) (hk : kn X s) (hP : wd X M H) (hlink : Cond.fieldLink own index RX4 "propCounts" "[I" ∈ lw_u) (hdg : decode cc pc = .ok (.getfield index, 3)) (kk : W p l e R s m args below meth c H locs cells slots Q (F0 m (pc + 3) ls (.ref (X.ad 19) :: rest))) : W p l e R s m args below meth c H locs cells slots Q (F0 m pc ls (.ref (X.ad 14) :: rest)) :=
  gf hx hb hts hown hk hP (by decide) rfl (C := RX4) (T := TX4) (N := 9) rfl innX4 6 (by decide) hlink rfl hdg kk
theorem gX4_7 (hx : p.tables.exec = Jvm.exec) (hb : c.code = cc) (hts : ∀ w ∈ lw_u, w.before args s = true) (hown : s.vm.findClass own = some m.cls) (hk : kn X s) (hP : wd X M H) (hlink : Cond.fieldLink own index RX4 "leadsOn" "[Z" ∈ lw_u) (hdg : decode cc pc = .ok (.getfield index, 3)) (kk : W p l e R s m args below meth c H locs cells slots Q (F0 m (pc + 3) ls (.ref (X.ad 20) :: rest))) : W p l e R s m args below meth c H locs cells slots Q (F0 m pc ls (.ref (X.ad 14) :: rest)) :=
  gf hx hb hts hown hk hP (by decide) rfl (C := RX4) (T := TX4) (N := 9) rfl innX4 7 (by decide) hlink rfl hdg kk
theorem gX4_8 (hx : p.tables.exec = Jvm.exec) (hb : c.code = cc) (hts : ∀ w ∈ lw_u, w.before args s = true) (hown : s.vm.findClass own = some m.cls) (hk : kn X s) (hP : wd X M H) (hlink : Cond.fieldLink own index RX4 "plannedSet" "I" ∈ lw_u) (hdg : decode cc pc = .ok (.getfield index, 3)) (kk : W p l e R s m args below meth c H locs cells slots Q (F0 m (pc + 3) ls (.int (M 14 8) :: rest))) : W p l e R s m args below meth c H locs cells slots Q (F0 m pc ls (.ref (X.ad 14) :: rest)) :=
  gf hx hb hts hown hk hP (by decide) rfl (C := RX4) (T := TX4) (N := 9) rfl innX4 8 (by decide) hlink rfl hdg kk
theorem gX5_0 (hx : p.tables.exec = Jvm.exec) (hb : c.code = cc) (hts : ∀ w ∈ lw_u, w.before args s = true) (hown : s.vm.findClass own = some m.cls) (hk : kn X s) (hP : wd X M H) {k : Nat} (hF : isR k) (hlink : Cond.fieldLink own index RX5 "contacts" "[I" ∈ lw_u) (hdg : decode cc pc = .ok (.getfield index, 3)) (kk : W p l e R s m args below meth c H locs cells slots Q (F0 m (pc + 3) ls (.ref (X.ad (k + 1)) :: rest))) : W p l e R s m args below meth c H locs cells slots Q (F0 m pc ls (.ref (X.ad k) :: rest)) :=
  gf hx hb hts hown hk hP (isR_lt0 hF) (rd_R0 hF _) (C := RX5) (T := TX5) (N := 6) rfl innX5 0 (by decide) hlink rfl hdg kk
theorem gX5_1 (hx : p.tables.exec = Jvm.exec) (hb : c.code = cc) (hts : ∀ w ∈ lw_u, w.before args s = true) (hown : s.vm.findClass own = some m.cls) (hk : kn X s) (hP : wd X M H) {k : Nat} (hF : isR k) (hlink : Cond.fieldLink own index RX5 "blocking" "[I" ∈ lw_u) (hdg : decode cc pc = .ok (.getfield index, 3)) (kk : W p l e R s m args below meth c H locs cells slots Q (F0 m (pc + 3) ls (.ref (X.ad (k + 2)) :: rest))) : W p l e R s m args below meth c H locs cells slots Q (F0 m pc ls (.ref (X.ad k) :: rest)) :=
  gf hx hb hts hown hk hP (isR_lt0 hF) (rd_R0 hF _) (C := RX5) (T := TX5) (N := 6) rfl innX5 1 (by decide) hlink rfl hdg kk
theorem gX5_2 (hx : p.tables.exec = Jvm.exec) (hb : c.code = cc) (hts : ∀ w ∈ lw_u, w.before args s = true) (hown : s.vm.findClass own = some m.cls) (hk : kn X s) (hP : wd X M H) {k : Nat} (hF : isR k) (hlink : Cond.fieldLink own index RX5 "touching" "[I" ∈ lw_u) (hdg : decode cc pc = .ok (.getfield index, 3)) (kk : W p l e R s m args below meth c H locs cells slots Q (F0 m (pc + 3) ls (.ref (X.ad (k + 3)) :: rest))) : W p l e R s m args below meth c H locs cells slots Q (F0 m pc ls (.ref (X.ad k) :: rest)) :=
  gf hx hb hts hown hk hP (isR_lt0 hF) (rd_R0 hF _) (C := RX5) (T := TX5) (N := 6) rfl innX5 2 (by decide) hlink rfl hdg kk
theorem gX5_3 (hx : p.tables.exec = Jvm.exec) (hb : c.code = cc) (hts : ∀ w ∈ lw_u, w.before args s = true) (hown : s.vm.findClass own = some m.cls) (hk : kn X s) (hP : wd X M H) {k : Nat} (hF : isR k) (hlink : Cond.fieldLink own index RX5 "below" "[I" ∈ lw_u) (hdg : decode cc pc = .ok (.getfield index, 3)) (kk : W p l e R s m args below meth c H locs cells slots Q (F0 m (pc + 3) ls (.ref (X.ad (k + 4)) :: rest))) : W p l e R s m args below meth c H locs cells slots Q (F0 m pc ls (.ref (X.ad k) :: rest)) :=
  gf hx hb hts hown hk hP (isR_lt0 hF) (rd_R0 hF _) (C := RX5) (T := TX5) (N := 6) rfl innX5 3 (by decide) hlink rfl hdg kk
theorem gX5_4 (hx : p.tables.exec = Jvm.exec) (hb : c.code = cc) (hts : ∀ w ∈ lw_u, w.before args s = true) (hown : s.vm.findClass own = some m.cls) (hk : kn X s) (hP : wd X M H) {k : Nat} (hF : isR k) (hlink : Cond.fieldLink own index RX5 "grounded" "I" ∈ lw_u) (hdg : decode cc pc = .ok (.getfield index, 3)) (kk : W p l e R s m args below meth c H locs cells slots Q (F0 m (pc + 3) ls (.int (M k 4) :: rest))) : W p l e R s m args below meth c H locs cells slots Q (F0 m pc ls (.ref (X.ad k) :: rest)) :=
  gf hx hb hts hown hk hP (isR_lt0 hF) (rd_R0 hF _) (C := RX5) (T := TX5) (N := 6) rfl innX5 4 (by decide) hlink rfl hdg kk
theorem gX5_5 (hx : p.tables.exec = Jvm.exec) (hb : c.code = cc) (hts : ∀ w ∈ lw_u, w.before args s = true) (hown : s.vm.findClass own = some m.cls) (hk : kn X s) (hP : wd X M H) {k : Nat} (hF : isR k) (hlink : Cond.fieldLink own index RX5 "pieces" "I" ∈ lw_u) (hdg : decode cc pc = .ok (.getfield index, 3)) (kk : W p l e R s m args below meth c H locs cells slots Q (F0 m (pc + 3) ls (.int (M k 5) :: rest))) : W p l e R s m args below meth c H locs cells slots Q (F0 m pc ls (.ref (X.ad k) :: rest)) :=
  gf hx hb hts hown hk hP (isR_lt0 hF) (rd_R0 hF _) (C := RX5) (T := TX5) (N := 6) rfl innX5 5 (by decide) hlink rfl hdg kk
theorem gX6_0 (hx : p.tables.exec = Jvm.exec) (hb : c.code = cc) (hts : ∀ w ∈ lw_u, w.before args s = true) (hown : s.vm.findClass own = some m.cls) (hk : kn X s) (hP : wd X M H) (hlink : Cond.fieldLink own index RX6 "length" "I" ∈ lw_u) (hdg : decode cc pc = .ok (.getfield index, 3)) (kk : W p l e R s m args below meth c H locs cells slots Q (F0 m (pc + 3) ls (.int (M 47 0) :: rest))) : W p l e R s m args below meth c H locs cells slots Q (F0 m pc ls (.ref (X.ad 47) :: rest)) :=
  gf hx hb hts hown hk hP (by decide) rfl (C := RX6) (T := TX6) (N := 7) rfl innX6 0 (by decide) hlink rfl hdg kk
theorem gX6_1 (hx : p.tables.exec = Jvm.exec) (hb : c.code = cc) (hts : ∀ w ∈ lw_u, w.before args s = true) (hown : s.vm.findClass own = some m.cls) (hk : kn X s) (hP : wd X M H) (hlink : Cond.fieldLink own index RX6 "fault" "I" ∈ lw_u) (hdg : decode cc pc = .ok (.getfield index, 3)) (kk : W p l e R s m args below meth c H locs cells slots Q (F0 m (pc + 3) ls (.int (M 47 1) :: rest))) : W p l e R s m args below meth c H locs cells slots Q (F0 m pc ls (.ref (X.ad 47) :: rest)) :=
  gf hx hb hts hown hk hP (by decide) rfl (C := RX6) (T := TX6) (N := 7) rfl innX6 1 (by decide) hlink rfl hdg kk
theorem gX6_2 (hx : p.tables.exec = Jvm.exec) (hb : c.code = cc) (hts : ∀ w ∈ lw_u, w.before args s = true) (hown : s.vm.findClass own = some m.cls) (hk : kn X s) (hP : wd X M H) (hlink : Cond.fieldLink own index RX6 "codes" "[I" ∈ lw_u) (hdg : decode cc pc = .ok (.getfield index, 3)) (kk : W p l e R s m args below meth c H locs cells slots Q (F0 m (pc + 3) ls (.ref (X.ad 48) :: rest))) : W p l e R s m args below meth c H locs cells slots Q (F0 m pc ls (.ref (X.ad 47) :: rest)) :=
  gf hx hb hts hown hk hP (by decide) rfl (C := RX6) (T := TX6) (N := 7) rfl innX6 2 (by decide) hlink rfl hdg kk
theorem gX6_3 (hx : p.tables.exec = Jvm.exec) (hb : c.code = cc) (hts : ∀ w ∈ lw_u, w.before args s = true) (hown : s.vm.findClass own = some m.cls) (hk : kn X s) (hP : wd X M H) (hlink : Cond.fieldLink own index RX6 "box" "LFrameRaiser$Box;" ∈ lw_u) (hdg : decode cc pc = .ok (.getfield index, 3)) (kk : W p l e R s m args below meth c H locs cells slots Q (F0 m (pc + 3) ls (.ref (X.ad 49) :: rest))) : W p l e R s m args below meth c H locs cells slots Q (F0 m pc ls (.ref (X.ad 47) :: rest)) :=
  gf hx hb hts hown hk hP (by decide) rfl (C := RX6) (T := TX6) (N := 7) rfl innX6 3 (by decide) hlink rfl hdg kk
theorem gX6_4 (hx : p.tables.exec = Jvm.exec) (hb : c.code = cc) (hts : ∀ w ∈ lw_u, w.before args s = true) (hown : s.vm.findClass own = some m.cls) (hk : kn X s) (hP : wd X M H) (hlink : Cond.fieldLink own index RX6 "place" "I" ∈ lw_u) (hdg : decode cc pc = .ok (.getfield index, 3)) (kk : W p l e R s m args below meth c H locs cells slots Q (F0 m (pc + 3) ls (.int (M 47 4) :: rest))) : W p l e R s m args below meth c H locs cells slots Q (F0 m pc ls (.ref (X.ad 47) :: rest)) :=
  gf hx hb hts hown hk hP (by decide) rfl (C := RX6) (T := TX6) (N := 7) rfl innX6 4 (by decide) hlink rfl hdg kk
theorem gX6_5 (hx : p.tables.exec = Jvm.exec) (hb : c.code = cc) (hts : ∀ w ∈ lw_u, w.before args s = true) (hown : s.vm.findClass own = some m.cls) (hk : kn X s) (hP : wd X M H) (hlink : Cond.fieldLink own index RX6 "digits" "I" ∈ lw_u) (hdg : decode cc pc = .ok (.getfield index, 3)) (kk : W p l e R s m args below meth c H locs cells slots Q (F0 m (pc + 3) ls (.int (M 47 5) :: rest))) : W p l e R s m args below meth c H locs cells slots Q (F0 m pc ls (.ref (X.ad 47) :: rest)) :=
  gf hx hb hts hown hk hP (by decide) rfl (C := RX6) (T := TX6) (N := 7) rfl innX6 5 (by decide) hlink rfl hdg kk
theorem gX6_6 (hx : p.tables.exec = Jvm.exec) (hb : c.code = cc) (hts : ∀ w ∈ lw_u, w.before args s = true) (hown : s.vm.findClass own = some m.cls) (hk : kn X s) (hP : wd X M H) (hlink : Cond.fieldLink own index RX6 "piece" "I" ∈ lw_u) (hdg : decode cc pc = .ok (.getfield index, 3)) (kk : W p l e R s m args below meth c H locs cells slots Q (F0 m (pc + 3) ls (.int (M 47 6) :: rest))) : W p l e R s m args below meth c H locs cells slots Q (F0 m pc ls (.ref (X.ad 47) :: rest)) :=
  gf hx hb hts hown hk hP (by decide) rfl (C := RX6) (T := TX6) (N := 7) rfl innX6 6 (by decide) hlink rfl hdg kk
theorem gX7_0 (hx : p.tables.exec = Jvm.exec) (hb : c.code = cc) (hts : ∀ w ∈ lw_u, w.before args s = true) (hown : s.vm.findClass own = some m.cls) (hk : kn X s) (hP : wd X M H) (hlink : Cond.fieldLink own index RX7 "frame" "LFrameRaiser$Frame;" ∈ lw_u) (hdg : decode cc pc = .ok (.getfield index, 3)) (kk : W p l e R s m args below meth c H locs cells slots Q (F0 m (pc + 3) ls (.ref (X.ad 1) :: rest))) : W p l e R s m args below meth c H locs cells slots Q (F0 m pc ls (.ref (X.ad 0) :: rest)) :=
  gf hx hb hts hown hk hP (by decide) rfl (C := RX7) (T := TX7) (N := 12) rfl innX7 0 (by decide) hlink rfl hdg kk
theorem gX7_1 (hx : p.tables.exec = Jvm.exec) (hb : c.code = cc) (hts : ∀ w ∈ lw_u, w.before args s = true) (hown : s.vm.findClass own = some m.cls) (hk : kn X s) (hP : wd X M H) (hlink : Cond.fieldLink own index RX7 "measures" "LFrameRaiser$Measures;" ∈ lw_u) (hdg : decode cc pc = .ok (.getfield index, 3)) (kk : W p l e R s m args below meth c H locs cells slots Q (F0 m (pc + 3) ls (.ref (X.ad 4) :: rest))) : W p l e R s m args below meth c H locs cells slots Q (F0 m pc ls (.ref (X.ad 0) :: rest)) :=
  gf hx hb hts hown hk hP (by decide) rfl (C := RX7) (T := TX7) (N := 12) rfl innX7 1 (by decide) hlink rfl hdg kk
theorem gX7_2 (hx : p.tables.exec = Jvm.exec) (hb : c.code = cc) (hts : ∀ w ∈ lw_u, w.before args s = true) (hown : s.vm.findClass own = some m.cls) (hk : kn X s) (hP : wd X M H) (hlink : Cond.fieldLink own index RX7 "relations" "LFrameRaiser$Relations;" ∈ lw_u) (hdg : decode cc pc = .ok (.getfield index, 3)) (kk : W p l e R s m args below meth c H locs cells slots Q (F0 m (pc + 3) ls (.ref (X.ad 9) :: rest))) : W p l e R s m args below meth c H locs cells slots Q (F0 m pc ls (.ref (X.ad 0) :: rest)) :=
  gf hx hb hts hown hk hP (by decide) rfl (C := RX7) (T := TX7) (N := 12) rfl innX7 2 (by decide) hlink rfl hdg kk
theorem gX7_3 (hx : p.tables.exec = Jvm.exec) (hb : c.code = cc) (hts : ∀ w ∈ lw_u, w.before args s = true) (hown : s.vm.findClass own = some m.cls) (hk : kn X s) (hP : wd X M H) (hlink : Cond.fieldLink own index RX7 "planner" "LFrameRaiser$Planner;" ∈ lw_u) (hdg : decode cc pc = .ok (.getfield index, 3)) (kk : W p l e R s m args below meth c H locs cells slots Q (F0 m (pc + 3) ls (.ref (X.ad 14) :: rest))) : W p l e R s m args below meth c H locs cells slots Q (F0 m pc ls (.ref (X.ad 0) :: rest)) :=
  gf hx hb hts hown hk hP (by decide) rfl (C := RX7) (T := TX7) (N := 12) rfl innX7 3 (by decide) hlink rfl hdg kk
theorem gX7_4 (hx : p.tables.exec = Jvm.exec) (hb : c.code = cc) (hts : ∀ w ∈ lw_u, w.before args s = true) (hown : s.vm.findClass own = some m.cls) (hk : kn X s) (hP : wd X M H) (hlink : Cond.fieldLink own index RX7 "history" "LFrameRaiser$History;" ∈ lw_u) (hdg : decode cc pc = .ok (.getfield index, 3)) (kk : W p l e R s m args below meth c H locs cells slots Q (F0 m (pc + 3) ls (.ref (X.ad 21) :: rest))) : W p l e R s m args below meth c H locs cells slots Q (F0 m pc ls (.ref (X.ad 0) :: rest)) :=
  gf hx hb hts hown hk hP (by decide) rfl (C := RX7) (T := TX7) (N := 12) rfl innX7 4 (by decide) hlink rfl hdg kk
theorem gX7_5 (hx : p.tables.exec = Jvm.exec) (hb : c.code = cc) (hts : ∀ w ∈ lw_u, w.before args s = true) (hown : s.vm.findClass own = some m.cls) (hk : kn X s) (hP : wd X M H) (hlink : Cond.fieldLink own index RX7 "text" "LFrameRaiser$Text;" ∈ lw_u) (hdg : decode cc pc = .ok (.getfield index, 3)) (kk : W p l e R s m args below meth c H locs cells slots Q (F0 m (pc + 3) ls (.ref (X.ad 47) :: rest))) : W p l e R s m args below meth c H locs cells slots Q (F0 m pc ls (.ref (X.ad 0) :: rest)) :=
  gf hx hb hts hown hk hP (by decide) rfl (C := RX7) (T := TX7) (N := 12) rfl innX7 5 (by decide) hlink rfl hdg kk
theorem gX7_6 (hx : p.tables.exec = Jvm.exec) (hb : c.code = cc) (hts : ∀ w ∈ lw_u, w.before args s = true) (hown : s.vm.findClass own = some m.cls) (hk : kn X s) (hP : wd X M H) (hlink : Cond.fieldLink own index RX7 "box" "LFrameRaiser$Box;" ∈ lw_u) (hdg : decode cc pc = .ok (.getfield index, 3)) (kk : W p l e R s m args below meth c H locs cells slots Q (F0 m (pc + 3) ls (.ref (X.ad 51) :: rest))) : W p l e R s m args below meth c H locs cells slots Q (F0 m pc ls (.ref (X.ad 0) :: rest)) :=
  gf hx hb hts hown hk hP (by decide) rfl (C := RX7) (T := TX7) (N := 12) rfl innX7 6 (by decide) hlink rfl hdg kk
theorem gX7_7 (hx : p.tables.exec = Jvm.exec) (hb : c.code = cc) (hts : ∀ w ∈ lw_u, w.before args s = true) (hown : s.vm.findClass own = some m.cls) (hk : kn X s) (hP : wd X M H) (hlink : Cond.fieldLink own index RX7 "trialFrame" "LFrameRaiser$Frame;" ∈ lw_u) (hdg : decode cc pc = .ok (.getfield index, 3)) (kk : W p l e R s m args below meth c H locs cells slots Q (F0 m (pc + 3) ls (.ref (X.ad 53) :: rest))) : W p l e R s m args below meth c H locs cells slots Q (F0 m pc ls (.ref (X.ad 0) :: rest)) :=
  gf hx hb hts hown hk hP (by decide) rfl (C := RX7) (T := TX7) (N := 12) rfl innX7 7 (by decide) hlink rfl hdg kk
theorem gX7_8 (hx : p.tables.exec = Jvm.exec) (hb : c.code = cc) (hts : ∀ w ∈ lw_u, w.before args s = true) (hown : s.vm.findClass own = some m.cls) (hk : kn X s) (hP : wd X M H) (hlink : Cond.fieldLink own index RX7 "trialRelations" "LFrameRaiser$Relations;" ∈ lw_u) (hdg : decode cc pc = .ok (.getfield index, 3)) (kk : W p l e R s m args below meth c H locs cells slots Q (F0 m (pc + 3) ls (.ref (X.ad 56) :: rest))) : W p l e R s m args below meth c H locs cells slots Q (F0 m pc ls (.ref (X.ad 0) :: rest)) :=
  gf hx hb hts hown hk hP (by decide) rfl (C := RX7) (T := TX7) (N := 12) rfl innX7 8 (by decide) hlink rfl hdg kk
theorem gX7_9 (hx : p.tables.exec = Jvm.exec) (hb : c.code = cc) (hts : ∀ w ∈ lw_u, w.before args s = true) (hown : s.vm.findClass own = some m.cls) (hk : kn X s) (hP : wd X M H) (hlink : Cond.fieldLink own index RX7 "measured" "Z" ∈ lw_u) (hdg : decode cc pc = .ok (.getfield index, 3)) (kk : W p l e R s m args below meth c H locs cells slots Q (F0 m (pc + 3) ls (.int (M 0 9) :: rest))) : W p l e R s m args below meth c H locs cells slots Q (F0 m pc ls (.ref (X.ad 0) :: rest)) :=
  gf hx hb hts hown hk hP (by decide) rfl (C := RX7) (T := TX7) (N := 12) rfl innX7 9 (by decide) hlink rfl hdg kk
theorem gX7_10 (hx : p.tables.exec = Jvm.exec) (hb : c.code = cc) (hts : ∀ w ∈ lw_u, w.before args s = true) (hown : s.vm.findClass own = some m.cls) (hk : kn X s) (hP : wd X M H) (hlink : Cond.fieldLink own index RX7 "related" "Z" ∈ lw_u) (hdg : decode cc pc = .ok (.getfield index, 3)) (kk : W p l e R s m args below meth c H locs cells slots Q (F0 m (pc + 3) ls (.int (M 0 10) :: rest))) : W p l e R s m args below meth c H locs cells slots Q (F0 m pc ls (.ref (X.ad 0) :: rest)) :=
  gf hx hb hts hown hk hP (by decide) rfl (C := RX7) (T := TX7) (N := 12) rfl innX7 10 (by decide) hlink rfl hdg kk
theorem gX7_11 (hx : p.tables.exec = Jvm.exec) (hb : c.code = cc) (hts : ∀ w ∈ lw_u, w.before args s = true) (hown : s.vm.findClass own = some m.cls) (hk : kn X s) (hP : wd X M H) (hlink : Cond.fieldLink own index RX7 "tabled" "Z" ∈ lw_u) (hdg : decode cc pc = .ok (.getfield index, 3)) (kk : W p l e R s m args below meth c H locs cells slots Q (F0 m (pc + 3) ls (.int (M 0 11) :: rest))) : W p l e R s m args below meth c H locs cells slots Q (F0 m pc ls (.ref (X.ad 0) :: rest)) :=
  gf hx hb hts hown hk hP (by decide) rfl (C := RX7) (T := TX7) (N := 12) rfl innX7 11 (by decide) hlink rfl hdg kk
theorem gX8_0 (hx : p.tables.exec = Jvm.exec) (hb : c.code = cc) (hts : ∀ w ∈ lw_u, w.before args s = true) (hown : s.vm.findClass own = some m.cls) (hk : kn X s) (hP : wd X M H) (hlink : Cond.fieldLink own index RX8 "page" "[I" ∈ lw_u) (hdg : decode cc pc = .ok (.getfield index, 3)) (kk : W p l e R s m args below meth c H locs cells slots Q (F0 m (pc + 3) ls (.ref (X.ad 62) :: rest))) : W p l e R s m args below meth c H locs cells slots Q (F0 m pc ls (.ref (X.ad 61) :: rest)) :=
  gf hx hb hts hown hk hP (by decide) rfl (C := RX8) (T := TX8) (N := 14) rfl innX8 0 (by decide) hlink rfl hdg kk
theorem gX8_1 (hx : p.tables.exec = Jvm.exec) (hb : c.code = cc) (hts : ∀ w ∈ lw_u, w.before args s = true) (hown : s.vm.findClass own = some m.cls) (hk : kn X s) (hP : wd X M H) (hlink : Cond.fieldLink own index RX8 "backMany" "I" ∈ lw_u) (hdg : decode cc pc = .ok (.getfield index, 3)) (kk : W p l e R s m args below meth c H locs cells slots Q (F0 m (pc + 3) ls (.int (M 61 1) :: rest))) : W p l e R s m args below meth c H locs cells slots Q (F0 m pc ls (.ref (X.ad 61) :: rest)) :=
  gf hx hb hts hown hk hP (by decide) rfl (C := RX8) (T := TX8) (N := 14) rfl innX8 1 (by decide) hlink rfl hdg kk
theorem gX8_2 (hx : p.tables.exec = Jvm.exec) (hb : c.code = cc) (hts : ∀ w ∈ lw_u, w.before args s = true) (hown : s.vm.findClass own = some m.cls) (hk : kn X s) (hP : wd X M H) (hlink : Cond.fieldLink own index RX8 "blocking" "[I" ∈ lw_u) (hdg : decode cc pc = .ok (.getfield index, 3)) (kk : W p l e R s m args below meth c H locs cells slots Q (F0 m (pc + 3) ls (.ref (X.ad 63) :: rest))) : W p l e R s m args below meth c H locs cells slots Q (F0 m pc ls (.ref (X.ad 61) :: rest)) :=
  gf hx hb hts hown hk hP (by decide) rfl (C := RX8) (T := TX8) (N := 14) rfl innX8 2 (by decide) hlink rfl hdg kk
theorem gX8_3 (hx : p.tables.exec = Jvm.exec) (hb : c.code = cc) (hts : ∀ w ∈ lw_u, w.before args s = true) (hown : s.vm.findClass own = some m.cls) (hk : kn X s) (hP : wd X M H) (hlink : Cond.fieldLink own index RX8 "below" "[I" ∈ lw_u) (hdg : decode cc pc = .ok (.getfield index, 3)) (kk : W p l e R s m args below meth c H locs cells slots Q (F0 m (pc + 3) ls (.ref (X.ad 64) :: rest))) : W p l e R s m args below meth c H locs cells slots Q (F0 m pc ls (.ref (X.ad 61) :: rest)) :=
  gf hx hb hts hown hk hP (by decide) rfl (C := RX8) (T := TX8) (N := 14) rfl innX8 3 (by decide) hlink rfl hdg kk
theorem gX8_4 (hx : p.tables.exec = Jvm.exec) (hb : c.code = cc) (hts : ∀ w ∈ lw_u, w.before args s = true) (hown : s.vm.findClass own = some m.cls) (hk : kn X s) (hP : wd X M H) (hlink : Cond.fieldLink own index RX8 "isGrounded" "[Z" ∈ lw_u) (hdg : decode cc pc = .ok (.getfield index, 3)) (kk : W p l e R s m args below meth c H locs cells slots Q (F0 m (pc + 3) ls (.ref (X.ad 65) :: rest))) : W p l e R s m args below meth c H locs cells slots Q (F0 m pc ls (.ref (X.ad 61) :: rest)) :=
  gf hx hb hts hown hk hP (by decide) rfl (C := RX8) (T := TX8) (N := 14) rfl innX8 4 (by decide) hlink rfl hdg kk
theorem gX8_5 (hx : p.tables.exec = Jvm.exec) (hb : c.code = cc) (hts : ∀ w ∈ lw_u, w.before args s = true) (hown : s.vm.findClass own = some m.cls) (hk : kn X s) (hP : wd X M H) (hlink : Cond.fieldLink own index RX8 "ways" "[I" ∈ lw_u) (hdg : decode cc pc = .ok (.getfield index, 3)) (kk : W p l e R s m args below meth c H locs cells slots Q (F0 m (pc + 3) ls (.ref (X.ad 66) :: rest))) : W p l e R s m args below meth c H locs cells slots Q (F0 m pc ls (.ref (X.ad 61) :: rest)) :=
  gf hx hb hts hown hk hP (by decide) rfl (C := RX8) (T := TX8) (N := 14) rfl innX8 5 (by decide) hlink rfl hdg kk
theorem gX8_6 (hx : p.tables.exec = Jvm.exec) (hb : c.code = cc) (hts : ∀ w ∈ lw_u, w.before args s = true) (hown : s.vm.findClass own = some m.cls) (hk : kn X s) (hP : wd X M H) (hlink : Cond.fieldLink own index RX8 "least" "[I" ∈ lw_u) (hdg : decode cc pc = .ok (.getfield index, 3)) (kk : W p l e R s m args below meth c H locs cells slots Q (F0 m (pc + 3) ls (.ref (X.ad 67) :: rest))) : W p l e R s m args below meth c H locs cells slots Q (F0 m pc ls (.ref (X.ad 61) :: rest)) :=
  gf hx hb hts hown hk hP (by decide) rfl (C := RX8) (T := TX8) (N := 14) rfl innX8 6 (by decide) hlink rfl hdg kk
theorem gX8_7 (hx : p.tables.exec = Jvm.exec) (hb : c.code = cc) (hts : ∀ w ∈ lw_u, w.before args s = true) (hown : s.vm.findClass own = some m.cls) (hk : kn X s) (hP : wd X M H) (hlink : Cond.fieldLink own index RX8 "leads" "[Z" ∈ lw_u) (hdg : decode cc pc = .ok (.getfield index, 3)) (kk : W p l e R s m args below meth c H locs cells slots Q (F0 m (pc + 3) ls (.ref (X.ad 68) :: rest))) : W p l e R s m args below meth c H locs cells slots Q (F0 m pc ls (.ref (X.ad 61) :: rest)) :=
  gf hx hb hts hown hk hP (by decide) rfl (C := RX8) (T := TX8) (N := 14) rfl innX8 7 (by decide) hlink rfl hdg kk
theorem gX8_8 (hx : p.tables.exec = Jvm.exec) (hb : c.code = cc) (hts : ∀ w ∈ lw_u, w.before args s = true) (hown : s.vm.findClass own = some m.cls) (hk : kn X s) (hP : wd X M H) (hlink : Cond.fieldLink own index RX8 "text" "[I" ∈ lw_u) (hdg : decode cc pc = .ok (.getfield index, 3)) (kk : W p l e R s m args below meth c H locs cells slots Q (F0 m (pc + 3) ls (.ref (X.ad 69) :: rest))) : W p l e R s m args below meth c H locs cells slots Q (F0 m pc ls (.ref (X.ad 61) :: rest)) :=
  gf hx hb hts hown hk hP (by decide) rfl (C := RX8) (T := TX8) (N := 14) rfl innX8 8 (by decide) hlink rfl hdg kk
theorem gX8_9 (hx : p.tables.exec = Jvm.exec) (hb : c.code = cc) (hts : ∀ w ∈ lw_u, w.before args s = true) (hown : s.vm.findClass own = some m.cls) (hk : kn X s) (hP : wd X M H) (hlink : Cond.fieldLink own index RX8 "typed" "I" ∈ lw_u) (hdg : decode cc pc = .ok (.getfield index, 3)) (kk : W p l e R s m args below meth c H locs cells slots Q (F0 m (pc + 3) ls (.int (M 61 9) :: rest))) : W p l e R s m args below meth c H locs cells slots Q (F0 m pc ls (.ref (X.ad 61) :: rest)) :=
  gf hx hb hts hown hk hP (by decide) rfl (C := RX8) (T := TX8) (N := 14) rfl innX8 9 (by decide) hlink rfl hdg kk
theorem gX8_10 (hx : p.tables.exec = Jvm.exec) (hb : c.code = cc) (hts : ∀ w ∈ lw_u, w.before args s = true) (hown : s.vm.findClass own = some m.cls) (hk : kn X s) (hP : wd X M H) (hlink : Cond.fieldLink own index RX8 "fault" "I" ∈ lw_u) (hdg : decode cc pc = .ok (.getfield index, 3)) (kk : W p l e R s m args below meth c H locs cells slots Q (F0 m (pc + 3) ls (.int (M 61 10) :: rest))) : W p l e R s m args below meth c H locs cells slots Q (F0 m pc ls (.ref (X.ad 61) :: rest)) :=
  gf hx hb hts hown hk hP (by decide) rfl (C := RX8) (T := TX8) (N := 14) rfl innX8 10 (by decide) hlink rfl hdg kk
theorem gX8_11 (hx : p.tables.exec = Jvm.exec) (hb : c.code = cc) (hts : ∀ w ∈ lw_u, w.before args s = true) (hown : s.vm.findClass own = some m.cls) (hk : kn X s) (hP : wd X M H) (hlink : Cond.fieldLink own index RX8 "faultAt" "I" ∈ lw_u) (hdg : decode cc pc = .ok (.getfield index, 3)) (kk : W p l e R s m args below meth c H locs cells slots Q (F0 m (pc + 3) ls (.int (M 61 11) :: rest))) : W p l e R s m args below meth c H locs cells slots Q (F0 m pc ls (.ref (X.ad 61) :: rest)) :=
  gf hx hb hts hown hk hP (by decide) rfl (C := RX8) (T := TX8) (N := 14) rfl innX8 11 (by decide) hlink rfl hdg kk
theorem gX8_12 (hx : p.tables.exec = Jvm.exec) (hb : c.code = cc) (hts : ∀ w ∈ lw_u, w.before args s = true) (hown : s.vm.findClass own = some m.cls) (hk : kn X s) (hP : wd X M H) (hlink : Cond.fieldLink own index RX8 "had" "[Z" ∈ lw_u) (hdg : decode cc pc = .ok (.getfield index, 3)) (kk : W p l e R s m args below meth c H locs cells slots Q (F0 m (pc + 3) ls (.ref (X.ad 70) :: rest))) : W p l e R s m args below meth c H locs cells slots Q (F0 m pc ls (.ref (X.ad 61) :: rest)) :=
  gf hx hb hts hown hk hP (by decide) rfl (C := RX8) (T := TX8) (N := 14) rfl innX8 12 (by decide) hlink rfl hdg kk
theorem gX8_13 (hx : p.tables.exec = Jvm.exec) (hb : c.code = cc) (hts : ∀ w ∈ lw_u, w.before args s = true) (hown : s.vm.findClass own = some m.cls) (hk : kn X s) (hP : wd X M H) (hlink : Cond.fieldLink own index RX8 "hash" "J" ∈ lw_u) (hdg : decode cc pc = .ok (.getfield index, 3)) (kk : W p l e R s m args below meth c H locs cells slots Q (F0 m (pc + 3) ls (.long (l64 (M 61 13) (M 61 14)) :: rest))) : W p l e R s m args below meth c H locs cells slots Q (F0 m pc ls (.ref (X.ad 61) :: rest)) :=
  gf hx hb hts hown hk hP (by decide) rfl (C := RX8) (T := TX8) (N := 14) rfl innX8 13 (by decide) hlink rfl hdg kk
theorem gnX5_5 (hx : p.tables.exec = Jvm.exec) (hb : c.code = cc) (hts : ∀ w ∈ lw_u, w.before args s = true) (hown : s.vm.findClass own = some m.cls) (hk : kn X s) (hP : wd X M H) {k : Nat} (hF : isR k) (hlink : va_Nw (Cond.fieldLinkNest own index RX5 "pieces" "I" RX7) s) (hdg : decode cc pc = .ok (.getfield index, 3)) (kk : W p l e R s m args below meth c H locs cells slots Q (F0 m (pc + 3) ls (.int (M k 5) :: rest))) : W p l e R s m args below meth c H locs cells slots Q (F0 m pc ls (.ref (X.ad k) :: rest)) :=
  gfN hx hb hts hown hk hP (isR_lt0 hF) (rd_R0 hF _) (C := RX5) (T := TX5) (N := 6) rfl innX5 5 (by decide) hlink rfl hdg kk
theorem pX1_2 (hx : p.tables.exec = Jvm.exec) (hb : c.code = cc) (hts : ∀ w ∈ lw_u, w.before args s = true) (hown : s.vm.findClass own = some m.cls) (hk : kn X s) (hP : wd X M H) (hS : va_S X.A H0 H locs) {k : Nat} (hF : isF k) {v : Int32} (hlink : Cond.fieldLink own index RX1 "pieces" "I" ∈ lw_u) (hdg : decode cc pc = .ok (.putfield index, 3)) (kk : ∀ (H1 : Heap) (locs1 : List Loc) (M1 : Mem), M1 = st M k 2 v → wd X M1 H1 → va_S X.A H0 H1 locs1 → W p l e R s m args below meth c H1 locs1 cells slots Q (F0 m (pc + 3) ls rest)) : W p l e R s m args below meth c H locs cells slots Q (F0 m pc ls (.int v :: .ref (X.ad k) :: rest)) :=
  pf hx hb hts hown hk hP hS (isF_lt0 hF) (rd_F0 hF _) (C := RX1) (T := TX1) (N := 5) rfl innX1 tyX1 tyX1_ok nmX1 2 (by decide) hlink rfl (v := .int v) rfl rfl (Nat.le_of_ble_eq_true rfl) (f := (upd (M k) 2 v)) (rd_F0 hF _) hdg kk
theorem pX1_3 (hx : p.tables.exec = Jvm.exec) (hb : c.code = cc) (hts : ∀ w ∈ lw_u, w.before args s = true) (hown : s.vm.findClass own = some m.cls) (hk : kn X s) (hP : wd X M H) (hS : va_S X.A H0 H locs) {k : Nat} (hF : isF k) {v : Int32} (hlink : Cond.fieldLink own index RX1 "building" "I" ∈ lw_u) (hdg : decode cc pc = .ok (.putfield index, 3)) (kk : ∀ (H1 : Heap) (locs1 : List Loc) (M1 : Mem), M1 = st M k 3 v → wd X M1 H1 → va_S X.A H0 H1 locs1 → W p l e R s m args below meth c H1 locs1 cells slots Q (F0 m (pc + 3) ls rest)) : W p l e R s m args below meth c H locs cells slots Q (F0 m pc ls (.int v :: .ref (X.ad k) :: rest)) :=
  pf hx hb hts hown hk hP hS (isF_lt0 hF) (rd_F0 hF _) (C := RX1) (T := TX1) (N := 5) rfl innX1 tyX1 tyX1_ok nmX1 3 (by decide) hlink rfl (v := .int v) rfl rfl (Nat.le_of_ble_eq_true rfl) (f := (upd (M k) 3 v)) (rd_F0 hF _) hdg kk
theorem pX1_4 (hx : p.tables.exec = Jvm.exec) (hb : c.code = cc) (hts : ∀ w ∈ lw_u, w.before args s = true) (hown : s.vm.findClass own = some m.cls) (hk : kn X s) (hP : wd X M H) (hS : va_S X.A H0 H locs) {k : Nat} (hF : isF k) {v : Int32} (hlink : Cond.fieldLink own index RX1 "steps" "I" ∈ lw_u) (hdg : decode cc pc = .ok (.putfield index, 3)) (kk : ∀ (H1 : Heap) (locs1 : List Loc) (M1 : Mem), M1 = st M k 4 v → wd X M1 H1 → va_S X.A H0 H1 locs1 → W p l e R s m args below meth c H1 locs1 cells slots Q (F0 m (pc + 3) ls rest)) : W p l e R s m args below meth c H locs cells slots Q (F0 m pc ls (.int v :: .ref (X.ad k) :: rest)) :=
  pf hx hb hts hown hk hP hS (isF_lt0 hF) (rd_F0 hF _) (C := RX1) (T := TX1) (N := 5) rfl innX1 tyX1 tyX1_ok nmX1 4 (by decide) hlink rfl (v := .int v) rfl rfl (Nat.le_of_ble_eq_true rfl) (f := (upd (M k) 4 v)) (rd_F0 hF _) hdg kk
theorem pX2_0 (hx : p.tables.exec = Jvm.exec) (hb : c.code = cc) (hts : ∀ w ∈ lw_u, w.before args s = true) (hown : s.vm.findClass own = some m.cls) (hk : kn X s) (hP : wd X M H) (hS : va_S X.A H0 H locs) {v : Int32} (hlink : Cond.fieldLink own index RX2 "size" "I" ∈ lw_u) (hdg : decode cc pc = .ok (.putfield index, 3)) (kk : ∀ (H1 : Heap) (locs1 : List Loc) (M1 : Mem), M1 = st M 21 0 v → wd X M1 H1 → va_S X.A H0 H1 locs1 → W p l e R s m args below meth c H1 locs1 cells slots Q (F0 m (pc + 3) ls rest)) : W p l e R s m args below meth c H locs cells slots Q (F0 m pc ls (.int v :: .ref (X.ad 21) :: rest)) :=
  pf hx hb hts hown hk hP hS (by decide) rfl (C := RX2) (T := TX2) (N := 3) rfl innX2 tyX2 tyX2_ok nmX2 0 (by decide) hlink rfl (v := .int v) rfl rfl (Nat.le_of_ble_eq_true rfl) (f := (upd (M 21) 0 v)) rfl hdg kk
theorem pX2_2 (hx : p.tables.exec = Jvm.exec) (hb : c.code = cc) (hts : ∀ w ∈ lw_u, w.before args s = true) (hown : s.vm.findClass own = some m.cls) (hk : kn X s) (hP : wd X M H) (hS : va_S X.A H0 H locs) {v : Int32} (hlink : Cond.fieldLink own index RX2 "oldest" "I" ∈ lw_u) (hdg : decode cc pc = .ok (.putfield index, 3)) (kk : ∀ (H1 : Heap) (locs1 : List Loc) (M1 : Mem), M1 = st M 21 2 v → wd X M1 H1 → va_S X.A H0 H1 locs1 → W p l e R s m args below meth c H1 locs1 cells slots Q (F0 m (pc + 3) ls rest)) : W p l e R s m args below meth c H locs cells slots Q (F0 m pc ls (.int v :: .ref (X.ad 21) :: rest)) :=
  pf hx hb hts hown hk hP hS (by decide) rfl (C := RX2) (T := TX2) (N := 3) rfl innX2 tyX2 tyX2_ok nmX2 2 (by decide) hlink rfl (v := .int v) rfl rfl (Nat.le_of_ble_eq_true rfl) (f := (upd (M 21) 2 v)) rfl hdg kk
theorem pX3_4 (hx : p.tables.exec = Jvm.exec) (hb : c.code = cc) (hts : ∀ w ∈ lw_u, w.before args s = true) (hown : s.vm.findClass own = some m.cls) (hk : kn X s) (hP : wd X M H) (hS : va_S X.A H0 H locs) {v : Int32} (hlink : Cond.fieldLink own index RX3 "allCells" "I" ∈ lw_u) (hdg : decode cc pc = .ok (.putfield index, 3)) (kk : ∀ (H1 : Heap) (locs1 : List Loc) (M1 : Mem), M1 = st M 4 4 v → wd X M1 H1 → va_S X.A H0 H1 locs1 → W p l e R s m args below meth c H1 locs1 cells slots Q (F0 m (pc + 3) ls rest)) : W p l e R s m args below meth c H locs cells slots Q (F0 m pc ls (.int v :: .ref (X.ad 4) :: rest)) :=
  pf hx hb hts hown hk hP hS (by decide) rfl (C := RX3) (T := TX3) (N := 5) rfl innX3 tyX3 tyX3_ok nmX3 4 (by decide) hlink rfl (v := .int v) rfl rfl (Nat.le_of_ble_eq_true rfl) (f := (upd (M 4) 4 v)) rfl hdg kk
theorem pX4_4 (hx : p.tables.exec = Jvm.exec) (hb : c.code = cc) (hts : ∀ w ∈ lw_u, w.before args s = true) (hown : s.vm.findClass own = some m.cls) (hk : kn X s) (hP : wd X M H) (hS : va_S X.A H0 H locs) {v : Int32} (hlink : Cond.fieldLink own index RX4 "planSize" "I" ∈ lw_u) (hdg : decode cc pc = .ok (.putfield index, 3)) (kk : ∀ (H1 : Heap) (locs1 : List Loc) (M1 : Mem), M1 = st M 14 4 v → wd X M1 H1 → va_S X.A H0 H1 locs1 → W p l e R s m args below meth c H1 locs1 cells slots Q (F0 m (pc + 3) ls rest)) : W p l e R s m args below meth c H locs cells slots Q (F0 m pc ls (.int v :: .ref (X.ad 14) :: rest)) :=
  pf hx hb hts hown hk hP hS (by decide) rfl (C := RX4) (T := TX4) (N := 9) rfl innX4 tyX4 tyX4_ok nmX4 4 (by decide) hlink rfl (v := .int v) rfl rfl (Nat.le_of_ble_eq_true rfl) (f := (upd (M 14) 4 v)) rfl hdg kk
theorem pX4_8 (hx : p.tables.exec = Jvm.exec) (hb : c.code = cc) (hts : ∀ w ∈ lw_u, w.before args s = true) (hown : s.vm.findClass own = some m.cls) (hk : kn X s) (hP : wd X M H) (hS : va_S X.A H0 H locs) {v : Int32} (hlink : Cond.fieldLink own index RX4 "plannedSet" "I" ∈ lw_u) (hdg : decode cc pc = .ok (.putfield index, 3)) (kk : ∀ (H1 : Heap) (locs1 : List Loc) (M1 : Mem), M1 = st M 14 8 v → wd X M1 H1 → va_S X.A H0 H1 locs1 → W p l e R s m args below meth c H1 locs1 cells slots Q (F0 m (pc + 3) ls rest)) : W p l e R s m args below meth c H locs cells slots Q (F0 m pc ls (.int v :: .ref (X.ad 14) :: rest)) :=
  pf hx hb hts hown hk hP hS (by decide) rfl (C := RX4) (T := TX4) (N := 9) rfl innX4 tyX4 tyX4_ok nmX4 8 (by decide) hlink rfl (v := .int v) rfl rfl (Nat.le_of_ble_eq_true rfl) (f := (upd (M 14) 8 v)) rfl hdg kk
theorem pX5_4 (hx : p.tables.exec = Jvm.exec) (hb : c.code = cc) (hts : ∀ w ∈ lw_u, w.before args s = true) (hown : s.vm.findClass own = some m.cls) (hk : kn X s) (hP : wd X M H) (hS : va_S X.A H0 H locs) {k : Nat} (hF : isR k) {v : Int32} (hlink : Cond.fieldLink own index RX5 "grounded" "I" ∈ lw_u) (hdg : decode cc pc = .ok (.putfield index, 3)) (kk : ∀ (H1 : Heap) (locs1 : List Loc) (M1 : Mem), M1 = st M k 4 v → wd X M1 H1 → va_S X.A H0 H1 locs1 → W p l e R s m args below meth c H1 locs1 cells slots Q (F0 m (pc + 3) ls rest)) : W p l e R s m args below meth c H locs cells slots Q (F0 m pc ls (.int v :: .ref (X.ad k) :: rest)) :=
  pf hx hb hts hown hk hP hS (isR_lt0 hF) (rd_R0 hF _) (C := RX5) (T := TX5) (N := 6) rfl innX5 tyX5 tyX5_ok nmX5 4 (by decide) hlink rfl (v := .int v) rfl rfl (Nat.le_of_ble_eq_true rfl) (f := (upd (M k) 4 v)) (rd_R0 hF _) hdg kk
theorem pX5_5 (hx : p.tables.exec = Jvm.exec) (hb : c.code = cc) (hts : ∀ w ∈ lw_u, w.before args s = true) (hown : s.vm.findClass own = some m.cls) (hk : kn X s) (hP : wd X M H) (hS : va_S X.A H0 H locs) {k : Nat} (hF : isR k) {v : Int32} (hlink : Cond.fieldLink own index RX5 "pieces" "I" ∈ lw_u) (hdg : decode cc pc = .ok (.putfield index, 3)) (kk : ∀ (H1 : Heap) (locs1 : List Loc) (M1 : Mem), M1 = st M k 5 v → wd X M1 H1 → va_S X.A H0 H1 locs1 → W p l e R s m args below meth c H1 locs1 cells slots Q (F0 m (pc + 3) ls rest)) : W p l e R s m args below meth c H locs cells slots Q (F0 m pc ls (.int v :: .ref (X.ad k) :: rest)) :=
  pf hx hb hts hown hk hP hS (isR_lt0 hF) (rd_R0 hF _) (C := RX5) (T := TX5) (N := 6) rfl innX5 tyX5 tyX5_ok nmX5 5 (by decide) hlink rfl (v := .int v) rfl rfl (Nat.le_of_ble_eq_true rfl) (f := (upd (M k) 5 v)) (rd_R0 hF _) hdg kk
theorem pX6_0 (hx : p.tables.exec = Jvm.exec) (hb : c.code = cc) (hts : ∀ w ∈ lw_u, w.before args s = true) (hown : s.vm.findClass own = some m.cls) (hk : kn X s) (hP : wd X M H) (hS : va_S X.A H0 H locs) {v : Int32} (hlink : Cond.fieldLink own index RX6 "length" "I" ∈ lw_u) (hdg : decode cc pc = .ok (.putfield index, 3)) (kk : ∀ (H1 : Heap) (locs1 : List Loc) (M1 : Mem), M1 = st M 47 0 v → wd X M1 H1 → va_S X.A H0 H1 locs1 → W p l e R s m args below meth c H1 locs1 cells slots Q (F0 m (pc + 3) ls rest)) : W p l e R s m args below meth c H locs cells slots Q (F0 m pc ls (.int v :: .ref (X.ad 47) :: rest)) :=
  pf hx hb hts hown hk hP hS (by decide) rfl (C := RX6) (T := TX6) (N := 7) rfl innX6 tyX6 tyX6_ok nmX6 0 (by decide) hlink rfl (v := .int v) rfl rfl (Nat.le_of_ble_eq_true rfl) (f := (upd (M 47) 0 v)) rfl hdg kk
theorem pX6_1 (hx : p.tables.exec = Jvm.exec) (hb : c.code = cc) (hts : ∀ w ∈ lw_u, w.before args s = true) (hown : s.vm.findClass own = some m.cls) (hk : kn X s) (hP : wd X M H) (hS : va_S X.A H0 H locs) {v : Int32} (hlink : Cond.fieldLink own index RX6 "fault" "I" ∈ lw_u) (hdg : decode cc pc = .ok (.putfield index, 3)) (kk : ∀ (H1 : Heap) (locs1 : List Loc) (M1 : Mem), M1 = st M 47 1 v → wd X M1 H1 → va_S X.A H0 H1 locs1 → W p l e R s m args below meth c H1 locs1 cells slots Q (F0 m (pc + 3) ls rest)) : W p l e R s m args below meth c H locs cells slots Q (F0 m pc ls (.int v :: .ref (X.ad 47) :: rest)) :=
  pf hx hb hts hown hk hP hS (by decide) rfl (C := RX6) (T := TX6) (N := 7) rfl innX6 tyX6 tyX6_ok nmX6 1 (by decide) hlink rfl (v := .int v) rfl rfl (Nat.le_of_ble_eq_true rfl) (f := (upd (M 47) 1 v)) rfl hdg kk
theorem pX6_4 (hx : p.tables.exec = Jvm.exec) (hb : c.code = cc) (hts : ∀ w ∈ lw_u, w.before args s = true) (hown : s.vm.findClass own = some m.cls) (hk : kn X s) (hP : wd X M H) (hS : va_S X.A H0 H locs) {v : Int32} (hlink : Cond.fieldLink own index RX6 "place" "I" ∈ lw_u) (hdg : decode cc pc = .ok (.putfield index, 3)) (kk : ∀ (H1 : Heap) (locs1 : List Loc) (M1 : Mem), M1 = st M 47 4 v → wd X M1 H1 → va_S X.A H0 H1 locs1 → W p l e R s m args below meth c H1 locs1 cells slots Q (F0 m (pc + 3) ls rest)) : W p l e R s m args below meth c H locs cells slots Q (F0 m pc ls (.int v :: .ref (X.ad 47) :: rest)) :=
  pf hx hb hts hown hk hP hS (by decide) rfl (C := RX6) (T := TX6) (N := 7) rfl innX6 tyX6 tyX6_ok nmX6 4 (by decide) hlink rfl (v := .int v) rfl rfl (Nat.le_of_ble_eq_true rfl) (f := (upd (M 47) 4 v)) rfl hdg kk
theorem pX6_5 (hx : p.tables.exec = Jvm.exec) (hb : c.code = cc) (hts : ∀ w ∈ lw_u, w.before args s = true) (hown : s.vm.findClass own = some m.cls) (hk : kn X s) (hP : wd X M H) (hS : va_S X.A H0 H locs) {v : Int32} (hlink : Cond.fieldLink own index RX6 "digits" "I" ∈ lw_u) (hdg : decode cc pc = .ok (.putfield index, 3)) (kk : ∀ (H1 : Heap) (locs1 : List Loc) (M1 : Mem), M1 = st M 47 5 v → wd X M1 H1 → va_S X.A H0 H1 locs1 → W p l e R s m args below meth c H1 locs1 cells slots Q (F0 m (pc + 3) ls rest)) : W p l e R s m args below meth c H locs cells slots Q (F0 m pc ls (.int v :: .ref (X.ad 47) :: rest)) :=
  pf hx hb hts hown hk hP hS (by decide) rfl (C := RX6) (T := TX6) (N := 7) rfl innX6 tyX6 tyX6_ok nmX6 5 (by decide) hlink rfl (v := .int v) rfl rfl (Nat.le_of_ble_eq_true rfl) (f := (upd (M 47) 5 v)) rfl hdg kk
theorem pX6_6 (hx : p.tables.exec = Jvm.exec) (hb : c.code = cc) (hts : ∀ w ∈ lw_u, w.before args s = true) (hown : s.vm.findClass own = some m.cls) (hk : kn X s) (hP : wd X M H) (hS : va_S X.A H0 H locs) {v : Int32} (hlink : Cond.fieldLink own index RX6 "piece" "I" ∈ lw_u) (hdg : decode cc pc = .ok (.putfield index, 3)) (kk : ∀ (H1 : Heap) (locs1 : List Loc) (M1 : Mem), M1 = st M 47 6 v → wd X M1 H1 → va_S X.A H0 H1 locs1 → W p l e R s m args below meth c H1 locs1 cells slots Q (F0 m (pc + 3) ls rest)) : W p l e R s m args below meth c H locs cells slots Q (F0 m pc ls (.int v :: .ref (X.ad 47) :: rest)) :=
  pf hx hb hts hown hk hP hS (by decide) rfl (C := RX6) (T := TX6) (N := 7) rfl innX6 tyX6 tyX6_ok nmX6 6 (by decide) hlink rfl (v := .int v) rfl rfl (Nat.le_of_ble_eq_true rfl) (f := (upd (M 47) 6 v)) rfl hdg kk
theorem pX7_9 (hx : p.tables.exec = Jvm.exec) (hb : c.code = cc) (hts : ∀ w ∈ lw_u, w.before args s = true) (hown : s.vm.findClass own = some m.cls) (hk : kn X s) (hP : wd X M H) (hS : va_S X.A H0 H locs) {v : Int32} (hz : isZ v) (hlink : Cond.fieldLink own index RX7 "measured" "Z" ∈ lw_u) (hdg : decode cc pc = .ok (.putfield index, 3)) (kk : ∀ (H1 : Heap) (locs1 : List Loc) (M1 : Mem), M1 = st M 0 9 v → wd X M1 H1 → va_S X.A H0 H1 locs1 → W p l e R s m args below meth c H1 locs1 cells slots Q (F0 m (pc + 3) ls rest)) : W p l e R s m args below meth c H locs cells slots Q (F0 m pc ls (.int v :: .ref (X.ad 0) :: rest)) :=
  pf hx hb hts hown hk hP hS (by decide) rfl (C := RX7) (T := TX7) (N := 12) rfl innX7 tyX7 tyX7_ok nmX7 9 (by decide) hlink rfl (v := .int v) (isZ_nar hz) (isZ_fit hz) (Nat.le_of_ble_eq_true rfl) (f := (upd (M 0) 9 v)) rfl hdg kk
theorem pX7_10 (hx : p.tables.exec = Jvm.exec) (hb : c.code = cc) (hts : ∀ w ∈ lw_u, w.before args s = true) (hown : s.vm.findClass own = some m.cls) (hk : kn X s) (hP : wd X M H) (hS : va_S X.A H0 H locs) {v : Int32} (hz : isZ v) (hlink : Cond.fieldLink own index RX7 "related" "Z" ∈ lw_u) (hdg : decode cc pc = .ok (.putfield index, 3)) (kk : ∀ (H1 : Heap) (locs1 : List Loc) (M1 : Mem), M1 = st M 0 10 v → wd X M1 H1 → va_S X.A H0 H1 locs1 → W p l e R s m args below meth c H1 locs1 cells slots Q (F0 m (pc + 3) ls rest)) : W p l e R s m args below meth c H locs cells slots Q (F0 m pc ls (.int v :: .ref (X.ad 0) :: rest)) :=
  pf hx hb hts hown hk hP hS (by decide) rfl (C := RX7) (T := TX7) (N := 12) rfl innX7 tyX7 tyX7_ok nmX7 10 (by decide) hlink rfl (v := .int v) (isZ_nar hz) (isZ_fit hz) (Nat.le_of_ble_eq_true rfl) (f := (upd (M 0) 10 v)) rfl hdg kk
theorem pX7_11 (hx : p.tables.exec = Jvm.exec) (hb : c.code = cc) (hts : ∀ w ∈ lw_u, w.before args s = true) (hown : s.vm.findClass own = some m.cls) (hk : kn X s) (hP : wd X M H) (hS : va_S X.A H0 H locs) {v : Int32} (hz : isZ v) (hlink : Cond.fieldLink own index RX7 "tabled" "Z" ∈ lw_u) (hdg : decode cc pc = .ok (.putfield index, 3)) (kk : ∀ (H1 : Heap) (locs1 : List Loc) (M1 : Mem), M1 = st M 0 11 v → wd X M1 H1 → va_S X.A H0 H1 locs1 → W p l e R s m args below meth c H1 locs1 cells slots Q (F0 m (pc + 3) ls rest)) : W p l e R s m args below meth c H locs cells slots Q (F0 m pc ls (.int v :: .ref (X.ad 0) :: rest)) :=
  pf hx hb hts hown hk hP hS (by decide) rfl (C := RX7) (T := TX7) (N := 12) rfl innX7 tyX7 tyX7_ok nmX7 11 (by decide) hlink rfl (v := .int v) (isZ_nar hz) (isZ_fit hz) (Nat.le_of_ble_eq_true rfl) (f := (upd (M 0) 11 v)) rfl hdg kk
theorem pX8_1 (hx : p.tables.exec = Jvm.exec) (hb : c.code = cc) (hts : ∀ w ∈ lw_u, w.before args s = true) (hown : s.vm.findClass own = some m.cls) (hk : kn X s) (hP : wd X M H) (hS : va_S X.A H0 H locs) {v : Int32} (hlink : Cond.fieldLink own index RX8 "backMany" "I" ∈ lw_u) (hdg : decode cc pc = .ok (.putfield index, 3)) (kk : ∀ (H1 : Heap) (locs1 : List Loc) (M1 : Mem), M1 = st M 61 1 v → wd X M1 H1 → va_S X.A H0 H1 locs1 → W p l e R s m args below meth c H1 locs1 cells slots Q (F0 m (pc + 3) ls rest)) : W p l e R s m args below meth c H locs cells slots Q (F0 m pc ls (.int v :: .ref (X.ad 61) :: rest)) :=
  pf hx hb hts hown hk hP hS (by decide) rfl (C := RX8) (T := TX8) (N := 14) rfl innX8 tyX8 tyX8_ok nmX8 1 (by decide) hlink rfl (v := .int v) rfl rfl (Nat.le_of_ble_eq_true rfl) (f := (upd (M 61) 1 v)) rfl hdg kk
theorem pX8_9 (hx : p.tables.exec = Jvm.exec) (hb : c.code = cc) (hts : ∀ w ∈ lw_u, w.before args s = true) (hown : s.vm.findClass own = some m.cls) (hk : kn X s) (hP : wd X M H) (hS : va_S X.A H0 H locs) {v : Int32} (hlink : Cond.fieldLink own index RX8 "typed" "I" ∈ lw_u) (hdg : decode cc pc = .ok (.putfield index, 3)) (kk : ∀ (H1 : Heap) (locs1 : List Loc) (M1 : Mem), M1 = st M 61 9 v → wd X M1 H1 → va_S X.A H0 H1 locs1 → W p l e R s m args below meth c H1 locs1 cells slots Q (F0 m (pc + 3) ls rest)) : W p l e R s m args below meth c H locs cells slots Q (F0 m pc ls (.int v :: .ref (X.ad 61) :: rest)) :=
  pf hx hb hts hown hk hP hS (by decide) rfl (C := RX8) (T := TX8) (N := 14) rfl innX8 tyX8 tyX8_ok nmX8 9 (by decide) hlink rfl (v := .int v) rfl rfl (Nat.le_of_ble_eq_true rfl) (f := (upd (M 61) 9 v)) rfl hdg kk
theorem pX8_10 (hx : p.tables.exec = Jvm.exec) (hb : c.code = cc) (hts : ∀ w ∈ lw_u, w.before args s = true) (hown : s.vm.findClass own = some m.cls) (hk : kn X s) (hP : wd X M H) (hS : va_S X.A H0 H locs) {v : Int32} (hlink : Cond.fieldLink own index RX8 "fault" "I" ∈ lw_u) (hdg : decode cc pc = .ok (.putfield index, 3)) (kk : ∀ (H1 : Heap) (locs1 : List Loc) (M1 : Mem), M1 = st M 61 10 v → wd X M1 H1 → va_S X.A H0 H1 locs1 → W p l e R s m args below meth c H1 locs1 cells slots Q (F0 m (pc + 3) ls rest)) : W p l e R s m args below meth c H locs cells slots Q (F0 m pc ls (.int v :: .ref (X.ad 61) :: rest)) :=
  pf hx hb hts hown hk hP hS (by decide) rfl (C := RX8) (T := TX8) (N := 14) rfl innX8 tyX8 tyX8_ok nmX8 10 (by decide) hlink rfl (v := .int v) rfl rfl (Nat.le_of_ble_eq_true rfl) (f := (upd (M 61) 10 v)) rfl hdg kk
theorem pX8_11 (hx : p.tables.exec = Jvm.exec) (hb : c.code = cc) (hts : ∀ w ∈ lw_u, w.before args s = true) (hown : s.vm.findClass own = some m.cls) (hk : kn X s) (hP : wd X M H) (hS : va_S X.A H0 H locs) {v : Int32} (hlink : Cond.fieldLink own index RX8 "faultAt" "I" ∈ lw_u) (hdg : decode cc pc = .ok (.putfield index, 3)) (kk : ∀ (H1 : Heap) (locs1 : List Loc) (M1 : Mem), M1 = st M 61 11 v → wd X M1 H1 → va_S X.A H0 H1 locs1 → W p l e R s m args below meth c H1 locs1 cells slots Q (F0 m (pc + 3) ls rest)) : W p l e R s m args below meth c H locs cells slots Q (F0 m pc ls (.int v :: .ref (X.ad 61) :: rest)) :=
  pf hx hb hts hown hk hP hS (by decide) rfl (C := RX8) (T := TX8) (N := 14) rfl innX8 tyX8 tyX8_ok nmX8 11 (by decide) hlink rfl (v := .int v) rfl rfl (Nat.le_of_ble_eq_true rfl) (f := (upd (M 61) 11 v)) rfl hdg kk
theorem pX8_13 (hx : p.tables.exec = Jvm.exec) (hb : c.code = cc) (hts : ∀ w ∈ lw_u, w.before args s = true) (hown : s.vm.findClass own = some m.cls) (hk : kn X s) (hP : wd X M H) (hS : va_S X.A H0 H locs) {v : Int64} (hlink : Cond.fieldLink own index RX8 "hash" "J" ∈ lw_u) (hdg : decode cc pc = .ok (.putfield index, 3)) (kk : ∀ (H1 : Heap) (locs1 : List Loc) (M1 : Mem), M1 = stl M 61 13 v → wd X M1 H1 → va_S X.A H0 H1 locs1 → W p l e R s m args below meth c H1 locs1 cells slots Q (F0 m (pc + 3) ls rest)) : W p l e R s m args below meth c H locs cells slots Q (F0 m pc ls (.long v :: .ref (X.ad 61) :: rest)) :=
  pf hx hb hts hown hk hP hS (by decide) rfl (C := RX8) (T := TX8) (N := 14) rfl innX8 tyX8 tyX8_ok nmX8 13 (by decide) hlink rfl (v := .long v) rfl rfl (Nat.le_of_ble_eq_true rfl) (f := (upd (upd (M 61) 13 (lhi v)) 14 (llo v))) (hash_set X M v) hdg kk
end FR
end
section
/-! FrameRaiser$Text.append -/
def fn_X6_append (x1 : Int32) (M : Mem) : Option (Mem) :=
  if (M 47 0) < 0 then
    (some M)
  else
    (if (80 : Int32) ≤ (M 47 0) then
      (some M)
    else
      (if inb (M 47 0) 80 then
      bv (st M 48 (ix (M 47 0)) x1) fun M_3 =>
      bv (st M_3 47 0 ((M_3 47 0) + (1 : Int32))) fun M_5 =>
      some M_5
      else none))
theorem dX6_append_0 : decode cX6_append 0 = .ok (.aload_n 0, 1) := by decide +kernel
theorem dX6_append_1 : decode cX6_append 1 = .ok (.getfield 22, 3) := by decide +kernel
theorem dX6_append_4 : decode cX6_append 4 = .ok (.ifCond .lt 32, 3) := by decide +kernel
theorem dX6_append_7 : decode cX6_append 7 = .ok (.aload_n 0, 1) := by decide +kernel
theorem dX6_append_8 : decode cX6_append 8 = .ok (.getfield 22, 3) := by decide +kernel
theorem dX6_append_11 : decode cX6_append 11 = .ok (.bipush 80, 2) := by decide +kernel
theorem dX6_append_13 : decode cX6_append 13 = .ok (.if_icmp .ge 23, 3) := by decide +kernel
theorem dX6_append_16 : decode cX6_append 16 = .ok (.aload_n 0, 1) := by decide +kernel
theorem dX6_append_17 : decode cX6_append 17 = .ok (.getfield 9, 3) := by decide +kernel
theorem dX6_append_20 : decode cX6_append 20 = .ok (.aload_n 0, 1) := by decide +kernel
theorem dX6_append_21 : decode cX6_append 21 = .ok (.getfield 22, 3) := by decide +kernel
theorem dX6_append_24 : decode cX6_append 24 = .ok (.iload_n 1, 1) := by decide +kernel
theorem dX6_append_25 : decode cX6_append 25 = .ok (.iastore, 1) := by decide +kernel
theorem dX6_append_26 : decode cX6_append 26 = .ok (.aload_n 0, 1) := by decide +kernel
theorem dX6_append_27 : decode cX6_append 27 = .ok (.dup, 1) := by decide +kernel
theorem dX6_append_28 : decode cX6_append 28 = .ok (.getfield 22, 3) := by decide +kernel
theorem dX6_append_31 : decode cX6_append 31 = .ok (.iconst 1, 1) := by decide +kernel
theorem dX6_append_32 : decode cX6_append 32 = .ok (.iadd, 1) := by decide +kernel
theorem dX6_append_33 : decode cX6_append 33 = .ok (.putfield 22, 3) := by decide +kernel
theorem dX6_append_36 : decode cX6_append 36 = .ok (.return_, 1) := by decide +kernel
set_option maxHeartbeats 4000000 in
set_option maxRecDepth 100000 in
theorem c_X6_append {l : Launch} {X : En} (x1 : Int32) (M : Mem) (M9 : Mem) (hf : fn_X6_append x1 M = some M9) : Cn l X yX6_append cX6_append 2 none 0 0 [.ref (X.ad 47), .int x1] M (Qv X M9) := by
  refine Met.ofW (cc := cX6_append) (maxL := 2) (ret := none) (by decide) rfl ?_
  intro p e s m args below meth c s₁ B hml hv
  obtain ⟨rfl, hP, hk⟩ := hv
  have hx := B.exec
  have hb := B.bytes
  have hr := B.returns
  have hlocks := B.notSynchronized
  have hts : ∀ w ∈ lw_u, w.before ([.ref (X.ad 47), .int x1] : List Value).toArray s = true := fun w hw => atoms_spec (ws := Cond.code yX6_append cX6_append 2 none :: lw_u) B.pre w (List.mem_cons_of_mem _ hw)
  have hown : s.vm.findClass RX6 = some m.cls := findClass_of_methodNamed B.named
  have hZ : Fx p c m s ([.ref (X.ad 47), .int x1] : List Value).toArray X cX6_append 2 RX6 := ⟨hx, hb, hml, hts, hown, hk⟩
  have hS : va_S X.A s.heap s.heap [] := va_S.rf
  have hl := lv_entry ([.ref (X.ad 47), .int x1]) (n := 2) (Nat.le_of_ble_eq_true rfl)
  rw [lg_entry_eq]
  generalize (lg_sl ([.ref (X.ad 47), .int x1]) ++ List.replicate (2 - (lg_sl ([.ref (X.ad 47), .int x1])).length) Slot.unset).toArray = ls at hl ⊢
  have hl : lv_has ls 2 [(0, .ref (X.ad 47)), (1, .int x1)] := hl
  show WW p l e 0 0 s m [.ref (X.ad 47), .int x1] below meth c X (Qv X M9) s.heap [] 0 ls []
  have hP : wd X M s.heap := hP
  unfold fn_X6_append at hf
  have key : ∀ (H : Heap) (locs : List Loc), wd X M H → va_S X.A s.heap H locs → WW p l e 0 0 s m [.ref (X.ad 47), .int x1] below meth c X (Qv X M9) H locs 0 ls [] := by
    intro H locs hP hS
    refine lv_aload_n hx hb dX6_append_0 rfl (lv_at hl 0 rfl) ?_
    refine gX6_0 hx hb hts hown hk hP wd_1_187 dX6_append_1 ?_
    refine lv_if_lt (tgt := 36) hx hb dX6_append_4 (by decide) (fun c_1 => ?_) (fun c_1 => ?_)
    · have hf := i_t c_1 hf
      have hf := Option.some.inj hf
      rw [hf] at hP
      exact ret_v hx hb hr hlocks hP hS dX6_append_36
    · have hf := i_f c_1 hf
      refine lv_aload_n hx hb dX6_append_7 rfl (lv_at hl 0 rfl) ?_
      refine gX6_0 hx hb hts hown hk hP wd_1_187 dX6_append_8 ?_
      refine lv_bipush (v := (80 : Int32)) hx hb dX6_append_11 (by decide) ?_
      refine lv_icmp_ge (tgt := 36) hx hb dX6_append_13 (by decide) (fun c_2 => ?_) (fun c_2 => ?_)
      · have hf := i_t c_2 hf
        have hf := Option.some.inj hf
        rw [hf] at hP
        exact ret_v hx hb hr hlocks hP hS dX6_append_36
      · have hf := i_f c_2 hf
        refine lv_aload_n hx hb dX6_append_16 rfl (lv_at hl 0 rfl) ?_
        refine gX6_2 hx hb hts hown hk hP wd_1_191 dX6_append_17 ?_
        refine lv_aload_n hx hb dX6_append_20 rfl (lv_at hl 0 rfl) ?_
        refine gX6_0 hx hb hts hown hk hP wd_1_187 dX6_append_21 ?_
        refine lv_iload_n hx hb dX6_append_24 rfl (lv_at hl 1 rfl) ?_
        obtain ⟨q_4, hf⟩ := g_if hf
        refine ast hx hb hk hP hS (by decide) (fun _ => rfl) q_4 dX6_append_25 (fun H locs M_3 e_M_3 hP hS => ?_)
        have hf := b_v hf e_M_3
        refine lv_aload_n hx hb dX6_append_26 rfl (lv_at hl 0 rfl) ?_
        refine lv_dup hx hb dX6_append_27 rfl ?_
        refine gX6_0 hx hb hts hown hk hP wd_1_187 dX6_append_28 ?_
        refine lv_iconst (v := (1 : Int32)) hx hb dX6_append_31 (by decide) ?_
        refine lv_iadd hx hb dX6_append_32 ?_
        refine pX6_0 hx hb hts hown hk hP hS wd_1_187 dX6_append_33 (fun H locs M_5 e_M_5 hP hS => ?_)
        have hf := b_v hf e_M_5
        have hf := Option.some.inj hf
        rw [hf] at hP
        exact ret_v hx hb hr hlocks hP hS dX6_append_36
  exact key s.heap [] hP hS
theorem hd_X6_append : Hd yX6_append 1 := by decide +kernel
theorem k_X6_append {p : Program} {l : Launch} {e : Env} {R : Room} {s : State} {m : MethodId} {args : Array Value} {below : List Frame} {meth : Method} {c : Code} {H : Heap} {locs : List Loc} {cells slots : Nat} {Q : State → Prop} {cc : ByteArray} {nL pc index : Nat} {ls : Array Slot} {rest : List Value} {X : En} {M : Mem} {H0 : Heap} {own : String} {x1 : Int32} {M9 : Mem} (hZ : Fx p c m s args X cc nL own) (hP : wd X M H) (hS : va_S X.A H0 H locs) (hsz : ls.size = nL) (hlk : Cond.methodLink own index yX6_append ∈ lw_u) (hR : 0 + 1 ≤ R.frames ∧ 8 + (2 + 11) + 0 ≤ R.locals) (hW : (rest.map fun v => v.category).sum ≤ 8) (hdg : decode cc pc = .ok (.invokevirtual index, 3)) (hcs : cells ≤ R.cells ∧ slots ≤ R.slots) (hf : fn_X6_append x1 M = some M9)
    (kk : ∀ (H1 : Heap) (locs1 : List Loc), wd X M9 H1 → va_S X.A H0 H1 locs1 → W p l e R s m args below meth c H1 locs1 cells slots Q (F0 m (pc + 3) ls rest)) : W p l e R s m args below meth c H locs cells slots Q (F0 m pc ls (.int x1 :: .ref (X.ad 47) :: rest)) :=
  cal_v (runV (As := [.int x1]) (rest := rest) hZ.1 hZ.2.1 hZ.2.2.1 hZ.2.2.2.1 hZ.2.2.2.2.1 hZ.2.2.2.2.2 hP (c_X6_append x1 M M9 hf) wd_2_17 wd_2_15 wd_2_16 wd_1_7 hd_X6_append (by decide) rfl rfl rfl hlk hR hsz rfl hW hdg hcs) hS kk
/-! FrameRaiser.type -/
def fn_X7_type (x1 : Int32) (M : Mem) : Option (Int32 × Mem) :=
  if x1 < (32 : Int32) then
    (some ((-1 : Int32), M))
  else
    (if x1 ≤ (126 : Int32) then
      (if (M 47 0) < (80 : Int32) then
        ((fn_X6_append x1 M).bind fun M_4 =>
        some (M_4 47 0, M_4))
      else
        (some ((-3 : Int32), M)))
    else
      (some ((-1 : Int32), M)))
theorem dX7_type_0 : decode cX7_type 0 = .ok (.iload_n 1, 1) := by decide +kernel
theorem dX7_type_1 : decode cX7_type 1 = .ok (.bipush 32, 2) := by decide +kernel
theorem dX7_type_3 : decode cX7_type 3 = .ok (.if_icmp .lt 9, 3) := by decide +kernel
theorem dX7_type_6 : decode cX7_type 6 = .ok (.iload_n 1, 1) := by decide +kernel
theorem dX7_type_7 : decode cX7_type 7 = .ok (.bipush 126, 2) := by decide +kernel
theorem dX7_type_9 : decode cX7_type 9 = .ok (.if_icmp .le 5, 3) := by decide +kernel
theorem dX7_type_12 : decode cX7_type 12 = .ok (.iconst (-1), 1) := by decide +kernel
theorem dX7_type_13 : decode cX7_type 13 = .ok (.ireturn, 1) := by decide +kernel
theorem dX7_type_14 : decode cX7_type 14 = .ok (.aload_n 0, 1) := by decide +kernel
theorem dX7_type_15 : decode cX7_type 15 = .ok (.getfield 49, 3) := by decide +kernel
theorem dX7_type_18 : decode cX7_type 18 = .ok (.getfield 66, 3) := by decide +kernel
theorem dX7_type_21 : decode cX7_type 21 = .ok (.bipush 80, 2) := by decide +kernel
theorem dX7_type_23 : decode cX7_type 23 = .ok (.if_icmp .lt 6, 3) := by decide +kernel
theorem dX7_type_26 : decode cX7_type 26 = .ok (.bipush (-3), 2) := by decide +kernel
theorem dX7_type_28 : decode cX7_type 28 = .ok (.ireturn, 1) := by decide +kernel
theorem dX7_type_29 : decode cX7_type 29 = .ok (.aload_n 0, 1) := by decide +kernel
theorem dX7_type_30 : decode cX7_type 30 = .ok (.getfield 49, 3) := by decide +kernel
theorem dX7_type_33 : decode cX7_type 33 = .ok (.iload_n 1, 1) := by decide +kernel
theorem dX7_type_34 : decode cX7_type 34 = .ok (.invokevirtual 70, 3) := by decide +kernel
theorem dX7_type_37 : decode cX7_type 37 = .ok (.aload_n 0, 1) := by decide +kernel
theorem dX7_type_38 : decode cX7_type 38 = .ok (.getfield 49, 3) := by decide +kernel
theorem dX7_type_41 : decode cX7_type 41 = .ok (.getfield 66, 3) := by decide +kernel
theorem dX7_type_44 : decode cX7_type 44 = .ok (.ireturn, 1) := by decide +kernel
set_option maxHeartbeats 4000000 in
set_option maxRecDepth 100000 in
theorem c_X7_type {l : Launch} {X : En} (x1 : Int32) (M : Mem) (r : Int32) (M9 : Mem) (hf : fn_X7_type x1 M = some (r, M9)) : Cn l X yX7_type cX7_type 2 (some .int) 1 21 [.ref (X.ad 0), .int x1] M (Qi X r M9) := by
  refine Met.ofW (cc := cX7_type) (maxL := 2) (ret := (some .int)) (by decide) rfl ?_
  intro p e s m args below meth c s₁ B hml hv
  obtain ⟨rfl, hP, hk⟩ := hv
  have hx := B.exec
  have hb := B.bytes
  have hr := B.returns
  have hlocks := B.notSynchronized
  have hts : ∀ w ∈ lw_u, w.before ([.ref (X.ad 0), .int x1] : List Value).toArray s = true := fun w hw => atoms_spec (ws := Cond.code yX7_type cX7_type 2 (some .int) :: lw_u) B.pre w (List.mem_cons_of_mem _ hw)
  have hown : s.vm.findClass RX7 = some m.cls := findClass_of_methodNamed B.named
  have hZ : Fx p c m s ([.ref (X.ad 0), .int x1] : List Value).toArray X cX7_type 2 RX7 := ⟨hx, hb, hml, hts, hown, hk⟩
  have hS : va_S X.A s.heap s.heap [] := va_S.rf
  have hl := lv_entry ([.ref (X.ad 0), .int x1]) (n := 2) (Nat.le_of_ble_eq_true rfl)
  rw [lg_entry_eq]
  generalize (lg_sl ([.ref (X.ad 0), .int x1]) ++ List.replicate (2 - (lg_sl ([.ref (X.ad 0), .int x1])).length) Slot.unset).toArray = ls at hl ⊢
  have hl : lv_has ls 2 [(0, .ref (X.ad 0)), (1, .int x1)] := hl
  show WW p l e 1 21 s m [.ref (X.ad 0), .int x1] below meth c X (Qi X r M9) s.heap [] 0 ls []
  have hP : wd X M s.heap := hP
  unfold fn_X7_type at hf
  have key : ∀ (H : Heap) (locs : List Loc), wd X M H → va_S X.A s.heap H locs → WW p l e 1 21 s m [.ref (X.ad 0), .int x1] below meth c X (Qi X r M9) H locs 0 ls [] := by
    intro H locs hP hS
    refine lv_iload_n hx hb dX7_type_0 rfl (lv_at hl 1 rfl) ?_
    refine lv_bipush (v := (32 : Int32)) hx hb dX7_type_1 (by decide) ?_
    refine lv_icmp_lt (tgt := 12) hx hb dX7_type_3 (by decide) (fun c_1 => ?_) (fun c_1 => ?_)
    · have hf := i_t c_1 hf
      refine lv_iconst (v := (-1 : Int32)) hx hb dX7_type_12 (by decide) ?_
      have hf := Option.some.inj hf
      obtain ⟨e1, e2⟩ := Prod.mk.inj hf
      rw [e2] at hP
      exact ret_i hx hb hr hlocks hP hS e1 dX7_type_13
    · have hf := i_f c_1 hf
      refine lv_iload_n hx hb dX7_type_6 rfl (lv_at hl 1 rfl) ?_
      refine lv_bipush (v := (126 : Int32)) hx hb dX7_type_7 (by decide) ?_
      refine lv_icmp_le (tgt := 14) hx hb dX7_type_9 (by decide) (fun c_2 => ?_) (fun c_2 => ?_)
      · have hf := i_t c_2 hf
        refine lv_aload_n hx hb dX7_type_14 rfl (lv_at hl 0 rfl) ?_
        refine gX7_5 hx hb hts hown hk hP wd_1_218 dX7_type_15 ?_
        refine gX6_0 hx hb hts hown hk hP wd_1_188 dX7_type_18 ?_
        refine lv_bipush (v := (80 : Int32)) hx hb dX7_type_21 (by decide) ?_
        refine lv_icmp_lt (tgt := 29) hx hb dX7_type_23 (by decide) (fun c_3 => ?_) (fun c_3 => ?_)
        · have hf := i_t c_3 hf
          refine lv_aload_n hx hb dX7_type_29 rfl (lv_at hl 0 rfl) ?_
          refine gX7_5 hx hb hts hown hk hP wd_1_218 dX7_type_30 ?_
          refine lv_iload_n hx hb dX7_type_33 rfl (lv_at hl 1 rfl) ?_
          obtain ⟨M_4, h_M_4, hf⟩ := b_d hf
          refine k_X6_append hZ hP hS hl.1 wd_2_14 ⟨Nat.le_of_ble_eq_true rfl, Nat.le_of_ble_eq_true rfl⟩ (Nat.le_of_ble_eq_true rfl) dX7_type_34 ⟨Nat.zero_le _, Nat.zero_le _⟩ h_M_4 (fun H locs hP hS => ?_)
          refine lv_aload_n hx hb dX7_type_37 rfl (lv_at hl 0 rfl) ?_
          refine gX7_5 hx hb hts hown hk hP wd_1_218 dX7_type_38 ?_
          refine gX6_0 hx hb hts hown hk hP wd_1_188 dX7_type_41 ?_
          have hf := Option.some.inj hf
          obtain ⟨e1, e2⟩ := Prod.mk.inj hf
          rw [e2] at hP
          exact ret_i hx hb hr hlocks hP hS e1 dX7_type_44
        · have hf := i_f c_3 hf
          refine lv_bipush (v := (-3 : Int32)) hx hb dX7_type_26 (by decide) ?_
          have hf := Option.some.inj hf
          obtain ⟨e1, e2⟩ := Prod.mk.inj hf
          rw [e2] at hP
          exact ret_i hx hb hr hlocks hP hS e1 dX7_type_28
      · have hf := i_f c_2 hf
        refine lv_iconst (v := (-1 : Int32)) hx hb dX7_type_12 (by decide) ?_
        have hf := Option.some.inj hf
        obtain ⟨e1, e2⟩ := Prod.mk.inj hf
        rw [e2] at hP
        exact ret_i hx hb hr hlocks hP hS e1 dX7_type_13
  exact key s.heap [] hP hS
theorem hd_X7_type : Hd yX7_type 1 := by decide +kernel
theorem k_X7_type {p : Program} {l : Launch} {e : Env} {R : Room} {s : State} {m : MethodId} {args : Array Value} {below : List Frame} {meth : Method} {c : Code} {H : Heap} {locs : List Loc} {cells slots : Nat} {Q : State → Prop} {cc : ByteArray} {nL pc index : Nat} {ls : Array Slot} {rest : List Value} {X : En} {M : Mem} {H0 : Heap} {own : String} {x1 : Int32} {r : Int32} {M9 : Mem} (hZ : Fx p c m s args X cc nL own) (hP : wd X M H) (hS : va_S X.A H0 H locs) (hsz : ls.size = nL) (hlk : Cond.methodLink own index yX7_type ∈ lw_u) (hR : 1 + 1 ≤ R.frames ∧ 8 + (2 + 11) + 21 ≤ R.locals) (hW : (rest.map fun v => v.category).sum ≤ 8) (hdg : decode cc pc = .ok (.invokevirtual index, 3)) (hcs : cells ≤ R.cells ∧ slots ≤ R.slots) (hf : fn_X7_type x1 M = some (r, M9))
    (kk : ∀ (H1 : Heap) (locs1 : List Loc), wd X M9 H1 → va_S X.A H0 H1 locs1 → W p l e R s m args below meth c H1 locs1 cells slots Q (F0 m (pc + 3) ls (.int r :: rest))) : W p l e R s m args below meth c H locs cells slots Q (F0 m pc ls (.int x1 :: .ref (X.ad 0) :: rest)) :=
  cal_i (runV (As := [.int x1]) (rest := rest) hZ.1 hZ.2.1 hZ.2.2.1 hZ.2.2.2.1 hZ.2.2.2.2.1 hZ.2.2.2.2.2 hP (c_X7_type x1 M r M9 hf) wd_2_13 wd_2_11 wd_2_12 wd_1_1 hd_X7_type (by decide) rfl rfl rfl hlk hR hsz rfl hW hdg hcs) hS kk
/-! FrameRaiser.clearText -/
def fn_X7_clearText (M : Mem) : Option (Int32 × Mem) :=
  bv (M 47 0) fun v1_1 =>
  bv (st M 47 0 (0 : Int32)) fun M_2 =>
  some (v1_1, M_2)
theorem dX7_clearText_0 : decode cX7_clearText 0 = .ok (.aload_n 0, 1) := by decide +kernel
theorem dX7_clearText_1 : decode cX7_clearText 1 = .ok (.getfield 49, 3) := by decide +kernel
theorem dX7_clearText_4 : decode cX7_clearText 4 = .ok (.getfield 66, 3) := by decide +kernel
theorem dX7_clearText_7 : decode cX7_clearText 7 = .ok (.istore_n 1, 1) := by decide +kernel
theorem dX7_clearText_8 : decode cX7_clearText 8 = .ok (.aload_n 0, 1) := by decide +kernel
theorem dX7_clearText_9 : decode cX7_clearText 9 = .ok (.getfield 49, 3) := by decide +kernel
theorem dX7_clearText_12 : decode cX7_clearText 12 = .ok (.iconst 0, 1) := by decide +kernel
theorem dX7_clearText_13 : decode cX7_clearText 13 = .ok (.putfield 66, 3) := by decide +kernel
theorem dX7_clearText_16 : decode cX7_clearText 16 = .ok (.iload_n 1, 1) := by decide +kernel
theorem dX7_clearText_17 : decode cX7_clearText 17 = .ok (.ireturn, 1) := by decide +kernel
set_option maxHeartbeats 4000000 in
set_option maxRecDepth 100000 in
theorem c_X7_clearText {l : Launch} {X : En} (M : Mem) (r : Int32) (M9 : Mem) (hf : fn_X7_clearText M = some (r, M9)) : Cn l X yX7_clearText cX7_clearText 2 (some .int) 0 0 [.ref (X.ad 0)] M (Qi X r M9) := by
  refine Met.ofW (cc := cX7_clearText) (maxL := 2) (ret := (some .int)) (by decide) rfl ?_
  intro p e s m args below meth c s₁ B hml hv
  obtain ⟨rfl, hP, hk⟩ := hv
  have hx := B.exec
  have hb := B.bytes
  have hr := B.returns
  have hlocks := B.notSynchronized
  have hts : ∀ w ∈ lw_u, w.before ([.ref (X.ad 0)] : List Value).toArray s = true := fun w hw => atoms_spec (ws := Cond.code yX7_clearText cX7_clearText 2 (some .int) :: lw_u) B.pre w (List.mem_cons_of_mem _ hw)
  have hown : s.vm.findClass RX7 = some m.cls := findClass_of_methodNamed B.named
  have hZ : Fx p c m s ([.ref (X.ad 0)] : List Value).toArray X cX7_clearText 2 RX7 := ⟨hx, hb, hml, hts, hown, hk⟩
  have hS : va_S X.A s.heap s.heap [] := va_S.rf
  have hl := lv_entry ([.ref (X.ad 0)]) (n := 2) (Nat.le_of_ble_eq_true rfl)
  rw [lg_entry_eq]
  generalize (lg_sl ([.ref (X.ad 0)]) ++ List.replicate (2 - (lg_sl ([.ref (X.ad 0)])).length) Slot.unset).toArray = ls at hl ⊢
  have hl : lv_has ls 2 [(0, .ref (X.ad 0))] := hl
  show WW p l e 0 0 s m [.ref (X.ad 0)] below meth c X (Qi X r M9) s.heap [] 0 ls []
  have hP : wd X M s.heap := hP
  unfold fn_X7_clearText at hf
  have key : ∀ (H : Heap) (locs : List Loc), wd X M H → va_S X.A s.heap H locs → WW p l e 0 0 s m [.ref (X.ad 0)] below meth c X (Qi X r M9) H locs 0 ls [] := by
    intro H locs hP hS
    refine lv_aload_n hx hb dX7_clearText_0 rfl (lv_at hl 0 rfl) ?_
    refine gX7_5 hx hb hts hown hk hP wd_1_218 dX7_clearText_1 ?_
    refine gX6_0 hx hb hts hown hk hP wd_1_188 dX7_clearText_4 ?_
    refine lv_topi (fun v1_1 e_v1_1 => ?_)
    have hf := b_v hf e_v1_1
    refine lv_istore_n (lv' := [(1, .int v1_1), (0, .ref (X.ad 0))]) hx hb dX7_clearText_7 rfl hl (by decide) rfl (fun ls hl => ?_)
    refine lv_aload_n hx hb dX7_clearText_8 rfl (lv_at hl 1 rfl) ?_
    refine gX7_5 hx hb hts hown hk hP wd_1_218 dX7_clearText_9 ?_
    refine lv_iconst (v := (0 : Int32)) hx hb dX7_clearText_12 (by decide) ?_
    refine pX6_0 hx hb hts hown hk hP hS wd_1_188 dX7_clearText_13 (fun H locs M_2 e_M_2 hP hS => ?_)
    have hf := b_v hf e_M_2
    refine lv_iload_n hx hb dX7_clearText_16 rfl (lv_at hl 0 rfl) ?_
    have hf := Option.some.inj hf
    obtain ⟨e1, e2⟩ := Prod.mk.inj hf
    rw [e2] at hP
    exact ret_i hx hb hr hlocks hP hS e1 dX7_clearText_17
  exact key s.heap [] hP hS
theorem hd_X7_clearText : Hd yX7_clearText 0 := by decide +kernel
theorem k_X7_clearText {p : Program} {l : Launch} {e : Env} {R : Room} {s : State} {m : MethodId} {args : Array Value} {below : List Frame} {meth : Method} {c : Code} {H : Heap} {locs : List Loc} {cells slots : Nat} {Q : State → Prop} {cc : ByteArray} {nL pc index : Nat} {ls : Array Slot} {rest : List Value} {X : En} {M : Mem} {H0 : Heap} {own : String} {r : Int32} {M9 : Mem} (hZ : Fx p c m s args X cc nL own) (hP : wd X M H) (hS : va_S X.A H0 H locs) (hsz : ls.size = nL) (hlk : Cond.methodLink own index yX7_clearText ∈ lw_u) (hR : 0 + 1 ≤ R.frames ∧ 8 + (2 + 11) + 0 ≤ R.locals) (hW : (rest.map fun v => v.category).sum ≤ 8) (hdg : decode cc pc = .ok (.invokevirtual index, 3)) (hcs : cells ≤ R.cells ∧ slots ≤ R.slots) (hf : fn_X7_clearText M = some (r, M9))
    (kk : ∀ (H1 : Heap) (locs1 : List Loc), wd X M9 H1 → va_S X.A H0 H1 locs1 → W p l e R s m args below meth c H1 locs1 cells slots Q (F0 m (pc + 3) ls (.int r :: rest))) : W p l e R s m args below meth c H locs cells slots Q (F0 m pc ls (.ref (X.ad 0) :: rest)) :=
  cal_i (runV (As := []) (rest := rest) hZ.1 hZ.2.1 hZ.2.2.1 hZ.2.2.2.1 hZ.2.2.2.2.1 hZ.2.2.2.2.2 hP (c_X7_clearText M r M9 hf) wd_2_21 wd_2_19 wd_2_20 wd_1_1 hd_X7_clearText (by decide) rfl rfl rfl hlk hR hsz rfl hW hdg hcs) hS kk
/-! FrameRaiser$Frame.empty -/
def bd_X1_empty_2 (k0 : Nat) : (Int32 × Mem) → Option ((Int32 × Mem) ⊕ (Mem)) :=
  u2 fun v1_1 M_2 =>
  if (216 : Int32) ≤ v1_1 then
    (some (.inr M_2))
  else
    (if inb v1_1 216 then
    bv (st M_2 (k0 + 1) (ix v1_1) (-1 : Int32)) fun M_5 =>
    some (.inl (v1_1 + (1 : Int32), M_5))
    else none)
def bd_X1_empty_24 (k0 : Nat) : (Int32 × Mem) → Option ((Int32 × Mem) ⊕ (Mem)) :=
  u2 fun v1_7 M_8 =>
  if (8 : Int32) ≤ v1_7 then
    (some (.inr M_8))
  else
    (if inb v1_7 8 then
    bv (st M_8 (k0 + 2) (ix v1_7) (0 : Int32)) fun M_11 =>
    some (.inl (v1_7 + (1 : Int32), M_11))
    else none)
def fn_X1_empty (g : Nat) (k0 : Nat) (M : Mem) : Option (Mem) :=
  (lpN g (bd_X1_empty_2 k0) ((0 : Int32), M)).bind (u1 fun M_3 =>
    (lpN g (bd_X1_empty_24 k0) ((0 : Int32), M_3)).bind (u1 fun M_9 =>
      bv (st M_9 k0 2 (0 : Int32)) fun M_13 =>
      bv (st M_13 k0 3 (0 : Int32)) fun M_14 =>
      bv (st M_14 k0 4 (0 : Int32)) fun M_15 =>
      some M_15))
theorem dX1_empty_0 : decode cX1_empty 0 = .ok (.iconst 0, 1) := by decide +kernel
theorem dX1_empty_1 : decode cX1_empty 1 = .ok (.istore_n 1, 1) := by decide +kernel
theorem dX1_empty_2 : decode cX1_empty 2 = .ok (.iload_n 1, 1) := by decide +kernel
theorem dX1_empty_3 : decode cX1_empty 3 = .ok (.sipush 216, 3) := by decide +kernel
theorem dX1_empty_6 : decode cX1_empty 6 = .ok (.if_icmp .ge 16, 3) := by decide +kernel
theorem dX1_empty_9 : decode cX1_empty 9 = .ok (.aload_n 0, 1) := by decide +kernel
theorem dX1_empty_10 : decode cX1_empty 10 = .ok (.getfield 9, 3) := by decide +kernel
theorem dX1_empty_13 : decode cX1_empty 13 = .ok (.iload_n 1, 1) := by decide +kernel
theorem dX1_empty_14 : decode cX1_empty 14 = .ok (.iconst (-1), 1) := by decide +kernel
theorem dX1_empty_15 : decode cX1_empty 15 = .ok (.iastore, 1) := by decide +kernel
theorem dX1_empty_16 : decode cX1_empty 16 = .ok (.iinc 1 1, 3) := by decide +kernel
theorem dX1_empty_19 : decode cX1_empty 19 = .ok (.goto (-17), 3) := by decide +kernel
theorem dX1_empty_22 : decode cX1_empty 22 = .ok (.iconst 0, 1) := by decide +kernel
theorem dX1_empty_23 : decode cX1_empty 23 = .ok (.istore_n 1, 1) := by decide +kernel
theorem dX1_empty_24 : decode cX1_empty 24 = .ok (.iload_n 1, 1) := by decide +kernel
theorem dX1_empty_25 : decode cX1_empty 25 = .ok (.bipush 8, 2) := by decide +kernel
theorem dX1_empty_27 : decode cX1_empty 27 = .ok (.if_icmp .ge 16, 3) := by decide +kernel
theorem dX1_empty_30 : decode cX1_empty 30 = .ok (.aload_n 0, 1) := by decide +kernel
theorem dX1_empty_31 : decode cX1_empty 31 = .ok (.getfield 15, 3) := by decide +kernel
theorem dX1_empty_34 : decode cX1_empty 34 = .ok (.iload_n 1, 1) := by decide +kernel
theorem dX1_empty_35 : decode cX1_empty 35 = .ok (.iconst 0, 1) := by decide +kernel
theorem dX1_empty_36 : decode cX1_empty 36 = .ok (.iastore, 1) := by decide +kernel
theorem dX1_empty_37 : decode cX1_empty 37 = .ok (.iinc 1 1, 3) := by decide +kernel
theorem dX1_empty_40 : decode cX1_empty 40 = .ok (.goto (-16), 3) := by decide +kernel
theorem dX1_empty_43 : decode cX1_empty 43 = .ok (.aload_n 0, 1) := by decide +kernel
theorem dX1_empty_44 : decode cX1_empty 44 = .ok (.iconst 0, 1) := by decide +kernel
theorem dX1_empty_45 : decode cX1_empty 45 = .ok (.putfield 21, 3) := by decide +kernel
theorem dX1_empty_48 : decode cX1_empty 48 = .ok (.aload_n 0, 1) := by decide +kernel
theorem dX1_empty_49 : decode cX1_empty 49 = .ok (.iconst 0, 1) := by decide +kernel
theorem dX1_empty_50 : decode cX1_empty 50 = .ok (.putfield 25, 3) := by decide +kernel
theorem dX1_empty_53 : decode cX1_empty 53 = .ok (.aload_n 0, 1) := by decide +kernel
theorem dX1_empty_54 : decode cX1_empty 54 = .ok (.iconst 0, 1) := by decide +kernel
theorem dX1_empty_55 : decode cX1_empty 55 = .ok (.putfield 28, 3) := by decide +kernel
theorem dX1_empty_58 : decode cX1_empty 58 = .ok (.return_, 1) := by decide +kernel
set_option maxHeartbeats 4000000 in
set_option maxRecDepth 100000 in
theorem c_X1_empty {l : Launch} {X : En} (g : Nat) (k0 : Nat) (M : Mem) (hk0 : isF k0) (M9 : Mem) (hf : fn_X1_empty g k0 M = some M9) : Cn l X yX1_empty cX1_empty 2 none 0 0 [.ref (X.ad k0)] M (Qv X M9) := by
  refine Met.ofW (cc := cX1_empty) (maxL := 2) (ret := none) (by decide) rfl ?_
  intro p e s m args below meth c s₁ B hml hv
  obtain ⟨rfl, hP, hk⟩ := hv
  have hx := B.exec
  have hb := B.bytes
  have hr := B.returns
  have hlocks := B.notSynchronized
  have hts : ∀ w ∈ lw_u, w.before ([.ref (X.ad k0)] : List Value).toArray s = true := fun w hw => atoms_spec (ws := Cond.code yX1_empty cX1_empty 2 none :: lw_u) B.pre w (List.mem_cons_of_mem _ hw)
  have hown : s.vm.findClass RX1 = some m.cls := findClass_of_methodNamed B.named
  have hZ : Fx p c m s ([.ref (X.ad k0)] : List Value).toArray X cX1_empty 2 RX1 := ⟨hx, hb, hml, hts, hown, hk⟩
  have hS : va_S X.A s.heap s.heap [] := va_S.rf
  have hl := lv_entry ([.ref (X.ad k0)]) (n := 2) (Nat.le_of_ble_eq_true rfl)
  rw [lg_entry_eq]
  generalize (lg_sl ([.ref (X.ad k0)]) ++ List.replicate (2 - (lg_sl ([.ref (X.ad k0)])).length) Slot.unset).toArray = ls at hl ⊢
  have hl : lv_has ls 2 [(0, .ref (X.ad k0))] := hl
  show WW p l e 0 0 s m [.ref (X.ad k0)] below meth c X (Qv X M9) s.heap [] 0 ls []
  have hP : wd X M s.heap := hP
  unfold fn_X1_empty at hf
  have key : ∀ (H : Heap) (locs : List Loc), wd X M H → va_S X.A s.heap H locs → WW p l e 0 0 s m [.ref (X.ad k0)] below meth c X (Qv X M9) H locs 0 ls [] := by
    intro H locs hP hS
    refine lv_iconst (v := (0 : Int32)) hx hb dX1_empty_0 (by decide) ?_
    refine lv_istore_n (lv' := [(1, .int (0 : Int32)), (0, .ref (X.ad k0))]) hx hb dX1_empty_1 rfl hl (by decide) rfl (fun ls hl => ?_)
    obtain ⟨o2, ho2, hf⟩ := b_d hf
    refine lp_rule (b := bd_X1_empty_2 k0) (P := fun w : Int32 × Mem => ∀ (H : Heap) (locs : List Loc) (ls : Array Slot), wd X w.2 H → va_S X.A s.heap H locs → lv_has ls 2 [(1, .int w.1), (0, .ref (X.ad k0))] → WW p l e 0 0 s m [.ref (X.ad k0)] below meth c X (Qv X M9) H locs 2 ls []) (K := fun o => ∀ (M_3 : Mem), o = M_3 → ∀ (H : Heap) (locs : List Loc) (ls : Array Slot), wd X M_3 H → va_S X.A s.heap H locs → lv_has ls 2 [(0, .ref (X.ad k0))] → WW p l e 0 0 s m [.ref (X.ad k0)] below meth c X (Qv X M9) H locs 22 ls []) ?_ g ((0 : Int32), M) o2 ho2 ?_ H locs ls hP hS (lv_sub hl [0, 1] rfl)
    · rintro ⟨v1_1, M_2⟩ o hf hkc2 hke2 H locs ls hP hS hl
      have hf := u2_e hf
      refine lv_iload_n hx hb dX1_empty_2 rfl (lv_at hl 0 rfl) ?_
      refine lv_sipush (v := (216 : Int32)) hx hb dX1_empty_3 (by decide) ?_
      refine lv_icmp_ge (tgt := 22) hx hb dX1_empty_6 (by decide) (fun c_4 => ?_) (fun c_4 => ?_)
      · have hf := i_t c_4 hf
        exact hke2 _ (Option.some.inj hf).symm _ rfl H locs ls hP hS (lv_sub hl [1] rfl)
      · have hf := i_f c_4 hf
        refine lv_aload_n hx hb dX1_empty_9 rfl (lv_at hl 1 rfl) ?_
        refine gX1_0 hx hb hts hown hk hP hk0 wd_1_31 dX1_empty_10 ?_
        refine lv_iload_n hx hb dX1_empty_13 rfl (lv_at hl 0 rfl) ?_
        refine lv_iconst (v := (-1 : Int32)) hx hb dX1_empty_14 (by decide) ?_
        obtain ⟨q_6, hf⟩ := g_if hf
        refine ast hx hb hk hP hS (isF_lt1 hk0) (rd_F1 hk0) q_6 dX1_empty_15 (fun H locs M_5 e_M_5 hP hS => ?_)
        have hf := b_v hf e_M_5
        refine lv_iinc (v := v1_1 + (1 : Int32)) (lv' := [(1, .int (v1_1 + (1 : Int32))), (0, .ref (X.ad k0))]) hx hb dX1_empty_16 hl (k := 0) rfl rfl (by decide) rfl (fun ls hl => ?_)
        refine lv_goto (tgt := 2) hx hb dX1_empty_19 (by decide) ?_
        exact hkc2 _ (Option.some.inj hf).symm H locs ls hP hS (lv_sub hl [0, 1] rfl)
    · intro M_3 e H locs ls hP hS hl
      subst o2
      have hf := u1_e hf
      refine lv_iconst (v := (0 : Int32)) hx hb dX1_empty_22 (by decide) ?_
      refine lv_istore_n (lv' := [(1, .int (0 : Int32)), (0, .ref (X.ad k0))]) hx hb dX1_empty_23 rfl hl (by decide) rfl (fun ls hl => ?_)
      obtain ⟨o24, ho24, hf⟩ := b_d hf
      refine lp_rule (b := bd_X1_empty_24 k0) (P := fun w : Int32 × Mem => ∀ (H : Heap) (locs : List Loc) (ls : Array Slot), wd X w.2 H → va_S X.A s.heap H locs → lv_has ls 2 [(1, .int w.1), (0, .ref (X.ad k0))] → WW p l e 0 0 s m [.ref (X.ad k0)] below meth c X (Qv X M9) H locs 24 ls []) (K := fun o => ∀ (M_9 : Mem), o = M_9 → ∀ (H : Heap) (locs : List Loc) (ls : Array Slot), wd X M_9 H → va_S X.A s.heap H locs → lv_has ls 2 [(0, .ref (X.ad k0))] → WW p l e 0 0 s m [.ref (X.ad k0)] below meth c X (Qv X M9) H locs 43 ls []) ?_ g ((0 : Int32), M_3) o24 ho24 ?_ H locs ls hP hS (lv_sub hl [0, 1] rfl)
      · rintro ⟨v1_7, M_8⟩ o hf hkc24 hke24 H locs ls hP hS hl
        have hf := u2_e hf
        refine lv_iload_n hx hb dX1_empty_24 rfl (lv_at hl 0 rfl) ?_
        refine lv_bipush (v := (8 : Int32)) hx hb dX1_empty_25 (by decide) ?_
        refine lv_icmp_ge (tgt := 43) hx hb dX1_empty_27 (by decide) (fun c_10 => ?_) (fun c_10 => ?_)
        · have hf := i_t c_10 hf
          exact hke24 _ (Option.some.inj hf).symm _ rfl H locs ls hP hS (lv_sub hl [1] rfl)
        · have hf := i_f c_10 hf
          refine lv_aload_n hx hb dX1_empty_30 rfl (lv_at hl 1 rfl) ?_
          refine gX1_1 hx hb hts hown hk hP hk0 wd_1_35 dX1_empty_31 ?_
          refine lv_iload_n hx hb dX1_empty_34 rfl (lv_at hl 0 rfl) ?_
          refine lv_iconst (v := (0 : Int32)) hx hb dX1_empty_35 (by decide) ?_
          obtain ⟨q_12, hf⟩ := g_if hf
          refine ast hx hb hk hP hS (isF_lt hk0) (rd_F2 hk0) q_12 dX1_empty_36 (fun H locs M_11 e_M_11 hP hS => ?_)
          have hf := b_v hf e_M_11
          refine lv_iinc (v := v1_7 + (1 : Int32)) (lv' := [(1, .int (v1_7 + (1 : Int32))), (0, .ref (X.ad k0))]) hx hb dX1_empty_37 hl (k := 0) rfl rfl (by decide) rfl (fun ls hl => ?_)
          refine lv_goto (tgt := 24) hx hb dX1_empty_40 (by decide) ?_
          exact hkc24 _ (Option.some.inj hf).symm H locs ls hP hS (lv_sub hl [0, 1] rfl)
      · intro M_9 e H locs ls hP hS hl
        subst o24
        have hf := u1_e hf
        refine lv_aload_n hx hb dX1_empty_43 rfl (lv_at hl 0 rfl) ?_
        refine lv_iconst (v := (0 : Int32)) hx hb dX1_empty_44 (by decide) ?_
        refine pX1_2 hx hb hts hown hk hP hS hk0 wd_1_39 dX1_empty_45 (fun H locs M_13 e_M_13 hP hS => ?_)
        have hf := b_v hf e_M_13
        refine lv_aload_n hx hb dX1_empty_48 rfl (lv_at hl 0 rfl) ?_
        refine lv_iconst (v := (0 : Int32)) hx hb dX1_empty_49 (by decide) ?_
        refine pX1_3 hx hb hts hown hk hP hS hk0 wd_1_41 dX1_empty_50 (fun H locs M_14 e_M_14 hP hS => ?_)
        have hf := b_v hf e_M_14
        refine lv_aload_n hx hb dX1_empty_53 rfl (lv_at hl 0 rfl) ?_
        refine lv_iconst (v := (0 : Int32)) hx hb dX1_empty_54 (by decide) ?_
        refine pX1_4 hx hb hts hown hk hP hS hk0 wd_1_43 dX1_empty_55 (fun H locs M_15 e_M_15 hP hS => ?_)
        have hf := b_v hf e_M_15
        have hf := Option.some.inj hf
        rw [hf] at hP
        exact ret_v hx hb hr hlocks hP hS dX1_empty_58
  exact key s.heap [] hP hS
theorem hd_X1_empty : Hd yX1_empty 0 := by decide +kernel
theorem k_X1_empty {p : Program} {l : Launch} {e : Env} {R : Room} {s : State} {m : MethodId} {args : Array Value} {below : List Frame} {meth : Method} {c : Code} {H : Heap} {locs : List Loc} {cells slots : Nat} {Q : State → Prop} {cc : ByteArray} {nL pc index : Nat} {ls : Array Slot} {rest : List Value} {X : En} {M : Mem} {H0 : Heap} {own : String} {g : Nat} {k0 : Nat} {M9 : Mem} (hZ : Fx p c m s args X cc nL own) (hP : wd X M H) (hS : va_S X.A H0 H locs) (hsz : ls.size = nL) (hlk : Cond.methodLink own index yX1_empty ∈ lw_u) (hR : 0 + 1 ≤ R.frames ∧ 8 + (2 + 11) + 0 ≤ R.locals) (hW : (rest.map fun v => v.category).sum ≤ 8) (hdg : decode cc pc = .ok (.invokevirtual index, 3)) (hcs : cells ≤ R.cells ∧ slots ≤ R.slots) (hk0 : isF k0) (hf : fn_X1_empty g k0 M = some M9)
    (kk : ∀ (H1 : Heap) (locs1 : List Loc), wd X M9 H1 → va_S X.A H0 H1 locs1 → W p l e R s m args below meth c H1 locs1 cells slots Q (F0 m (pc + 3) ls rest)) : W p l e R s m args below meth c H locs cells slots Q (F0 m pc ls (.ref (X.ad k0) :: rest)) :=
  cal_v (runV (As := []) (rest := rest) hZ.1 hZ.2.1 hZ.2.2.1 hZ.2.2.2.1 hZ.2.2.2.2.1 hZ.2.2.2.2.2 hP (c_X1_empty g k0 M hk0 M9 hf) wd_1_30 wd_1_28 wd_1_29 wd_1_2 hd_X1_empty (isF_lt0 hk0) (rd_F0 hk0 _) rfl rfl hlk hR hsz rfl hW hdg hcs) hS kk
/-! FrameRaiser$Box.take -/
def jn_X0_take_43 (k0 : Nat) (s_9 : Int32) (v3_8 : Int32) (x1 : Int32) (x2 : Int32) (M_10 : Mem) : Option (Int32 × Mem) :=
  if x2 < v3_8 then
    (some ((0 : Int32), M_10))
  else
    (if x2 ≤ s_9 then
      (if inb x1 6 then
      bv (st M_10 (k0 + 1) (ix x1) x2) fun M_13 =>
      some ((1 : Int32), M_13)
      else none)
    else
      (some ((0 : Int32), M_10)))
def jn_X0_take_22 (k0 : Nat) (s_4 : Int32) (x1 : Int32) (x2 : Int32) (M_5 : Mem) : Option (Int32 × Mem) :=
  if (3 : Int32) ≤ x1 then
    (if inb (x1 - (3 : Int32)) 6 then
    jn_X0_take_43 k0 ((6 : Int32) - (M_5 (k0 + 1) (ix (x1 - (3 : Int32))))) s_4 x1 x2 M_5
    else none)
  else
    (jn_X0_take_43 k0 (5 : Int32) s_4 x1 x2 M_5)
def fn_X0_take (k0 : Nat) (x1 : Int32) (x2 : Int32) (M : Mem) : Option (Int32 × Mem) :=
  if x1 < 0 then
    (some ((0 : Int32), M))
  else
    (if x1 < (6 : Int32) then
      (if (3 : Int32) ≤ x1 then
        (jn_X0_take_22 k0 (1 : Int32) x1 x2 M)
      else
        (jn_X0_take_22 k0 (0 : Int32) x1 x2 M))
    else
      (some ((0 : Int32), M)))
theorem dX0_take_0 : decode cX0_take 0 = .ok (.iload_n 1, 1) := by decide +kernel
theorem dX0_take_1 : decode cX0_take 1 = .ok (.ifCond .lt 9, 3) := by decide +kernel
theorem dX0_take_4 : decode cX0_take 4 = .ok (.iload_n 1, 1) := by decide +kernel
theorem dX0_take_5 : decode cX0_take 5 = .ok (.bipush 6, 2) := by decide +kernel
theorem dX0_take_7 : decode cX0_take 7 = .ok (.if_icmp .lt 5, 3) := by decide +kernel
theorem dX0_take_10 : decode cX0_take 10 = .ok (.iconst 0, 1) := by decide +kernel
theorem dX0_take_11 : decode cX0_take 11 = .ok (.ireturn, 1) := by decide +kernel
theorem dX0_take_12 : decode cX0_take 12 = .ok (.iload_n 1, 1) := by decide +kernel
theorem dX0_take_13 : decode cX0_take 13 = .ok (.iconst 3, 1) := by decide +kernel
theorem dX0_take_14 : decode cX0_take 14 = .ok (.if_icmp .ge 7, 3) := by decide +kernel
theorem dX0_take_17 : decode cX0_take 17 = .ok (.iconst 0, 1) := by decide +kernel
theorem dX0_take_18 : decode cX0_take 18 = .ok (.goto 4, 3) := by decide +kernel
theorem dX0_take_21 : decode cX0_take 21 = .ok (.iconst 1, 1) := by decide +kernel
theorem dX0_take_22 : decode cX0_take 22 = .ok (.istore_n 3, 1) := by decide +kernel
theorem dX0_take_23 : decode cX0_take 23 = .ok (.iload_n 1, 1) := by decide +kernel
theorem dX0_take_24 : decode cX0_take 24 = .ok (.iconst 3, 1) := by decide +kernel
theorem dX0_take_25 : decode cX0_take 25 = .ok (.if_icmp .ge 7, 3) := by decide +kernel
theorem dX0_take_28 : decode cX0_take 28 = .ok (.iconst 5, 1) := by decide +kernel
theorem dX0_take_29 : decode cX0_take 29 = .ok (.goto 14, 3) := by decide +kernel
theorem dX0_take_32 : decode cX0_take 32 = .ok (.bipush 6, 2) := by decide +kernel
theorem dX0_take_34 : decode cX0_take 34 = .ok (.aload_n 0, 1) := by decide +kernel
theorem dX0_take_35 : decode cX0_take 35 = .ok (.getfield 11, 3) := by decide +kernel
theorem dX0_take_38 : decode cX0_take 38 = .ok (.iload_n 1, 1) := by decide +kernel
theorem dX0_take_39 : decode cX0_take 39 = .ok (.iconst 3, 1) := by decide +kernel
theorem dX0_take_40 : decode cX0_take 40 = .ok (.isub, 1) := by decide +kernel
theorem dX0_take_41 : decode cX0_take 41 = .ok (.iaload, 1) := by decide +kernel
theorem dX0_take_42 : decode cX0_take 42 = .ok (.isub, 1) := by decide +kernel
theorem dX0_take_43 : decode cX0_take 43 = .ok (.istore 4, 2) := by decide +kernel
theorem dX0_take_45 : decode cX0_take 45 = .ok (.iload_n 2, 1) := by decide +kernel
theorem dX0_take_46 : decode cX0_take 46 = .ok (.iload_n 3, 1) := by decide +kernel
theorem dX0_take_47 : decode cX0_take 47 = .ok (.if_icmp .lt 9, 3) := by decide +kernel
theorem dX0_take_50 : decode cX0_take 50 = .ok (.iload_n 2, 1) := by decide +kernel
theorem dX0_take_51 : decode cX0_take 51 = .ok (.iload 4, 2) := by decide +kernel
theorem dX0_take_53 : decode cX0_take 53 = .ok (.if_icmp .le 5, 3) := by decide +kernel
theorem dX0_take_56 : decode cX0_take 56 = .ok (.iconst 0, 1) := by decide +kernel
theorem dX0_take_57 : decode cX0_take 57 = .ok (.ireturn, 1) := by decide +kernel
theorem dX0_take_58 : decode cX0_take 58 = .ok (.aload_n 0, 1) := by decide +kernel
theorem dX0_take_59 : decode cX0_take 59 = .ok (.getfield 11, 3) := by decide +kernel
theorem dX0_take_62 : decode cX0_take 62 = .ok (.iload_n 1, 1) := by decide +kernel
theorem dX0_take_63 : decode cX0_take 63 = .ok (.iload_n 2, 1) := by decide +kernel
theorem dX0_take_64 : decode cX0_take 64 = .ok (.iastore, 1) := by decide +kernel
theorem dX0_take_65 : decode cX0_take 65 = .ok (.iconst 1, 1) := by decide +kernel
theorem dX0_take_66 : decode cX0_take 66 = .ok (.ireturn, 1) := by decide +kernel
set_option maxHeartbeats 4000000 in
set_option maxRecDepth 100000 in
theorem c_X0_take {l : Launch} {X : En} (k0 : Nat) (x1 : Int32) (x2 : Int32) (M : Mem) (hk0 : isB k0) (r : Int32) (M9 : Mem) (hf : fn_X0_take k0 x1 x2 M = some (r, M9)) : Cn l X yX0_take cX0_take 5 (some .boolean) 0 0 [.ref (X.ad k0), .int x1, .int x2] M (Qi X r M9) := by
  refine Met.ofW (cc := cX0_take) (maxL := 5) (ret := (some .boolean)) (by decide) rfl ?_
  intro p e s m args below meth c s₁ B hml hv
  obtain ⟨rfl, hP, hk⟩ := hv
  have hx := B.exec
  have hb := B.bytes
  have hr := B.returns
  have hlocks := B.notSynchronized
  have hts : ∀ w ∈ lw_u, w.before ([.ref (X.ad k0), .int x1, .int x2] : List Value).toArray s = true := fun w hw => atoms_spec (ws := Cond.code yX0_take cX0_take 5 (some .boolean) :: lw_u) B.pre w (List.mem_cons_of_mem _ hw)
  have hown : s.vm.findClass RX0 = some m.cls := findClass_of_methodNamed B.named
  have hZ : Fx p c m s ([.ref (X.ad k0), .int x1, .int x2] : List Value).toArray X cX0_take 5 RX0 := ⟨hx, hb, hml, hts, hown, hk⟩
  have hS : va_S X.A s.heap s.heap [] := va_S.rf
  have hl := lv_entry ([.ref (X.ad k0), .int x1, .int x2]) (n := 5) (Nat.le_of_ble_eq_true rfl)
  rw [lg_entry_eq]
  generalize (lg_sl ([.ref (X.ad k0), .int x1, .int x2]) ++ List.replicate (5 - (lg_sl ([.ref (X.ad k0), .int x1, .int x2])).length) Slot.unset).toArray = ls at hl ⊢
  have hl : lv_has ls 5 [(0, .ref (X.ad k0)), (1, .int x1), (2, .int x2)] := hl
  show WW p l e 0 0 s m [.ref (X.ad k0), .int x1, .int x2] below meth c X (Qi X r M9) s.heap [] 0 ls []
  have hP : wd X M s.heap := hP
  have jn43 : ∀ (v3_8 : Int32) (s_9 : Int32) (M_10 : Mem), jn_X0_take_43 k0 s_9 v3_8 x1 x2 M_10 = some (r, M9) → ∀ (H : Heap) (locs : List Loc) (ls : Array Slot), wd X M_10 H → va_S X.A s.heap H locs → lv_has ls 5 [(0, .ref (X.ad k0)), (1, .int x1), (2, .int x2), (3, .int v3_8)] → WW p l e 0 0 s m [.ref (X.ad k0), .int x1, .int x2] below meth c X (Qi X r M9) H locs 43 ls [.int s_9] := by
    intro v3_8 s_9 M_10 hf H locs ls hP hS hl
    unfold jn_X0_take_43 at hf
    refine lv_istore (lv' := [(4, .int s_9), (0, .ref (X.ad k0)), (1, .int x1), (2, .int x2), (3, .int v3_8)]) hx hb dX0_take_43 hl (by decide) rfl (fun ls hl => ?_)
    refine lv_iload_n hx hb dX0_take_45 rfl (lv_at hl 3 rfl) ?_
    refine lv_iload_n hx hb dX0_take_46 rfl (lv_at hl 4 rfl) ?_
    refine lv_icmp_lt (tgt := 56) hx hb dX0_take_47 (by decide) (fun c_11 => ?_) (fun c_11 => ?_)
    · have hf := i_t c_11 hf
      refine lv_iconst (v := (0 : Int32)) hx hb dX0_take_56 (by decide) ?_
      have hf := Option.some.inj hf
      obtain ⟨e1, e2⟩ := Prod.mk.inj hf
      rw [e2] at hP
      exact ret_z hx hb hr hlocks hP hS isZ_0 e1 dX0_take_57
    · have hf := i_f c_11 hf
      refine lv_iload_n hx hb dX0_take_50 rfl (lv_at hl 3 rfl) ?_
      refine lv_iload hx hb dX0_take_51 (lv_at hl 0 rfl) ?_
      refine lv_icmp_le (tgt := 58) hx hb dX0_take_53 (by decide) (fun c_12 => ?_) (fun c_12 => ?_)
      · have hf := i_t c_12 hf
        refine lv_aload_n hx hb dX0_take_58 rfl (lv_at hl 1 rfl) ?_
        refine gX0_0 hx hb hts hown hk hP hk0 wd_1_183 dX0_take_59 ?_
        refine lv_iload_n hx hb dX0_take_62 rfl (lv_at hl 2 rfl) ?_
        refine lv_iload_n hx hb dX0_take_63 rfl (lv_at hl 3 rfl) ?_
        obtain ⟨q_14, hf⟩ := g_if hf
        refine ast hx hb hk hP hS (isB_lt1 hk0) (rd_B1 hk0) q_14 dX0_take_64 (fun H locs M_13 e_M_13 hP hS => ?_)
        have hf := b_v hf e_M_13
        refine lv_iconst (v := (1 : Int32)) hx hb dX0_take_65 (by decide) ?_
        have hf := Option.some.inj hf
        obtain ⟨e1, e2⟩ := Prod.mk.inj hf
        rw [e2] at hP
        exact ret_z hx hb hr hlocks hP hS isZ_1 e1 dX0_take_66
      · have hf := i_f c_12 hf
        refine lv_iconst (v := (0 : Int32)) hx hb dX0_take_56 (by decide) ?_
        have hf := Option.some.inj hf
        obtain ⟨e1, e2⟩ := Prod.mk.inj hf
        rw [e2] at hP
        exact ret_z hx hb hr hlocks hP hS isZ_0 e1 dX0_take_57
  have jn22 : ∀ (s_4 : Int32) (M_5 : Mem), jn_X0_take_22 k0 s_4 x1 x2 M_5 = some (r, M9) → ∀ (H : Heap) (locs : List Loc) (ls : Array Slot), wd X M_5 H → va_S X.A s.heap H locs → lv_has ls 5 [(0, .ref (X.ad k0)), (1, .int x1), (2, .int x2)] → WW p l e 0 0 s m [.ref (X.ad k0), .int x1, .int x2] below meth c X (Qi X r M9) H locs 22 ls [.int s_4] := by
    intro s_4 M_5 hf H locs ls hP hS hl
    unfold jn_X0_take_22 at hf
    refine lv_istore_n (lv' := [(3, .int s_4), (0, .ref (X.ad k0)), (1, .int x1), (2, .int x2)]) hx hb dX0_take_22 rfl hl (by decide) rfl (fun ls hl => ?_)
    refine lv_iload_n hx hb dX0_take_23 rfl (lv_at hl 2 rfl) ?_
    refine lv_iconst (v := (3 : Int32)) hx hb dX0_take_24 (by decide) ?_
    refine lv_icmp_ge (tgt := 32) hx hb dX0_take_25 (by decide) (fun c_6 => ?_) (fun c_6 => ?_)
    · have hf := i_t c_6 hf
      refine lv_bipush (v := (6 : Int32)) hx hb dX0_take_32 (by decide) ?_
      refine lv_aload_n hx hb dX0_take_34 rfl (lv_at hl 1 rfl) ?_
      refine gX0_0 hx hb hts hown hk hP hk0 wd_1_183 dX0_take_35 ?_
      refine lv_iload_n hx hb dX0_take_38 rfl (lv_at hl 2 rfl) ?_
      refine lv_iconst (v := (3 : Int32)) hx hb dX0_take_39 (by decide) ?_
      refine lv_isub hx hb dX0_take_40 ?_
      obtain ⟨q_7, hf⟩ := g_if hf
      refine ald hx hb hk hP (isB_lt1 hk0) (rd_B1 hk0 _) q_7 dX0_take_41 ?_
      refine lv_isub hx hb dX0_take_42 ?_
      exact jn43 s_4 ((6 : Int32) - (M_5 (k0 + 1) (ix (x1 - (3 : Int32))))) M_5 hf H locs ls hP hS (lv_sub hl [1, 2, 3, 0] rfl)
    · have hf := i_f c_6 hf
      refine lv_iconst (v := (5 : Int32)) hx hb dX0_take_28 (by decide) ?_
      refine lv_goto (tgt := 43) hx hb dX0_take_29 (by decide) ?_
      exact jn43 s_4 (5 : Int32) M_5 hf H locs ls hP hS (lv_sub hl [1, 2, 3, 0] rfl)
  unfold fn_X0_take at hf
  have key : ∀ (H : Heap) (locs : List Loc), wd X M H → va_S X.A s.heap H locs → WW p l e 0 0 s m [.ref (X.ad k0), .int x1, .int x2] below meth c X (Qi X r M9) H locs 0 ls [] := by
    intro H locs hP hS
    refine lv_iload_n hx hb dX0_take_0 rfl (lv_at hl 1 rfl) ?_
    refine lv_if_lt (tgt := 10) hx hb dX0_take_1 (by decide) (fun c_1 => ?_) (fun c_1 => ?_)
    · have hf := i_t c_1 hf
      refine lv_iconst (v := (0 : Int32)) hx hb dX0_take_10 (by decide) ?_
      have hf := Option.some.inj hf
      obtain ⟨e1, e2⟩ := Prod.mk.inj hf
      rw [e2] at hP
      exact ret_z hx hb hr hlocks hP hS isZ_0 e1 dX0_take_11
    · have hf := i_f c_1 hf
      refine lv_iload_n hx hb dX0_take_4 rfl (lv_at hl 1 rfl) ?_
      refine lv_bipush (v := (6 : Int32)) hx hb dX0_take_5 (by decide) ?_
      refine lv_icmp_lt (tgt := 12) hx hb dX0_take_7 (by decide) (fun c_2 => ?_) (fun c_2 => ?_)
      · have hf := i_t c_2 hf
        refine lv_iload_n hx hb dX0_take_12 rfl (lv_at hl 1 rfl) ?_
        refine lv_iconst (v := (3 : Int32)) hx hb dX0_take_13 (by decide) ?_
        refine lv_icmp_ge (tgt := 21) hx hb dX0_take_14 (by decide) (fun c_3 => ?_) (fun c_3 => ?_)
        · have hf := i_t c_3 hf
          refine lv_iconst (v := (1 : Int32)) hx hb dX0_take_21 (by decide) ?_
          exact jn22 (1 : Int32) M hf H locs ls hP hS (lv_sub hl [0, 1, 2] rfl)
        · have hf := i_f c_3 hf
          refine lv_iconst (v := (0 : Int32)) hx hb dX0_take_17 (by decide) ?_
          refine lv_goto (tgt := 22) hx hb dX0_take_18 (by decide) ?_
          exact jn22 (0 : Int32) M hf H locs ls hP hS (lv_sub hl [0, 1, 2] rfl)
      · have hf := i_f c_2 hf
        refine lv_iconst (v := (0 : Int32)) hx hb dX0_take_10 (by decide) ?_
        have hf := Option.some.inj hf
        obtain ⟨e1, e2⟩ := Prod.mk.inj hf
        rw [e2] at hP
        exact ret_z hx hb hr hlocks hP hS isZ_0 e1 dX0_take_11
  exact key s.heap [] hP hS
theorem hd_X0_take : Hd yX0_take 2 := by decide +kernel
theorem k_X0_take {p : Program} {l : Launch} {e : Env} {R : Room} {s : State} {m : MethodId} {args : Array Value} {below : List Frame} {meth : Method} {c : Code} {H : Heap} {locs : List Loc} {cells slots : Nat} {Q : State → Prop} {cc : ByteArray} {nL pc index : Nat} {ls : Array Slot} {rest : List Value} {X : En} {M : Mem} {H0 : Heap} {own : String} {k0 : Nat} {x1 : Int32} {x2 : Int32} {r : Int32} {M9 : Mem} (hZ : Fx p c m s args X cc nL own) (hP : wd X M H) (hS : va_S X.A H0 H locs) (hsz : ls.size = nL) (hlk : Cond.methodLink own index yX0_take ∈ lw_u) (hR : 0 + 1 ≤ R.frames ∧ 8 + (5 + 11) + 0 ≤ R.locals) (hW : (rest.map fun v => v.category).sum ≤ 8) (hdg : decode cc pc = .ok (.invokevirtual index, 3)) (hcs : cells ≤ R.cells ∧ slots ≤ R.slots) (hk0 : isB k0) (hf : fn_X0_take k0 x1 x2 M = some (r, M9))
    (kk : ∀ (H1 : Heap) (locs1 : List Loc), wd X M9 H1 → va_S X.A H0 H1 locs1 → W p l e R s m args below meth c H1 locs1 cells slots Q (F0 m (pc + 3) ls (.int r :: rest))) : W p l e R s m args below meth c H locs cells slots Q (F0 m pc ls (.int x2 :: .int x1 :: .ref (X.ad k0) :: rest)) :=
  cal_i (runV (As := [.int x1, .int x2]) (rest := rest) hZ.1 hZ.2.1 hZ.2.2.1 hZ.2.2.2.1 hZ.2.2.2.2.1 hZ.2.2.2.2.2 hP (c_X0_take k0 x1 x2 M hk0 r M9 hf) wd_2_50 wd_2_48 wd_2_49 wd_1_8 hd_X0_take (isB_lt0 hk0) (rd_B0 hk0 _) rfl rfl hlk hR hsz rfl hW hdg hcs) hS kk
/-! FrameRaiser.coordinate -/
def fn_X7_coordinate (x0 : Int32) (x1 : Int32) : Int32 :=
  if x1 = 0 then
    (rm x0 (6 : Int32))
  else
    (if x1 = (1 : Int32) then
      (rm (x0 / (6 : Int32)) (6 : Int32))
    else
      (x0 / (36 : Int32)))
theorem dX7_coordinate_0 : decode cX7_coordinate 0 = .ok (.iload_n 1, 1) := by decide +kernel
theorem dX7_coordinate_1 : decode cX7_coordinate 1 = .ok (.ifCond .ne 8, 3) := by decide +kernel
theorem dX7_coordinate_4 : decode cX7_coordinate 4 = .ok (.iload_n 0, 1) := by decide +kernel
theorem dX7_coordinate_5 : decode cX7_coordinate 5 = .ok (.bipush 6, 2) := by decide +kernel
theorem dX7_coordinate_7 : decode cX7_coordinate 7 = .ok (.irem, 1) := by decide +kernel
theorem dX7_coordinate_8 : decode cX7_coordinate 8 = .ok (.ireturn, 1) := by decide +kernel
theorem dX7_coordinate_9 : decode cX7_coordinate 9 = .ok (.iload_n 1, 1) := by decide +kernel
theorem dX7_coordinate_10 : decode cX7_coordinate 10 = .ok (.iconst 1, 1) := by decide +kernel
theorem dX7_coordinate_11 : decode cX7_coordinate 11 = .ok (.if_icmp .ne 13, 3) := by decide +kernel
theorem dX7_coordinate_14 : decode cX7_coordinate 14 = .ok (.iload_n 0, 1) := by decide +kernel
theorem dX7_coordinate_15 : decode cX7_coordinate 15 = .ok (.bipush 6, 2) := by decide +kernel
theorem dX7_coordinate_17 : decode cX7_coordinate 17 = .ok (.idiv, 1) := by decide +kernel
theorem dX7_coordinate_18 : decode cX7_coordinate 18 = .ok (.bipush 6, 2) := by decide +kernel
theorem dX7_coordinate_20 : decode cX7_coordinate 20 = .ok (.irem, 1) := by decide +kernel
theorem dX7_coordinate_21 : decode cX7_coordinate 21 = .ok (.goto 7, 3) := by decide +kernel
theorem dX7_coordinate_24 : decode cX7_coordinate 24 = .ok (.iload_n 0, 1) := by decide +kernel
theorem dX7_coordinate_25 : decode cX7_coordinate 25 = .ok (.bipush 36, 2) := by decide +kernel
theorem dX7_coordinate_27 : decode cX7_coordinate 27 = .ok (.idiv, 1) := by decide +kernel
theorem dX7_coordinate_28 : decode cX7_coordinate 28 = .ok (.ireturn, 1) := by decide +kernel
set_option maxHeartbeats 4000000 in
set_option maxRecDepth 100000 in
theorem c_X7_coordinate {l : Launch} {X : En} (x0 : Int32) (x1 : Int32) (M : Mem) (r : Int32) (hf : fn_X7_coordinate x0 x1 = r) : Cn l X yX7_coordinate cX7_coordinate 2 (some .int) 0 0 [.int x0, .int x1] M (Qi X r M) := by
  refine Met.ofW (cc := cX7_coordinate) (maxL := 2) (ret := (some .int)) (by decide) rfl ?_
  intro p e s m args below meth c s₁ B hml hv
  obtain ⟨rfl, hP, hk⟩ := hv
  have hx := B.exec
  have hb := B.bytes
  have hr := B.returns
  have hlocks := B.notSynchronized
  have hts : ∀ w ∈ lw_u, w.before ([.int x0, .int x1] : List Value).toArray s = true := fun w hw => atoms_spec (ws := Cond.code yX7_coordinate cX7_coordinate 2 (some .int) :: lw_u) B.pre w (List.mem_cons_of_mem _ hw)
  have hown : s.vm.findClass RX7 = some m.cls := findClass_of_methodNamed B.named
  have hZ : Fx p c m s ([.int x0, .int x1] : List Value).toArray X cX7_coordinate 2 RX7 := ⟨hx, hb, hml, hts, hown, hk⟩
  have hS : va_S X.A s.heap s.heap [] := va_S.rf
  have hl := lv_entry ([.int x0, .int x1]) (n := 2) (Nat.le_of_ble_eq_true rfl)
  rw [lg_entry_eq]
  generalize (lg_sl ([.int x0, .int x1]) ++ List.replicate (2 - (lg_sl ([.int x0, .int x1])).length) Slot.unset).toArray = ls at hl ⊢
  have hl : lv_has ls 2 [(0, .int x0), (1, .int x1)] := hl
  show WW p l e 0 0 s m [.int x0, .int x1] below meth c X (Qi X r M) s.heap [] 0 ls []
  have hP : wd X M s.heap := hP
  unfold fn_X7_coordinate at hf
  have key : ∀ (H : Heap) (locs : List Loc), wd X M H → va_S X.A s.heap H locs → WW p l e 0 0 s m [.int x0, .int x1] below meth c X (Qi X r M) H locs 0 ls [] := by
    intro H locs hP hS
    refine lv_iload_n hx hb dX7_coordinate_0 rfl (lv_at hl 1 rfl) ?_
    refine lv_if_ne (tgt := 9) hx hb dX7_coordinate_1 (by decide) (fun c_1 => ?_) (fun c_1 => ?_)
    · have hf := i_f c_1 hf
      refine lv_iload_n hx hb dX7_coordinate_9 rfl (lv_at hl 1 rfl) ?_
      refine lv_iconst (v := (1 : Int32)) hx hb dX7_coordinate_10 (by decide) ?_
      refine lv_icmp_ne (tgt := 24) hx hb dX7_coordinate_11 (by decide) (fun c_2 => ?_) (fun c_2 => ?_)
      · have hf := i_f c_2 hf
        refine lv_iload_n hx hb dX7_coordinate_24 rfl (lv_at hl 0 rfl) ?_
        refine lv_bipush (v := (36 : Int32)) hx hb dX7_coordinate_25 (by decide) ?_
        refine lv_idiv hx hb dX7_coordinate_27 (by decide) ?_
        exact ret_i hx hb hr hlocks hP hS hf dX7_coordinate_28
      · have hf := i_t c_2 hf
        refine lv_iload_n hx hb dX7_coordinate_14 rfl (lv_at hl 0 rfl) ?_
        refine lv_bipush (v := (6 : Int32)) hx hb dX7_coordinate_15 (by decide) ?_
        refine lv_idiv hx hb dX7_coordinate_17 (by decide) ?_
        refine lv_bipush (v := (6 : Int32)) hx hb dX7_coordinate_18 (by decide) ?_
        refine rw_irem hx hb dX7_coordinate_20 (by decide) ?_
        refine lv_goto (tgt := 28) hx hb dX7_coordinate_21 (by decide) ?_
        exact ret_i hx hb hr hlocks hP hS hf dX7_coordinate_28
    · have hf := i_t c_1 hf
      refine lv_iload_n hx hb dX7_coordinate_4 rfl (lv_at hl 0 rfl) ?_
      refine lv_bipush (v := (6 : Int32)) hx hb dX7_coordinate_5 (by decide) ?_
      refine rw_irem hx hb dX7_coordinate_7 (by decide) ?_
      exact ret_i hx hb hr hlocks hP hS hf dX7_coordinate_8
  exact key s.heap [] hP hS
theorem hd_X7_coordinate : Hd yX7_coordinate 2 := by decide +kernel
theorem k_X7_coordinate {p : Program} {l : Launch} {e : Env} {R : Room} {s : State} {m : MethodId} {args : Array Value} {below : List Frame} {meth : Method} {c : Code} {H : Heap} {locs : List Loc} {cells slots : Nat} {Q : State → Prop} {cc : ByteArray} {nL pc index : Nat} {ls : Array Slot} {rest : List Value} {X : En} {M : Mem} {H0 : Heap} {own : String} {x0 : Int32} {x1 : Int32} (hZ : Fx p c m s args X cc nL own) (hP : wd X M H) (hS : va_S X.A H0 H locs) (hsz : ls.size = nL) (hlk : Cond.methodLink own index yX7_coordinate ∈ lw_u) (hR : 0 + 1 ≤ R.frames ∧ 8 + (2 + 11) + 0 ≤ R.locals) (hW : (rest.map fun v => v.category).sum ≤ 8) (hdg : decode cc pc = .ok (.invokestatic index, 3)) (hcs : cells ≤ R.cells ∧ slots ≤ R.slots)
    (kk : ∀ (H1 : Heap) (locs1 : List Loc), wd X M H1 → va_S X.A H0 H1 locs1 → W p l e R s m args below meth c H1 locs1 cells slots Q (F0 m (pc + 3) ls (.int (fn_X7_coordinate x0 x1) :: rest))) : W p l e R s m args below meth c H locs cells slots Q (F0 m pc ls (.int x1 :: .int x0 :: rest)) :=
  cal_i (runS (As := [.int x0, .int x1]) (rest := rest) hZ.1 hZ.2.1 hZ.2.2.1 hZ.2.2.2.1 hZ.2.2.2.2.1 hZ.2.2.2.2.2 hP (c_X7_coordinate x0 x1 M _ rfl) wd_2_61 wd_2_60 wd_1_1 hd_X7_coordinate rfl hlk hR hsz rfl hW hdg hcs) hS kk
theorem kn_X7_coordinate {p : Program} {l : Launch} {e : Env} {R : Room} {s : State} {m : MethodId} {args : Array Value} {below : List Frame} {meth : Method} {c : Code} {H : Heap} {locs : List Loc} {cells slots : Nat} {Q : State → Prop} {cc : ByteArray} {nL pc index : Nat} {ls : Array Slot} {rest : List Value} {X : En} {M : Mem} {H0 : Heap} {own : String} {x0 : Int32} {x1 : Int32} (hZ : Fx p c m s args X cc nL own) (hP : wd X M H) (hS : va_S X.A H0 H locs) (hsz : ls.size = nL) (hlk : va_Nw (Cond.methodLinkNest own index yX7_coordinate RX7) s) (hR : 0 + 1 ≤ R.frames ∧ 8 + (2 + 11) + 0 ≤ R.locals) (hW : (rest.map fun v => v.category).sum ≤ 8) (hdg : decode cc pc = .ok (.invokestatic index, 3)) (hcs : cells ≤ R.cells ∧ slots ≤ R.slots)
    (kk : ∀ (H1 : Heap) (locs1 : List Loc), wd X M H1 → va_S X.A H0 H1 locs1 → W p l e R s m args below meth c H1 locs1 cells slots Q (F0 m (pc + 3) ls (.int (fn_X7_coordinate x0 x1) :: rest))) : W p l e R s m args below meth c H locs cells slots Q (F0 m pc ls (.int x1 :: .int x0 :: rest)) :=
  cal_i (runSN (As := [.int x0, .int x1]) (rest := rest) hZ.1 hZ.2.1 hZ.2.2.1 hZ.2.2.2.1 hZ.2.2.2.2.1 hZ.2.2.2.2.2 hP (c_X7_coordinate x0 x1 M _ rfl) wd_2_61 wd_2_60 wd_1_1 hd_X7_coordinate rfl hlk hR hsz rfl hW hdg hcs) hS kk
/-! FrameRaiser$Box.contains -/
def bd_X0_contains_2 (k0 : Nat) (x1 : Int32) (M : Mem) : (Int32) → Option ((Int32) ⊕ ((Unit) ⊕ (Int32))) :=
  u1 fun v2_1 =>
  if (3 : Int32) ≤ v2_1 then
    (some (.inr (.inl ())))
  else
    (if inb v2_1 6 then
    bv ((fn_X7_coordinate x1 v2_1) - (M (k0 + 1) (ix v2_1))) fun v3_4 =>
    if v3_4 < 0 then
      (some (.inr (.inr (0 : Int32))))
    else
      (if inb ((3 : Int32) + v2_1) 6 then
      if v3_4 < (M (k0 + 1) (ix ((3 : Int32) + v2_1))) then
        (some (.inl (v2_1 + (1 : Int32))))
      else
        (some (.inr (.inr (0 : Int32))))
      else none)
    else none)
def fn_X0_contains (g : Nat) (k0 : Nat) (x1 : Int32) (M : Mem) : Option (Int32) :=
  (lpN g (bd_X0_contains_2 k0 x1 M) (0 : Int32)).bind (el (fun (_ : Unit) =>
    some (1 : Int32)) (fun rr => some rr))
theorem dX0_contains_0 : decode cX0_contains 0 = .ok (.iconst 0, 1) := by decide +kernel
theorem dX0_contains_1 : decode cX0_contains 1 = .ok (.istore_n 2, 1) := by decide +kernel
theorem dX0_contains_2 : decode cX0_contains 2 = .ok (.iload_n 2, 1) := by decide +kernel
theorem dX0_contains_3 : decode cX0_contains 3 = .ok (.iconst 3, 1) := by decide +kernel
theorem dX0_contains_4 : decode cX0_contains 4 = .ok (.if_icmp .ge 40, 3) := by decide +kernel
theorem dX0_contains_7 : decode cX0_contains 7 = .ok (.iload_n 1, 1) := by decide +kernel
theorem dX0_contains_8 : decode cX0_contains 8 = .ok (.iload_n 2, 1) := by decide +kernel
theorem dX0_contains_9 : decode cX0_contains 9 = .ok (.invokestatic 19, 3) := by decide +kernel
theorem dX0_contains_12 : decode cX0_contains 12 = .ok (.aload_n 0, 1) := by decide +kernel
theorem dX0_contains_13 : decode cX0_contains 13 = .ok (.getfield 11, 3) := by decide +kernel
theorem dX0_contains_16 : decode cX0_contains 16 = .ok (.iload_n 2, 1) := by decide +kernel
theorem dX0_contains_17 : decode cX0_contains 17 = .ok (.iaload, 1) := by decide +kernel
theorem dX0_contains_18 : decode cX0_contains 18 = .ok (.isub, 1) := by decide +kernel
theorem dX0_contains_19 : decode cX0_contains 19 = .ok (.istore_n 3, 1) := by decide +kernel
theorem dX0_contains_20 : decode cX0_contains 20 = .ok (.iload_n 3, 1) := by decide +kernel
theorem dX0_contains_21 : decode cX0_contains 21 = .ok (.ifCond .lt 15, 3) := by decide +kernel
theorem dX0_contains_24 : decode cX0_contains 24 = .ok (.iload_n 3, 1) := by decide +kernel
theorem dX0_contains_25 : decode cX0_contains 25 = .ok (.aload_n 0, 1) := by decide +kernel
theorem dX0_contains_26 : decode cX0_contains 26 = .ok (.getfield 11, 3) := by decide +kernel
theorem dX0_contains_29 : decode cX0_contains 29 = .ok (.iconst 3, 1) := by decide +kernel
theorem dX0_contains_30 : decode cX0_contains 30 = .ok (.iload_n 2, 1) := by decide +kernel
theorem dX0_contains_31 : decode cX0_contains 31 = .ok (.iadd, 1) := by decide +kernel
theorem dX0_contains_32 : decode cX0_contains 32 = .ok (.iaload, 1) := by decide +kernel
theorem dX0_contains_33 : decode cX0_contains 33 = .ok (.if_icmp .lt 5, 3) := by decide +kernel
theorem dX0_contains_36 : decode cX0_contains 36 = .ok (.iconst 0, 1) := by decide +kernel
theorem dX0_contains_37 : decode cX0_contains 37 = .ok (.ireturn, 1) := by decide +kernel
theorem dX0_contains_38 : decode cX0_contains 38 = .ok (.iinc 2 1, 3) := by decide +kernel
theorem dX0_contains_41 : decode cX0_contains 41 = .ok (.goto (-39), 3) := by decide +kernel
theorem dX0_contains_44 : decode cX0_contains 44 = .ok (.iconst 1, 1) := by decide +kernel
theorem dX0_contains_45 : decode cX0_contains 45 = .ok (.ireturn, 1) := by decide +kernel
set_option maxHeartbeats 4000000 in
set_option maxRecDepth 100000 in
theorem c_X0_contains {l : Launch} {X : En} (g : Nat) (k0 : Nat) (x1 : Int32) (M : Mem) (hk0 : isB k0) (r : Int32) (hf : fn_X0_contains g k0 x1 M = some r) : Cn l X yX0_contains cX0_contains 4 (some .boolean) 1 21 [.ref (X.ad k0), .int x1] M (Qi X r M) := by
  refine Met.ofW (cc := cX0_contains) (maxL := 4) (ret := (some .boolean)) (by decide) rfl ?_
  intro p e s m args below meth c s₁ B hml hv
  obtain ⟨rfl, hP, hk⟩ := hv
  have hx := B.exec
  have hb := B.bytes
  have hr := B.returns
  have hlocks := B.notSynchronized
  have hts : ∀ w ∈ lw_u, w.before ([.ref (X.ad k0), .int x1] : List Value).toArray s = true := fun w hw => atoms_spec (ws := Cond.code yX0_contains cX0_contains 4 (some .boolean) :: lw_u) B.pre w (List.mem_cons_of_mem _ hw)
  have hown : s.vm.findClass RX0 = some m.cls := findClass_of_methodNamed B.named
  have hZ : Fx p c m s ([.ref (X.ad k0), .int x1] : List Value).toArray X cX0_contains 4 RX0 := ⟨hx, hb, hml, hts, hown, hk⟩
  have hS : va_S X.A s.heap s.heap [] := va_S.rf
  have hl := lv_entry ([.ref (X.ad k0), .int x1]) (n := 4) (Nat.le_of_ble_eq_true rfl)
  rw [lg_entry_eq]
  generalize (lg_sl ([.ref (X.ad k0), .int x1]) ++ List.replicate (4 - (lg_sl ([.ref (X.ad k0), .int x1])).length) Slot.unset).toArray = ls at hl ⊢
  have hl : lv_has ls 4 [(0, .ref (X.ad k0)), (1, .int x1)] := hl
  show WW p l e 1 21 s m [.ref (X.ad k0), .int x1] below meth c X (Qi X r M) s.heap [] 0 ls []
  have hP : wd X M s.heap := hP
  unfold fn_X0_contains at hf
  have key : ∀ (H : Heap) (locs : List Loc), wd X M H → va_S X.A s.heap H locs → WW p l e 1 21 s m [.ref (X.ad k0), .int x1] below meth c X (Qi X r M) H locs 0 ls [] := by
    intro H locs hP hS
    refine lv_iconst (v := (0 : Int32)) hx hb dX0_contains_0 (by decide) ?_
    refine lv_istore_n (lv' := [(2, .int (0 : Int32)), (0, .ref (X.ad k0)), (1, .int x1)]) hx hb dX0_contains_1 rfl hl (by decide) rfl (fun ls hl => ?_)
    obtain ⟨o2, ho2, hf⟩ := b_d hf
    refine lp_rule (b := bd_X0_contains_2 k0 x1 M) (P := fun w : Int32 => ∀ (H : Heap) (locs : List Loc) (ls : Array Slot), wd X M H → va_S X.A s.heap H locs → lv_has ls 4 [(2, .int w), (0, .ref (X.ad k0)), (1, .int x1)] → WW p l e 1 21 s m [.ref (X.ad k0), .int x1] below meth c X (Qi X r M) H locs 2 ls []) (K := fun o => (o = .inl () → ∀ (H : Heap) (locs : List Loc) (ls : Array Slot), wd X M H → va_S X.A s.heap H locs → lv_has ls 4 [] → WW p l e 1 21 s m [.ref (X.ad k0), .int x1] below meth c X (Qi X r M) H locs 44 ls []) ∧ (∀ rr : Int32, o = .inr rr → rr = r)) ?_ g (0 : Int32) o2 ho2 ?_ H locs ls hP hS (lv_sub hl [0, 1, 2] rfl)
    · rintro v2_1 o hf hkc2 hke2 H locs ls hP hS hl
      have hf := u1_e hf
      refine lv_iload_n hx hb dX0_contains_2 rfl (lv_at hl 0 rfl) ?_
      refine lv_iconst (v := (3 : Int32)) hx hb dX0_contains_3 (by decide) ?_
      refine lv_icmp_ge (tgt := 44) hx hb dX0_contains_4 (by decide) (fun c_2 => ?_) (fun c_2 => ?_)
      · have hf := i_t c_2 hf
        exact (hke2 _ (Option.some.inj hf).symm).1  rfl H locs ls hP hS (lv_sub hl [] rfl)
      · have hf := i_f c_2 hf
        refine lv_iload_n hx hb dX0_contains_7 rfl (lv_at hl 2 rfl) ?_
        refine lv_iload_n hx hb dX0_contains_8 rfl (lv_at hl 0 rfl) ?_
        refine kn_X7_coordinate hZ hP hS hl.1 (nest_6 hk.2.1) ⟨Nat.le_of_ble_eq_true rfl, Nat.le_of_ble_eq_true rfl⟩ (Nat.le_of_ble_eq_true rfl) dX0_contains_9 ⟨Nat.zero_le _, Nat.zero_le _⟩ (fun H locs hP hS => ?_)
        refine lv_aload_n hx hb dX0_contains_12 rfl (lv_at hl 1 rfl) ?_
        refine gX0_0 hx hb hts hown hk hP hk0 wd_1_183 dX0_contains_13 ?_
        refine lv_iload_n hx hb dX0_contains_16 rfl (lv_at hl 0 rfl) ?_
        obtain ⟨q_3, hf⟩ := g_if hf
        refine ald hx hb hk hP (isB_lt1 hk0) (rd_B1 hk0 _) q_3 dX0_contains_17 ?_
        refine lv_isub hx hb dX0_contains_18 ?_
        refine lv_topi (fun v3_4 e_v3_4 => ?_)
        have hf := b_v hf e_v3_4
        refine lv_istore_n (lv' := [(3, .int v3_4), (2, .int v2_1), (0, .ref (X.ad k0)), (1, .int x1)]) hx hb dX0_contains_19 rfl hl (by decide) rfl (fun ls hl => ?_)
        refine lv_iload_n hx hb dX0_contains_20 rfl (lv_at hl 0 rfl) ?_
        refine lv_if_lt (tgt := 36) hx hb dX0_contains_21 (by decide) (fun c_5 => ?_) (fun c_5 => ?_)
        · have hf := i_t c_5 hf
          refine lv_iconst (v := (0 : Int32)) hx hb dX0_contains_36 (by decide) ?_
          have hf := (hke2 _ (Option.some.inj hf).symm).2 _ rfl
          exact ret_z hx hb hr hlocks hP hS isZ_0 hf dX0_contains_37
        · have hf := i_f c_5 hf
          refine lv_iload_n hx hb dX0_contains_24 rfl (lv_at hl 0 rfl) ?_
          refine lv_aload_n hx hb dX0_contains_25 rfl (lv_at hl 2 rfl) ?_
          refine gX0_0 hx hb hts hown hk hP hk0 wd_1_183 dX0_contains_26 ?_
          refine lv_iconst (v := (3 : Int32)) hx hb dX0_contains_29 (by decide) ?_
          refine lv_iload_n hx hb dX0_contains_30 rfl (lv_at hl 1 rfl) ?_
          refine lv_iadd hx hb dX0_contains_31 ?_
          obtain ⟨q_6, hf⟩ := g_if hf
          refine ald hx hb hk hP (isB_lt1 hk0) (rd_B1 hk0 _) q_6 dX0_contains_32 ?_
          refine lv_icmp_lt (tgt := 38) hx hb dX0_contains_33 (by decide) (fun c_7 => ?_) (fun c_7 => ?_)
          · have hf := i_t c_7 hf
            refine lv_iinc (v := v2_1 + (1 : Int32)) (lv' := [(2, .int (v2_1 + (1 : Int32))), (3, .int v3_4), (0, .ref (X.ad k0)), (1, .int x1)]) hx hb dX0_contains_38 hl (k := 1) rfl rfl (by decide) rfl (fun ls hl => ?_)
            refine lv_goto (tgt := 2) hx hb dX0_contains_41 (by decide) ?_
            exact hkc2 _ (Option.some.inj hf).symm H locs ls hP hS (lv_sub hl [0, 2, 3] rfl)
          · have hf := i_f c_7 hf
            refine lv_iconst (v := (0 : Int32)) hx hb dX0_contains_36 (by decide) ?_
            have hf := (hke2 _ (Option.some.inj hf).symm).2 _ rfl
            exact ret_z hx hb hr hlocks hP hS isZ_0 hf dX0_contains_37
    · refine ⟨?_, ?_⟩
      · intro  e H locs ls hP hS hl
        subst o2
        have hf := el_l hf
        refine lv_iconst (v := (1 : Int32)) hx hb dX0_contains_44 (by decide) ?_
        have hf := Option.some.inj hf
        exact ret_z hx hb hr hlocks hP hS isZ_1 hf dX0_contains_45
      · intro rr e
        subst o2
        have hf := el_r hf
        exact Option.some.inj hf
  exact key s.heap [] hP hS
theorem hd_X0_contains : Hd yX0_contains 1 := by decide +kernel
theorem k_X0_contains {p : Program} {l : Launch} {e : Env} {R : Room} {s : State} {m : MethodId} {args : Array Value} {below : List Frame} {meth : Method} {c : Code} {H : Heap} {locs : List Loc} {cells slots : Nat} {Q : State → Prop} {cc : ByteArray} {nL pc index : Nat} {ls : Array Slot} {rest : List Value} {X : En} {M : Mem} {H0 : Heap} {own : String} {g : Nat} {k0 : Nat} {x1 : Int32} {r : Int32} (hZ : Fx p c m s args X cc nL own) (hP : wd X M H) (hS : va_S X.A H0 H locs) (hsz : ls.size = nL) (hlk : Cond.methodLink own index yX0_contains ∈ lw_u) (hR : 1 + 1 ≤ R.frames ∧ 8 + (4 + 11) + 21 ≤ R.locals) (hW : (rest.map fun v => v.category).sum ≤ 8) (hdg : decode cc pc = .ok (.invokevirtual index, 3)) (hcs : cells ≤ R.cells ∧ slots ≤ R.slots) (hk0 : isB k0) (hf : fn_X0_contains g k0 x1 M = some r)
    (kk : ∀ (H1 : Heap) (locs1 : List Loc), wd X M H1 → va_S X.A H0 H1 locs1 → W p l e R s m args below meth c H1 locs1 cells slots Q (F0 m (pc + 3) ls (.int r :: rest))) : W p l e R s m args below meth c H locs cells slots Q (F0 m pc ls (.int x1 :: .ref (X.ad k0) :: rest)) :=
  cal_i (runV (As := [.int x1]) (rest := rest) hZ.1 hZ.2.1 hZ.2.2.1 hZ.2.2.2.1 hZ.2.2.2.2.1 hZ.2.2.2.2.2 hP (c_X0_contains g k0 x1 M hk0 r hf) wd_2_58 wd_2_56 wd_2_57 wd_1_8 hd_X0_contains (isB_lt0 hk0) (rd_B0 hk0 _) rfl rfl hlk hR hsz rfl hW hdg hcs) hS kk
/-! FrameRaiser$Frame.meetsOther -/
def bd_X1_meetsOther_2 (g : Nat) (k0 : Nat) (k1 : Nat) (x2 : Int32) (M : Mem) : (Int32) → Option ((Int32) ⊕ ((Unit) ⊕ (Int32))) :=
  u1 fun v3_1 =>
  if (216 : Int32) ≤ v3_1 then
    (some (.inr (.inl ())))
  else
    (if inb v3_1 216 then
    bv (M (k0 + 1) (ix v3_1)) fun v4_4 =>
    if v4_4 = (-1 : Int32) then
      (some (.inl (v3_1 + (1 : Int32))))
    else
      (if v4_4 = x2 then
        (some (.inl (v3_1 + (1 : Int32))))
      else
        ((fn_X0_contains g k1 v3_1 M).bind fun r_7 =>
        if r_7 = 0 then
          (some (.inl (v3_1 + (1 : Int32))))
        else
          (some (.inr (.inr (1 : Int32))))))
    else none)
def fn_X1_meetsOther (g : Nat) (k0 : Nat) (k1 : Nat) (x2 : Int32) (M : Mem) : Option (Int32) :=
  (lpN g (bd_X1_meetsOther_2 g k0 k1 x2 M) (0 : Int32)).bind (el (fun (_ : Unit) =>
    some (0 : Int32)) (fun rr => some rr))
theorem dX1_meetsOther_0 : decode cX1_meetsOther 0 = .ok (.iconst 0, 1) := by decide +kernel
theorem dX1_meetsOther_1 : decode cX1_meetsOther 1 = .ok (.istore_n 3, 1) := by decide +kernel
theorem dX1_meetsOther_2 : decode cX1_meetsOther 2 = .ok (.iload_n 3, 1) := by decide +kernel
theorem dX1_meetsOther_3 : decode cX1_meetsOther 3 = .ok (.sipush 216, 3) := by decide +kernel
theorem dX1_meetsOther_6 : decode cX1_meetsOther 6 = .ok (.if_icmp .ge 39, 3) := by decide +kernel
theorem dX1_meetsOther_9 : decode cX1_meetsOther 9 = .ok (.aload_n 0, 1) := by decide +kernel
theorem dX1_meetsOther_10 : decode cX1_meetsOther 10 = .ok (.getfield 9, 3) := by decide +kernel
theorem dX1_meetsOther_13 : decode cX1_meetsOther 13 = .ok (.iload_n 3, 1) := by decide +kernel
theorem dX1_meetsOther_14 : decode cX1_meetsOther 14 = .ok (.iaload, 1) := by decide +kernel
theorem dX1_meetsOther_15 : decode cX1_meetsOther 15 = .ok (.istore 4, 2) := by decide +kernel
theorem dX1_meetsOther_17 : decode cX1_meetsOther 17 = .ok (.iload 4, 2) := by decide +kernel
theorem dX1_meetsOther_19 : decode cX1_meetsOther 19 = .ok (.iconst (-1), 1) := by decide +kernel
theorem dX1_meetsOther_20 : decode cX1_meetsOther 20 = .ok (.if_icmp .eq 19, 3) := by decide +kernel
theorem dX1_meetsOther_23 : decode cX1_meetsOther 23 = .ok (.iload 4, 2) := by decide +kernel
theorem dX1_meetsOther_25 : decode cX1_meetsOther 25 = .ok (.iload_n 2, 1) := by decide +kernel
theorem dX1_meetsOther_26 : decode cX1_meetsOther 26 = .ok (.if_icmp .eq 13, 3) := by decide +kernel
theorem dX1_meetsOther_29 : decode cX1_meetsOther 29 = .ok (.aload_n 1, 1) := by decide +kernel
theorem dX1_meetsOther_30 : decode cX1_meetsOther 30 = .ok (.iload_n 3, 1) := by decide +kernel
theorem dX1_meetsOther_31 : decode cX1_meetsOther 31 = .ok (.invokevirtual 37, 3) := by decide +kernel
theorem dX1_meetsOther_34 : decode cX1_meetsOther 34 = .ok (.ifCond .eq 5, 3) := by decide +kernel
theorem dX1_meetsOther_37 : decode cX1_meetsOther 37 = .ok (.iconst 1, 1) := by decide +kernel
theorem dX1_meetsOther_38 : decode cX1_meetsOther 38 = .ok (.ireturn, 1) := by decide +kernel
theorem dX1_meetsOther_39 : decode cX1_meetsOther 39 = .ok (.iinc 3 1, 3) := by decide +kernel
theorem dX1_meetsOther_42 : decode cX1_meetsOther 42 = .ok (.goto (-40), 3) := by decide +kernel
theorem dX1_meetsOther_45 : decode cX1_meetsOther 45 = .ok (.iconst 0, 1) := by decide +kernel
theorem dX1_meetsOther_46 : decode cX1_meetsOther 46 = .ok (.ireturn, 1) := by decide +kernel
set_option maxHeartbeats 4000000 in
set_option maxRecDepth 100000 in
theorem c_X1_meetsOther {l : Launch} {X : En} (g : Nat) (k0 : Nat) (k1 : Nat) (x2 : Int32) (M : Mem) (hk0 : isF k0) (hk1 : isB k1) (r : Int32) (hf : fn_X1_meetsOther g k0 k1 x2 M = some r) : Cn l X yX1_meetsOther cX1_meetsOther 5 (some .boolean) 2 44 [.ref (X.ad k0), .ref (X.ad k1), .int x2] M (Qi X r M) := by
  refine Met.ofW (cc := cX1_meetsOther) (maxL := 5) (ret := (some .boolean)) (by decide) rfl ?_
  intro p e s m args below meth c s₁ B hml hv
  obtain ⟨rfl, hP, hk⟩ := hv
  have hx := B.exec
  have hb := B.bytes
  have hr := B.returns
  have hlocks := B.notSynchronized
  have hts : ∀ w ∈ lw_u, w.before ([.ref (X.ad k0), .ref (X.ad k1), .int x2] : List Value).toArray s = true := fun w hw => atoms_spec (ws := Cond.code yX1_meetsOther cX1_meetsOther 5 (some .boolean) :: lw_u) B.pre w (List.mem_cons_of_mem _ hw)
  have hown : s.vm.findClass RX1 = some m.cls := findClass_of_methodNamed B.named
  have hZ : Fx p c m s ([.ref (X.ad k0), .ref (X.ad k1), .int x2] : List Value).toArray X cX1_meetsOther 5 RX1 := ⟨hx, hb, hml, hts, hown, hk⟩
  have hS : va_S X.A s.heap s.heap [] := va_S.rf
  have hl := lv_entry ([.ref (X.ad k0), .ref (X.ad k1), .int x2]) (n := 5) (Nat.le_of_ble_eq_true rfl)
  rw [lg_entry_eq]
  generalize (lg_sl ([.ref (X.ad k0), .ref (X.ad k1), .int x2]) ++ List.replicate (5 - (lg_sl ([.ref (X.ad k0), .ref (X.ad k1), .int x2])).length) Slot.unset).toArray = ls at hl ⊢
  have hl : lv_has ls 5 [(0, .ref (X.ad k0)), (1, .ref (X.ad k1)), (2, .int x2)] := hl
  show WW p l e 2 44 s m [.ref (X.ad k0), .ref (X.ad k1), .int x2] below meth c X (Qi X r M) s.heap [] 0 ls []
  have hP : wd X M s.heap := hP
  unfold fn_X1_meetsOther at hf
  have key : ∀ (H : Heap) (locs : List Loc), wd X M H → va_S X.A s.heap H locs → WW p l e 2 44 s m [.ref (X.ad k0), .ref (X.ad k1), .int x2] below meth c X (Qi X r M) H locs 0 ls [] := by
    intro H locs hP hS
    refine lv_iconst (v := (0 : Int32)) hx hb dX1_meetsOther_0 (by decide) ?_
    refine lv_istore_n (lv' := [(3, .int (0 : Int32)), (0, .ref (X.ad k0)), (1, .ref (X.ad k1)), (2, .int x2)]) hx hb dX1_meetsOther_1 rfl hl (by decide) rfl (fun ls hl => ?_)
    obtain ⟨o2, ho2, hf⟩ := b_d hf
    refine lp_rule (b := bd_X1_meetsOther_2 g k0 k1 x2 M) (P := fun w : Int32 => ∀ (H : Heap) (locs : List Loc) (ls : Array Slot), wd X M H → va_S X.A s.heap H locs → lv_has ls 5 [(3, .int w), (0, .ref (X.ad k0)), (1, .ref (X.ad k1)), (2, .int x2)] → WW p l e 2 44 s m [.ref (X.ad k0), .ref (X.ad k1), .int x2] below meth c X (Qi X r M) H locs 2 ls []) (K := fun o => (o = .inl () → ∀ (H : Heap) (locs : List Loc) (ls : Array Slot), wd X M H → va_S X.A s.heap H locs → lv_has ls 5 [] → WW p l e 2 44 s m [.ref (X.ad k0), .ref (X.ad k1), .int x2] below meth c X (Qi X r M) H locs 45 ls []) ∧ (∀ rr : Int32, o = .inr rr → rr = r)) ?_ g (0 : Int32) o2 ho2 ?_ H locs ls hP hS (lv_sub hl [0, 1, 2, 3] rfl)
    · rintro v3_1 o hf hkc2 hke2 H locs ls hP hS hl
      have hf := u1_e hf
      refine lv_iload_n hx hb dX1_meetsOther_2 rfl (lv_at hl 0 rfl) ?_
      refine lv_sipush (v := (216 : Int32)) hx hb dX1_meetsOther_3 (by decide) ?_
      refine lv_icmp_ge (tgt := 45) hx hb dX1_meetsOther_6 (by decide) (fun c_2 => ?_) (fun c_2 => ?_)
      · have hf := i_t c_2 hf
        exact (hke2 _ (Option.some.inj hf).symm).1  rfl H locs ls hP hS (lv_sub hl [] rfl)
      · have hf := i_f c_2 hf
        refine lv_aload_n hx hb dX1_meetsOther_9 rfl (lv_at hl 1 rfl) ?_
        refine gX1_0 hx hb hts hown hk hP hk0 wd_1_31 dX1_meetsOther_10 ?_
        refine lv_iload_n hx hb dX1_meetsOther_13 rfl (lv_at hl 0 rfl) ?_
        obtain ⟨q_3, hf⟩ := g_if hf
        refine ald hx hb hk hP (isF_lt1 hk0) (rd_F1 hk0 _) q_3 dX1_meetsOther_14 ?_
        refine lv_topi (fun v4_4 e_v4_4 => ?_)
        have hf := b_v hf e_v4_4
        refine lv_istore (lv' := [(4, .int v4_4), (3, .int v3_1), (0, .ref (X.ad k0)), (1, .ref (X.ad k1)), (2, .int x2)]) hx hb dX1_meetsOther_15 hl (by decide) rfl (fun ls hl => ?_)
        refine lv_iload hx hb dX1_meetsOther_17 (lv_at hl 0 rfl) ?_
        refine lv_iconst (v := (-1 : Int32)) hx hb dX1_meetsOther_19 (by decide) ?_
        refine lv_icmp_eq (tgt := 39) hx hb dX1_meetsOther_20 (by decide) (fun c_5 => ?_) (fun c_5 => ?_)
        · have hf := i_t c_5 hf
          refine lv_iinc (v := v3_1 + (1 : Int32)) (lv' := [(3, .int (v3_1 + (1 : Int32))), (4, .int v4_4), (0, .ref (X.ad k0)), (1, .ref (X.ad k1)), (2, .int x2)]) hx hb dX1_meetsOther_39 hl (k := 1) rfl rfl (by decide) rfl (fun ls hl => ?_)
          refine lv_goto (tgt := 2) hx hb dX1_meetsOther_42 (by decide) ?_
          exact hkc2 _ (Option.some.inj hf).symm H locs ls hP hS (lv_sub hl [0, 2, 3, 4] rfl)
        · have hf := i_f c_5 hf
          refine lv_iload hx hb dX1_meetsOther_23 (lv_at hl 0 rfl) ?_
          refine lv_iload_n hx hb dX1_meetsOther_25 rfl (lv_at hl 4 rfl) ?_
          refine lv_icmp_eq (tgt := 39) hx hb dX1_meetsOther_26 (by decide) (fun c_6 => ?_) (fun c_6 => ?_)
          · have hf := i_t c_6 hf
            refine lv_iinc (v := v3_1 + (1 : Int32)) (lv' := [(3, .int (v3_1 + (1 : Int32))), (4, .int v4_4), (0, .ref (X.ad k0)), (1, .ref (X.ad k1)), (2, .int x2)]) hx hb dX1_meetsOther_39 hl (k := 1) rfl rfl (by decide) rfl (fun ls hl => ?_)
            refine lv_goto (tgt := 2) hx hb dX1_meetsOther_42 (by decide) ?_
            exact hkc2 _ (Option.some.inj hf).symm H locs ls hP hS (lv_sub hl [0, 2, 3, 4] rfl)
          · have hf := i_f c_6 hf
            refine lv_aload_n hx hb dX1_meetsOther_29 rfl (lv_at hl 3 rfl) ?_
            refine lv_iload_n hx hb dX1_meetsOther_30 rfl (lv_at hl 1 rfl) ?_
            obtain ⟨r_7, h_r_7, hf⟩ := b_d hf
            refine k_X0_contains hZ hP hS hl.1 wd_2_55 ⟨Nat.le_of_ble_eq_true rfl, Nat.le_of_ble_eq_true rfl⟩ (Nat.le_of_ble_eq_true rfl) dX1_meetsOther_31 ⟨Nat.zero_le _, Nat.zero_le _⟩ hk1 h_r_7 (fun H locs hP hS => ?_)
            refine lv_if_eq (tgt := 39) hx hb dX1_meetsOther_34 (by decide) (fun c_8 => ?_) (fun c_8 => ?_)
            · have hf := i_t c_8 hf
              refine lv_iinc (v := v3_1 + (1 : Int32)) (lv' := [(3, .int (v3_1 + (1 : Int32))), (4, .int v4_4), (0, .ref (X.ad k0)), (1, .ref (X.ad k1)), (2, .int x2)]) hx hb dX1_meetsOther_39 hl (k := 1) rfl rfl (by decide) rfl (fun ls hl => ?_)
              refine lv_goto (tgt := 2) hx hb dX1_meetsOther_42 (by decide) ?_
              exact hkc2 _ (Option.some.inj hf).symm H locs ls hP hS (lv_sub hl [0, 2, 3, 4] rfl)
            · have hf := i_f c_8 hf
              refine lv_iconst (v := (1 : Int32)) hx hb dX1_meetsOther_37 (by decide) ?_
              have hf := (hke2 _ (Option.some.inj hf).symm).2 _ rfl
              exact ret_z hx hb hr hlocks hP hS isZ_1 hf dX1_meetsOther_38
    · refine ⟨?_, ?_⟩
      · intro  e H locs ls hP hS hl
        subst o2
        have hf := el_l hf
        refine lv_iconst (v := (0 : Int32)) hx hb dX1_meetsOther_45 (by decide) ?_
        have hf := Option.some.inj hf
        exact ret_z hx hb hr hlocks hP hS isZ_0 hf dX1_meetsOther_46
      · intro rr e
        subst o2
        have hf := el_r hf
        exact Option.some.inj hf
  exact key s.heap [] hP hS
theorem hd_X1_meetsOther : Hd yX1_meetsOther 2 := by decide +kernel
theorem k_X1_meetsOther {p : Program} {l : Launch} {e : Env} {R : Room} {s : State} {m : MethodId} {args : Array Value} {below : List Frame} {meth : Method} {c : Code} {H : Heap} {locs : List Loc} {cells slots : Nat} {Q : State → Prop} {cc : ByteArray} {nL pc index : Nat} {ls : Array Slot} {rest : List Value} {X : En} {M : Mem} {H0 : Heap} {own : String} {g : Nat} {k0 : Nat} {k1 : Nat} {x2 : Int32} {r : Int32} (hZ : Fx p c m s args X cc nL own) (hP : wd X M H) (hS : va_S X.A H0 H locs) (hsz : ls.size = nL) (hlk : Cond.methodLink own index yX1_meetsOther ∈ lw_u) (hR : 2 + 1 ≤ R.frames ∧ 8 + (5 + 11) + 44 ≤ R.locals) (hW : (rest.map fun v => v.category).sum ≤ 8) (hdg : decode cc pc = .ok (.invokevirtual index, 3)) (hcs : cells ≤ R.cells ∧ slots ≤ R.slots) (hk0 : isF k0) (hk1 : isB k1) (hf : fn_X1_meetsOther g k0 k1 x2 M = some r)
    (kk : ∀ (H1 : Heap) (locs1 : List Loc), wd X M H1 → va_S X.A H0 H1 locs1 → W p l e R s m args below meth c H1 locs1 cells slots Q (F0 m (pc + 3) ls (.int r :: rest))) : W p l e R s m args below meth c H locs cells slots Q (F0 m pc ls (.int x2 :: .ref (X.ad k1) :: .ref (X.ad k0) :: rest)) :=
  cal_i (runV (As := [.ref (X.ad k1), .int x2]) (rest := rest) hZ.1 hZ.2.1 hZ.2.2.1 hZ.2.2.2.1 hZ.2.2.2.2.1 hZ.2.2.2.2.2 hP (c_X1_meetsOther g k0 k1 x2 M hk0 hk1 r hf) wd_2_54 wd_2_52 wd_2_53 wd_1_2 hd_X1_meetsOther (isF_lt0 hk0) (rd_F0 hk0 _) rfl rfl hlk hR hsz rfl hW hdg hcs) hS kk
/-! FrameRaiser$Frame.addBox -/
def bd_X1_addBox_21 (g : Nat) (k0 : Nat) (k1 : Nat) (x2 : Int32) : (Int32 × Mem) → Option ((Int32 × Mem) ⊕ (Mem)) :=
  u2 fun v3_4 M_5 =>
  if (216 : Int32) ≤ v3_4 then
    (some (.inr M_5))
  else
    ((fn_X0_contains g k1 v3_4 M_5).bind fun r_8 =>
    if r_8 = 0 then
      (some (.inl (v3_4 + (1 : Int32), M_5)))
    else
      (if inb v3_4 216 then
      bv (st M_5 (k0 + 1) (ix v3_4) x2) fun M_10 =>
      some (.inl (v3_4 + (1 : Int32), M_10))
      else none))
def fn_X1_addBox (g : Nat) (k0 : Nat) (k1 : Nat) (x2 : Int32) (M : Mem) : Option (Mem) :=
  if x2 < 0 then
    (some M)
  else
    (if (M k0 2) < x2 then
      (some M)
    else
      (if x2 < (8 : Int32) then
        ((lpN g (bd_X1_addBox_21 g k0 k1 x2) ((0 : Int32), M)).bind (u1 fun M_6 =>
          if inb x2 8 then
          if inb x2 8 then
          bv (st M_6 (k0 + 2) (ix x2) ((M_6 (k0 + 2) (ix x2)) + (1 : Int32))) fun M_13 =>
          if x2 = (M_13 k0 2) then
            (bv (st M_13 k0 2 ((M_13 k0 2) + (1 : Int32))) fun M_16 =>
            some M_16)
          else
            (some M_13)
          else none
          else none))
      else
        (some M)))
theorem dX1_addBox_0 : decode cX1_addBox 0 = .ok (.iload_n 2, 1) := by decide +kernel
theorem dX1_addBox_1 : decode cX1_addBox 1 = .ok (.ifCond .lt 17, 3) := by decide +kernel
theorem dX1_addBox_4 : decode cX1_addBox 4 = .ok (.iload_n 2, 1) := by decide +kernel
theorem dX1_addBox_5 : decode cX1_addBox 5 = .ok (.aload_n 0, 1) := by decide +kernel
theorem dX1_addBox_6 : decode cX1_addBox 6 = .ok (.getfield 21, 3) := by decide +kernel
theorem dX1_addBox_9 : decode cX1_addBox 9 = .ok (.if_icmp .gt 9, 3) := by decide +kernel
theorem dX1_addBox_12 : decode cX1_addBox 12 = .ok (.iload_n 2, 1) := by decide +kernel
theorem dX1_addBox_13 : decode cX1_addBox 13 = .ok (.bipush 8, 2) := by decide +kernel
theorem dX1_addBox_15 : decode cX1_addBox 15 = .ok (.if_icmp .lt 4, 3) := by decide +kernel
theorem dX1_addBox_18 : decode cX1_addBox 18 = .ok (.return_, 1) := by decide +kernel
theorem dX1_addBox_19 : decode cX1_addBox 19 = .ok (.iconst 0, 1) := by decide +kernel
theorem dX1_addBox_20 : decode cX1_addBox 20 = .ok (.istore_n 3, 1) := by decide +kernel
theorem dX1_addBox_21 : decode cX1_addBox 21 = .ok (.iload_n 3, 1) := by decide +kernel
theorem dX1_addBox_22 : decode cX1_addBox 22 = .ok (.sipush 216, 3) := by decide +kernel
theorem dX1_addBox_25 : decode cX1_addBox 25 = .ok (.if_icmp .ge 24, 3) := by decide +kernel
theorem dX1_addBox_28 : decode cX1_addBox 28 = .ok (.aload_n 1, 1) := by decide +kernel
theorem dX1_addBox_29 : decode cX1_addBox 29 = .ok (.iload_n 3, 1) := by decide +kernel
theorem dX1_addBox_30 : decode cX1_addBox 30 = .ok (.invokevirtual 37, 3) := by decide +kernel
theorem dX1_addBox_33 : decode cX1_addBox 33 = .ok (.ifCond .eq 10, 3) := by decide +kernel
theorem dX1_addBox_36 : decode cX1_addBox 36 = .ok (.aload_n 0, 1) := by decide +kernel
theorem dX1_addBox_37 : decode cX1_addBox 37 = .ok (.getfield 9, 3) := by decide +kernel
theorem dX1_addBox_40 : decode cX1_addBox 40 = .ok (.iload_n 3, 1) := by decide +kernel
theorem dX1_addBox_41 : decode cX1_addBox 41 = .ok (.iload_n 2, 1) := by decide +kernel
theorem dX1_addBox_42 : decode cX1_addBox 42 = .ok (.iastore, 1) := by decide +kernel
theorem dX1_addBox_43 : decode cX1_addBox 43 = .ok (.iinc 3 1, 3) := by decide +kernel
theorem dX1_addBox_46 : decode cX1_addBox 46 = .ok (.goto (-25), 3) := by decide +kernel
theorem dX1_addBox_49 : decode cX1_addBox 49 = .ok (.aload_n 0, 1) := by decide +kernel
theorem dX1_addBox_50 : decode cX1_addBox 50 = .ok (.getfield 15, 3) := by decide +kernel
theorem dX1_addBox_53 : decode cX1_addBox 53 = .ok (.iload_n 2, 1) := by decide +kernel
theorem dX1_addBox_54 : decode cX1_addBox 54 = .ok (.dup2, 1) := by decide +kernel
theorem dX1_addBox_55 : decode cX1_addBox 55 = .ok (.iaload, 1) := by decide +kernel
theorem dX1_addBox_56 : decode cX1_addBox 56 = .ok (.iconst 1, 1) := by decide +kernel
theorem dX1_addBox_57 : decode cX1_addBox 57 = .ok (.iadd, 1) := by decide +kernel
theorem dX1_addBox_58 : decode cX1_addBox 58 = .ok (.iastore, 1) := by decide +kernel
theorem dX1_addBox_59 : decode cX1_addBox 59 = .ok (.iload_n 2, 1) := by decide +kernel
theorem dX1_addBox_60 : decode cX1_addBox 60 = .ok (.aload_n 0, 1) := by decide +kernel
theorem dX1_addBox_61 : decode cX1_addBox 61 = .ok (.getfield 21, 3) := by decide +kernel
theorem dX1_addBox_64 : decode cX1_addBox 64 = .ok (.if_icmp .ne 13, 3) := by decide +kernel
theorem dX1_addBox_67 : decode cX1_addBox 67 = .ok (.aload_n 0, 1) := by decide +kernel
theorem dX1_addBox_68 : decode cX1_addBox 68 = .ok (.dup, 1) := by decide +kernel
theorem dX1_addBox_69 : decode cX1_addBox 69 = .ok (.getfield 21, 3) := by decide +kernel
theorem dX1_addBox_72 : decode cX1_addBox 72 = .ok (.iconst 1, 1) := by decide +kernel
theorem dX1_addBox_73 : decode cX1_addBox 73 = .ok (.iadd, 1) := by decide +kernel
theorem dX1_addBox_74 : decode cX1_addBox 74 = .ok (.putfield 21, 3) := by decide +kernel
theorem dX1_addBox_77 : decode cX1_addBox 77 = .ok (.return_, 1) := by decide +kernel
set_option maxHeartbeats 4000000 in
set_option maxRecDepth 100000 in
theorem c_X1_addBox {l : Launch} {X : En} (g : Nat) (k0 : Nat) (k1 : Nat) (x2 : Int32) (M : Mem) (hk0 : isF k0) (hk1 : isB k1) (M9 : Mem) (hf : fn_X1_addBox g k0 k1 x2 M = some M9) : Cn l X yX1_addBox cX1_addBox 4 none 2 44 [.ref (X.ad k0), .ref (X.ad k1), .int x2] M (Qv X M9) := by
  refine Met.ofW (cc := cX1_addBox) (maxL := 4) (ret := none) (by decide) rfl ?_
  intro p e s m args below meth c s₁ B hml hv
  obtain ⟨rfl, hP, hk⟩ := hv
  have hx := B.exec
  have hb := B.bytes
  have hr := B.returns
  have hlocks := B.notSynchronized
  have hts : ∀ w ∈ lw_u, w.before ([.ref (X.ad k0), .ref (X.ad k1), .int x2] : List Value).toArray s = true := fun w hw => atoms_spec (ws := Cond.code yX1_addBox cX1_addBox 4 none :: lw_u) B.pre w (List.mem_cons_of_mem _ hw)
  have hown : s.vm.findClass RX1 = some m.cls := findClass_of_methodNamed B.named
  have hZ : Fx p c m s ([.ref (X.ad k0), .ref (X.ad k1), .int x2] : List Value).toArray X cX1_addBox 4 RX1 := ⟨hx, hb, hml, hts, hown, hk⟩
  have hS : va_S X.A s.heap s.heap [] := va_S.rf
  have hl := lv_entry ([.ref (X.ad k0), .ref (X.ad k1), .int x2]) (n := 4) (Nat.le_of_ble_eq_true rfl)
  rw [lg_entry_eq]
  generalize (lg_sl ([.ref (X.ad k0), .ref (X.ad k1), .int x2]) ++ List.replicate (4 - (lg_sl ([.ref (X.ad k0), .ref (X.ad k1), .int x2])).length) Slot.unset).toArray = ls at hl ⊢
  have hl : lv_has ls 4 [(0, .ref (X.ad k0)), (1, .ref (X.ad k1)), (2, .int x2)] := hl
  show WW p l e 2 44 s m [.ref (X.ad k0), .ref (X.ad k1), .int x2] below meth c X (Qv X M9) s.heap [] 0 ls []
  have hP : wd X M s.heap := hP
  unfold fn_X1_addBox at hf
  have key : ∀ (H : Heap) (locs : List Loc), wd X M H → va_S X.A s.heap H locs → WW p l e 2 44 s m [.ref (X.ad k0), .ref (X.ad k1), .int x2] below meth c X (Qv X M9) H locs 0 ls [] := by
    intro H locs hP hS
    refine lv_iload_n hx hb dX1_addBox_0 rfl (lv_at hl 2 rfl) ?_
    refine lv_if_lt (tgt := 18) hx hb dX1_addBox_1 (by decide) (fun c_1 => ?_) (fun c_1 => ?_)
    · have hf := i_t c_1 hf
      have hf := Option.some.inj hf
      rw [hf] at hP
      exact ret_v hx hb hr hlocks hP hS dX1_addBox_18
    · have hf := i_f c_1 hf
      refine lv_iload_n hx hb dX1_addBox_4 rfl (lv_at hl 2 rfl) ?_
      refine lv_aload_n hx hb dX1_addBox_5 rfl (lv_at hl 0 rfl) ?_
      refine gX1_2 hx hb hts hown hk hP hk0 wd_1_39 dX1_addBox_6 ?_
      refine lv_icmp_gt (tgt := 18) hx hb dX1_addBox_9 (by decide) (fun c_2 => ?_) (fun c_2 => ?_)
      · have hf := i_t c_2 hf
        have hf := Option.some.inj hf
        rw [hf] at hP
        exact ret_v hx hb hr hlocks hP hS dX1_addBox_18
      · have hf := i_f c_2 hf
        refine lv_iload_n hx hb dX1_addBox_12 rfl (lv_at hl 2 rfl) ?_
        refine lv_bipush (v := (8 : Int32)) hx hb dX1_addBox_13 (by decide) ?_
        refine lv_icmp_lt (tgt := 19) hx hb dX1_addBox_15 (by decide) (fun c_3 => ?_) (fun c_3 => ?_)
        · have hf := i_t c_3 hf
          refine lv_iconst (v := (0 : Int32)) hx hb dX1_addBox_19 (by decide) ?_
          refine lv_istore_n (lv' := [(3, .int (0 : Int32)), (0, .ref (X.ad k0)), (1, .ref (X.ad k1)), (2, .int x2)]) hx hb dX1_addBox_20 rfl hl (by decide) rfl (fun ls hl => ?_)
          obtain ⟨o21, ho21, hf⟩ := b_d hf
          refine lp_rule (b := bd_X1_addBox_21 g k0 k1 x2) (P := fun w : Int32 × Mem => ∀ (H : Heap) (locs : List Loc) (ls : Array Slot), wd X w.2 H → va_S X.A s.heap H locs → lv_has ls 4 [(3, .int w.1), (0, .ref (X.ad k0)), (1, .ref (X.ad k1)), (2, .int x2)] → WW p l e 2 44 s m [.ref (X.ad k0), .ref (X.ad k1), .int x2] below meth c X (Qv X M9) H locs 21 ls []) (K := fun o => ∀ (M_6 : Mem), o = M_6 → ∀ (H : Heap) (locs : List Loc) (ls : Array Slot), wd X M_6 H → va_S X.A s.heap H locs → lv_has ls 4 [(0, .ref (X.ad k0)), (2, .int x2)] → WW p l e 2 44 s m [.ref (X.ad k0), .ref (X.ad k1), .int x2] below meth c X (Qv X M9) H locs 49 ls []) ?_ g ((0 : Int32), M) o21 ho21 ?_ H locs ls hP hS (lv_sub hl [0, 1, 2, 3] rfl)
          · rintro ⟨v3_4, M_5⟩ o hf hkc21 hke21 H locs ls hP hS hl
            have hf := u2_e hf
            refine lv_iload_n hx hb dX1_addBox_21 rfl (lv_at hl 0 rfl) ?_
            refine lv_sipush (v := (216 : Int32)) hx hb dX1_addBox_22 (by decide) ?_
            refine lv_icmp_ge (tgt := 49) hx hb dX1_addBox_25 (by decide) (fun c_7 => ?_) (fun c_7 => ?_)
            · have hf := i_t c_7 hf
              exact hke21 _ (Option.some.inj hf).symm _ rfl H locs ls hP hS (lv_sub hl [1, 3] rfl)
            · have hf := i_f c_7 hf
              refine lv_aload_n hx hb dX1_addBox_28 rfl (lv_at hl 2 rfl) ?_
              refine lv_iload_n hx hb dX1_addBox_29 rfl (lv_at hl 0 rfl) ?_
              obtain ⟨r_8, h_r_8, hf⟩ := b_d hf
              refine k_X0_contains hZ hP hS hl.1 wd_2_55 ⟨Nat.le_of_ble_eq_true rfl, Nat.le_of_ble_eq_true rfl⟩ (Nat.le_of_ble_eq_true rfl) dX1_addBox_30 ⟨Nat.zero_le _, Nat.zero_le _⟩ hk1 h_r_8 (fun H locs hP hS => ?_)
              refine lv_if_eq (tgt := 43) hx hb dX1_addBox_33 (by decide) (fun c_9 => ?_) (fun c_9 => ?_)
              · have hf := i_t c_9 hf
                refine lv_iinc (v := v3_4 + (1 : Int32)) (lv' := [(3, .int (v3_4 + (1 : Int32))), (0, .ref (X.ad k0)), (1, .ref (X.ad k1)), (2, .int x2)]) hx hb dX1_addBox_43 hl (k := 0) rfl rfl (by decide) rfl (fun ls hl => ?_)
                refine lv_goto (tgt := 21) hx hb dX1_addBox_46 (by decide) ?_
                exact hkc21 _ (Option.some.inj hf).symm H locs ls hP hS (lv_sub hl [0, 1, 2, 3] rfl)
              · have hf := i_f c_9 hf
                refine lv_aload_n hx hb dX1_addBox_36 rfl (lv_at hl 1 rfl) ?_
                refine gX1_0 hx hb hts hown hk hP hk0 wd_1_31 dX1_addBox_37 ?_
                refine lv_iload_n hx hb dX1_addBox_40 rfl (lv_at hl 0 rfl) ?_
                refine lv_iload_n hx hb dX1_addBox_41 rfl (lv_at hl 3 rfl) ?_
                obtain ⟨q_11, hf⟩ := g_if hf
                refine ast hx hb hk hP hS (isF_lt1 hk0) (rd_F1 hk0) q_11 dX1_addBox_42 (fun H locs M_10 e_M_10 hP hS => ?_)
                have hf := b_v hf e_M_10
                refine lv_iinc (v := v3_4 + (1 : Int32)) (lv' := [(3, .int (v3_4 + (1 : Int32))), (0, .ref (X.ad k0)), (1, .ref (X.ad k1)), (2, .int x2)]) hx hb dX1_addBox_43 hl (k := 0) rfl rfl (by decide) rfl (fun ls hl => ?_)
                refine lv_goto (tgt := 21) hx hb dX1_addBox_46 (by decide) ?_
                exact hkc21 _ (Option.some.inj hf).symm H locs ls hP hS (lv_sub hl [0, 1, 2, 3] rfl)
          · intro M_6 e H locs ls hP hS hl
            subst o21
            have hf := u1_e hf
            refine lv_aload_n hx hb dX1_addBox_49 rfl (lv_at hl 0 rfl) ?_
            refine gX1_1 hx hb hts hown hk hP hk0 wd_1_35 dX1_addBox_50 ?_
            refine lv_iload_n hx hb dX1_addBox_53 rfl (lv_at hl 1 rfl) ?_
            refine lv_dup2_11 hx hb dX1_addBox_54 rfl rfl ?_
            obtain ⟨q_12, hf⟩ := g_if hf
            refine ald hx hb hk hP (isF_lt hk0) (rd_F2 hk0 _) q_12 dX1_addBox_55 ?_
            refine lv_iconst (v := (1 : Int32)) hx hb dX1_addBox_56 (by decide) ?_
            refine lv_iadd hx hb dX1_addBox_57 ?_
            obtain ⟨q_14, hf⟩ := g_if hf
            refine ast hx hb hk hP hS (isF_lt hk0) (rd_F2 hk0) q_14 dX1_addBox_58 (fun H locs M_13 e_M_13 hP hS => ?_)
            have hf := b_v hf e_M_13
            refine lv_iload_n hx hb dX1_addBox_59 rfl (lv_at hl 1 rfl) ?_
            refine lv_aload_n hx hb dX1_addBox_60 rfl (lv_at hl 0 rfl) ?_
            refine gX1_2 hx hb hts hown hk hP hk0 wd_1_39 dX1_addBox_61 ?_
            refine lv_icmp_ne (tgt := 77) hx hb dX1_addBox_64 (by decide) (fun c_15 => ?_) (fun c_15 => ?_)
            · have hf := i_f c_15 hf
              have hf := Option.some.inj hf
              rw [hf] at hP
              exact ret_v hx hb hr hlocks hP hS dX1_addBox_77
            · have hf := i_t c_15 hf
              refine lv_aload_n hx hb dX1_addBox_67 rfl (lv_at hl 0 rfl) ?_
              refine lv_dup hx hb dX1_addBox_68 rfl ?_
              refine gX1_2 hx hb hts hown hk hP hk0 wd_1_39 dX1_addBox_69 ?_
              refine lv_iconst (v := (1 : Int32)) hx hb dX1_addBox_72 (by decide) ?_
              refine lv_iadd hx hb dX1_addBox_73 ?_
              refine pX1_2 hx hb hts hown hk hP hS hk0 wd_1_39 dX1_addBox_74 (fun H locs M_16 e_M_16 hP hS => ?_)
              have hf := b_v hf e_M_16
              have hf := Option.some.inj hf
              rw [hf] at hP
              exact ret_v hx hb hr hlocks hP hS dX1_addBox_77
        · have hf := i_f c_3 hf
          have hf := Option.some.inj hf
          rw [hf] at hP
          exact ret_v hx hb hr hlocks hP hS dX1_addBox_18
  exact key s.heap [] hP hS
theorem hd_X1_addBox : Hd yX1_addBox 2 := by decide +kernel
theorem k_X1_addBox {p : Program} {l : Launch} {e : Env} {R : Room} {s : State} {m : MethodId} {args : Array Value} {below : List Frame} {meth : Method} {c : Code} {H : Heap} {locs : List Loc} {cells slots : Nat} {Q : State → Prop} {cc : ByteArray} {nL pc index : Nat} {ls : Array Slot} {rest : List Value} {X : En} {M : Mem} {H0 : Heap} {own : String} {g : Nat} {k0 : Nat} {k1 : Nat} {x2 : Int32} {M9 : Mem} (hZ : Fx p c m s args X cc nL own) (hP : wd X M H) (hS : va_S X.A H0 H locs) (hsz : ls.size = nL) (hlk : Cond.methodLink own index yX1_addBox ∈ lw_u) (hR : 2 + 1 ≤ R.frames ∧ 8 + (4 + 11) + 44 ≤ R.locals) (hW : (rest.map fun v => v.category).sum ≤ 8) (hdg : decode cc pc = .ok (.invokevirtual index, 3)) (hcs : cells ≤ R.cells ∧ slots ≤ R.slots) (hk0 : isF k0) (hk1 : isB k1) (hf : fn_X1_addBox g k0 k1 x2 M = some M9)
    (kk : ∀ (H1 : Heap) (locs1 : List Loc), wd X M9 H1 → va_S X.A H0 H1 locs1 → W p l e R s m args below meth c H1 locs1 cells slots Q (F0 m (pc + 3) ls rest)) : W p l e R s m args below meth c H locs cells slots Q (F0 m pc ls (.int x2 :: .ref (X.ad k1) :: .ref (X.ad k0) :: rest)) :=
  cal_v (runV (As := [.ref (X.ad k1), .int x2]) (rest := rest) hZ.1 hZ.2.1 hZ.2.2.1 hZ.2.2.2.1 hZ.2.2.2.2.1 hZ.2.2.2.2.2 hP (c_X1_addBox g k0 k1 x2 M hk0 hk1 M9 hf) wd_2_65 wd_2_63 wd_2_64 wd_1_2 hd_X1_addBox (isF_lt0 hk0) (rd_F0 hk0 _) rfl rfl hlk hR hsz rfl hW hdg hcs) hS kk
/-! FrameRaiser$Text.readDigit -/
def fn_X6_readDigit (g : Nat) (x1 : Int32) (k2 : Nat) (M : Mem) : Option (Int32 × Mem) :=
  if x1 < (48 : Int32) then
    (some ((1 : Int32), M))
  else
    (if x1 ≤ (57 : Int32) then
      ((fn_X0_take 49 (M 47 5) (x1 - (48 : Int32)) M).bind (u2 fun r_3 M_4 =>
      if r_3 = 0 then
        (some ((2 : Int32), M_4))
      else
        (bv (st M_4 47 5 ((M_4 47 5) + (1 : Int32))) fun M_6 =>
        bv (st M_6 47 4 (2 : Int32)) fun M_7 =>
        if (6 : Int32) ≤ (M_7 47 5) then
          ((fn_X1_meetsOther g k2 49 (M_7 47 6) M_7).bind fun r_9 =>
          if r_9 = 0 then
            ((fn_X1_addBox g k2 49 (M_7 47 6) M_7).bind fun M_11 =>
            bv (st M_11 47 5 (0 : Int32)) fun M_12 =>
            bv (st M_12 47 4 (3 : Int32)) fun M_13 =>
            some ((0 : Int32), M_13))
          else
            (some ((3 : Int32), M_7)))
        else
          (some ((0 : Int32), M_7)))))
    else
      (some ((1 : Int32), M)))
theorem dX6_readDigit_0 : decode cX6_readDigit 0 = .ok (.iload_n 1, 1) := by decide +kernel
theorem dX6_readDigit_1 : decode cX6_readDigit 1 = .ok (.bipush 48, 2) := by decide +kernel
theorem dX6_readDigit_3 : decode cX6_readDigit 3 = .ok (.if_icmp .lt 9, 3) := by decide +kernel
theorem dX6_readDigit_6 : decode cX6_readDigit 6 = .ok (.iload_n 1, 1) := by decide +kernel
theorem dX6_readDigit_7 : decode cX6_readDigit 7 = .ok (.bipush 57, 2) := by decide +kernel
theorem dX6_readDigit_9 : decode cX6_readDigit 9 = .ok (.if_icmp .le 5, 3) := by decide +kernel
theorem dX6_readDigit_12 : decode cX6_readDigit 12 = .ok (.iconst 1, 1) := by decide +kernel
theorem dX6_readDigit_13 : decode cX6_readDigit 13 = .ok (.ireturn, 1) := by decide +kernel
theorem dX6_readDigit_14 : decode cX6_readDigit 14 = .ok (.aload_n 0, 1) := by decide +kernel
theorem dX6_readDigit_15 : decode cX6_readDigit 15 = .ok (.getfield 18, 3) := by decide +kernel
theorem dX6_readDigit_18 : decode cX6_readDigit 18 = .ok (.aload_n 0, 1) := by decide +kernel
theorem dX6_readDigit_19 : decode cX6_readDigit 19 = .ok (.getfield 34, 3) := by decide +kernel
theorem dX6_readDigit_22 : decode cX6_readDigit 22 = .ok (.iload_n 1, 1) := by decide +kernel
theorem dX6_readDigit_23 : decode cX6_readDigit 23 = .ok (.bipush 48, 2) := by decide +kernel
theorem dX6_readDigit_25 : decode cX6_readDigit 25 = .ok (.isub, 1) := by decide +kernel
theorem dX6_readDigit_26 : decode cX6_readDigit 26 = .ok (.invokevirtual 53, 3) := by decide +kernel
theorem dX6_readDigit_29 : decode cX6_readDigit 29 = .ok (.ifCond .ne 5, 3) := by decide +kernel
theorem dX6_readDigit_32 : decode cX6_readDigit 32 = .ok (.iconst 2, 1) := by decide +kernel
theorem dX6_readDigit_33 : decode cX6_readDigit 33 = .ok (.ireturn, 1) := by decide +kernel
theorem dX6_readDigit_34 : decode cX6_readDigit 34 = .ok (.aload_n 0, 1) := by decide +kernel
theorem dX6_readDigit_35 : decode cX6_readDigit 35 = .ok (.dup, 1) := by decide +kernel
theorem dX6_readDigit_36 : decode cX6_readDigit 36 = .ok (.getfield 34, 3) := by decide +kernel
theorem dX6_readDigit_39 : decode cX6_readDigit 39 = .ok (.iconst 1, 1) := by decide +kernel
theorem dX6_readDigit_40 : decode cX6_readDigit 40 = .ok (.iadd, 1) := by decide +kernel
theorem dX6_readDigit_41 : decode cX6_readDigit 41 = .ok (.putfield 34, 3) := by decide +kernel
theorem dX6_readDigit_44 : decode cX6_readDigit 44 = .ok (.aload_n 0, 1) := by decide +kernel
theorem dX6_readDigit_45 : decode cX6_readDigit 45 = .ok (.iconst 2, 1) := by decide +kernel
theorem dX6_readDigit_46 : decode cX6_readDigit 46 = .ok (.putfield 31, 3) := by decide +kernel
theorem dX6_readDigit_49 : decode cX6_readDigit 49 = .ok (.aload_n 0, 1) := by decide +kernel
theorem dX6_readDigit_50 : decode cX6_readDigit 50 = .ok (.getfield 34, 3) := by decide +kernel
theorem dX6_readDigit_53 : decode cX6_readDigit 53 = .ok (.bipush 6, 2) := by decide +kernel
theorem dX6_readDigit_55 : decode cX6_readDigit 55 = .ok (.if_icmp .ge 5, 3) := by decide +kernel
theorem dX6_readDigit_58 : decode cX6_readDigit 58 = .ok (.iconst 0, 1) := by decide +kernel
theorem dX6_readDigit_59 : decode cX6_readDigit 59 = .ok (.ireturn, 1) := by decide +kernel
theorem dX6_readDigit_60 : decode cX6_readDigit 60 = .ok (.aload_n 2, 1) := by decide +kernel
theorem dX6_readDigit_61 : decode cX6_readDigit 61 = .ok (.aload_n 0, 1) := by decide +kernel
theorem dX6_readDigit_62 : decode cX6_readDigit 62 = .ok (.getfield 18, 3) := by decide +kernel
theorem dX6_readDigit_65 : decode cX6_readDigit 65 = .ok (.aload_n 0, 1) := by decide +kernel
theorem dX6_readDigit_66 : decode cX6_readDigit 66 = .ok (.getfield 37, 3) := by decide +kernel
theorem dX6_readDigit_69 : decode cX6_readDigit 69 = .ok (.invokevirtual 57, 3) := by decide +kernel
theorem dX6_readDigit_72 : decode cX6_readDigit 72 = .ok (.ifCond .eq 5, 3) := by decide +kernel
theorem dX6_readDigit_75 : decode cX6_readDigit 75 = .ok (.iconst 3, 1) := by decide +kernel
theorem dX6_readDigit_76 : decode cX6_readDigit 76 = .ok (.ireturn, 1) := by decide +kernel
theorem dX6_readDigit_77 : decode cX6_readDigit 77 = .ok (.aload_n 2, 1) := by decide +kernel
theorem dX6_readDigit_78 : decode cX6_readDigit 78 = .ok (.aload_n 0, 1) := by decide +kernel
theorem dX6_readDigit_79 : decode cX6_readDigit 79 = .ok (.getfield 18, 3) := by decide +kernel
theorem dX6_readDigit_82 : decode cX6_readDigit 82 = .ok (.aload_n 0, 1) := by decide +kernel
theorem dX6_readDigit_83 : decode cX6_readDigit 83 = .ok (.getfield 37, 3) := by decide +kernel
theorem dX6_readDigit_86 : decode cX6_readDigit 86 = .ok (.invokevirtual 61, 3) := by decide +kernel
theorem dX6_readDigit_89 : decode cX6_readDigit 89 = .ok (.aload_n 0, 1) := by decide +kernel
theorem dX6_readDigit_90 : decode cX6_readDigit 90 = .ok (.iconst 0, 1) := by decide +kernel
theorem dX6_readDigit_91 : decode cX6_readDigit 91 = .ok (.putfield 34, 3) := by decide +kernel
theorem dX6_readDigit_94 : decode cX6_readDigit 94 = .ok (.aload_n 0, 1) := by decide +kernel
theorem dX6_readDigit_95 : decode cX6_readDigit 95 = .ok (.iconst 3, 1) := by decide +kernel
theorem dX6_readDigit_96 : decode cX6_readDigit 96 = .ok (.putfield 31, 3) := by decide +kernel
theorem dX6_readDigit_99 : decode cX6_readDigit 99 = .ok (.iconst 0, 1) := by decide +kernel
theorem dX6_readDigit_100 : decode cX6_readDigit 100 = .ok (.ireturn, 1) := by decide +kernel
set_option maxHeartbeats 4000000 in
set_option maxRecDepth 100000 in
theorem c_X6_readDigit {l : Launch} {X : En} (g : Nat) (x1 : Int32) (k2 : Nat) (M : Mem) (hk2 : isF k2) (r : Int32) (M9 : Mem) (hf : fn_X6_readDigit g x1 k2 M = some (r, M9)) : Cn l X yX6_readDigit cX6_readDigit 3 (some .int) 3 68 [.ref (X.ad 47), .int x1, .ref (X.ad k2)] M (Qi X r M9) := by
  refine Met.ofW (cc := cX6_readDigit) (maxL := 3) (ret := (some .int)) (by decide) rfl ?_
  intro p e s m args below meth c s₁ B hml hv
  obtain ⟨rfl, hP, hk⟩ := hv
  have hx := B.exec
  have hb := B.bytes
  have hr := B.returns
  have hlocks := B.notSynchronized
  have hts : ∀ w ∈ lw_u, w.before ([.ref (X.ad 47), .int x1, .ref (X.ad k2)] : List Value).toArray s = true := fun w hw => atoms_spec (ws := Cond.code yX6_readDigit cX6_readDigit 3 (some .int) :: lw_u) B.pre w (List.mem_cons_of_mem _ hw)
  have hown : s.vm.findClass RX6 = some m.cls := findClass_of_methodNamed B.named
  have hZ : Fx p c m s ([.ref (X.ad 47), .int x1, .ref (X.ad k2)] : List Value).toArray X cX6_readDigit 3 RX6 := ⟨hx, hb, hml, hts, hown, hk⟩
  have hS : va_S X.A s.heap s.heap [] := va_S.rf
  have hl := lv_entry ([.ref (X.ad 47), .int x1, .ref (X.ad k2)]) (n := 3) (Nat.le_of_ble_eq_true rfl)
  rw [lg_entry_eq]
  generalize (lg_sl ([.ref (X.ad 47), .int x1, .ref (X.ad k2)]) ++ List.replicate (3 - (lg_sl ([.ref (X.ad 47), .int x1, .ref (X.ad k2)])).length) Slot.unset).toArray = ls at hl ⊢
  have hl : lv_has ls 3 [(0, .ref (X.ad 47)), (1, .int x1), (2, .ref (X.ad k2))] := hl
  show WW p l e 3 68 s m [.ref (X.ad 47), .int x1, .ref (X.ad k2)] below meth c X (Qi X r M9) s.heap [] 0 ls []
  have hP : wd X M s.heap := hP
  unfold fn_X6_readDigit at hf
  have key : ∀ (H : Heap) (locs : List Loc), wd X M H → va_S X.A s.heap H locs → WW p l e 3 68 s m [.ref (X.ad 47), .int x1, .ref (X.ad k2)] below meth c X (Qi X r M9) H locs 0 ls [] := by
    intro H locs hP hS
    refine lv_iload_n hx hb dX6_readDigit_0 rfl (lv_at hl 1 rfl) ?_
    refine lv_bipush (v := (48 : Int32)) hx hb dX6_readDigit_1 (by decide) ?_
    refine lv_icmp_lt (tgt := 12) hx hb dX6_readDigit_3 (by decide) (fun c_1 => ?_) (fun c_1 => ?_)
    · have hf := i_t c_1 hf
      refine lv_iconst (v := (1 : Int32)) hx hb dX6_readDigit_12 (by decide) ?_
      have hf := Option.some.inj hf
      obtain ⟨e1, e2⟩ := Prod.mk.inj hf
      rw [e2] at hP
      exact ret_i hx hb hr hlocks hP hS e1 dX6_readDigit_13
    · have hf := i_f c_1 hf
      refine lv_iload_n hx hb dX6_readDigit_6 rfl (lv_at hl 1 rfl) ?_
      refine lv_bipush (v := (57 : Int32)) hx hb dX6_readDigit_7 (by decide) ?_
      refine lv_icmp_le (tgt := 14) hx hb dX6_readDigit_9 (by decide) (fun c_2 => ?_) (fun c_2 => ?_)
      · have hf := i_t c_2 hf
        refine lv_aload_n hx hb dX6_readDigit_14 rfl (lv_at hl 0 rfl) ?_
        refine gX6_3 hx hb hts hown hk hP wd_1_192 dX6_readDigit_15 ?_
        refine lv_aload_n hx hb dX6_readDigit_18 rfl (lv_at hl 0 rfl) ?_
        refine gX6_5 hx hb hts hown hk hP wd_1_194 dX6_readDigit_19 ?_
        refine lv_iload_n hx hb dX6_readDigit_22 rfl (lv_at hl 1 rfl) ?_
        refine lv_bipush (v := (48 : Int32)) hx hb dX6_readDigit_23 (by decide) ?_
        refine lv_isub hx hb dX6_readDigit_25 ?_
        obtain ⟨⟨r_3, M_4⟩, h_r_3, hf⟩ := b_d hf
        have hf := u2_e hf
        refine k_X0_take hZ hP hS hl.1 wd_2_47 ⟨Nat.le_of_ble_eq_true rfl, Nat.le_of_ble_eq_true rfl⟩ (Nat.le_of_ble_eq_true rfl) dX6_readDigit_26 ⟨Nat.zero_le _, Nat.zero_le _⟩ isB_49 h_r_3 (fun H locs hP hS => ?_)
        refine lv_if_ne (tgt := 34) hx hb dX6_readDigit_29 (by decide) (fun c_5 => ?_) (fun c_5 => ?_)
        · have hf := i_f c_5 hf
          refine lv_aload_n hx hb dX6_readDigit_34 rfl (lv_at hl 0 rfl) ?_
          refine lv_dup hx hb dX6_readDigit_35 rfl ?_
          refine gX6_5 hx hb hts hown hk hP wd_1_194 dX6_readDigit_36 ?_
          refine lv_iconst (v := (1 : Int32)) hx hb dX6_readDigit_39 (by decide) ?_
          refine lv_iadd hx hb dX6_readDigit_40 ?_
          refine pX6_5 hx hb hts hown hk hP hS wd_1_194 dX6_readDigit_41 (fun H locs M_6 e_M_6 hP hS => ?_)
          have hf := b_v hf e_M_6
          refine lv_aload_n hx hb dX6_readDigit_44 rfl (lv_at hl 0 rfl) ?_
          refine lv_iconst (v := (2 : Int32)) hx hb dX6_readDigit_45 (by decide) ?_
          refine pX6_4 hx hb hts hown hk hP hS wd_1_193 dX6_readDigit_46 (fun H locs M_7 e_M_7 hP hS => ?_)
          have hf := b_v hf e_M_7
          refine lv_aload_n hx hb dX6_readDigit_49 rfl (lv_at hl 0 rfl) ?_
          refine gX6_5 hx hb hts hown hk hP wd_1_194 dX6_readDigit_50 ?_
          refine lv_bipush (v := (6 : Int32)) hx hb dX6_readDigit_53 (by decide) ?_
          refine lv_icmp_ge (tgt := 60) hx hb dX6_readDigit_55 (by decide) (fun c_8 => ?_) (fun c_8 => ?_)
          · have hf := i_t c_8 hf
            refine lv_aload_n hx hb dX6_readDigit_60 rfl (lv_at hl 2 rfl) ?_
            refine lv_aload_n hx hb dX6_readDigit_61 rfl (lv_at hl 0 rfl) ?_
            refine gX6_3 hx hb hts hown hk hP wd_1_192 dX6_readDigit_62 ?_
            refine lv_aload_n hx hb dX6_readDigit_65 rfl (lv_at hl 0 rfl) ?_
            refine gX6_6 hx hb hts hown hk hP wd_1_195 dX6_readDigit_66 ?_
            obtain ⟨r_9, h_r_9, hf⟩ := b_d hf
            refine k_X1_meetsOther hZ hP hS hl.1 wd_2_51 ⟨Nat.le_of_ble_eq_true rfl, Nat.le_of_ble_eq_true rfl⟩ (Nat.le_of_ble_eq_true rfl) dX6_readDigit_69 ⟨Nat.zero_le _, Nat.zero_le _⟩ hk2 isB_49 h_r_9 (fun H locs hP hS => ?_)
            refine lv_if_eq (tgt := 77) hx hb dX6_readDigit_72 (by decide) (fun c_10 => ?_) (fun c_10 => ?_)
            · have hf := i_t c_10 hf
              refine lv_aload_n hx hb dX6_readDigit_77 rfl (lv_at hl 2 rfl) ?_
              refine lv_aload_n hx hb dX6_readDigit_78 rfl (lv_at hl 0 rfl) ?_
              refine gX6_3 hx hb hts hown hk hP wd_1_192 dX6_readDigit_79 ?_
              refine lv_aload_n hx hb dX6_readDigit_82 rfl (lv_at hl 0 rfl) ?_
              refine gX6_6 hx hb hts hown hk hP wd_1_195 dX6_readDigit_83 ?_
              obtain ⟨M_11, h_M_11, hf⟩ := b_d hf
              refine k_X1_addBox hZ hP hS hl.1 wd_2_62 ⟨Nat.le_of_ble_eq_true rfl, Nat.le_of_ble_eq_true rfl⟩ (Nat.le_of_ble_eq_true rfl) dX6_readDigit_86 ⟨Nat.zero_le _, Nat.zero_le _⟩ hk2 isB_49 h_M_11 (fun H locs hP hS => ?_)
              refine lv_aload_n hx hb dX6_readDigit_89 rfl (lv_at hl 0 rfl) ?_
              refine lv_iconst (v := (0 : Int32)) hx hb dX6_readDigit_90 (by decide) ?_
              refine pX6_5 hx hb hts hown hk hP hS wd_1_194 dX6_readDigit_91 (fun H locs M_12 e_M_12 hP hS => ?_)
              have hf := b_v hf e_M_12
              refine lv_aload_n hx hb dX6_readDigit_94 rfl (lv_at hl 0 rfl) ?_
              refine lv_iconst (v := (3 : Int32)) hx hb dX6_readDigit_95 (by decide) ?_
              refine pX6_4 hx hb hts hown hk hP hS wd_1_193 dX6_readDigit_96 (fun H locs M_13 e_M_13 hP hS => ?_)
              have hf := b_v hf e_M_13
              refine lv_iconst (v := (0 : Int32)) hx hb dX6_readDigit_99 (by decide) ?_
              have hf := Option.some.inj hf
              obtain ⟨e1, e2⟩ := Prod.mk.inj hf
              rw [e2] at hP
              exact ret_i hx hb hr hlocks hP hS e1 dX6_readDigit_100
            · have hf := i_f c_10 hf
              refine lv_iconst (v := (3 : Int32)) hx hb dX6_readDigit_75 (by decide) ?_
              have hf := Option.some.inj hf
              obtain ⟨e1, e2⟩ := Prod.mk.inj hf
              rw [e2] at hP
              exact ret_i hx hb hr hlocks hP hS e1 dX6_readDigit_76
          · have hf := i_f c_8 hf
            refine lv_iconst (v := (0 : Int32)) hx hb dX6_readDigit_58 (by decide) ?_
            have hf := Option.some.inj hf
            obtain ⟨e1, e2⟩ := Prod.mk.inj hf
            rw [e2] at hP
            exact ret_i hx hb hr hlocks hP hS e1 dX6_readDigit_59
        · have hf := i_t c_5 hf
          refine lv_iconst (v := (2 : Int32)) hx hb dX6_readDigit_32 (by decide) ?_
          have hf := Option.some.inj hf
          obtain ⟨e1, e2⟩ := Prod.mk.inj hf
          rw [e2] at hP
          exact ret_i hx hb hr hlocks hP hS e1 dX6_readDigit_33
      · have hf := i_f c_2 hf
        refine lv_iconst (v := (1 : Int32)) hx hb dX6_readDigit_12 (by decide) ?_
        have hf := Option.some.inj hf
        obtain ⟨e1, e2⟩ := Prod.mk.inj hf
        rw [e2] at hP
        exact ret_i hx hb hr hlocks hP hS e1 dX6_readDigit_13
  exact key s.heap [] hP hS
theorem hd_X6_readDigit : Hd yX6_readDigit 2 := by decide +kernel
theorem k_X6_readDigit {p : Program} {l : Launch} {e : Env} {R : Room} {s : State} {m : MethodId} {args : Array Value} {below : List Frame} {meth : Method} {c : Code} {H : Heap} {locs : List Loc} {cells slots : Nat} {Q : State → Prop} {cc : ByteArray} {nL pc index : Nat} {ls : Array Slot} {rest : List Value} {X : En} {M : Mem} {H0 : Heap} {own : String} {g : Nat} {x1 : Int32} {k2 : Nat} {r : Int32} {M9 : Mem} (hZ : Fx p c m s args X cc nL own) (hP : wd X M H) (hS : va_S X.A H0 H locs) (hsz : ls.size = nL) (hlk : Cond.methodLink own index yX6_readDigit ∈ lw_u) (hR : 3 + 1 ≤ R.frames ∧ 8 + (3 + 11) + 68 ≤ R.locals) (hW : (rest.map fun v => v.category).sum ≤ 8) (hdg : decode cc pc = .ok (.invokevirtual index, 3)) (hcs : cells ≤ R.cells ∧ slots ≤ R.slots) (hk2 : isF k2) (hf : fn_X6_readDigit g x1 k2 M = some (r, M9))
    (kk : ∀ (H1 : Heap) (locs1 : List Loc), wd X M9 H1 → va_S X.A H0 H1 locs1 → W p l e R s m args below meth c H1 locs1 cells slots Q (F0 m (pc + 3) ls (.int r :: rest))) : W p l e R s m args below meth c H locs cells slots Q (F0 m pc ls (.ref (X.ad k2) :: .int x1 :: .ref (X.ad 47) :: rest)) :=
  cal_i (runV (As := [.int x1, .ref (X.ad k2)]) (rest := rest) hZ.1 hZ.2.1 hZ.2.2.1 hZ.2.2.2.1 hZ.2.2.2.2.1 hZ.2.2.2.2.2 hP (c_X6_readDigit g x1 k2 M hk2 r M9 hf) wd_2_46 wd_2_45 wd_p_3 wd_1_7 hd_X6_readDigit (by decide) rfl rfl rfl hlk hR hsz rfl hW hdg hcs) hS kk
/-! FrameRaiser$Text.beginPiece -/
def fn_X6_beginPiece (M : Mem) : Option (Int32 × Mem) :=
  if (M 47 6) < (7 : Int32) then
    (bv (st M 47 6 ((M 47 6) + (1 : Int32))) fun M_2 =>
    bv (st M_2 47 4 (1 : Int32)) fun M_3 =>
    some ((0 : Int32), M_3))
  else
    (some ((4 : Int32), M))
theorem dX6_beginPiece_0 : decode cX6_beginPiece 0 = .ok (.aload_n 0, 1) := by decide +kernel
theorem dX6_beginPiece_1 : decode cX6_beginPiece 1 = .ok (.getfield 37, 3) := by decide +kernel
theorem dX6_beginPiece_4 : decode cX6_beginPiece 4 = .ok (.bipush 7, 2) := by decide +kernel
theorem dX6_beginPiece_6 : decode cX6_beginPiece 6 = .ok (.if_icmp .lt 5, 3) := by decide +kernel
theorem dX6_beginPiece_9 : decode cX6_beginPiece 9 = .ok (.iconst 4, 1) := by decide +kernel
theorem dX6_beginPiece_10 : decode cX6_beginPiece 10 = .ok (.ireturn, 1) := by decide +kernel
theorem dX6_beginPiece_11 : decode cX6_beginPiece 11 = .ok (.aload_n 0, 1) := by decide +kernel
theorem dX6_beginPiece_12 : decode cX6_beginPiece 12 = .ok (.dup, 1) := by decide +kernel
theorem dX6_beginPiece_13 : decode cX6_beginPiece 13 = .ok (.getfield 37, 3) := by decide +kernel
theorem dX6_beginPiece_16 : decode cX6_beginPiece 16 = .ok (.iconst 1, 1) := by decide +kernel
theorem dX6_beginPiece_17 : decode cX6_beginPiece 17 = .ok (.iadd, 1) := by decide +kernel
theorem dX6_beginPiece_18 : decode cX6_beginPiece 18 = .ok (.putfield 37, 3) := by decide +kernel
theorem dX6_beginPiece_21 : decode cX6_beginPiece 21 = .ok (.aload_n 0, 1) := by decide +kernel
theorem dX6_beginPiece_22 : decode cX6_beginPiece 22 = .ok (.iconst 1, 1) := by decide +kernel
theorem dX6_beginPiece_23 : decode cX6_beginPiece 23 = .ok (.putfield 31, 3) := by decide +kernel
theorem dX6_beginPiece_26 : decode cX6_beginPiece 26 = .ok (.iconst 0, 1) := by decide +kernel
theorem dX6_beginPiece_27 : decode cX6_beginPiece 27 = .ok (.ireturn, 1) := by decide +kernel
set_option maxHeartbeats 4000000 in
set_option maxRecDepth 100000 in
theorem c_X6_beginPiece {l : Launch} {X : En} (M : Mem) (r : Int32) (M9 : Mem) (hf : fn_X6_beginPiece M = some (r, M9)) : Cn l X yX6_beginPiece cX6_beginPiece 1 (some .int) 0 0 [.ref (X.ad 47)] M (Qi X r M9) := by
  refine Met.ofW (cc := cX6_beginPiece) (maxL := 1) (ret := (some .int)) (by decide) rfl ?_
  intro p e s m args below meth c s₁ B hml hv
  obtain ⟨rfl, hP, hk⟩ := hv
  have hx := B.exec
  have hb := B.bytes
  have hr := B.returns
  have hlocks := B.notSynchronized
  have hts : ∀ w ∈ lw_u, w.before ([.ref (X.ad 47)] : List Value).toArray s = true := fun w hw => atoms_spec (ws := Cond.code yX6_beginPiece cX6_beginPiece 1 (some .int) :: lw_u) B.pre w (List.mem_cons_of_mem _ hw)
  have hown : s.vm.findClass RX6 = some m.cls := findClass_of_methodNamed B.named
  have hZ : Fx p c m s ([.ref (X.ad 47)] : List Value).toArray X cX6_beginPiece 1 RX6 := ⟨hx, hb, hml, hts, hown, hk⟩
  have hS : va_S X.A s.heap s.heap [] := va_S.rf
  have hl := lv_entry ([.ref (X.ad 47)]) (n := 1) (Nat.le_of_ble_eq_true rfl)
  rw [lg_entry_eq]
  generalize (lg_sl ([.ref (X.ad 47)]) ++ List.replicate (1 - (lg_sl ([.ref (X.ad 47)])).length) Slot.unset).toArray = ls at hl ⊢
  have hl : lv_has ls 1 [(0, .ref (X.ad 47))] := hl
  show WW p l e 0 0 s m [.ref (X.ad 47)] below meth c X (Qi X r M9) s.heap [] 0 ls []
  have hP : wd X M s.heap := hP
  unfold fn_X6_beginPiece at hf
  have key : ∀ (H : Heap) (locs : List Loc), wd X M H → va_S X.A s.heap H locs → WW p l e 0 0 s m [.ref (X.ad 47)] below meth c X (Qi X r M9) H locs 0 ls [] := by
    intro H locs hP hS
    refine lv_aload_n hx hb dX6_beginPiece_0 rfl (lv_at hl 0 rfl) ?_
    refine gX6_6 hx hb hts hown hk hP wd_1_195 dX6_beginPiece_1 ?_
    refine lv_bipush (v := (7 : Int32)) hx hb dX6_beginPiece_4 (by decide) ?_
    refine lv_icmp_lt (tgt := 11) hx hb dX6_beginPiece_6 (by decide) (fun c_1 => ?_) (fun c_1 => ?_)
    · have hf := i_t c_1 hf
      refine lv_aload_n hx hb dX6_beginPiece_11 rfl (lv_at hl 0 rfl) ?_
      refine lv_dup hx hb dX6_beginPiece_12 rfl ?_
      refine gX6_6 hx hb hts hown hk hP wd_1_195 dX6_beginPiece_13 ?_
      refine lv_iconst (v := (1 : Int32)) hx hb dX6_beginPiece_16 (by decide) ?_
      refine lv_iadd hx hb dX6_beginPiece_17 ?_
      refine pX6_6 hx hb hts hown hk hP hS wd_1_195 dX6_beginPiece_18 (fun H locs M_2 e_M_2 hP hS => ?_)
      have hf := b_v hf e_M_2
      refine lv_aload_n hx hb dX6_beginPiece_21 rfl (lv_at hl 0 rfl) ?_
      refine lv_iconst (v := (1 : Int32)) hx hb dX6_beginPiece_22 (by decide) ?_
      refine pX6_4 hx hb hts hown hk hP hS wd_1_193 dX6_beginPiece_23 (fun H locs M_3 e_M_3 hP hS => ?_)
      have hf := b_v hf e_M_3
      refine lv_iconst (v := (0 : Int32)) hx hb dX6_beginPiece_26 (by decide) ?_
      have hf := Option.some.inj hf
      obtain ⟨e1, e2⟩ := Prod.mk.inj hf
      rw [e2] at hP
      exact ret_i hx hb hr hlocks hP hS e1 dX6_beginPiece_27
    · have hf := i_f c_1 hf
      refine lv_iconst (v := (4 : Int32)) hx hb dX6_beginPiece_9 (by decide) ?_
      have hf := Option.some.inj hf
      obtain ⟨e1, e2⟩ := Prod.mk.inj hf
      rw [e2] at hP
      exact ret_i hx hb hr hlocks hP hS e1 dX6_beginPiece_10
  exact key s.heap [] hP hS
theorem hd_X6_beginPiece : Hd yX6_beginPiece 0 := by decide +kernel
theorem k_X6_beginPiece {p : Program} {l : Launch} {e : Env} {R : Room} {s : State} {m : MethodId} {args : Array Value} {below : List Frame} {meth : Method} {c : Code} {H : Heap} {locs : List Loc} {cells slots : Nat} {Q : State → Prop} {cc : ByteArray} {nL pc index : Nat} {ls : Array Slot} {rest : List Value} {X : En} {M : Mem} {H0 : Heap} {own : String} {r : Int32} {M9 : Mem} (hZ : Fx p c m s args X cc nL own) (hP : wd X M H) (hS : va_S X.A H0 H locs) (hsz : ls.size = nL) (hlk : Cond.methodLink own index yX6_beginPiece ∈ lw_u) (hR : 0 + 1 ≤ R.frames ∧ 8 + (1 + 11) + 0 ≤ R.locals) (hW : (rest.map fun v => v.category).sum ≤ 8) (hdg : decode cc pc = .ok (.invokevirtual index, 3)) (hcs : cells ≤ R.cells ∧ slots ≤ R.slots) (hf : fn_X6_beginPiece M = some (r, M9))
    (kk : ∀ (H1 : Heap) (locs1 : List Loc), wd X M9 H1 → va_S X.A H0 H1 locs1 → W p l e R s m args below meth c H1 locs1 cells slots Q (F0 m (pc + 3) ls (.int r :: rest))) : W p l e R s m args below meth c H locs cells slots Q (F0 m pc ls (.ref (X.ad 47) :: rest)) :=
  cal_i (runV (As := []) (rest := rest) hZ.1 hZ.2.1 hZ.2.2.1 hZ.2.2.2.1 hZ.2.2.2.2.1 hZ.2.2.2.2.2 hP (c_X6_beginPiece M r M9 hf) wd_2_42 wd_2_41 wd_p_2 wd_1_7 hd_X6_beginPiece (by decide) rfl rfl rfl hlk hR hsz rfl hW hdg hcs) hS kk
/-! FrameRaiser$Text.readSeparator -/
def jn_X6_readSeparator_38 (s_4 : Int32) (x1 : Int32) (M_5 : Mem) : Option (Int32 × Mem) :=
  if x1 = (43 : Int32) then
    (if s_4 = 0 then
      (bv (st M_5 47 4 (1 : Int32)) fun M_8 =>
      some ((0 : Int32), M_8))
    else
      (some ((1 : Int32), M_5)))
  else
    (some ((1 : Int32), M_5))
def jn_X6_readSeparator_33 (x1 : Int32) (M_3 : Mem) : Option (Int32 × Mem) :=
  jn_X6_readSeparator_38 (1 : Int32) x1 M_3
def fn_X6_readSeparator (x1 : Int32) (k2 : Nat) (M : Mem) : Option (Int32 × Mem) :=
  if x1 = (59 : Int32) then
    ((fn_X6_beginPiece M).bind (u2 fun r_11 M_12 =>
    some (r_11, M_12)))
  else
    (if (8 : Int32) ≤ (M 47 6) then
      (jn_X6_readSeparator_33 x1 M)
    else
      (if inb (M 47 6) 8 then
      if (M (k2 + 2) (ix (M 47 6))) < (4 : Int32) then
        (jn_X6_readSeparator_38 (0 : Int32) x1 M)
      else
        (jn_X6_readSeparator_33 x1 M)
      else none))
theorem dX6_readSeparator_0 : decode cX6_readSeparator 0 = .ok (.iload_n 1, 1) := by decide +kernel
theorem dX6_readSeparator_1 : decode cX6_readSeparator 1 = .ok (.bipush 59, 2) := by decide +kernel
theorem dX6_readSeparator_3 : decode cX6_readSeparator 3 = .ok (.if_icmp .ne 8, 3) := by decide +kernel
theorem dX6_readSeparator_6 : decode cX6_readSeparator 6 = .ok (.aload_n 0, 1) := by decide +kernel
theorem dX6_readSeparator_7 : decode cX6_readSeparator 7 = .ok (.invokevirtual 65, 3) := by decide +kernel
theorem dX6_readSeparator_10 : decode cX6_readSeparator 10 = .ok (.ireturn, 1) := by decide +kernel
theorem dX6_readSeparator_11 : decode cX6_readSeparator 11 = .ok (.aload_n 0, 1) := by decide +kernel
theorem dX6_readSeparator_12 : decode cX6_readSeparator 12 = .ok (.getfield 37, 3) := by decide +kernel
theorem dX6_readSeparator_15 : decode cX6_readSeparator 15 = .ok (.bipush 8, 2) := by decide +kernel
theorem dX6_readSeparator_17 : decode cX6_readSeparator 17 = .ok (.if_icmp .ge 16, 3) := by decide +kernel
theorem dX6_readSeparator_20 : decode cX6_readSeparator 20 = .ok (.aload_n 2, 1) := by decide +kernel
theorem dX6_readSeparator_21 : decode cX6_readSeparator 21 = .ok (.getfield 69, 3) := by decide +kernel
theorem dX6_readSeparator_24 : decode cX6_readSeparator 24 = .ok (.aload_n 0, 1) := by decide +kernel
theorem dX6_readSeparator_25 : decode cX6_readSeparator 25 = .ok (.getfield 37, 3) := by decide +kernel
theorem dX6_readSeparator_28 : decode cX6_readSeparator 28 = .ok (.iaload, 1) := by decide +kernel
theorem dX6_readSeparator_29 : decode cX6_readSeparator 29 = .ok (.iconst 4, 1) := by decide +kernel
theorem dX6_readSeparator_30 : decode cX6_readSeparator 30 = .ok (.if_icmp .lt 7, 3) := by decide +kernel
theorem dX6_readSeparator_33 : decode cX6_readSeparator 33 = .ok (.iconst 1, 1) := by decide +kernel
theorem dX6_readSeparator_34 : decode cX6_readSeparator 34 = .ok (.goto 4, 3) := by decide +kernel
theorem dX6_readSeparator_37 : decode cX6_readSeparator 37 = .ok (.iconst 0, 1) := by decide +kernel
theorem dX6_readSeparator_38 : decode cX6_readSeparator 38 = .ok (.istore_n 3, 1) := by decide +kernel
theorem dX6_readSeparator_39 : decode cX6_readSeparator 39 = .ok (.iload_n 1, 1) := by decide +kernel
theorem dX6_readSeparator_40 : decode cX6_readSeparator 40 = .ok (.bipush 43, 2) := by decide +kernel
theorem dX6_readSeparator_42 : decode cX6_readSeparator 42 = .ok (.if_icmp .ne 7, 3) := by decide +kernel
theorem dX6_readSeparator_45 : decode cX6_readSeparator 45 = .ok (.iload_n 3, 1) := by decide +kernel
theorem dX6_readSeparator_46 : decode cX6_readSeparator 46 = .ok (.ifCond .eq 5, 3) := by decide +kernel
theorem dX6_readSeparator_49 : decode cX6_readSeparator 49 = .ok (.iconst 1, 1) := by decide +kernel
theorem dX6_readSeparator_50 : decode cX6_readSeparator 50 = .ok (.ireturn, 1) := by decide +kernel
theorem dX6_readSeparator_51 : decode cX6_readSeparator 51 = .ok (.aload_n 0, 1) := by decide +kernel
theorem dX6_readSeparator_52 : decode cX6_readSeparator 52 = .ok (.iconst 1, 1) := by decide +kernel
theorem dX6_readSeparator_53 : decode cX6_readSeparator 53 = .ok (.putfield 31, 3) := by decide +kernel
theorem dX6_readSeparator_56 : decode cX6_readSeparator 56 = .ok (.iconst 0, 1) := by decide +kernel
theorem dX6_readSeparator_57 : decode cX6_readSeparator 57 = .ok (.ireturn, 1) := by decide +kernel
set_option maxHeartbeats 4000000 in
set_option maxRecDepth 100000 in
theorem c_X6_readSeparator {l : Launch} {X : En} (x1 : Int32) (k2 : Nat) (M : Mem) (hk2 : isF k2) (r : Int32) (M9 : Mem) (hf : fn_X6_readSeparator x1 k2 M = some (r, M9)) : Cn l X yX6_readSeparator cX6_readSeparator 4 (some .int) 1 20 [.ref (X.ad 47), .int x1, .ref (X.ad k2)] M (Qi X r M9) := by
  refine Met.ofW (cc := cX6_readSeparator) (maxL := 4) (ret := (some .int)) (by decide) rfl ?_
  intro p e s m args below meth c s₁ B hml hv
  obtain ⟨rfl, hP, hk⟩ := hv
  have hx := B.exec
  have hb := B.bytes
  have hr := B.returns
  have hlocks := B.notSynchronized
  have hts : ∀ w ∈ lw_u, w.before ([.ref (X.ad 47), .int x1, .ref (X.ad k2)] : List Value).toArray s = true := fun w hw => atoms_spec (ws := Cond.code yX6_readSeparator cX6_readSeparator 4 (some .int) :: lw_u) B.pre w (List.mem_cons_of_mem _ hw)
  have hown : s.vm.findClass RX6 = some m.cls := findClass_of_methodNamed B.named
  have hZ : Fx p c m s ([.ref (X.ad 47), .int x1, .ref (X.ad k2)] : List Value).toArray X cX6_readSeparator 4 RX6 := ⟨hx, hb, hml, hts, hown, hk⟩
  have hS : va_S X.A s.heap s.heap [] := va_S.rf
  have hl := lv_entry ([.ref (X.ad 47), .int x1, .ref (X.ad k2)]) (n := 4) (Nat.le_of_ble_eq_true rfl)
  rw [lg_entry_eq]
  generalize (lg_sl ([.ref (X.ad 47), .int x1, .ref (X.ad k2)]) ++ List.replicate (4 - (lg_sl ([.ref (X.ad 47), .int x1, .ref (X.ad k2)])).length) Slot.unset).toArray = ls at hl ⊢
  have hl : lv_has ls 4 [(0, .ref (X.ad 47)), (1, .int x1), (2, .ref (X.ad k2))] := hl
  show WW p l e 1 20 s m [.ref (X.ad 47), .int x1, .ref (X.ad k2)] below meth c X (Qi X r M9) s.heap [] 0 ls []
  have hP : wd X M s.heap := hP
  have jn38 : ∀ (s_4 : Int32) (M_5 : Mem), jn_X6_readSeparator_38 s_4 x1 M_5 = some (r, M9) → ∀ (H : Heap) (locs : List Loc) (ls : Array Slot), wd X M_5 H → va_S X.A s.heap H locs → lv_has ls 4 [(0, .ref (X.ad 47)), (1, .int x1)] → WW p l e 1 20 s m [.ref (X.ad 47), .int x1, .ref (X.ad k2)] below meth c X (Qi X r M9) H locs 38 ls [.int s_4] := by
    intro s_4 M_5 hf H locs ls hP hS hl
    unfold jn_X6_readSeparator_38 at hf
    refine lv_istore_n (lv' := [(3, .int s_4), (0, .ref (X.ad 47)), (1, .int x1)]) hx hb dX6_readSeparator_38 rfl hl (by decide) rfl (fun ls hl => ?_)
    refine lv_iload_n hx hb dX6_readSeparator_39 rfl (lv_at hl 2 rfl) ?_
    refine lv_bipush (v := (43 : Int32)) hx hb dX6_readSeparator_40 (by decide) ?_
    refine lv_icmp_ne (tgt := 49) hx hb dX6_readSeparator_42 (by decide) (fun c_6 => ?_) (fun c_6 => ?_)
    · have hf := i_f c_6 hf
      refine lv_iconst (v := (1 : Int32)) hx hb dX6_readSeparator_49 (by decide) ?_
      have hf := Option.some.inj hf
      obtain ⟨e1, e2⟩ := Prod.mk.inj hf
      rw [e2] at hP
      exact ret_i hx hb hr hlocks hP hS e1 dX6_readSeparator_50
    · have hf := i_t c_6 hf
      refine lv_iload_n hx hb dX6_readSeparator_45 rfl (lv_at hl 0 rfl) ?_
      refine lv_if_eq (tgt := 51) hx hb dX6_readSeparator_46 (by decide) (fun c_7 => ?_) (fun c_7 => ?_)
      · have hf := i_t c_7 hf
        refine lv_aload_n hx hb dX6_readSeparator_51 rfl (lv_at hl 1 rfl) ?_
        refine lv_iconst (v := (1 : Int32)) hx hb dX6_readSeparator_52 (by decide) ?_
        refine pX6_4 hx hb hts hown hk hP hS wd_1_193 dX6_readSeparator_53 (fun H locs M_8 e_M_8 hP hS => ?_)
        have hf := b_v hf e_M_8
        refine lv_iconst (v := (0 : Int32)) hx hb dX6_readSeparator_56 (by decide) ?_
        have hf := Option.some.inj hf
        obtain ⟨e1, e2⟩ := Prod.mk.inj hf
        rw [e2] at hP
        exact ret_i hx hb hr hlocks hP hS e1 dX6_readSeparator_57
      · have hf := i_f c_7 hf
        refine lv_iconst (v := (1 : Int32)) hx hb dX6_readSeparator_49 (by decide) ?_
        have hf := Option.some.inj hf
        obtain ⟨e1, e2⟩ := Prod.mk.inj hf
        rw [e2] at hP
        exact ret_i hx hb hr hlocks hP hS e1 dX6_readSeparator_50
  have jn33 : ∀  (M_3 : Mem), jn_X6_readSeparator_33 x1 M_3 = some (r, M9) → ∀ (H : Heap) (locs : List Loc) (ls : Array Slot), wd X M_3 H → va_S X.A s.heap H locs → lv_has ls 4 [(0, .ref (X.ad 47)), (1, .int x1)] → WW p l e 1 20 s m [.ref (X.ad 47), .int x1, .ref (X.ad k2)] below meth c X (Qi X r M9) H locs 33 ls [] := by
    intro  M_3 hf H locs ls hP hS hl
    unfold jn_X6_readSeparator_33 at hf
    refine lv_iconst (v := (1 : Int32)) hx hb dX6_readSeparator_33 (by decide) ?_
    refine lv_goto (tgt := 38) hx hb dX6_readSeparator_34 (by decide) ?_
    exact jn38 (1 : Int32) M_3 hf H locs ls hP hS (lv_sub hl [0, 1] rfl)
  unfold fn_X6_readSeparator at hf
  have key : ∀ (H : Heap) (locs : List Loc), wd X M H → va_S X.A s.heap H locs → WW p l e 1 20 s m [.ref (X.ad 47), .int x1, .ref (X.ad k2)] below meth c X (Qi X r M9) H locs 0 ls [] := by
    intro H locs hP hS
    refine lv_iload_n hx hb dX6_readSeparator_0 rfl (lv_at hl 1 rfl) ?_
    refine lv_bipush (v := (59 : Int32)) hx hb dX6_readSeparator_1 (by decide) ?_
    refine lv_icmp_ne (tgt := 11) hx hb dX6_readSeparator_3 (by decide) (fun c_1 => ?_) (fun c_1 => ?_)
    · have hf := i_f c_1 hf
      refine lv_aload_n hx hb dX6_readSeparator_11 rfl (lv_at hl 0 rfl) ?_
      refine gX6_6 hx hb hts hown hk hP wd_1_195 dX6_readSeparator_12 ?_
      refine lv_bipush (v := (8 : Int32)) hx hb dX6_readSeparator_15 (by decide) ?_
      refine lv_icmp_ge (tgt := 33) hx hb dX6_readSeparator_17 (by decide) (fun c_2 => ?_) (fun c_2 => ?_)
      · have hf := i_t c_2 hf
        exact jn33 M hf H locs ls hP hS (lv_sub hl [0, 1] rfl)
      · have hf := i_f c_2 hf
        refine lv_aload_n hx hb dX6_readSeparator_20 rfl (lv_at hl 2 rfl) ?_
        refine gX1_1 hx hb hts hown hk hP hk2 wd_1_36 dX6_readSeparator_21 ?_
        refine lv_aload_n hx hb dX6_readSeparator_24 rfl (lv_at hl 0 rfl) ?_
        refine gX6_6 hx hb hts hown hk hP wd_1_195 dX6_readSeparator_25 ?_
        obtain ⟨q_9, hf⟩ := g_if hf
        refine ald hx hb hk hP (isF_lt hk2) (rd_F2 hk2 _) q_9 dX6_readSeparator_28 ?_
        refine lv_iconst (v := (4 : Int32)) hx hb dX6_readSeparator_29 (by decide) ?_
        refine lv_icmp_lt (tgt := 37) hx hb dX6_readSeparator_30 (by decide) (fun c_10 => ?_) (fun c_10 => ?_)
        · have hf := i_t c_10 hf
          refine lv_iconst (v := (0 : Int32)) hx hb dX6_readSeparator_37 (by decide) ?_
          exact jn38 (0 : Int32) M hf H locs ls hP hS (lv_sub hl [0, 1] rfl)
        · have hf := i_f c_10 hf
          exact jn33 M hf H locs ls hP hS (lv_sub hl [0, 1] rfl)
    · have hf := i_t c_1 hf
      refine lv_aload_n hx hb dX6_readSeparator_6 rfl (lv_at hl 0 rfl) ?_
      obtain ⟨⟨r_11, M_12⟩, h_r_11, hf⟩ := b_d hf
      have hf := u2_e hf
      refine k_X6_beginPiece hZ hP hS hl.1 wd_2_39 ⟨Nat.le_of_ble_eq_true rfl, Nat.le_of_ble_eq_true rfl⟩ (Nat.le_of_ble_eq_true rfl) dX6_readSeparator_7 ⟨Nat.zero_le _, Nat.zero_le _⟩ h_r_11 (fun H locs hP hS => ?_)
      have hf := Option.some.inj hf
      obtain ⟨e1, e2⟩ := Prod.mk.inj hf
      rw [e2] at hP
      exact ret_i hx hb hr hlocks hP hS e1 dX6_readSeparator_10
  exact key s.heap [] hP hS
theorem hd_X6_readSeparator : Hd yX6_readSeparator 2 := by decide +kernel
theorem k_X6_readSeparator {p : Program} {l : Launch} {e : Env} {R : Room} {s : State} {m : MethodId} {args : Array Value} {below : List Frame} {meth : Method} {c : Code} {H : Heap} {locs : List Loc} {cells slots : Nat} {Q : State → Prop} {cc : ByteArray} {nL pc index : Nat} {ls : Array Slot} {rest : List Value} {X : En} {M : Mem} {H0 : Heap} {own : String} {x1 : Int32} {k2 : Nat} {r : Int32} {M9 : Mem} (hZ : Fx p c m s args X cc nL own) (hP : wd X M H) (hS : va_S X.A H0 H locs) (hsz : ls.size = nL) (hlk : Cond.methodLink own index yX6_readSeparator ∈ lw_u) (hR : 1 + 1 ≤ R.frames ∧ 8 + (4 + 11) + 20 ≤ R.locals) (hW : (rest.map fun v => v.category).sum ≤ 8) (hdg : decode cc pc = .ok (.invokevirtual index, 3)) (hcs : cells ≤ R.cells ∧ slots ≤ R.slots) (hk2 : isF k2) (hf : fn_X6_readSeparator x1 k2 M = some (r, M9))
    (kk : ∀ (H1 : Heap) (locs1 : List Loc), wd X M9 H1 → va_S X.A H0 H1 locs1 → W p l e R s m args below meth c H1 locs1 cells slots Q (F0 m (pc + 3) ls (.int r :: rest))) : W p l e R s m args below meth c H locs cells slots Q (F0 m pc ls (.ref (X.ad k2) :: .int x1 :: .ref (X.ad 47) :: rest)) :=
  cal_i (runV (As := [.int x1, .ref (X.ad k2)]) (rest := rest) hZ.1 hZ.2.1 hZ.2.2.1 hZ.2.2.2.1 hZ.2.2.2.2.1 hZ.2.2.2.2.2 hP (c_X6_readSeparator x1 k2 M hk2 r M9 hf) wd_2_38 wd_2_37 wd_p_1 wd_1_7 hd_X6_readSeparator (by decide) rfl rfl rfl hlk hR hsz rfl hW hdg hcs) hS kk
/-! FrameRaiser$Text.readSign -/
def jn_X6_readSign_16 (g : Nat) (k2 : Nat) (x1 : Int32) (M_2 : Mem) : Option (Int32 × Mem) :=
  if (M_2 47 4) = (3 : Int32) then
    ((fn_X6_readSeparator x1 k2 M_2).bind (u2 fun r_6 M_7 =>
    some (r_6, M_7)))
  else
    ((fn_X6_readDigit g x1 k2 M_2).bind (u2 fun r_4 M_5 =>
    some (r_4, M_5)))
def fn_X6_readSign (g : Nat) (x1 : Int32) (k2 : Nat) (M : Mem) : Option (Int32 × Mem) :=
  if x1 = (32 : Int32) then
    (if (M 47 4) = (2 : Int32) then
      (jn_X6_readSign_16 g k2 x1 M)
    else
      (some ((0 : Int32), M)))
  else
    (jn_X6_readSign_16 g k2 x1 M)
theorem dX6_readSign_0 : decode cX6_readSign 0 = .ok (.iload_n 1, 1) := by decide +kernel
theorem dX6_readSign_1 : decode cX6_readSign 1 = .ok (.bipush 32, 2) := by decide +kernel
theorem dX6_readSign_3 : decode cX6_readSign 3 = .ok (.if_icmp .ne 13, 3) := by decide +kernel
theorem dX6_readSign_6 : decode cX6_readSign 6 = .ok (.aload_n 0, 1) := by decide +kernel
theorem dX6_readSign_7 : decode cX6_readSign 7 = .ok (.getfield 31, 3) := by decide +kernel
theorem dX6_readSign_10 : decode cX6_readSign 10 = .ok (.iconst 2, 1) := by decide +kernel
theorem dX6_readSign_11 : decode cX6_readSign 11 = .ok (.if_icmp .eq 5, 3) := by decide +kernel
theorem dX6_readSign_14 : decode cX6_readSign 14 = .ok (.iconst 0, 1) := by decide +kernel
theorem dX6_readSign_15 : decode cX6_readSign 15 = .ok (.ireturn, 1) := by decide +kernel
theorem dX6_readSign_16 : decode cX6_readSign 16 = .ok (.aload_n 0, 1) := by decide +kernel
theorem dX6_readSign_17 : decode cX6_readSign 17 = .ok (.getfield 31, 3) := by decide +kernel
theorem dX6_readSign_20 : decode cX6_readSign 20 = .ok (.iconst 3, 1) := by decide +kernel
theorem dX6_readSign_21 : decode cX6_readSign 21 = .ok (.if_icmp .ne 12, 3) := by decide +kernel
theorem dX6_readSign_24 : decode cX6_readSign 24 = .ok (.aload_n 0, 1) := by decide +kernel
theorem dX6_readSign_25 : decode cX6_readSign 25 = .ok (.iload_n 1, 1) := by decide +kernel
theorem dX6_readSign_26 : decode cX6_readSign 26 = .ok (.aload_n 2, 1) := by decide +kernel
theorem dX6_readSign_27 : decode cX6_readSign 27 = .ok (.invokevirtual 47, 3) := by decide +kernel
theorem dX6_readSign_30 : decode cX6_readSign 30 = .ok (.goto 9, 3) := by decide +kernel
theorem dX6_readSign_33 : decode cX6_readSign 33 = .ok (.aload_n 0, 1) := by decide +kernel
theorem dX6_readSign_34 : decode cX6_readSign 34 = .ok (.iload_n 1, 1) := by decide +kernel
theorem dX6_readSign_35 : decode cX6_readSign 35 = .ok (.aload_n 2, 1) := by decide +kernel
theorem dX6_readSign_36 : decode cX6_readSign 36 = .ok (.invokevirtual 50, 3) := by decide +kernel
theorem dX6_readSign_39 : decode cX6_readSign 39 = .ok (.ireturn, 1) := by decide +kernel
set_option maxHeartbeats 4000000 in
set_option maxRecDepth 100000 in
theorem c_X6_readSign {l : Launch} {X : En} (g : Nat) (x1 : Int32) (k2 : Nat) (M : Mem) (hk2 : isF k2) (r : Int32) (M9 : Mem) (hf : fn_X6_readSign g x1 k2 M = some (r, M9)) : Cn l X yX6_readSign cX6_readSign 3 (some .int) 4 90 [.ref (X.ad 47), .int x1, .ref (X.ad k2)] M (Qi X r M9) := by
  refine Met.ofW (cc := cX6_readSign) (maxL := 3) (ret := (some .int)) (by decide) rfl ?_
  intro p e s m args below meth c s₁ B hml hv
  obtain ⟨rfl, hP, hk⟩ := hv
  have hx := B.exec
  have hb := B.bytes
  have hr := B.returns
  have hlocks := B.notSynchronized
  have hts : ∀ w ∈ lw_u, w.before ([.ref (X.ad 47), .int x1, .ref (X.ad k2)] : List Value).toArray s = true := fun w hw => atoms_spec (ws := Cond.code yX6_readSign cX6_readSign 3 (some .int) :: lw_u) B.pre w (List.mem_cons_of_mem _ hw)
  have hown : s.vm.findClass RX6 = some m.cls := findClass_of_methodNamed B.named
  have hZ : Fx p c m s ([.ref (X.ad 47), .int x1, .ref (X.ad k2)] : List Value).toArray X cX6_readSign 3 RX6 := ⟨hx, hb, hml, hts, hown, hk⟩
  have hS : va_S X.A s.heap s.heap [] := va_S.rf
  have hl := lv_entry ([.ref (X.ad 47), .int x1, .ref (X.ad k2)]) (n := 3) (Nat.le_of_ble_eq_true rfl)
  rw [lg_entry_eq]
  generalize (lg_sl ([.ref (X.ad 47), .int x1, .ref (X.ad k2)]) ++ List.replicate (3 - (lg_sl ([.ref (X.ad 47), .int x1, .ref (X.ad k2)])).length) Slot.unset).toArray = ls at hl ⊢
  have hl : lv_has ls 3 [(0, .ref (X.ad 47)), (1, .int x1), (2, .ref (X.ad k2))] := hl
  show WW p l e 4 90 s m [.ref (X.ad 47), .int x1, .ref (X.ad k2)] below meth c X (Qi X r M9) s.heap [] 0 ls []
  have hP : wd X M s.heap := hP
  have jn16 : ∀  (M_2 : Mem), jn_X6_readSign_16 g k2 x1 M_2 = some (r, M9) → ∀ (H : Heap) (locs : List Loc) (ls : Array Slot), wd X M_2 H → va_S X.A s.heap H locs → lv_has ls 3 [(0, .ref (X.ad 47)), (1, .int x1), (2, .ref (X.ad k2))] → WW p l e 4 90 s m [.ref (X.ad 47), .int x1, .ref (X.ad k2)] below meth c X (Qi X r M9) H locs 16 ls [] := by
    intro  M_2 hf H locs ls hP hS hl
    unfold jn_X6_readSign_16 at hf
    refine lv_aload_n hx hb dX6_readSign_16 rfl (lv_at hl 0 rfl) ?_
    refine gX6_4 hx hb hts hown hk hP wd_1_193 dX6_readSign_17 ?_
    refine lv_iconst (v := (3 : Int32)) hx hb dX6_readSign_20 (by decide) ?_
    refine lv_icmp_ne (tgt := 33) hx hb dX6_readSign_21 (by decide) (fun c_3 => ?_) (fun c_3 => ?_)
    · have hf := i_f c_3 hf
      refine lv_aload_n hx hb dX6_readSign_33 rfl (lv_at hl 0 rfl) ?_
      refine lv_iload_n hx hb dX6_readSign_34 rfl (lv_at hl 1 rfl) ?_
      refine lv_aload_n hx hb dX6_readSign_35 rfl (lv_at hl 2 rfl) ?_
      obtain ⟨⟨r_4, M_5⟩, h_r_4, hf⟩ := b_d hf
      have hf := u2_e hf
      refine k_X6_readDigit hZ hP hS hl.1 wd_2_43 ⟨Nat.le_of_ble_eq_true rfl, Nat.le_of_ble_eq_true rfl⟩ (Nat.le_of_ble_eq_true rfl) dX6_readSign_36 ⟨Nat.zero_le _, Nat.zero_le _⟩ hk2 h_r_4 (fun H locs hP hS => ?_)
      have hf := Option.some.inj hf
      obtain ⟨e1, e2⟩ := Prod.mk.inj hf
      rw [e2] at hP
      exact ret_i hx hb hr hlocks hP hS e1 dX6_readSign_39
    · have hf := i_t c_3 hf
      refine lv_aload_n hx hb dX6_readSign_24 rfl (lv_at hl 0 rfl) ?_
      refine lv_iload_n hx hb dX6_readSign_25 rfl (lv_at hl 1 rfl) ?_
      refine lv_aload_n hx hb dX6_readSign_26 rfl (lv_at hl 2 rfl) ?_
      obtain ⟨⟨r_6, M_7⟩, h_r_6, hf⟩ := b_d hf
      have hf := u2_e hf
      refine k_X6_readSeparator hZ hP hS hl.1 wd_2_35 ⟨Nat.le_of_ble_eq_true rfl, Nat.le_of_ble_eq_true rfl⟩ (Nat.le_of_ble_eq_true rfl) dX6_readSign_27 ⟨Nat.zero_le _, Nat.zero_le _⟩ hk2 h_r_6 (fun H locs hP hS => ?_)
      refine lv_goto (tgt := 39) hx hb dX6_readSign_30 (by decide) ?_
      have hf := Option.some.inj hf
      obtain ⟨e1, e2⟩ := Prod.mk.inj hf
      rw [e2] at hP
      exact ret_i hx hb hr hlocks hP hS e1 dX6_readSign_39
  unfold fn_X6_readSign at hf
  have key : ∀ (H : Heap) (locs : List Loc), wd X M H → va_S X.A s.heap H locs → WW p l e 4 90 s m [.ref (X.ad 47), .int x1, .ref (X.ad k2)] below meth c X (Qi X r M9) H locs 0 ls [] := by
    intro H locs hP hS
    refine lv_iload_n hx hb dX6_readSign_0 rfl (lv_at hl 1 rfl) ?_
    refine lv_bipush (v := (32 : Int32)) hx hb dX6_readSign_1 (by decide) ?_
    refine lv_icmp_ne (tgt := 16) hx hb dX6_readSign_3 (by decide) (fun c_1 => ?_) (fun c_1 => ?_)
    · have hf := i_f c_1 hf
      exact jn16 M hf H locs ls hP hS (lv_sub hl [0, 1, 2] rfl)
    · have hf := i_t c_1 hf
      refine lv_aload_n hx hb dX6_readSign_6 rfl (lv_at hl 0 rfl) ?_
      refine gX6_4 hx hb hts hown hk hP wd_1_193 dX6_readSign_7 ?_
      refine lv_iconst (v := (2 : Int32)) hx hb dX6_readSign_10 (by decide) ?_
      refine lv_icmp_eq (tgt := 16) hx hb dX6_readSign_11 (by decide) (fun c_8 => ?_) (fun c_8 => ?_)
      · have hf := i_t c_8 hf
        exact jn16 M hf H locs ls hP hS (lv_sub hl [0, 1, 2] rfl)
      · have hf := i_f c_8 hf
        refine lv_iconst (v := (0 : Int32)) hx hb dX6_readSign_14 (by decide) ?_
        have hf := Option.some.inj hf
        obtain ⟨e1, e2⟩ := Prod.mk.inj hf
        rw [e2] at hP
        exact ret_i hx hb hr hlocks hP hS e1 dX6_readSign_15
  exact key s.heap [] hP hS
theorem hd_X6_readSign : Hd yX6_readSign 2 := by decide +kernel
theorem k_X6_readSign {p : Program} {l : Launch} {e : Env} {R : Room} {s : State} {m : MethodId} {args : Array Value} {below : List Frame} {meth : Method} {c : Code} {H : Heap} {locs : List Loc} {cells slots : Nat} {Q : State → Prop} {cc : ByteArray} {nL pc index : Nat} {ls : Array Slot} {rest : List Value} {X : En} {M : Mem} {H0 : Heap} {own : String} {g : Nat} {x1 : Int32} {k2 : Nat} {r : Int32} {M9 : Mem} (hZ : Fx p c m s args X cc nL own) (hP : wd X M H) (hS : va_S X.A H0 H locs) (hsz : ls.size = nL) (hlk : Cond.methodLink own index yX6_readSign ∈ lw_u) (hR : 4 + 1 ≤ R.frames ∧ 8 + (3 + 11) + 90 ≤ R.locals) (hW : (rest.map fun v => v.category).sum ≤ 8) (hdg : decode cc pc = .ok (.invokevirtual index, 3)) (hcs : cells ≤ R.cells ∧ slots ≤ R.slots) (hk2 : isF k2) (hf : fn_X6_readSign g x1 k2 M = some (r, M9))
    (kk : ∀ (H1 : Heap) (locs1 : List Loc), wd X M9 H1 → va_S X.A H0 H1 locs1 → W p l e R s m args below meth c H1 locs1 cells slots Q (F0 m (pc + 3) ls (.int r :: rest))) : W p l e R s m args below meth c H locs cells slots Q (F0 m pc ls (.ref (X.ad k2) :: .int x1 :: .ref (X.ad 47) :: rest)) :=
  cal_i (runV (As := [.int x1, .ref (X.ad k2)]) (rest := rest) hZ.1 hZ.2.1 hZ.2.2.1 hZ.2.2.2.1 hZ.2.2.2.2.1 hZ.2.2.2.2.2 hP (c_X6_readSign g x1 k2 M hk2 r M9 hf) wd_2_34 wd_2_33 wd_p_0 wd_1_7 hd_X6_readSign (by decide) rfl rfl rfl hlk hR hsz rfl hW hdg hcs) hS kk
/-! FrameRaiser$Text.readInto -/
def bd_X6_readInto_21 (g : Nat) (k1 : Nat) : (Int32 × Mem) → Option ((Int32 × Mem) ⊕ ((Mem) ⊕ (Int32 × Mem))) :=
  u2 fun v2_5 M_6 =>
  if (M_6 47 0) ≤ v2_5 then
    (some (.inr (.inl M_6)))
  else
    (if (80 : Int32) ≤ v2_5 then
      (some (.inr (.inl M_6)))
    else
      (if inb v2_5 80 then
      (fn_X6_readSign g (M_6 48 (ix v2_5)) k1 M_6).bind (u2 fun r_11 M_12 =>
      bv (st M_12 47 1 r_11) fun M_13 =>
      if (M_13 47 1) = 0 then
        (some (.inl (v2_5 + (1 : Int32), M_13)))
      else
        (some (.inr (.inr (v2_5, M_13)))))
      else none))
def jn_X6_readInto_87 (s_17 : Int32) (M_18 : Mem) : Option (Int32 × Mem) :=
  bv (st M_18 47 1 s_17) fun M_19 =>
  some (M_19 47 0, M_19)
def jn_X6_readInto_82 (M_16 : Mem) : Option (Int32 × Mem) :=
  jn_X6_readInto_87 (1 : Int32) M_16
def fn_X6_readInto (g : Nat) (k1 : Nat) (M : Mem) : Option (Int32 × Mem) :=
  (fn_X1_empty g k1 M).bind fun M_1 =>
  bv (st M_1 47 4 (0 : Int32)) fun M_2 =>
  bv (st M_2 47 5 (0 : Int32)) fun M_3 =>
  bv (st M_3 47 6 (0 : Int32)) fun M_4 =>
  (lpN g (bd_X6_readInto_21 g k1) ((0 : Int32), M_4)).bind (el (u1 fun M_7 =>
    if (M_7 47 4) = (1 : Int32) then
      (jn_X6_readInto_82 M_7)
    else
      (if (M_7 47 4) = (2 : Int32) then
        (jn_X6_readInto_82 M_7)
      else
        (jn_X6_readInto_87 (0 : Int32) M_7))) (fun rr => some rr))
theorem dX6_readInto_0 : decode cX6_readInto 0 = .ok (.aload_n 1, 1) := by decide +kernel
theorem dX6_readInto_1 : decode cX6_readInto 1 = .ok (.invokevirtual 26, 3) := by decide +kernel
theorem dX6_readInto_4 : decode cX6_readInto 4 = .ok (.aload_n 0, 1) := by decide +kernel
theorem dX6_readInto_5 : decode cX6_readInto 5 = .ok (.iconst 0, 1) := by decide +kernel
theorem dX6_readInto_6 : decode cX6_readInto 6 = .ok (.putfield 31, 3) := by decide +kernel
theorem dX6_readInto_9 : decode cX6_readInto 9 = .ok (.aload_n 0, 1) := by decide +kernel
theorem dX6_readInto_10 : decode cX6_readInto 10 = .ok (.iconst 0, 1) := by decide +kernel
theorem dX6_readInto_11 : decode cX6_readInto 11 = .ok (.putfield 34, 3) := by decide +kernel
theorem dX6_readInto_14 : decode cX6_readInto 14 = .ok (.aload_n 0, 1) := by decide +kernel
theorem dX6_readInto_15 : decode cX6_readInto 15 = .ok (.iconst 0, 1) := by decide +kernel
theorem dX6_readInto_16 : decode cX6_readInto 16 = .ok (.putfield 37, 3) := by decide +kernel
theorem dX6_readInto_19 : decode cX6_readInto 19 = .ok (.iconst 0, 1) := by decide +kernel
theorem dX6_readInto_20 : decode cX6_readInto 20 = .ok (.istore_n 2, 1) := by decide +kernel
theorem dX6_readInto_21 : decode cX6_readInto 21 = .ok (.iload_n 2, 1) := by decide +kernel
theorem dX6_readInto_22 : decode cX6_readInto 22 = .ok (.aload_n 0, 1) := by decide +kernel
theorem dX6_readInto_23 : decode cX6_readInto 23 = .ok (.getfield 22, 3) := by decide +kernel
theorem dX6_readInto_26 : decode cX6_readInto 26 = .ok (.if_icmp .ge 39, 3) := by decide +kernel
theorem dX6_readInto_29 : decode cX6_readInto 29 = .ok (.iload_n 2, 1) := by decide +kernel
theorem dX6_readInto_30 : decode cX6_readInto 30 = .ok (.bipush 80, 2) := by decide +kernel
theorem dX6_readInto_32 : decode cX6_readInto 32 = .ok (.if_icmp .ge 33, 3) := by decide +kernel
theorem dX6_readInto_35 : decode cX6_readInto 35 = .ok (.aload_n 0, 1) := by decide +kernel
theorem dX6_readInto_36 : decode cX6_readInto 36 = .ok (.aload_n 0, 1) := by decide +kernel
theorem dX6_readInto_37 : decode cX6_readInto 37 = .ok (.aload_n 0, 1) := by decide +kernel
theorem dX6_readInto_38 : decode cX6_readInto 38 = .ok (.getfield 9, 3) := by decide +kernel
theorem dX6_readInto_41 : decode cX6_readInto 41 = .ok (.iload_n 2, 1) := by decide +kernel
theorem dX6_readInto_42 : decode cX6_readInto 42 = .ok (.iaload, 1) := by decide +kernel
theorem dX6_readInto_43 : decode cX6_readInto 43 = .ok (.aload_n 1, 1) := by decide +kernel
theorem dX6_readInto_44 : decode cX6_readInto 44 = .ok (.invokevirtual 40, 3) := by decide +kernel
theorem dX6_readInto_47 : decode cX6_readInto 47 = .ok (.putfield 44, 3) := by decide +kernel
theorem dX6_readInto_50 : decode cX6_readInto 50 = .ok (.aload_n 0, 1) := by decide +kernel
theorem dX6_readInto_51 : decode cX6_readInto 51 = .ok (.getfield 44, 3) := by decide +kernel
theorem dX6_readInto_54 : decode cX6_readInto 54 = .ok (.ifCond .eq 5, 3) := by decide +kernel
theorem dX6_readInto_57 : decode cX6_readInto 57 = .ok (.iload_n 2, 1) := by decide +kernel
theorem dX6_readInto_58 : decode cX6_readInto 58 = .ok (.ireturn, 1) := by decide +kernel
theorem dX6_readInto_59 : decode cX6_readInto 59 = .ok (.iinc 2 1, 3) := by decide +kernel
theorem dX6_readInto_62 : decode cX6_readInto 62 = .ok (.goto (-41), 3) := by decide +kernel
theorem dX6_readInto_65 : decode cX6_readInto 65 = .ok (.aload_n 0, 1) := by decide +kernel
theorem dX6_readInto_66 : decode cX6_readInto 66 = .ok (.aload_n 0, 1) := by decide +kernel
theorem dX6_readInto_67 : decode cX6_readInto 67 = .ok (.getfield 31, 3) := by decide +kernel
theorem dX6_readInto_70 : decode cX6_readInto 70 = .ok (.iconst 1, 1) := by decide +kernel
theorem dX6_readInto_71 : decode cX6_readInto 71 = .ok (.if_icmp .eq 11, 3) := by decide +kernel
theorem dX6_readInto_74 : decode cX6_readInto 74 = .ok (.aload_n 0, 1) := by decide +kernel
theorem dX6_readInto_75 : decode cX6_readInto 75 = .ok (.getfield 31, 3) := by decide +kernel
theorem dX6_readInto_78 : decode cX6_readInto 78 = .ok (.iconst 2, 1) := by decide +kernel
theorem dX6_readInto_79 : decode cX6_readInto 79 = .ok (.if_icmp .ne 7, 3) := by decide +kernel
theorem dX6_readInto_82 : decode cX6_readInto 82 = .ok (.iconst 1, 1) := by decide +kernel
theorem dX6_readInto_83 : decode cX6_readInto 83 = .ok (.goto 4, 3) := by decide +kernel
theorem dX6_readInto_86 : decode cX6_readInto 86 = .ok (.iconst 0, 1) := by decide +kernel
theorem dX6_readInto_87 : decode cX6_readInto 87 = .ok (.putfield 44, 3) := by decide +kernel
theorem dX6_readInto_90 : decode cX6_readInto 90 = .ok (.aload_n 0, 1) := by decide +kernel
theorem dX6_readInto_91 : decode cX6_readInto 91 = .ok (.getfield 22, 3) := by decide +kernel
theorem dX6_readInto_94 : decode cX6_readInto 94 = .ok (.ireturn, 1) := by decide +kernel
set_option maxHeartbeats 4000000 in
set_option maxRecDepth 100000 in
theorem c_X6_readInto {l : Launch} {X : En} (g : Nat) (k1 : Nat) (M : Mem) (hk1 : isF k1) (r : Int32) (M9 : Mem) (hf : fn_X6_readInto g k1 M = some (r, M9)) : Cn l X yX6_readInto cX6_readInto 3 (some .int) 5 112 [.ref (X.ad 47), .ref (X.ad k1)] M (Qi X r M9) := by
  refine Met.ofW (cc := cX6_readInto) (maxL := 3) (ret := (some .int)) (by decide) rfl ?_
  intro p e s m args below meth c s₁ B hml hv
  obtain ⟨rfl, hP, hk⟩ := hv
  have hx := B.exec
  have hb := B.bytes
  have hr := B.returns
  have hlocks := B.notSynchronized
  have hts : ∀ w ∈ lw_u, w.before ([.ref (X.ad 47), .ref (X.ad k1)] : List Value).toArray s = true := fun w hw => atoms_spec (ws := Cond.code yX6_readInto cX6_readInto 3 (some .int) :: lw_u) B.pre w (List.mem_cons_of_mem _ hw)
  have hown : s.vm.findClass RX6 = some m.cls := findClass_of_methodNamed B.named
  have hZ : Fx p c m s ([.ref (X.ad 47), .ref (X.ad k1)] : List Value).toArray X cX6_readInto 3 RX6 := ⟨hx, hb, hml, hts, hown, hk⟩
  have hS : va_S X.A s.heap s.heap [] := va_S.rf
  have hl := lv_entry ([.ref (X.ad 47), .ref (X.ad k1)]) (n := 3) (Nat.le_of_ble_eq_true rfl)
  rw [lg_entry_eq]
  generalize (lg_sl ([.ref (X.ad 47), .ref (X.ad k1)]) ++ List.replicate (3 - (lg_sl ([.ref (X.ad 47), .ref (X.ad k1)])).length) Slot.unset).toArray = ls at hl ⊢
  have hl : lv_has ls 3 [(0, .ref (X.ad 47)), (1, .ref (X.ad k1))] := hl
  show WW p l e 5 112 s m [.ref (X.ad 47), .ref (X.ad k1)] below meth c X (Qi X r M9) s.heap [] 0 ls []
  have hP : wd X M s.heap := hP
  have jn87 : ∀ (s_17 : Int32) (M_18 : Mem), jn_X6_readInto_87 s_17 M_18 = some (r, M9) → ∀ (H : Heap) (locs : List Loc) (ls : Array Slot), wd X M_18 H → va_S X.A s.heap H locs → lv_has ls 3 [(0, .ref (X.ad 47))] → WW p l e 5 112 s m [.ref (X.ad 47), .ref (X.ad k1)] below meth c X (Qi X r M9) H locs 87 ls [.int s_17, .ref (X.ad 47)] := by
    intro s_17 M_18 hf H locs ls hP hS hl
    unfold jn_X6_readInto_87 at hf
    refine pX6_1 hx hb hts hown hk hP hS wd_1_189 dX6_readInto_87 (fun H locs M_19 e_M_19 hP hS => ?_)
    have hf := b_v hf e_M_19
    refine lv_aload_n hx hb dX6_readInto_90 rfl (lv_at hl 0 rfl) ?_
    refine gX6_0 hx hb hts hown hk hP wd_1_187 dX6_readInto_91 ?_
    have hf := Option.some.inj hf
    obtain ⟨e1, e2⟩ := Prod.mk.inj hf
    rw [e2] at hP
    exact ret_i hx hb hr hlocks hP hS e1 dX6_readInto_94
  have jn82 : ∀  (M_16 : Mem), jn_X6_readInto_82 M_16 = some (r, M9) → ∀ (H : Heap) (locs : List Loc) (ls : Array Slot), wd X M_16 H → va_S X.A s.heap H locs → lv_has ls 3 [(0, .ref (X.ad 47))] → WW p l e 5 112 s m [.ref (X.ad 47), .ref (X.ad k1)] below meth c X (Qi X r M9) H locs 82 ls [.ref (X.ad 47)] := by
    intro  M_16 hf H locs ls hP hS hl
    unfold jn_X6_readInto_82 at hf
    refine lv_iconst (v := (1 : Int32)) hx hb dX6_readInto_82 (by decide) ?_
    refine lv_goto (tgt := 87) hx hb dX6_readInto_83 (by decide) ?_
    exact jn87 (1 : Int32) M_16 hf H locs ls hP hS (lv_sub hl [0] rfl)
  unfold fn_X6_readInto at hf
  have key : ∀ (H : Heap) (locs : List Loc), wd X M H → va_S X.A s.heap H locs → WW p l e 5 112 s m [.ref (X.ad 47), .ref (X.ad k1)] below meth c X (Qi X r M9) H locs 0 ls [] := by
    intro H locs hP hS
    refine lv_aload_n hx hb dX6_readInto_0 rfl (lv_at hl 1 rfl) ?_
    obtain ⟨M_1, h_M_1, hf⟩ := b_d hf
    refine k_X1_empty hZ hP hS hl.1 wd_2_30 ⟨Nat.le_of_ble_eq_true rfl, Nat.le_of_ble_eq_true rfl⟩ (Nat.le_of_ble_eq_true rfl) dX6_readInto_1 ⟨Nat.zero_le _, Nat.zero_le _⟩ hk1 h_M_1 (fun H locs hP hS => ?_)
    refine lv_aload_n hx hb dX6_readInto_4 rfl (lv_at hl 0 rfl) ?_
    refine lv_iconst (v := (0 : Int32)) hx hb dX6_readInto_5 (by decide) ?_
    refine pX6_4 hx hb hts hown hk hP hS wd_1_193 dX6_readInto_6 (fun H locs M_2 e_M_2 hP hS => ?_)
    have hf := b_v hf e_M_2
    refine lv_aload_n hx hb dX6_readInto_9 rfl (lv_at hl 0 rfl) ?_
    refine lv_iconst (v := (0 : Int32)) hx hb dX6_readInto_10 (by decide) ?_
    refine pX6_5 hx hb hts hown hk hP hS wd_1_194 dX6_readInto_11 (fun H locs M_3 e_M_3 hP hS => ?_)
    have hf := b_v hf e_M_3
    refine lv_aload_n hx hb dX6_readInto_14 rfl (lv_at hl 0 rfl) ?_
    refine lv_iconst (v := (0 : Int32)) hx hb dX6_readInto_15 (by decide) ?_
    refine pX6_6 hx hb hts hown hk hP hS wd_1_195 dX6_readInto_16 (fun H locs M_4 e_M_4 hP hS => ?_)
    have hf := b_v hf e_M_4
    refine lv_iconst (v := (0 : Int32)) hx hb dX6_readInto_19 (by decide) ?_
    refine lv_istore_n (lv' := [(2, .int (0 : Int32)), (0, .ref (X.ad 47)), (1, .ref (X.ad k1))]) hx hb dX6_readInto_20 rfl hl (by decide) rfl (fun ls hl => ?_)
    obtain ⟨o21, ho21, hf⟩ := b_d hf
    refine lp_rule (b := bd_X6_readInto_21 g k1) (P := fun w : Int32 × Mem => ∀ (H : Heap) (locs : List Loc) (ls : Array Slot), wd X w.2 H → va_S X.A s.heap H locs → lv_has ls 3 [(2, .int w.1), (0, .ref (X.ad 47)), (1, .ref (X.ad k1))] → WW p l e 5 112 s m [.ref (X.ad 47), .ref (X.ad k1)] below meth c X (Qi X r M9) H locs 21 ls []) (K := fun o => (∀ (M_7 : Mem), o = .inl M_7 → ∀ (H : Heap) (locs : List Loc) (ls : Array Slot), wd X M_7 H → va_S X.A s.heap H locs → lv_has ls 3 [(0, .ref (X.ad 47))] → WW p l e 5 112 s m [.ref (X.ad 47), .ref (X.ad k1)] below meth c X (Qi X r M9) H locs 65 ls []) ∧ (∀ rr : Int32 × Mem, o = .inr rr → rr = (r, M9))) ?_ g ((0 : Int32), M_4) o21 ho21 ?_ H locs ls hP hS (lv_sub hl [0, 1, 2] rfl)
    · rintro ⟨v2_5, M_6⟩ o hf hkc21 hke21 H locs ls hP hS hl
      have hf := u2_e hf
      refine lv_iload_n hx hb dX6_readInto_21 rfl (lv_at hl 0 rfl) ?_
      refine lv_aload_n hx hb dX6_readInto_22 rfl (lv_at hl 1 rfl) ?_
      refine gX6_0 hx hb hts hown hk hP wd_1_187 dX6_readInto_23 ?_
      refine lv_icmp_ge (tgt := 65) hx hb dX6_readInto_26 (by decide) (fun c_8 => ?_) (fun c_8 => ?_)
      · have hf := i_t c_8 hf
        exact (hke21 _ (Option.some.inj hf).symm).1 _ rfl H locs ls hP hS (lv_sub hl [1] rfl)
      · have hf := i_f c_8 hf
        refine lv_iload_n hx hb dX6_readInto_29 rfl (lv_at hl 0 rfl) ?_
        refine lv_bipush (v := (80 : Int32)) hx hb dX6_readInto_30 (by decide) ?_
        refine lv_icmp_ge (tgt := 65) hx hb dX6_readInto_32 (by decide) (fun c_9 => ?_) (fun c_9 => ?_)
        · have hf := i_t c_9 hf
          exact (hke21 _ (Option.some.inj hf).symm).1 _ rfl H locs ls hP hS (lv_sub hl [1] rfl)
        · have hf := i_f c_9 hf
          refine lv_aload_n hx hb dX6_readInto_35 rfl (lv_at hl 1 rfl) ?_
          refine lv_aload_n hx hb dX6_readInto_36 rfl (lv_at hl 1 rfl) ?_
          refine lv_aload_n hx hb dX6_readInto_37 rfl (lv_at hl 1 rfl) ?_
          refine gX6_2 hx hb hts hown hk hP wd_1_191 dX6_readInto_38 ?_
          refine lv_iload_n hx hb dX6_readInto_41 rfl (lv_at hl 0 rfl) ?_
          obtain ⟨q_10, hf⟩ := g_if hf
          refine ald hx hb hk hP (by decide) rfl q_10 dX6_readInto_42 ?_
          refine lv_aload_n hx hb dX6_readInto_43 rfl (lv_at hl 2 rfl) ?_
          obtain ⟨⟨r_11, M_12⟩, h_r_11, hf⟩ := b_d hf
          have hf := u2_e hf
          refine k_X6_readSign hZ hP hS hl.1 wd_2_31 ⟨Nat.le_of_ble_eq_true rfl, Nat.le_of_ble_eq_true rfl⟩ (Nat.le_of_ble_eq_true rfl) dX6_readInto_44 ⟨Nat.zero_le _, Nat.zero_le _⟩ hk1 h_r_11 (fun H locs hP hS => ?_)
          refine pX6_1 hx hb hts hown hk hP hS wd_1_189 dX6_readInto_47 (fun H locs M_13 e_M_13 hP hS => ?_)
          have hf := b_v hf e_M_13
          refine lv_aload_n hx hb dX6_readInto_50 rfl (lv_at hl 1 rfl) ?_
          refine gX6_1 hx hb hts hown hk hP wd_1_189 dX6_readInto_51 ?_
          refine lv_if_eq (tgt := 59) hx hb dX6_readInto_54 (by decide) (fun c_14 => ?_) (fun c_14 => ?_)
          · have hf := i_t c_14 hf
            refine lv_iinc (v := v2_5 + (1 : Int32)) (lv' := [(2, .int (v2_5 + (1 : Int32))), (0, .ref (X.ad 47)), (1, .ref (X.ad k1))]) hx hb dX6_readInto_59 hl (k := 0) rfl rfl (by decide) rfl (fun ls hl => ?_)
            refine lv_goto (tgt := 21) hx hb dX6_readInto_62 (by decide) ?_
            exact hkc21 _ (Option.some.inj hf).symm H locs ls hP hS (lv_sub hl [0, 1, 2] rfl)
          · have hf := i_f c_14 hf
            refine lv_iload_n hx hb dX6_readInto_57 rfl (lv_at hl 0 rfl) ?_
            have hf := (hke21 _ (Option.some.inj hf).symm).2 _ rfl
            obtain ⟨e1, e2⟩ := Prod.mk.inj hf
            rw [e2] at hP
            exact ret_i hx hb hr hlocks hP hS e1 dX6_readInto_58
    · refine ⟨?_, ?_⟩
      · intro M_7 e H locs ls hP hS hl
        subst o21
        have hf := el_l hf
        have hf := u1_e hf
        refine lv_aload_n hx hb dX6_readInto_65 rfl (lv_at hl 0 rfl) ?_
        refine lv_aload_n hx hb dX6_readInto_66 rfl (lv_at hl 0 rfl) ?_
        refine gX6_4 hx hb hts hown hk hP wd_1_193 dX6_readInto_67 ?_
        refine lv_iconst (v := (1 : Int32)) hx hb dX6_readInto_70 (by decide) ?_
        refine lv_icmp_eq (tgt := 82) hx hb dX6_readInto_71 (by decide) (fun c_15 => ?_) (fun c_15 => ?_)
        · have hf := i_t c_15 hf
          exact jn82 M_7 hf H locs ls hP hS (lv_sub hl [0] rfl)
        · have hf := i_f c_15 hf
          refine lv_aload_n hx hb dX6_readInto_74 rfl (lv_at hl 0 rfl) ?_
          refine gX6_4 hx hb hts hown hk hP wd_1_193 dX6_readInto_75 ?_
          refine lv_iconst (v := (2 : Int32)) hx hb dX6_readInto_78 (by decide) ?_
          refine lv_icmp_ne (tgt := 86) hx hb dX6_readInto_79 (by decide) (fun c_20 => ?_) (fun c_20 => ?_)
          · have hf := i_f c_20 hf
            refine lv_iconst (v := (0 : Int32)) hx hb dX6_readInto_86 (by decide) ?_
            exact jn87 (0 : Int32) M_7 hf H locs ls hP hS (lv_sub hl [0] rfl)
          · have hf := i_t c_20 hf
            exact jn82 M_7 hf H locs ls hP hS (lv_sub hl [0] rfl)
      · intro rr e
        subst o21
        have hf := el_r hf
        exact Option.some.inj hf
  exact key s.heap [] hP hS
theorem hd_X6_readInto : Hd yX6_readInto 1 := by decide +kernel
theorem k_X6_readInto {p : Program} {l : Launch} {e : Env} {R : Room} {s : State} {m : MethodId} {args : Array Value} {below : List Frame} {meth : Method} {c : Code} {H : Heap} {locs : List Loc} {cells slots : Nat} {Q : State → Prop} {cc : ByteArray} {nL pc index : Nat} {ls : Array Slot} {rest : List Value} {X : En} {M : Mem} {H0 : Heap} {own : String} {g : Nat} {k1 : Nat} {r : Int32} {M9 : Mem} (hZ : Fx p c m s args X cc nL own) (hP : wd X M H) (hS : va_S X.A H0 H locs) (hsz : ls.size = nL) (hlk : Cond.methodLink own index yX6_readInto ∈ lw_u) (hR : 5 + 1 ≤ R.frames ∧ 8 + (3 + 11) + 112 ≤ R.locals) (hW : (rest.map fun v => v.category).sum ≤ 8) (hdg : decode cc pc = .ok (.invokevirtual index, 3)) (hcs : cells ≤ R.cells ∧ slots ≤ R.slots) (hk1 : isF k1) (hf : fn_X6_readInto g k1 M = some (r, M9))
    (kk : ∀ (H1 : Heap) (locs1 : List Loc), wd X M9 H1 → va_S X.A H0 H1 locs1 → W p l e R s m args below meth c H1 locs1 cells slots Q (F0 m (pc + 3) ls (.int r :: rest))) : W p l e R s m args below meth c H locs cells slots Q (F0 m pc ls (.ref (X.ad k1) :: .ref (X.ad 47) :: rest)) :=
  cal_i (runV (As := [.ref (X.ad k1)]) (rest := rest) hZ.1 hZ.2.1 hZ.2.2.1 hZ.2.2.2.1 hZ.2.2.2.2.1 hZ.2.2.2.2.2 hP (c_X6_readInto g k1 M hk1 r M9 hf) wd_2_29 wd_2_27 wd_2_28 wd_1_7 hd_X6_readInto (by decide) rfl rfl rfl hlk hR hsz rfl hW hdg hcs) hS kk
/-! FrameRaiser$Frame.copyFrom -/
def fn_X1_copyFrom (k0 : Nat) (k1 : Nat) (M : Mem) : Option (Mem) :=
  bv (scp M (k1 + 1) (k0 + 1) 216) fun M_1 =>
  bv (scp M_1 (k1 + 2) (k0 + 2) 8) fun M_2 =>
  bv (st M_2 k0 2 (M_2 k1 2)) fun M_3 =>
  bv (st M_3 k0 3 (M_3 k1 3)) fun M_4 =>
  bv (st M_4 k0 4 (M_4 k1 4)) fun M_5 =>
  some M_5
theorem dX1_copyFrom_0 : decode cX1_copyFrom 0 = .ok (.aload_n 1, 1) := by decide +kernel
theorem dX1_copyFrom_1 : decode cX1_copyFrom 1 = .ok (.getfield 9, 3) := by decide +kernel
theorem dX1_copyFrom_4 : decode cX1_copyFrom 4 = .ok (.iconst 0, 1) := by decide +kernel
theorem dX1_copyFrom_5 : decode cX1_copyFrom 5 = .ok (.aload_n 0, 1) := by decide +kernel
theorem dX1_copyFrom_6 : decode cX1_copyFrom 6 = .ok (.getfield 9, 3) := by decide +kernel
theorem dX1_copyFrom_9 : decode cX1_copyFrom 9 = .ok (.iconst 0, 1) := by decide +kernel
theorem dX1_copyFrom_10 : decode cX1_copyFrom 10 = .ok (.sipush 216, 3) := by decide +kernel
theorem dX1_copyFrom_13 : decode cX1_copyFrom 13 = .ok (.invokestatic 31, 3) := by decide +kernel
theorem dX1_copyFrom_16 : decode cX1_copyFrom 16 = .ok (.aload_n 1, 1) := by decide +kernel
theorem dX1_copyFrom_17 : decode cX1_copyFrom 17 = .ok (.getfield 15, 3) := by decide +kernel
theorem dX1_copyFrom_20 : decode cX1_copyFrom 20 = .ok (.iconst 0, 1) := by decide +kernel
theorem dX1_copyFrom_21 : decode cX1_copyFrom 21 = .ok (.aload_n 0, 1) := by decide +kernel
theorem dX1_copyFrom_22 : decode cX1_copyFrom 22 = .ok (.getfield 15, 3) := by decide +kernel
theorem dX1_copyFrom_25 : decode cX1_copyFrom 25 = .ok (.iconst 0, 1) := by decide +kernel
theorem dX1_copyFrom_26 : decode cX1_copyFrom 26 = .ok (.bipush 8, 2) := by decide +kernel
theorem dX1_copyFrom_28 : decode cX1_copyFrom 28 = .ok (.invokestatic 31, 3) := by decide +kernel
theorem dX1_copyFrom_31 : decode cX1_copyFrom 31 = .ok (.aload_n 0, 1) := by decide +kernel
theorem dX1_copyFrom_32 : decode cX1_copyFrom 32 = .ok (.aload_n 1, 1) := by decide +kernel
theorem dX1_copyFrom_33 : decode cX1_copyFrom 33 = .ok (.getfield 21, 3) := by decide +kernel
theorem dX1_copyFrom_36 : decode cX1_copyFrom 36 = .ok (.putfield 21, 3) := by decide +kernel
theorem dX1_copyFrom_39 : decode cX1_copyFrom 39 = .ok (.aload_n 0, 1) := by decide +kernel
theorem dX1_copyFrom_40 : decode cX1_copyFrom 40 = .ok (.aload_n 1, 1) := by decide +kernel
theorem dX1_copyFrom_41 : decode cX1_copyFrom 41 = .ok (.getfield 25, 3) := by decide +kernel
theorem dX1_copyFrom_44 : decode cX1_copyFrom 44 = .ok (.putfield 25, 3) := by decide +kernel
theorem dX1_copyFrom_47 : decode cX1_copyFrom 47 = .ok (.aload_n 0, 1) := by decide +kernel
theorem dX1_copyFrom_48 : decode cX1_copyFrom 48 = .ok (.aload_n 1, 1) := by decide +kernel
theorem dX1_copyFrom_49 : decode cX1_copyFrom 49 = .ok (.getfield 28, 3) := by decide +kernel
theorem dX1_copyFrom_52 : decode cX1_copyFrom 52 = .ok (.putfield 28, 3) := by decide +kernel
theorem dX1_copyFrom_55 : decode cX1_copyFrom 55 = .ok (.return_, 1) := by decide +kernel
set_option maxHeartbeats 4000000 in
set_option maxRecDepth 100000 in
theorem c_X1_copyFrom {l : Launch} {X : En} (k0 : Nat) (k1 : Nat) (M : Mem) (hk0 : isF k0) (hk1 : isF k1) (M9 : Mem) (hf : fn_X1_copyFrom k0 k1 M = some M9) : Cn l X yX1_copyFrom cX1_copyFrom 2 none 1 40 [.ref (X.ad k0), .ref (X.ad k1)] M (Qv X M9) := by
  refine Met.ofW (cc := cX1_copyFrom) (maxL := 2) (ret := none) (by decide) rfl ?_
  intro p e s m args below meth c s₁ B hml hv
  obtain ⟨rfl, hP, hk⟩ := hv
  have hx := B.exec
  have hb := B.bytes
  have hr := B.returns
  have hlocks := B.notSynchronized
  have hts : ∀ w ∈ lw_u, w.before ([.ref (X.ad k0), .ref (X.ad k1)] : List Value).toArray s = true := fun w hw => atoms_spec (ws := Cond.code yX1_copyFrom cX1_copyFrom 2 none :: lw_u) B.pre w (List.mem_cons_of_mem _ hw)
  have hown : s.vm.findClass RX1 = some m.cls := findClass_of_methodNamed B.named
  have hZ : Fx p c m s ([.ref (X.ad k0), .ref (X.ad k1)] : List Value).toArray X cX1_copyFrom 2 RX1 := ⟨hx, hb, hml, hts, hown, hk⟩
  have hS : va_S X.A s.heap s.heap [] := va_S.rf
  have hl := lv_entry ([.ref (X.ad k0), .ref (X.ad k1)]) (n := 2) (Nat.le_of_ble_eq_true rfl)
  rw [lg_entry_eq]
  generalize (lg_sl ([.ref (X.ad k0), .ref (X.ad k1)]) ++ List.replicate (2 - (lg_sl ([.ref (X.ad k0), .ref (X.ad k1)])).length) Slot.unset).toArray = ls at hl ⊢
  have hl : lv_has ls 2 [(0, .ref (X.ad k0)), (1, .ref (X.ad k1))] := hl
  show WW p l e 1 40 s m [.ref (X.ad k0), .ref (X.ad k1)] below meth c X (Qv X M9) s.heap [] 0 ls []
  have hP : wd X M s.heap := hP
  unfold fn_X1_copyFrom at hf
  have key : ∀ (H : Heap) (locs : List Loc), wd X M H → va_S X.A s.heap H locs → WW p l e 1 40 s m [.ref (X.ad k0), .ref (X.ad k1)] below meth c X (Qv X M9) H locs 0 ls [] := by
    intro H locs hP hS
    refine lv_aload_n hx hb dX1_copyFrom_0 rfl (lv_at hl 1 rfl) ?_
    refine gX1_0 hx hb hts hown hk hP hk1 wd_1_31 dX1_copyFrom_1 ?_
    refine lv_iconst (v := (0 : Int32)) hx hb dX1_copyFrom_4 (by decide) ?_
    refine lv_aload_n hx hb dX1_copyFrom_5 rfl (lv_at hl 0 rfl) ?_
    refine gX1_0 hx hb hts hown hk hP hk0 wd_1_31 dX1_copyFrom_6 ?_
    refine lv_iconst (v := (0 : Int32)) hx hb dX1_copyFrom_9 (by decide) ?_
    refine lv_sipush (v := (216 : Int32)) hx hb dX1_copyFrom_10 (by decide) ?_
    refine acp hx hb (hml.trans hl.1.symm) hts hown hk hP hS wd_2_74 wd_2_76 wd_2_75 wd_1_10 (isF_lt1 hk1) (isF_lt1 hk0) (rd_F1 hk1) (rd_F1 hk0) (v := (216 : Int32)) (by decide) (by decide) (Nat.le_of_ble_eq_true rfl) (by decide) dX1_copyFrom_13 (fun H locs M_1 e_M_1 hP hS => ?_)
    have hf := b_v hf e_M_1
    refine lv_aload_n hx hb dX1_copyFrom_16 rfl (lv_at hl 1 rfl) ?_
    refine gX1_1 hx hb hts hown hk hP hk1 wd_1_35 dX1_copyFrom_17 ?_
    refine lv_iconst (v := (0 : Int32)) hx hb dX1_copyFrom_20 (by decide) ?_
    refine lv_aload_n hx hb dX1_copyFrom_21 rfl (lv_at hl 0 rfl) ?_
    refine gX1_1 hx hb hts hown hk hP hk0 wd_1_35 dX1_copyFrom_22 ?_
    refine lv_iconst (v := (0 : Int32)) hx hb dX1_copyFrom_25 (by decide) ?_
    refine lv_bipush (v := (8 : Int32)) hx hb dX1_copyFrom_26 (by decide) ?_
    refine acp hx hb (hml.trans hl.1.symm) hts hown hk hP hS wd_2_74 wd_2_76 wd_2_75 wd_1_10 (isF_lt hk1) (isF_lt hk0) (rd_F2 hk1) (rd_F2 hk0) (v := (8 : Int32)) (by decide) (by decide) (Nat.le_of_ble_eq_true rfl) (by decide) dX1_copyFrom_28 (fun H locs M_2 e_M_2 hP hS => ?_)
    have hf := b_v hf e_M_2
    refine lv_aload_n hx hb dX1_copyFrom_31 rfl (lv_at hl 0 rfl) ?_
    refine lv_aload_n hx hb dX1_copyFrom_32 rfl (lv_at hl 1 rfl) ?_
    refine gX1_2 hx hb hts hown hk hP hk1 wd_1_39 dX1_copyFrom_33 ?_
    refine pX1_2 hx hb hts hown hk hP hS hk0 wd_1_39 dX1_copyFrom_36 (fun H locs M_3 e_M_3 hP hS => ?_)
    have hf := b_v hf e_M_3
    refine lv_aload_n hx hb dX1_copyFrom_39 rfl (lv_at hl 0 rfl) ?_
    refine lv_aload_n hx hb dX1_copyFrom_40 rfl (lv_at hl 1 rfl) ?_
    refine gX1_3 hx hb hts hown hk hP hk1 wd_1_41 dX1_copyFrom_41 ?_
    refine pX1_3 hx hb hts hown hk hP hS hk0 wd_1_41 dX1_copyFrom_44 (fun H locs M_4 e_M_4 hP hS => ?_)
    have hf := b_v hf e_M_4
    refine lv_aload_n hx hb dX1_copyFrom_47 rfl (lv_at hl 0 rfl) ?_
    refine lv_aload_n hx hb dX1_copyFrom_48 rfl (lv_at hl 1 rfl) ?_
    refine gX1_4 hx hb hts hown hk hP hk1 wd_1_43 dX1_copyFrom_49 ?_
    refine pX1_4 hx hb hts hown hk hP hS hk0 wd_1_43 dX1_copyFrom_52 (fun H locs M_5 e_M_5 hP hS => ?_)
    have hf := b_v hf e_M_5
    have hf := Option.some.inj hf
    rw [hf] at hP
    exact ret_v hx hb hr hlocks hP hS dX1_copyFrom_55
  exact key s.heap [] hP hS
theorem hd_X1_copyFrom : Hd yX1_copyFrom 1 := by decide +kernel
theorem k_X1_copyFrom {p : Program} {l : Launch} {e : Env} {R : Room} {s : State} {m : MethodId} {args : Array Value} {below : List Frame} {meth : Method} {c : Code} {H : Heap} {locs : List Loc} {cells slots : Nat} {Q : State → Prop} {cc : ByteArray} {nL pc index : Nat} {ls : Array Slot} {rest : List Value} {X : En} {M : Mem} {H0 : Heap} {own : String} {k0 : Nat} {k1 : Nat} {M9 : Mem} (hZ : Fx p c m s args X cc nL own) (hP : wd X M H) (hS : va_S X.A H0 H locs) (hsz : ls.size = nL) (hlk : Cond.methodLink own index yX1_copyFrom ∈ lw_u) (hR : 1 + 1 ≤ R.frames ∧ 8 + (2 + 11) + 40 ≤ R.locals) (hW : (rest.map fun v => v.category).sum ≤ 8) (hdg : decode cc pc = .ok (.invokevirtual index, 3)) (hcs : cells ≤ R.cells ∧ slots ≤ R.slots) (hk0 : isF k0) (hk1 : isF k1) (hf : fn_X1_copyFrom k0 k1 M = some M9)
    (kk : ∀ (H1 : Heap) (locs1 : List Loc), wd X M9 H1 → va_S X.A H0 H1 locs1 → W p l e R s m args below meth c H1 locs1 cells slots Q (F0 m (pc + 3) ls rest)) : W p l e R s m args below meth c H locs cells slots Q (F0 m pc ls (.ref (X.ad k1) :: .ref (X.ad k0) :: rest)) :=
  cal_v (runV (As := [.ref (X.ad k1)]) (rest := rest) hZ.1 hZ.2.1 hZ.2.2.1 hZ.2.2.2.1 hZ.2.2.2.2.1 hZ.2.2.2.2.2 hP (c_X1_copyFrom k0 k1 M hk0 hk1 M9 hf) wd_2_73 wd_2_71 wd_2_72 wd_1_2 hd_X1_copyFrom (isF_lt0 hk0) (rd_F0 hk0 _) rfl rfl hlk hR hsz rfl hW hdg hcs) hS kk
/-! FrameRaiser$History.record -/
def fn_X2_record (k1 : Nat) (M : Mem) : Option (Mem) :=
  if inb (rm ((M 21 2) + (M 21 0)) (8 : Int32)) 8 then
  (fn_X1_copyFrom (23 + 3 * ix (rm ((M 21 2) + (M 21 0)) (8 : Int32))) k1 M).bind fun M_2 =>
  if (8 : Int32) ≤ (M_2 21 0) then
    (bv (st M_2 21 2 (rm ((M_2 21 2) + (1 : Int32)) (8 : Int32))) fun M_4 =>
    some M_4)
  else
    (bv (st M_2 21 0 ((M_2 21 0) + (1 : Int32))) fun M_5 =>
    some M_5)
  else none
theorem dX2_record_0 : decode cX2_record 0 = .ok (.aload_n 0, 1) := by decide +kernel
theorem dX2_record_1 : decode cX2_record 1 = .ok (.getfield 11, 3) := by decide +kernel
theorem dX2_record_4 : decode cX2_record 4 = .ok (.aload_n 0, 1) := by decide +kernel
theorem dX2_record_5 : decode cX2_record 5 = .ok (.getfield 18, 3) := by decide +kernel
theorem dX2_record_8 : decode cX2_record 8 = .ok (.aload_n 0, 1) := by decide +kernel
theorem dX2_record_9 : decode cX2_record 9 = .ok (.getfield 22, 3) := by decide +kernel
theorem dX2_record_12 : decode cX2_record 12 = .ok (.iadd, 1) := by decide +kernel
theorem dX2_record_13 : decode cX2_record 13 = .ok (.bipush 8, 2) := by decide +kernel
theorem dX2_record_15 : decode cX2_record 15 = .ok (.irem, 1) := by decide +kernel
theorem dX2_record_16 : decode cX2_record 16 = .ok (.aaload, 1) := by decide +kernel
theorem dX2_record_17 : decode cX2_record 17 = .ok (.aload_n 1, 1) := by decide +kernel
theorem dX2_record_18 : decode cX2_record 18 = .ok (.invokevirtual 25, 3) := by decide +kernel
theorem dX2_record_21 : decode cX2_record 21 = .ok (.aload_n 0, 1) := by decide +kernel
theorem dX2_record_22 : decode cX2_record 22 = .ok (.getfield 22, 3) := by decide +kernel
theorem dX2_record_25 : decode cX2_record 25 = .ok (.bipush 8, 2) := by decide +kernel
theorem dX2_record_27 : decode cX2_record 27 = .ok (.if_icmp .ge 16, 3) := by decide +kernel
theorem dX2_record_30 : decode cX2_record 30 = .ok (.aload_n 0, 1) := by decide +kernel
theorem dX2_record_31 : decode cX2_record 31 = .ok (.dup, 1) := by decide +kernel
theorem dX2_record_32 : decode cX2_record 32 = .ok (.getfield 22, 3) := by decide +kernel
theorem dX2_record_35 : decode cX2_record 35 = .ok (.iconst 1, 1) := by decide +kernel
theorem dX2_record_36 : decode cX2_record 36 = .ok (.iadd, 1) := by decide +kernel
theorem dX2_record_37 : decode cX2_record 37 = .ok (.putfield 22, 3) := by decide +kernel
theorem dX2_record_40 : decode cX2_record 40 = .ok (.goto 16, 3) := by decide +kernel
theorem dX2_record_43 : decode cX2_record 43 = .ok (.aload_n 0, 1) := by decide +kernel
theorem dX2_record_44 : decode cX2_record 44 = .ok (.aload_n 0, 1) := by decide +kernel
theorem dX2_record_45 : decode cX2_record 45 = .ok (.getfield 18, 3) := by decide +kernel
theorem dX2_record_48 : decode cX2_record 48 = .ok (.iconst 1, 1) := by decide +kernel
theorem dX2_record_49 : decode cX2_record 49 = .ok (.iadd, 1) := by decide +kernel
theorem dX2_record_50 : decode cX2_record 50 = .ok (.bipush 8, 2) := by decide +kernel
theorem dX2_record_52 : decode cX2_record 52 = .ok (.irem, 1) := by decide +kernel
theorem dX2_record_53 : decode cX2_record 53 = .ok (.putfield 18, 3) := by decide +kernel
theorem dX2_record_56 : decode cX2_record 56 = .ok (.return_, 1) := by decide +kernel
set_option maxHeartbeats 4000000 in
set_option maxRecDepth 100000 in
theorem c_X2_record {l : Launch} {X : En} (k1 : Nat) (M : Mem) (hk1 : isF k1) (M9 : Mem) (hf : fn_X2_record k1 M = some M9) : Cn l X yX2_record cX2_record 2 none 2 61 [.ref (X.ad 21), .ref (X.ad k1)] M (Qv X M9) := by
  refine Met.ofW (cc := cX2_record) (maxL := 2) (ret := none) (by decide) rfl ?_
  intro p e s m args below meth c s₁ B hml hv
  obtain ⟨rfl, hP, hk⟩ := hv
  have hx := B.exec
  have hb := B.bytes
  have hr := B.returns
  have hlocks := B.notSynchronized
  have hts : ∀ w ∈ lw_u, w.before ([.ref (X.ad 21), .ref (X.ad k1)] : List Value).toArray s = true := fun w hw => atoms_spec (ws := Cond.code yX2_record cX2_record 2 none :: lw_u) B.pre w (List.mem_cons_of_mem _ hw)
  have hown : s.vm.findClass RX2 = some m.cls := findClass_of_methodNamed B.named
  have hZ : Fx p c m s ([.ref (X.ad 21), .ref (X.ad k1)] : List Value).toArray X cX2_record 2 RX2 := ⟨hx, hb, hml, hts, hown, hk⟩
  have hS : va_S X.A s.heap s.heap [] := va_S.rf
  have hl := lv_entry ([.ref (X.ad 21), .ref (X.ad k1)]) (n := 2) (Nat.le_of_ble_eq_true rfl)
  rw [lg_entry_eq]
  generalize (lg_sl ([.ref (X.ad 21), .ref (X.ad k1)]) ++ List.replicate (2 - (lg_sl ([.ref (X.ad 21), .ref (X.ad k1)])).length) Slot.unset).toArray = ls at hl ⊢
  have hl : lv_has ls 2 [(0, .ref (X.ad 21)), (1, .ref (X.ad k1))] := hl
  show WW p l e 2 61 s m [.ref (X.ad 21), .ref (X.ad k1)] below meth c X (Qv X M9) s.heap [] 0 ls []
  have hP : wd X M s.heap := hP
  unfold fn_X2_record at hf
  have key : ∀ (H : Heap) (locs : List Loc), wd X M H → va_S X.A s.heap H locs → WW p l e 2 61 s m [.ref (X.ad 21), .ref (X.ad k1)] below meth c X (Qv X M9) H locs 0 ls [] := by
    intro H locs hP hS
    refine lv_aload_n hx hb dX2_record_0 rfl (lv_at hl 0 rfl) ?_
    refine gX2_1 hx hb hts hown hk hP wd_1_162 dX2_record_1 ?_
    refine lv_aload_n hx hb dX2_record_4 rfl (lv_at hl 0 rfl) ?_
    refine gX2_2 hx hb hts hown hk hP wd_1_163 dX2_record_5 ?_
    refine lv_aload_n hx hb dX2_record_8 rfl (lv_at hl 0 rfl) ?_
    refine gX2_0 hx hb hts hown hk hP wd_1_160 dX2_record_9 ?_
    refine lv_iadd hx hb dX2_record_12 ?_
    refine lv_bipush (v := (8 : Int32)) hx hb dX2_record_13 (by decide) ?_
    refine rw_irem hx hb dX2_record_15 (by decide) ?_
    obtain ⟨q_1, hf⟩ := g_if hf
    refine aald hx hb hk hP q_1 dX2_record_16 ?_
    refine lv_aload_n hx hb dX2_record_17 rfl (lv_at hl 1 rfl) ?_
    obtain ⟨M_2, h_M_2, hf⟩ := b_d hf
    refine k_X1_copyFrom hZ hP hS hl.1 wd_2_70 ⟨Nat.le_of_ble_eq_true rfl, Nat.le_of_ble_eq_true rfl⟩ (Nat.le_of_ble_eq_true rfl) dX2_record_18 ⟨Nat.zero_le _, Nat.zero_le _⟩ (isF_h q_1) hk1 h_M_2 (fun H locs hP hS => ?_)
    refine lv_aload_n hx hb dX2_record_21 rfl (lv_at hl 0 rfl) ?_
    refine gX2_0 hx hb hts hown hk hP wd_1_160 dX2_record_22 ?_
    refine lv_bipush (v := (8 : Int32)) hx hb dX2_record_25 (by decide) ?_
    refine lv_icmp_ge (tgt := 43) hx hb dX2_record_27 (by decide) (fun c_3 => ?_) (fun c_3 => ?_)
    · have hf := i_t c_3 hf
      refine lv_aload_n hx hb dX2_record_43 rfl (lv_at hl 0 rfl) ?_
      refine lv_aload_n hx hb dX2_record_44 rfl (lv_at hl 0 rfl) ?_
      refine gX2_2 hx hb hts hown hk hP wd_1_163 dX2_record_45 ?_
      refine lv_iconst (v := (1 : Int32)) hx hb dX2_record_48 (by decide) ?_
      refine lv_iadd hx hb dX2_record_49 ?_
      refine lv_bipush (v := (8 : Int32)) hx hb dX2_record_50 (by decide) ?_
      refine rw_irem hx hb dX2_record_52 (by decide) ?_
      refine pX2_2 hx hb hts hown hk hP hS wd_1_163 dX2_record_53 (fun H locs M_4 e_M_4 hP hS => ?_)
      have hf := b_v hf e_M_4
      have hf := Option.some.inj hf
      rw [hf] at hP
      exact ret_v hx hb hr hlocks hP hS dX2_record_56
    · have hf := i_f c_3 hf
      refine lv_aload_n hx hb dX2_record_30 rfl (lv_at hl 0 rfl) ?_
      refine lv_dup hx hb dX2_record_31 rfl ?_
      refine gX2_0 hx hb hts hown hk hP wd_1_160 dX2_record_32 ?_
      refine lv_iconst (v := (1 : Int32)) hx hb dX2_record_35 (by decide) ?_
      refine lv_iadd hx hb dX2_record_36 ?_
      refine pX2_0 hx hb hts hown hk hP hS wd_1_160 dX2_record_37 (fun H locs M_5 e_M_5 hP hS => ?_)
      have hf := b_v hf e_M_5
      refine lv_goto (tgt := 56) hx hb dX2_record_40 (by decide) ?_
      have hf := Option.some.inj hf
      rw [hf] at hP
      exact ret_v hx hb hr hlocks hP hS dX2_record_56
  exact key s.heap [] hP hS
theorem hd_X2_record : Hd yX2_record 1 := by decide +kernel
theorem k_X2_record {p : Program} {l : Launch} {e : Env} {R : Room} {s : State} {m : MethodId} {args : Array Value} {below : List Frame} {meth : Method} {c : Code} {H : Heap} {locs : List Loc} {cells slots : Nat} {Q : State → Prop} {cc : ByteArray} {nL pc index : Nat} {ls : Array Slot} {rest : List Value} {X : En} {M : Mem} {H0 : Heap} {own : String} {k1 : Nat} {M9 : Mem} (hZ : Fx p c m s args X cc nL own) (hP : wd X M H) (hS : va_S X.A H0 H locs) (hsz : ls.size = nL) (hlk : Cond.methodLink own index yX2_record ∈ lw_u) (hR : 2 + 1 ≤ R.frames ∧ 8 + (2 + 11) + 61 ≤ R.locals) (hW : (rest.map fun v => v.category).sum ≤ 8) (hdg : decode cc pc = .ok (.invokevirtual index, 3)) (hcs : cells ≤ R.cells ∧ slots ≤ R.slots) (hk1 : isF k1) (hf : fn_X2_record k1 M = some M9)
    (kk : ∀ (H1 : Heap) (locs1 : List Loc), wd X M9 H1 → va_S X.A H0 H1 locs1 → W p l e R s m args below meth c H1 locs1 cells slots Q (F0 m (pc + 3) ls rest)) : W p l e R s m args below meth c H locs cells slots Q (F0 m pc ls (.ref (X.ad k1) :: .ref (X.ad 21) :: rest)) :=
  cal_v (runV (As := [.ref (X.ad k1)]) (rest := rest) hZ.1 hZ.2.1 hZ.2.2.1 hZ.2.2.2.1 hZ.2.2.2.2.1 hZ.2.2.2.2.2 hP (c_X2_record k1 M hk1 M9 hf) wd_2_69 wd_2_67 wd_2_68 wd_1_6 hd_X2_record (by decide) rfl rfl rfl hlk hR hsz rfl hW hdg hcs) hS kk
/-! FrameRaiser.forgetPieces -/
def fn_X7_forgetPieces (M : Mem) : Option (Mem) :=
  bv (st M 0 9 (0 : Int32)) fun M_1 =>
  bv (st M_1 0 10 (0 : Int32)) fun M_2 =>
  bv (st M_2 0 11 (0 : Int32)) fun M_3 =>
  some M_3
theorem dX7_forgetPieces_0 : decode cX7_forgetPieces 0 = .ok (.aload_n 0, 1) := by decide +kernel
theorem dX7_forgetPieces_1 : decode cX7_forgetPieces 1 = .ok (.iconst 0, 1) := by decide +kernel
theorem dX7_forgetPieces_2 : decode cX7_forgetPieces 2 = .ok (.putfield 297, 3) := by decide +kernel
theorem dX7_forgetPieces_5 : decode cX7_forgetPieces 5 = .ok (.aload_n 0, 1) := by decide +kernel
theorem dX7_forgetPieces_6 : decode cX7_forgetPieces 6 = .ok (.iconst 0, 1) := by decide +kernel
theorem dX7_forgetPieces_7 : decode cX7_forgetPieces 7 = .ok (.putfield 301, 3) := by decide +kernel
theorem dX7_forgetPieces_10 : decode cX7_forgetPieces 10 = .ok (.aload_n 0, 1) := by decide +kernel
theorem dX7_forgetPieces_11 : decode cX7_forgetPieces 11 = .ok (.iconst 0, 1) := by decide +kernel
theorem dX7_forgetPieces_12 : decode cX7_forgetPieces 12 = .ok (.putfield 304, 3) := by decide +kernel
theorem dX7_forgetPieces_15 : decode cX7_forgetPieces 15 = .ok (.return_, 1) := by decide +kernel
set_option maxHeartbeats 4000000 in
set_option maxRecDepth 100000 in
theorem c_X7_forgetPieces {l : Launch} {X : En} (M : Mem) (M9 : Mem) (hf : fn_X7_forgetPieces M = some M9) : Cn l X yX7_forgetPieces cX7_forgetPieces 1 none 0 0 [.ref (X.ad 0)] M (Qv X M9) := by
  refine Met.ofW (cc := cX7_forgetPieces) (maxL := 1) (ret := none) (by decide) rfl ?_
  intro p e s m args below meth c s₁ B hml hv
  obtain ⟨rfl, hP, hk⟩ := hv
  have hx := B.exec
  have hb := B.bytes
  have hr := B.returns
  have hlocks := B.notSynchronized
  have hts : ∀ w ∈ lw_u, w.before ([.ref (X.ad 0)] : List Value).toArray s = true := fun w hw => atoms_spec (ws := Cond.code yX7_forgetPieces cX7_forgetPieces 1 none :: lw_u) B.pre w (List.mem_cons_of_mem _ hw)
  have hown : s.vm.findClass RX7 = some m.cls := findClass_of_methodNamed B.named
  have hZ : Fx p c m s ([.ref (X.ad 0)] : List Value).toArray X cX7_forgetPieces 1 RX7 := ⟨hx, hb, hml, hts, hown, hk⟩
  have hS : va_S X.A s.heap s.heap [] := va_S.rf
  have hl := lv_entry ([.ref (X.ad 0)]) (n := 1) (Nat.le_of_ble_eq_true rfl)
  rw [lg_entry_eq]
  generalize (lg_sl ([.ref (X.ad 0)]) ++ List.replicate (1 - (lg_sl ([.ref (X.ad 0)])).length) Slot.unset).toArray = ls at hl ⊢
  have hl : lv_has ls 1 [(0, .ref (X.ad 0))] := hl
  show WW p l e 0 0 s m [.ref (X.ad 0)] below meth c X (Qv X M9) s.heap [] 0 ls []
  have hP : wd X M s.heap := hP
  unfold fn_X7_forgetPieces at hf
  have key : ∀ (H : Heap) (locs : List Loc), wd X M H → va_S X.A s.heap H locs → WW p l e 0 0 s m [.ref (X.ad 0)] below meth c X (Qv X M9) H locs 0 ls [] := by
    intro H locs hP hS
    refine lv_aload_n hx hb dX7_forgetPieces_0 rfl (lv_at hl 0 rfl) ?_
    refine lv_iconst (v := (0 : Int32)) hx hb dX7_forgetPieces_1 (by decide) ?_
    refine pX7_9 hx hb hts hown hk hP hS isZ_0 wd_1_222 dX7_forgetPieces_2 (fun H locs M_1 e_M_1 hP hS => ?_)
    have hf := b_v hf e_M_1
    refine lv_aload_n hx hb dX7_forgetPieces_5 rfl (lv_at hl 0 rfl) ?_
    refine lv_iconst (v := (0 : Int32)) hx hb dX7_forgetPieces_6 (by decide) ?_
    refine pX7_10 hx hb hts hown hk hP hS isZ_0 wd_1_223 dX7_forgetPieces_7 (fun H locs M_2 e_M_2 hP hS => ?_)
    have hf := b_v hf e_M_2
    refine lv_aload_n hx hb dX7_forgetPieces_10 rfl (lv_at hl 0 rfl) ?_
    refine lv_iconst (v := (0 : Int32)) hx hb dX7_forgetPieces_11 (by decide) ?_
    refine pX7_11 hx hb hts hown hk hP hS isZ_0 wd_1_224 dX7_forgetPieces_12 (fun H locs M_3 e_M_3 hP hS => ?_)
    have hf := b_v hf e_M_3
    have hf := Option.some.inj hf
    rw [hf] at hP
    exact ret_v hx hb hr hlocks hP hS dX7_forgetPieces_15
  exact key s.heap [] hP hS
theorem hd_X7_forgetPieces : Hd yX7_forgetPieces 0 := by decide +kernel
theorem k_X7_forgetPieces {p : Program} {l : Launch} {e : Env} {R : Room} {s : State} {m : MethodId} {args : Array Value} {below : List Frame} {meth : Method} {c : Code} {H : Heap} {locs : List Loc} {cells slots : Nat} {Q : State → Prop} {cc : ByteArray} {nL pc index : Nat} {ls : Array Slot} {rest : List Value} {X : En} {M : Mem} {H0 : Heap} {own : String} {M9 : Mem} (hZ : Fx p c m s args X cc nL own) (hP : wd X M H) (hS : va_S X.A H0 H locs) (hsz : ls.size = nL) (hlk : Cond.methodLink own index yX7_forgetPieces ∈ lw_u) (hR : 0 + 1 ≤ R.frames ∧ 8 + (1 + 11) + 0 ≤ R.locals) (hW : (rest.map fun v => v.category).sum ≤ 8) (hdg : decode cc pc = .ok (.invokevirtual index, 3)) (hcs : cells ≤ R.cells ∧ slots ≤ R.slots) (hf : fn_X7_forgetPieces M = some M9)
    (kk : ∀ (H1 : Heap) (locs1 : List Loc), wd X M9 H1 → va_S X.A H0 H1 locs1 → W p l e R s m args below meth c H1 locs1 cells slots Q (F0 m (pc + 3) ls rest)) : W p l e R s m args below meth c H locs cells slots Q (F0 m pc ls (.ref (X.ad 0) :: rest)) :=
  cal_v (runV (As := []) (rest := rest) hZ.1 hZ.2.1 hZ.2.2.1 hZ.2.2.2.1 hZ.2.2.2.2.1 hZ.2.2.2.2.2 hP (c_X7_forgetPieces M M9 hf) wd_2_81 wd_2_80 wd_p_4 wd_1_1 hd_X7_forgetPieces (by decide) rfl rfl rfl hlk hR hsz rfl hW hdg hcs) hS kk
/-! FrameRaiser.load -/
def fn_X7_load (g : Nat) (M : Mem) : Option (Int32 × Mem) :=
  (fn_X6_readInto g 53 M).bind (u2 fun r_1 M_2 =>
  if (M_2 47 1) = 0 then
    ((fn_X2_record 1 M_2).bind fun M_4 =>
    (fn_X1_copyFrom 1 53 M_4).bind fun M_5 =>
    (fn_X7_forgetPieces M_5).bind fun M_6 =>
    some (M_6 1 2, M_6))
  else
    (some ((-10 : Int32) - r_1, M_2)))
theorem dX7_load_0 : decode cX7_load 0 = .ok (.aload_n 0, 1) := by decide +kernel
theorem dX7_load_1 : decode cX7_load 1 = .ok (.getfield 49, 3) := by decide +kernel
theorem dX7_load_4 : decode cX7_load 4 = .ok (.aload_n 0, 1) := by decide +kernel
theorem dX7_load_5 : decode cX7_load 5 = .ok (.getfield 60, 3) := by decide +kernel
theorem dX7_load_8 : decode cX7_load 8 = .ok (.invokevirtual 74, 3) := by decide +kernel
theorem dX7_load_11 : decode cX7_load 11 = .ok (.istore_n 1, 1) := by decide +kernel
theorem dX7_load_12 : decode cX7_load 12 = .ok (.aload_n 0, 1) := by decide +kernel
theorem dX7_load_13 : decode cX7_load 13 = .ok (.getfield 49, 3) := by decide +kernel
theorem dX7_load_16 : decode cX7_load 16 = .ok (.getfield 78, 3) := by decide +kernel
theorem dX7_load_19 : decode cX7_load 19 = .ok (.ifCond .eq 8, 3) := by decide +kernel
theorem dX7_load_22 : decode cX7_load 22 = .ok (.bipush (-10), 2) := by decide +kernel
theorem dX7_load_24 : decode cX7_load 24 = .ok (.iload_n 1, 1) := by decide +kernel
theorem dX7_load_25 : decode cX7_load 25 = .ok (.isub, 1) := by decide +kernel
theorem dX7_load_26 : decode cX7_load 26 = .ok (.ireturn, 1) := by decide +kernel
theorem dX7_load_27 : decode cX7_load 27 = .ok (.aload_n 0, 1) := by decide +kernel
theorem dX7_load_28 : decode cX7_load 28 = .ok (.getfield 42, 3) := by decide +kernel
theorem dX7_load_31 : decode cX7_load 31 = .ok (.aload_n 0, 1) := by decide +kernel
theorem dX7_load_32 : decode cX7_load 32 = .ok (.getfield 10, 3) := by decide +kernel
theorem dX7_load_35 : decode cX7_load 35 = .ok (.invokevirtual 81, 3) := by decide +kernel
theorem dX7_load_38 : decode cX7_load 38 = .ok (.aload_n 0, 1) := by decide +kernel
theorem dX7_load_39 : decode cX7_load 39 = .ok (.getfield 10, 3) := by decide +kernel
theorem dX7_load_42 : decode cX7_load 42 = .ok (.aload_n 0, 1) := by decide +kernel
theorem dX7_load_43 : decode cX7_load 43 = .ok (.getfield 60, 3) := by decide +kernel
theorem dX7_load_46 : decode cX7_load 46 = .ok (.invokevirtual 85, 3) := by decide +kernel
theorem dX7_load_49 : decode cX7_load 49 = .ok (.aload_n 0, 1) := by decide +kernel
theorem dX7_load_50 : decode cX7_load 50 = .ok (.invokevirtual 88, 3) := by decide +kernel
theorem dX7_load_53 : decode cX7_load 53 = .ok (.aload_n 0, 1) := by decide +kernel
theorem dX7_load_54 : decode cX7_load 54 = .ok (.getfield 10, 3) := by decide +kernel
theorem dX7_load_57 : decode cX7_load 57 = .ok (.getfield 91, 3) := by decide +kernel
theorem dX7_load_60 : decode cX7_load 60 = .ok (.ireturn, 1) := by decide +kernel
set_option maxHeartbeats 4000000 in
set_option maxRecDepth 100000 in
theorem c_X7_load {l : Launch} {X : En} (g : Nat) (M : Mem) (r : Int32) (M9 : Mem) (hf : fn_X7_load g M = some (r, M9)) : Cn l X yX7_load cX7_load 2 (some .int) 6 134 [.ref (X.ad 0)] M (Qi X r M9) := by
  refine Met.ofW (cc := cX7_load) (maxL := 2) (ret := (some .int)) (by decide) rfl ?_
  intro p e s m args below meth c s₁ B hml hv
  obtain ⟨rfl, hP, hk⟩ := hv
  have hx := B.exec
  have hb := B.bytes
  have hr := B.returns
  have hlocks := B.notSynchronized
  have hts : ∀ w ∈ lw_u, w.before ([.ref (X.ad 0)] : List Value).toArray s = true := fun w hw => atoms_spec (ws := Cond.code yX7_load cX7_load 2 (some .int) :: lw_u) B.pre w (List.mem_cons_of_mem _ hw)
  have hown : s.vm.findClass RX7 = some m.cls := findClass_of_methodNamed B.named
  have hZ : Fx p c m s ([.ref (X.ad 0)] : List Value).toArray X cX7_load 2 RX7 := ⟨hx, hb, hml, hts, hown, hk⟩
  have hS : va_S X.A s.heap s.heap [] := va_S.rf
  have hl := lv_entry ([.ref (X.ad 0)]) (n := 2) (Nat.le_of_ble_eq_true rfl)
  rw [lg_entry_eq]
  generalize (lg_sl ([.ref (X.ad 0)]) ++ List.replicate (2 - (lg_sl ([.ref (X.ad 0)])).length) Slot.unset).toArray = ls at hl ⊢
  have hl : lv_has ls 2 [(0, .ref (X.ad 0))] := hl
  show WW p l e 6 134 s m [.ref (X.ad 0)] below meth c X (Qi X r M9) s.heap [] 0 ls []
  have hP : wd X M s.heap := hP
  unfold fn_X7_load at hf
  have key : ∀ (H : Heap) (locs : List Loc), wd X M H → va_S X.A s.heap H locs → WW p l e 6 134 s m [.ref (X.ad 0)] below meth c X (Qi X r M9) H locs 0 ls [] := by
    intro H locs hP hS
    refine lv_aload_n hx hb dX7_load_0 rfl (lv_at hl 0 rfl) ?_
    refine gX7_5 hx hb hts hown hk hP wd_1_218 dX7_load_1 ?_
    refine lv_aload_n hx hb dX7_load_4 rfl (lv_at hl 0 rfl) ?_
    refine gX7_7 hx hb hts hown hk hP wd_1_220 dX7_load_5 ?_
    obtain ⟨⟨r_1, M_2⟩, h_r_1, hf⟩ := b_d hf
    have hf := u2_e hf
    refine k_X6_readInto hZ hP hS hl.1 wd_2_26 ⟨Nat.le_of_ble_eq_true rfl, Nat.le_of_ble_eq_true rfl⟩ (Nat.le_of_ble_eq_true rfl) dX7_load_8 ⟨Nat.zero_le _, Nat.zero_le _⟩ isF_53 h_r_1 (fun H locs hP hS => ?_)
    refine lv_istore_n (lv' := [(1, .int r_1), (0, .ref (X.ad 0))]) hx hb dX7_load_11 rfl hl (by decide) rfl (fun ls hl => ?_)
    refine lv_aload_n hx hb dX7_load_12 rfl (lv_at hl 1 rfl) ?_
    refine gX7_5 hx hb hts hown hk hP wd_1_218 dX7_load_13 ?_
    refine gX6_1 hx hb hts hown hk hP wd_1_190 dX7_load_16 ?_
    refine lv_if_eq (tgt := 27) hx hb dX7_load_19 (by decide) (fun c_3 => ?_) (fun c_3 => ?_)
    · have hf := i_t c_3 hf
      refine lv_aload_n hx hb dX7_load_27 rfl (lv_at hl 1 rfl) ?_
      refine gX7_4 hx hb hts hown hk hP wd_1_217 dX7_load_28 ?_
      refine lv_aload_n hx hb dX7_load_31 rfl (lv_at hl 1 rfl) ?_
      refine gX7_0 hx hb hts hown hk hP wd_1_213 dX7_load_32 ?_
      obtain ⟨M_4, h_M_4, hf⟩ := b_d hf
      refine k_X2_record hZ hP hS hl.1 wd_2_66 ⟨Nat.le_of_ble_eq_true rfl, Nat.le_of_ble_eq_true rfl⟩ (Nat.le_of_ble_eq_true rfl) dX7_load_35 ⟨Nat.zero_le _, Nat.zero_le _⟩ isF_1 h_M_4 (fun H locs hP hS => ?_)
      refine lv_aload_n hx hb dX7_load_38 rfl (lv_at hl 1 rfl) ?_
      refine gX7_0 hx hb hts hown hk hP wd_1_213 dX7_load_39 ?_
      refine lv_aload_n hx hb dX7_load_42 rfl (lv_at hl 1 rfl) ?_
      refine gX7_7 hx hb hts hown hk hP wd_1_220 dX7_load_43 ?_
      obtain ⟨M_5, h_M_5, hf⟩ := b_d hf
      refine k_X1_copyFrom hZ hP hS hl.1 wd_2_77 ⟨Nat.le_of_ble_eq_true rfl, Nat.le_of_ble_eq_true rfl⟩ (Nat.le_of_ble_eq_true rfl) dX7_load_46 ⟨Nat.zero_le _, Nat.zero_le _⟩ isF_1 isF_53 h_M_5 (fun H locs hP hS => ?_)
      refine lv_aload_n hx hb dX7_load_49 rfl (lv_at hl 1 rfl) ?_
      obtain ⟨M_6, h_M_6, hf⟩ := b_d hf
      refine k_X7_forgetPieces hZ hP hS hl.1 wd_2_78 ⟨Nat.le_of_ble_eq_true rfl, Nat.le_of_ble_eq_true rfl⟩ (Nat.le_of_ble_eq_true rfl) dX7_load_50 ⟨Nat.zero_le _, Nat.zero_le _⟩ h_M_6 (fun H locs hP hS => ?_)
      refine lv_aload_n hx hb dX7_load_53 rfl (lv_at hl 1 rfl) ?_
      refine gX7_0 hx hb hts hown hk hP wd_1_213 dX7_load_54 ?_
      refine gX1_2 hx hb hts hown hk hP isF_1 wd_1_40 dX7_load_57 ?_
      have hf := Option.some.inj hf
      obtain ⟨e1, e2⟩ := Prod.mk.inj hf
      rw [e2] at hP
      exact ret_i hx hb hr hlocks hP hS e1 dX7_load_60
    · have hf := i_f c_3 hf
      refine lv_bipush (v := (-10 : Int32)) hx hb dX7_load_22 (by decide) ?_
      refine lv_iload_n hx hb dX7_load_24 rfl (lv_at hl 0 rfl) ?_
      refine lv_isub hx hb dX7_load_25 ?_
      have hf := Option.some.inj hf
      obtain ⟨e1, e2⟩ := Prod.mk.inj hf
      rw [e2] at hP
      exact ret_i hx hb hr hlocks hP hS e1 dX7_load_26
  exact key s.heap [] hP hS
theorem hd_X7_load : Hd yX7_load 0 := by decide +kernel
theorem k_X7_load {p : Program} {l : Launch} {e : Env} {R : Room} {s : State} {m : MethodId} {args : Array Value} {below : List Frame} {meth : Method} {c : Code} {H : Heap} {locs : List Loc} {cells slots : Nat} {Q : State → Prop} {cc : ByteArray} {nL pc index : Nat} {ls : Array Slot} {rest : List Value} {X : En} {M : Mem} {H0 : Heap} {own : String} {g : Nat} {r : Int32} {M9 : Mem} (hZ : Fx p c m s args X cc nL own) (hP : wd X M H) (hS : va_S X.A H0 H locs) (hsz : ls.size = nL) (hlk : Cond.methodLink own index yX7_load ∈ lw_u) (hR : 6 + 1 ≤ R.frames ∧ 8 + (2 + 11) + 134 ≤ R.locals) (hW : (rest.map fun v => v.category).sum ≤ 8) (hdg : decode cc pc = .ok (.invokevirtual index, 3)) (hcs : cells ≤ R.cells ∧ slots ≤ R.slots) (hf : fn_X7_load g M = some (r, M9))
    (kk : ∀ (H1 : Heap) (locs1 : List Loc), wd X M9 H1 → va_S X.A H0 H1 locs1 → W p l e R s m args below meth c H1 locs1 cells slots Q (F0 m (pc + 3) ls (.int r :: rest))) : W p l e R s m args below meth c H locs cells slots Q (F0 m pc ls (.ref (X.ad 0) :: rest)) :=
  cal_i (runV (As := []) (rest := rest) hZ.1 hZ.2.1 hZ.2.2.1 hZ.2.2.2.1 hZ.2.2.2.2.1 hZ.2.2.2.2.2 hP (c_X7_load g M r M9 hf) wd_2_25 wd_2_23 wd_2_24 wd_1_1 hd_X7_load (by decide) rfl rfl rfl hlk hR hsz rfl hW hdg hcs) hS kk
/-! FrameRaiser.faultKind -/
def fn_X7_faultKind (M : Mem) : Int32 :=
  M 47 1
theorem dX7_faultKind_0 : decode cX7_faultKind 0 = .ok (.aload_n 0, 1) := by decide +kernel
theorem dX7_faultKind_1 : decode cX7_faultKind 1 = .ok (.getfield 49, 3) := by decide +kernel
theorem dX7_faultKind_4 : decode cX7_faultKind 4 = .ok (.getfield 78, 3) := by decide +kernel
theorem dX7_faultKind_7 : decode cX7_faultKind 7 = .ok (.ireturn, 1) := by decide +kernel
set_option maxHeartbeats 4000000 in
set_option maxRecDepth 100000 in
theorem c_X7_faultKind {l : Launch} {X : En} (M : Mem) (r : Int32) (hf : fn_X7_faultKind M = r) : Cn l X yX7_faultKind cX7_faultKind 1 (some .int) 0 0 [.ref (X.ad 0)] M (Qi X r M) := by
  refine Met.ofW (cc := cX7_faultKind) (maxL := 1) (ret := (some .int)) (by decide) rfl ?_
  intro p e s m args below meth c s₁ B hml hv
  obtain ⟨rfl, hP, hk⟩ := hv
  have hx := B.exec
  have hb := B.bytes
  have hr := B.returns
  have hlocks := B.notSynchronized
  have hts : ∀ w ∈ lw_u, w.before ([.ref (X.ad 0)] : List Value).toArray s = true := fun w hw => atoms_spec (ws := Cond.code yX7_faultKind cX7_faultKind 1 (some .int) :: lw_u) B.pre w (List.mem_cons_of_mem _ hw)
  have hown : s.vm.findClass RX7 = some m.cls := findClass_of_methodNamed B.named
  have hZ : Fx p c m s ([.ref (X.ad 0)] : List Value).toArray X cX7_faultKind 1 RX7 := ⟨hx, hb, hml, hts, hown, hk⟩
  have hS : va_S X.A s.heap s.heap [] := va_S.rf
  have hl := lv_entry ([.ref (X.ad 0)]) (n := 1) (Nat.le_of_ble_eq_true rfl)
  rw [lg_entry_eq]
  generalize (lg_sl ([.ref (X.ad 0)]) ++ List.replicate (1 - (lg_sl ([.ref (X.ad 0)])).length) Slot.unset).toArray = ls at hl ⊢
  have hl : lv_has ls 1 [(0, .ref (X.ad 0))] := hl
  show WW p l e 0 0 s m [.ref (X.ad 0)] below meth c X (Qi X r M) s.heap [] 0 ls []
  have hP : wd X M s.heap := hP
  unfold fn_X7_faultKind at hf
  have key : ∀ (H : Heap) (locs : List Loc), wd X M H → va_S X.A s.heap H locs → WW p l e 0 0 s m [.ref (X.ad 0)] below meth c X (Qi X r M) H locs 0 ls [] := by
    intro H locs hP hS
    refine lv_aload_n hx hb dX7_faultKind_0 rfl (lv_at hl 0 rfl) ?_
    refine gX7_5 hx hb hts hown hk hP wd_1_218 dX7_faultKind_1 ?_
    refine gX6_1 hx hb hts hown hk hP wd_1_190 dX7_faultKind_4 ?_
    exact ret_i hx hb hr hlocks hP hS hf dX7_faultKind_7
  exact key s.heap [] hP hS
theorem hd_X7_faultKind : Hd yX7_faultKind 0 := by decide +kernel
theorem k_X7_faultKind {p : Program} {l : Launch} {e : Env} {R : Room} {s : State} {m : MethodId} {args : Array Value} {below : List Frame} {meth : Method} {c : Code} {H : Heap} {locs : List Loc} {cells slots : Nat} {Q : State → Prop} {cc : ByteArray} {nL pc index : Nat} {ls : Array Slot} {rest : List Value} {X : En} {M : Mem} {H0 : Heap} {own : String} (hZ : Fx p c m s args X cc nL own) (hP : wd X M H) (hS : va_S X.A H0 H locs) (hsz : ls.size = nL) (hlk : Cond.methodLink own index yX7_faultKind ∈ lw_u) (hR : 0 + 1 ≤ R.frames ∧ 8 + (1 + 11) + 0 ≤ R.locals) (hW : (rest.map fun v => v.category).sum ≤ 8) (hdg : decode cc pc = .ok (.invokevirtual index, 3)) (hcs : cells ≤ R.cells ∧ slots ≤ R.slots)
    (kk : ∀ (H1 : Heap) (locs1 : List Loc), wd X M H1 → va_S X.A H0 H1 locs1 → W p l e R s m args below meth c H1 locs1 cells slots Q (F0 m (pc + 3) ls (.int (fn_X7_faultKind M) :: rest))) : W p l e R s m args below meth c H locs cells slots Q (F0 m pc ls (.ref (X.ad 0) :: rest)) :=
  cal_i (runV (As := []) (rest := rest) hZ.1 hZ.2.1 hZ.2.2.1 hZ.2.2.2.1 hZ.2.2.2.2.1 hZ.2.2.2.2.2 hP (c_X7_faultKind M _ rfl) wd_2_85 wd_2_83 wd_2_84 wd_1_1 hd_X7_faultKind (by decide) rfl rfl rfl hlk hR hsz rfl hW hdg hcs) hS kk
/-! FrameRaiser.clear -/
def fn_X7_clear (g : Nat) (M : Mem) : Option (Int32 × Mem) :=
  bv (M 1 2) fun v1_1 =>
  (fn_X2_record 1 M).bind fun M_2 =>
  (fn_X1_empty g 1 M_2).bind fun M_3 =>
  (fn_X7_forgetPieces M_3).bind fun M_4 =>
  some (v1_1, M_4)
theorem dX7_clear_0 : decode cX7_clear 0 = .ok (.aload_n 0, 1) := by decide +kernel
theorem dX7_clear_1 : decode cX7_clear 1 = .ok (.getfield 10, 3) := by decide +kernel
theorem dX7_clear_4 : decode cX7_clear 4 = .ok (.getfield 91, 3) := by decide +kernel
theorem dX7_clear_7 : decode cX7_clear 7 = .ok (.istore_n 1, 1) := by decide +kernel
theorem dX7_clear_8 : decode cX7_clear 8 = .ok (.aload_n 0, 1) := by decide +kernel
theorem dX7_clear_9 : decode cX7_clear 9 = .ok (.getfield 42, 3) := by decide +kernel
theorem dX7_clear_12 : decode cX7_clear 12 = .ok (.aload_n 0, 1) := by decide +kernel
theorem dX7_clear_13 : decode cX7_clear 13 = .ok (.getfield 10, 3) := by decide +kernel
theorem dX7_clear_16 : decode cX7_clear 16 = .ok (.invokevirtual 81, 3) := by decide +kernel
theorem dX7_clear_19 : decode cX7_clear 19 = .ok (.aload_n 0, 1) := by decide +kernel
theorem dX7_clear_20 : decode cX7_clear 20 = .ok (.getfield 10, 3) := by decide +kernel
theorem dX7_clear_23 : decode cX7_clear 23 = .ok (.invokevirtual 94, 3) := by decide +kernel
theorem dX7_clear_26 : decode cX7_clear 26 = .ok (.aload_n 0, 1) := by decide +kernel
theorem dX7_clear_27 : decode cX7_clear 27 = .ok (.invokevirtual 88, 3) := by decide +kernel
theorem dX7_clear_30 : decode cX7_clear 30 = .ok (.iload_n 1, 1) := by decide +kernel
theorem dX7_clear_31 : decode cX7_clear 31 = .ok (.ireturn, 1) := by decide +kernel
set_option maxHeartbeats 4000000 in
set_option maxRecDepth 100000 in
theorem c_X7_clear {l : Launch} {X : En} (g : Nat) (M : Mem) (r : Int32) (M9 : Mem) (hf : fn_X7_clear g M = some (r, M9)) : Cn l X yX7_clear cX7_clear 2 (some .int) 3 82 [.ref (X.ad 0)] M (Qi X r M9) := by
  refine Met.ofW (cc := cX7_clear) (maxL := 2) (ret := (some .int)) (by decide) rfl ?_
  intro p e s m args below meth c s₁ B hml hv
  obtain ⟨rfl, hP, hk⟩ := hv
  have hx := B.exec
  have hb := B.bytes
  have hr := B.returns
  have hlocks := B.notSynchronized
  have hts : ∀ w ∈ lw_u, w.before ([.ref (X.ad 0)] : List Value).toArray s = true := fun w hw => atoms_spec (ws := Cond.code yX7_clear cX7_clear 2 (some .int) :: lw_u) B.pre w (List.mem_cons_of_mem _ hw)
  have hown : s.vm.findClass RX7 = some m.cls := findClass_of_methodNamed B.named
  have hZ : Fx p c m s ([.ref (X.ad 0)] : List Value).toArray X cX7_clear 2 RX7 := ⟨hx, hb, hml, hts, hown, hk⟩
  have hS : va_S X.A s.heap s.heap [] := va_S.rf
  have hl := lv_entry ([.ref (X.ad 0)]) (n := 2) (Nat.le_of_ble_eq_true rfl)
  rw [lg_entry_eq]
  generalize (lg_sl ([.ref (X.ad 0)]) ++ List.replicate (2 - (lg_sl ([.ref (X.ad 0)])).length) Slot.unset).toArray = ls at hl ⊢
  have hl : lv_has ls 2 [(0, .ref (X.ad 0))] := hl
  show WW p l e 3 82 s m [.ref (X.ad 0)] below meth c X (Qi X r M9) s.heap [] 0 ls []
  have hP : wd X M s.heap := hP
  unfold fn_X7_clear at hf
  have key : ∀ (H : Heap) (locs : List Loc), wd X M H → va_S X.A s.heap H locs → WW p l e 3 82 s m [.ref (X.ad 0)] below meth c X (Qi X r M9) H locs 0 ls [] := by
    intro H locs hP hS
    refine lv_aload_n hx hb dX7_clear_0 rfl (lv_at hl 0 rfl) ?_
    refine gX7_0 hx hb hts hown hk hP wd_1_213 dX7_clear_1 ?_
    refine gX1_2 hx hb hts hown hk hP isF_1 wd_1_40 dX7_clear_4 ?_
    refine lv_topi (fun v1_1 e_v1_1 => ?_)
    have hf := b_v hf e_v1_1
    refine lv_istore_n (lv' := [(1, .int v1_1), (0, .ref (X.ad 0))]) hx hb dX7_clear_7 rfl hl (by decide) rfl (fun ls hl => ?_)
    refine lv_aload_n hx hb dX7_clear_8 rfl (lv_at hl 1 rfl) ?_
    refine gX7_4 hx hb hts hown hk hP wd_1_217 dX7_clear_9 ?_
    refine lv_aload_n hx hb dX7_clear_12 rfl (lv_at hl 1 rfl) ?_
    refine gX7_0 hx hb hts hown hk hP wd_1_213 dX7_clear_13 ?_
    obtain ⟨M_2, h_M_2, hf⟩ := b_d hf
    refine k_X2_record hZ hP hS hl.1 wd_2_66 ⟨Nat.le_of_ble_eq_true rfl, Nat.le_of_ble_eq_true rfl⟩ (Nat.le_of_ble_eq_true rfl) dX7_clear_16 ⟨Nat.zero_le _, Nat.zero_le _⟩ isF_1 h_M_2 (fun H locs hP hS => ?_)
    refine lv_aload_n hx hb dX7_clear_19 rfl (lv_at hl 1 rfl) ?_
    refine gX7_0 hx hb hts hown hk hP wd_1_213 dX7_clear_20 ?_
    obtain ⟨M_3, h_M_3, hf⟩ := b_d hf
    refine k_X1_empty hZ hP hS hl.1 wd_2_90 ⟨Nat.le_of_ble_eq_true rfl, Nat.le_of_ble_eq_true rfl⟩ (Nat.le_of_ble_eq_true rfl) dX7_clear_23 ⟨Nat.zero_le _, Nat.zero_le _⟩ isF_1 h_M_3 (fun H locs hP hS => ?_)
    refine lv_aload_n hx hb dX7_clear_26 rfl (lv_at hl 1 rfl) ?_
    obtain ⟨M_4, h_M_4, hf⟩ := b_d hf
    refine k_X7_forgetPieces hZ hP hS hl.1 wd_2_78 ⟨Nat.le_of_ble_eq_true rfl, Nat.le_of_ble_eq_true rfl⟩ (Nat.le_of_ble_eq_true rfl) dX7_clear_27 ⟨Nat.zero_le _, Nat.zero_le _⟩ h_M_4 (fun H locs hP hS => ?_)
    refine lv_iload_n hx hb dX7_clear_30 rfl (lv_at hl 0 rfl) ?_
    have hf := Option.some.inj hf
    obtain ⟨e1, e2⟩ := Prod.mk.inj hf
    rw [e2] at hP
    exact ret_i hx hb hr hlocks hP hS e1 dX7_clear_31
  exact key s.heap [] hP hS
theorem hd_X7_clear : Hd yX7_clear 0 := by decide +kernel
theorem k_X7_clear {p : Program} {l : Launch} {e : Env} {R : Room} {s : State} {m : MethodId} {args : Array Value} {below : List Frame} {meth : Method} {c : Code} {H : Heap} {locs : List Loc} {cells slots : Nat} {Q : State → Prop} {cc : ByteArray} {nL pc index : Nat} {ls : Array Slot} {rest : List Value} {X : En} {M : Mem} {H0 : Heap} {own : String} {g : Nat} {r : Int32} {M9 : Mem} (hZ : Fx p c m s args X cc nL own) (hP : wd X M H) (hS : va_S X.A H0 H locs) (hsz : ls.size = nL) (hlk : Cond.methodLink own index yX7_clear ∈ lw_u) (hR : 3 + 1 ≤ R.frames ∧ 8 + (2 + 11) + 82 ≤ R.locals) (hW : (rest.map fun v => v.category).sum ≤ 8) (hdg : decode cc pc = .ok (.invokevirtual index, 3)) (hcs : cells ≤ R.cells ∧ slots ≤ R.slots) (hf : fn_X7_clear g M = some (r, M9))
    (kk : ∀ (H1 : Heap) (locs1 : List Loc), wd X M9 H1 → va_S X.A H0 H1 locs1 → W p l e R s m args below meth c H1 locs1 cells slots Q (F0 m (pc + 3) ls (.int r :: rest))) : W p l e R s m args below meth c H locs cells slots Q (F0 m pc ls (.ref (X.ad 0) :: rest)) :=
  cal_i (runV (As := []) (rest := rest) hZ.1 hZ.2.1 hZ.2.2.1 hZ.2.2.2.1 hZ.2.2.2.2.1 hZ.2.2.2.2.2 hP (c_X7_clear g M r M9 hf) wd_2_89 wd_2_87 wd_2_88 wd_1_1 hd_X7_clear (by decide) rfl rfl rfl hlk hR hsz rfl hW hdg hcs) hS kk
/-! FrameRaiser$Box.takeAll -/
def fn_X0_takeAll (k0 : Nat) (x1 : Int32) (x2 : Int32) (x3 : Int32) (x4 : Int32) (x5 : Int32) (x6 : Int32) (M : Mem) : Option (Int32 × Mem) :=
  (fn_X0_take k0 (0 : Int32) x1 M).bind (u2 fun r_1 M_2 =>
  if r_1 = 0 then
    (some ((0 : Int32), M_2))
  else
    ((fn_X0_take k0 (1 : Int32) x2 M_2).bind (u2 fun r_4 M_5 =>
    if r_4 = 0 then
      (some ((0 : Int32), M_5))
    else
      ((fn_X0_take k0 (2 : Int32) x3 M_5).bind (u2 fun r_7 M_8 =>
      if r_7 = 0 then
        (some ((0 : Int32), M_8))
      else
        ((fn_X0_take k0 (3 : Int32) x4 M_8).bind (u2 fun r_10 M_11 =>
        if r_10 = 0 then
          (some ((0 : Int32), M_11))
        else
          ((fn_X0_take k0 (4 : Int32) x5 M_11).bind (u2 fun r_13 M_14 =>
          if r_13 = 0 then
            (some ((0 : Int32), M_14))
          else
            ((fn_X0_take k0 (5 : Int32) x6 M_14).bind (u2 fun r_16 M_17 =>
            if r_16 = 0 then
              (some ((0 : Int32), M_17))
            else
              (some ((1 : Int32), M_17)))))))))))))
theorem dX0_takeAll_0 : decode cX0_takeAll 0 = .ok (.aload_n 0, 1) := by decide +kernel
theorem dX0_takeAll_1 : decode cX0_takeAll 1 = .ok (.iconst 0, 1) := by decide +kernel
theorem dX0_takeAll_2 : decode cX0_takeAll 2 = .ok (.iload_n 1, 1) := by decide +kernel
theorem dX0_takeAll_3 : decode cX0_takeAll 3 = .ok (.invokevirtual 15, 3) := by decide +kernel
theorem dX0_takeAll_6 : decode cX0_takeAll 6 = .ok (.ifCond .eq 55, 3) := by decide +kernel
theorem dX0_takeAll_9 : decode cX0_takeAll 9 = .ok (.aload_n 0, 1) := by decide +kernel
theorem dX0_takeAll_10 : decode cX0_takeAll 10 = .ok (.iconst 1, 1) := by decide +kernel
theorem dX0_takeAll_11 : decode cX0_takeAll 11 = .ok (.iload_n 2, 1) := by decide +kernel
theorem dX0_takeAll_12 : decode cX0_takeAll 12 = .ok (.invokevirtual 15, 3) := by decide +kernel
theorem dX0_takeAll_15 : decode cX0_takeAll 15 = .ok (.ifCond .eq 46, 3) := by decide +kernel
theorem dX0_takeAll_18 : decode cX0_takeAll 18 = .ok (.aload_n 0, 1) := by decide +kernel
theorem dX0_takeAll_19 : decode cX0_takeAll 19 = .ok (.iconst 2, 1) := by decide +kernel
theorem dX0_takeAll_20 : decode cX0_takeAll 20 = .ok (.iload_n 3, 1) := by decide +kernel
theorem dX0_takeAll_21 : decode cX0_takeAll 21 = .ok (.invokevirtual 15, 3) := by decide +kernel
theorem dX0_takeAll_24 : decode cX0_takeAll 24 = .ok (.ifCond .eq 37, 3) := by decide +kernel
theorem dX0_takeAll_27 : decode cX0_takeAll 27 = .ok (.aload_n 0, 1) := by decide +kernel
theorem dX0_takeAll_28 : decode cX0_takeAll 28 = .ok (.iconst 3, 1) := by decide +kernel
theorem dX0_takeAll_29 : decode cX0_takeAll 29 = .ok (.iload 4, 2) := by decide +kernel
theorem dX0_takeAll_31 : decode cX0_takeAll 31 = .ok (.invokevirtual 15, 3) := by decide +kernel
theorem dX0_takeAll_34 : decode cX0_takeAll 34 = .ok (.ifCond .eq 27, 3) := by decide +kernel
theorem dX0_takeAll_37 : decode cX0_takeAll 37 = .ok (.aload_n 0, 1) := by decide +kernel
theorem dX0_takeAll_38 : decode cX0_takeAll 38 = .ok (.iconst 4, 1) := by decide +kernel
theorem dX0_takeAll_39 : decode cX0_takeAll 39 = .ok (.iload 5, 2) := by decide +kernel
theorem dX0_takeAll_41 : decode cX0_takeAll 41 = .ok (.invokevirtual 15, 3) := by decide +kernel
theorem dX0_takeAll_44 : decode cX0_takeAll 44 = .ok (.ifCond .eq 17, 3) := by decide +kernel
theorem dX0_takeAll_47 : decode cX0_takeAll 47 = .ok (.aload_n 0, 1) := by decide +kernel
theorem dX0_takeAll_48 : decode cX0_takeAll 48 = .ok (.iconst 5, 1) := by decide +kernel
theorem dX0_takeAll_49 : decode cX0_takeAll 49 = .ok (.iload 6, 2) := by decide +kernel
theorem dX0_takeAll_51 : decode cX0_takeAll 51 = .ok (.invokevirtual 15, 3) := by decide +kernel
theorem dX0_takeAll_54 : decode cX0_takeAll 54 = .ok (.ifCond .eq 7, 3) := by decide +kernel
theorem dX0_takeAll_57 : decode cX0_takeAll 57 = .ok (.iconst 1, 1) := by decide +kernel
theorem dX0_takeAll_58 : decode cX0_takeAll 58 = .ok (.goto 4, 3) := by decide +kernel
theorem dX0_takeAll_61 : decode cX0_takeAll 61 = .ok (.iconst 0, 1) := by decide +kernel
theorem dX0_takeAll_62 : decode cX0_takeAll 62 = .ok (.ireturn, 1) := by decide +kernel
set_option maxHeartbeats 4000000 in
set_option maxRecDepth 100000 in
theorem c_X0_takeAll {l : Launch} {X : En} (k0 : Nat) (x1 : Int32) (x2 : Int32) (x3 : Int32) (x4 : Int32) (x5 : Int32) (x6 : Int32) (M : Mem) (hk0 : isB k0) (r : Int32) (M9 : Mem) (hf : fn_X0_takeAll k0 x1 x2 x3 x4 x5 x6 M = some (r, M9)) : Cn l X yX0_takeAll cX0_takeAll 7 (some .boolean) 1 24 [.ref (X.ad k0), .int x1, .int x2, .int x3, .int x4, .int x5, .int x6] M (Qi X r M9) := by
  refine Met.ofW (cc := cX0_takeAll) (maxL := 7) (ret := (some .boolean)) (by decide) rfl ?_
  intro p e s m args below meth c s₁ B hml hv
  obtain ⟨rfl, hP, hk⟩ := hv
  have hx := B.exec
  have hb := B.bytes
  have hr := B.returns
  have hlocks := B.notSynchronized
  have hts : ∀ w ∈ lw_u, w.before ([.ref (X.ad k0), .int x1, .int x2, .int x3, .int x4, .int x5, .int x6] : List Value).toArray s = true := fun w hw => atoms_spec (ws := Cond.code yX0_takeAll cX0_takeAll 7 (some .boolean) :: lw_u) B.pre w (List.mem_cons_of_mem _ hw)
  have hown : s.vm.findClass RX0 = some m.cls := findClass_of_methodNamed B.named
  have hZ : Fx p c m s ([.ref (X.ad k0), .int x1, .int x2, .int x3, .int x4, .int x5, .int x6] : List Value).toArray X cX0_takeAll 7 RX0 := ⟨hx, hb, hml, hts, hown, hk⟩
  have hS : va_S X.A s.heap s.heap [] := va_S.rf
  have hl := lv_entry ([.ref (X.ad k0), .int x1, .int x2, .int x3, .int x4, .int x5, .int x6]) (n := 7) (Nat.le_of_ble_eq_true rfl)
  rw [lg_entry_eq]
  generalize (lg_sl ([.ref (X.ad k0), .int x1, .int x2, .int x3, .int x4, .int x5, .int x6]) ++ List.replicate (7 - (lg_sl ([.ref (X.ad k0), .int x1, .int x2, .int x3, .int x4, .int x5, .int x6])).length) Slot.unset).toArray = ls at hl ⊢
  have hl : lv_has ls 7 [(0, .ref (X.ad k0)), (1, .int x1), (2, .int x2), (3, .int x3), (4, .int x4), (5, .int x5), (6, .int x6)] := hl
  show WW p l e 1 24 s m [.ref (X.ad k0), .int x1, .int x2, .int x3, .int x4, .int x5, .int x6] below meth c X (Qi X r M9) s.heap [] 0 ls []
  have hP : wd X M s.heap := hP
  unfold fn_X0_takeAll at hf
  have key : ∀ (H : Heap) (locs : List Loc), wd X M H → va_S X.A s.heap H locs → WW p l e 1 24 s m [.ref (X.ad k0), .int x1, .int x2, .int x3, .int x4, .int x5, .int x6] below meth c X (Qi X r M9) H locs 0 ls [] := by
    intro H locs hP hS
    refine lv_aload_n hx hb dX0_takeAll_0 rfl (lv_at hl 0 rfl) ?_
    refine lv_iconst (v := (0 : Int32)) hx hb dX0_takeAll_1 (by decide) ?_
    refine lv_iload_n hx hb dX0_takeAll_2 rfl (lv_at hl 1 rfl) ?_
    obtain ⟨⟨r_1, M_2⟩, h_r_1, hf⟩ := b_d hf
    have hf := u2_e hf
    refine k_X0_take hZ hP hS hl.1 wd_2_99 ⟨Nat.le_of_ble_eq_true rfl, Nat.le_of_ble_eq_true rfl⟩ (Nat.le_of_ble_eq_true rfl) dX0_takeAll_3 ⟨Nat.zero_le _, Nat.zero_le _⟩ hk0 h_r_1 (fun H locs hP hS => ?_)
    refine lv_if_eq (tgt := 61) hx hb dX0_takeAll_6 (by decide) (fun c_3 => ?_) (fun c_3 => ?_)
    · have hf := i_t c_3 hf
      refine lv_iconst (v := (0 : Int32)) hx hb dX0_takeAll_61 (by decide) ?_
      have hf := Option.some.inj hf
      obtain ⟨e1, e2⟩ := Prod.mk.inj hf
      rw [e2] at hP
      exact ret_z hx hb hr hlocks hP hS isZ_0 e1 dX0_takeAll_62
    · have hf := i_f c_3 hf
      refine lv_aload_n hx hb dX0_takeAll_9 rfl (lv_at hl 0 rfl) ?_
      refine lv_iconst (v := (1 : Int32)) hx hb dX0_takeAll_10 (by decide) ?_
      refine lv_iload_n hx hb dX0_takeAll_11 rfl (lv_at hl 2 rfl) ?_
      obtain ⟨⟨r_4, M_5⟩, h_r_4, hf⟩ := b_d hf
      have hf := u2_e hf
      refine k_X0_take hZ hP hS hl.1 wd_2_99 ⟨Nat.le_of_ble_eq_true rfl, Nat.le_of_ble_eq_true rfl⟩ (Nat.le_of_ble_eq_true rfl) dX0_takeAll_12 ⟨Nat.zero_le _, Nat.zero_le _⟩ hk0 h_r_4 (fun H locs hP hS => ?_)
      refine lv_if_eq (tgt := 61) hx hb dX0_takeAll_15 (by decide) (fun c_6 => ?_) (fun c_6 => ?_)
      · have hf := i_t c_6 hf
        refine lv_iconst (v := (0 : Int32)) hx hb dX0_takeAll_61 (by decide) ?_
        have hf := Option.some.inj hf
        obtain ⟨e1, e2⟩ := Prod.mk.inj hf
        rw [e2] at hP
        exact ret_z hx hb hr hlocks hP hS isZ_0 e1 dX0_takeAll_62
      · have hf := i_f c_6 hf
        refine lv_aload_n hx hb dX0_takeAll_18 rfl (lv_at hl 0 rfl) ?_
        refine lv_iconst (v := (2 : Int32)) hx hb dX0_takeAll_19 (by decide) ?_
        refine lv_iload_n hx hb dX0_takeAll_20 rfl (lv_at hl 3 rfl) ?_
        obtain ⟨⟨r_7, M_8⟩, h_r_7, hf⟩ := b_d hf
        have hf := u2_e hf
        refine k_X0_take hZ hP hS hl.1 wd_2_99 ⟨Nat.le_of_ble_eq_true rfl, Nat.le_of_ble_eq_true rfl⟩ (Nat.le_of_ble_eq_true rfl) dX0_takeAll_21 ⟨Nat.zero_le _, Nat.zero_le _⟩ hk0 h_r_7 (fun H locs hP hS => ?_)
        refine lv_if_eq (tgt := 61) hx hb dX0_takeAll_24 (by decide) (fun c_9 => ?_) (fun c_9 => ?_)
        · have hf := i_t c_9 hf
          refine lv_iconst (v := (0 : Int32)) hx hb dX0_takeAll_61 (by decide) ?_
          have hf := Option.some.inj hf
          obtain ⟨e1, e2⟩ := Prod.mk.inj hf
          rw [e2] at hP
          exact ret_z hx hb hr hlocks hP hS isZ_0 e1 dX0_takeAll_62
        · have hf := i_f c_9 hf
          refine lv_aload_n hx hb dX0_takeAll_27 rfl (lv_at hl 0 rfl) ?_
          refine lv_iconst (v := (3 : Int32)) hx hb dX0_takeAll_28 (by decide) ?_
          refine lv_iload hx hb dX0_takeAll_29 (lv_at hl 4 rfl) ?_
          obtain ⟨⟨r_10, M_11⟩, h_r_10, hf⟩ := b_d hf
          have hf := u2_e hf
          refine k_X0_take hZ hP hS hl.1 wd_2_99 ⟨Nat.le_of_ble_eq_true rfl, Nat.le_of_ble_eq_true rfl⟩ (Nat.le_of_ble_eq_true rfl) dX0_takeAll_31 ⟨Nat.zero_le _, Nat.zero_le _⟩ hk0 h_r_10 (fun H locs hP hS => ?_)
          refine lv_if_eq (tgt := 61) hx hb dX0_takeAll_34 (by decide) (fun c_12 => ?_) (fun c_12 => ?_)
          · have hf := i_t c_12 hf
            refine lv_iconst (v := (0 : Int32)) hx hb dX0_takeAll_61 (by decide) ?_
            have hf := Option.some.inj hf
            obtain ⟨e1, e2⟩ := Prod.mk.inj hf
            rw [e2] at hP
            exact ret_z hx hb hr hlocks hP hS isZ_0 e1 dX0_takeAll_62
          · have hf := i_f c_12 hf
            refine lv_aload_n hx hb dX0_takeAll_37 rfl (lv_at hl 0 rfl) ?_
            refine lv_iconst (v := (4 : Int32)) hx hb dX0_takeAll_38 (by decide) ?_
            refine lv_iload hx hb dX0_takeAll_39 (lv_at hl 5 rfl) ?_
            obtain ⟨⟨r_13, M_14⟩, h_r_13, hf⟩ := b_d hf
            have hf := u2_e hf
            refine k_X0_take hZ hP hS hl.1 wd_2_99 ⟨Nat.le_of_ble_eq_true rfl, Nat.le_of_ble_eq_true rfl⟩ (Nat.le_of_ble_eq_true rfl) dX0_takeAll_41 ⟨Nat.zero_le _, Nat.zero_le _⟩ hk0 h_r_13 (fun H locs hP hS => ?_)
            refine lv_if_eq (tgt := 61) hx hb dX0_takeAll_44 (by decide) (fun c_15 => ?_) (fun c_15 => ?_)
            · have hf := i_t c_15 hf
              refine lv_iconst (v := (0 : Int32)) hx hb dX0_takeAll_61 (by decide) ?_
              have hf := Option.some.inj hf
              obtain ⟨e1, e2⟩ := Prod.mk.inj hf
              rw [e2] at hP
              exact ret_z hx hb hr hlocks hP hS isZ_0 e1 dX0_takeAll_62
            · have hf := i_f c_15 hf
              refine lv_aload_n hx hb dX0_takeAll_47 rfl (lv_at hl 0 rfl) ?_
              refine lv_iconst (v := (5 : Int32)) hx hb dX0_takeAll_48 (by decide) ?_
              refine lv_iload hx hb dX0_takeAll_49 (lv_at hl 6 rfl) ?_
              obtain ⟨⟨r_16, M_17⟩, h_r_16, hf⟩ := b_d hf
              have hf := u2_e hf
              refine k_X0_take hZ hP hS hl.1 wd_2_99 ⟨Nat.le_of_ble_eq_true rfl, Nat.le_of_ble_eq_true rfl⟩ (Nat.le_of_ble_eq_true rfl) dX0_takeAll_51 ⟨Nat.zero_le _, Nat.zero_le _⟩ hk0 h_r_16 (fun H locs hP hS => ?_)
              refine lv_if_eq (tgt := 61) hx hb dX0_takeAll_54 (by decide) (fun c_18 => ?_) (fun c_18 => ?_)
              · have hf := i_t c_18 hf
                refine lv_iconst (v := (0 : Int32)) hx hb dX0_takeAll_61 (by decide) ?_
                have hf := Option.some.inj hf
                obtain ⟨e1, e2⟩ := Prod.mk.inj hf
                rw [e2] at hP
                exact ret_z hx hb hr hlocks hP hS isZ_0 e1 dX0_takeAll_62
              · have hf := i_f c_18 hf
                refine lv_iconst (v := (1 : Int32)) hx hb dX0_takeAll_57 (by decide) ?_
                refine lv_goto (tgt := 62) hx hb dX0_takeAll_58 (by decide) ?_
                have hf := Option.some.inj hf
                obtain ⟨e1, e2⟩ := Prod.mk.inj hf
                rw [e2] at hP
                exact ret_z hx hb hr hlocks hP hS isZ_1 e1 dX0_takeAll_62
  exact key s.heap [] hP hS
theorem hd_X0_takeAll : Hd yX0_takeAll 6 := by decide +kernel
theorem k_X0_takeAll {p : Program} {l : Launch} {e : Env} {R : Room} {s : State} {m : MethodId} {args : Array Value} {below : List Frame} {meth : Method} {c : Code} {H : Heap} {locs : List Loc} {cells slots : Nat} {Q : State → Prop} {cc : ByteArray} {nL pc index : Nat} {ls : Array Slot} {rest : List Value} {X : En} {M : Mem} {H0 : Heap} {own : String} {k0 : Nat} {x1 : Int32} {x2 : Int32} {x3 : Int32} {x4 : Int32} {x5 : Int32} {x6 : Int32} {r : Int32} {M9 : Mem} (hZ : Fx p c m s args X cc nL own) (hP : wd X M H) (hS : va_S X.A H0 H locs) (hsz : ls.size = nL) (hlk : Cond.methodLink own index yX0_takeAll ∈ lw_u) (hR : 1 + 1 ≤ R.frames ∧ 8 + (7 + 11) + 24 ≤ R.locals) (hW : (rest.map fun v => v.category).sum ≤ 8) (hdg : decode cc pc = .ok (.invokevirtual index, 3)) (hcs : cells ≤ R.cells ∧ slots ≤ R.slots) (hk0 : isB k0) (hf : fn_X0_takeAll k0 x1 x2 x3 x4 x5 x6 M = some (r, M9))
    (kk : ∀ (H1 : Heap) (locs1 : List Loc), wd X M9 H1 → va_S X.A H0 H1 locs1 → W p l e R s m args below meth c H1 locs1 cells slots Q (F0 m (pc + 3) ls (.int r :: rest))) : W p l e R s m args below meth c H locs cells slots Q (F0 m pc ls (.int x6 :: .int x5 :: .int x4 :: .int x3 :: .int x2 :: .int x1 :: .ref (X.ad k0) :: rest)) :=
  cal_i (runV (As := [.int x1, .int x2, .int x3, .int x4, .int x5, .int x6]) (rest := rest) hZ.1 hZ.2.1 hZ.2.2.1 hZ.2.2.2.1 hZ.2.2.2.2.1 hZ.2.2.2.2.2 hP (c_X0_takeAll k0 x1 x2 x3 x4 x5 x6 M hk0 r M9 hf) wd_2_98 wd_2_96 wd_2_97 wd_1_8 hd_X0_takeAll (isB_lt0 hk0) (rd_B0 hk0 _) rfl rfl hlk hR hsz rfl hW hdg hcs) hS kk
/-! FrameRaiser.addPiece -/
def fn_X7_addPiece (g : Nat) (x1 : Int32) (x2 : Int32) (x3 : Int32) (x4 : Int32) (x5 : Int32) (x6 : Int32) (M : Mem) : Option (Int32 × Mem) :=
  (fn_X0_takeAll 51 x1 x2 x3 x4 x5 x6 M).bind (u2 fun r_1 M_2 =>
  if r_1 = 0 then
    (some ((-1 : Int32), M_2))
  else
    ((fn_X1_meetsOther g 1 51 (-1 : Int32) M_2).bind fun r_4 =>
    if r_4 = 0 then
      (if (M_2 1 2) < (8 : Int32) then
        ((fn_X2_record 1 M_2).bind fun M_7 =>
        (fn_X1_addBox g 1 51 (M_7 1 2) M_7).bind fun M_8 =>
        (fn_X7_forgetPieces M_8).bind fun M_9 =>
        some ((M_9 1 2) - (1 : Int32), M_9))
      else
        (some ((-3 : Int32), M_2)))
    else
      (some ((-2 : Int32), M_2))))
theorem dX7_addPiece_0 : decode cX7_addPiece 0 = .ok (.aload_n 0, 1) := by decide +kernel
theorem dX7_addPiece_1 : decode cX7_addPiece 1 = .ok (.getfield 56, 3) := by decide +kernel
theorem dX7_addPiece_4 : decode cX7_addPiece 4 = .ok (.iload_n 1, 1) := by decide +kernel
theorem dX7_addPiece_5 : decode cX7_addPiece 5 = .ok (.iload_n 2, 1) := by decide +kernel
theorem dX7_addPiece_6 : decode cX7_addPiece 6 = .ok (.iload_n 3, 1) := by decide +kernel
theorem dX7_addPiece_7 : decode cX7_addPiece 7 = .ok (.iload 4, 2) := by decide +kernel
theorem dX7_addPiece_9 : decode cX7_addPiece 9 = .ok (.iload 5, 2) := by decide +kernel
theorem dX7_addPiece_11 : decode cX7_addPiece 11 = .ok (.iload 6, 2) := by decide +kernel
theorem dX7_addPiece_13 : decode cX7_addPiece 13 = .ok (.invokevirtual 97, 3) := by decide +kernel
theorem dX7_addPiece_16 : decode cX7_addPiece 16 = .ok (.ifCond .ne 5, 3) := by decide +kernel
theorem dX7_addPiece_19 : decode cX7_addPiece 19 = .ok (.iconst (-1), 1) := by decide +kernel
theorem dX7_addPiece_20 : decode cX7_addPiece 20 = .ok (.ireturn, 1) := by decide +kernel
theorem dX7_addPiece_21 : decode cX7_addPiece 21 = .ok (.aload_n 0, 1) := by decide +kernel
theorem dX7_addPiece_22 : decode cX7_addPiece 22 = .ok (.getfield 10, 3) := by decide +kernel
theorem dX7_addPiece_25 : decode cX7_addPiece 25 = .ok (.aload_n 0, 1) := by decide +kernel
theorem dX7_addPiece_26 : decode cX7_addPiece 26 = .ok (.getfield 56, 3) := by decide +kernel
theorem dX7_addPiece_29 : decode cX7_addPiece 29 = .ok (.iconst (-1), 1) := by decide +kernel
theorem dX7_addPiece_30 : decode cX7_addPiece 30 = .ok (.invokevirtual 101, 3) := by decide +kernel
theorem dX7_addPiece_33 : decode cX7_addPiece 33 = .ok (.ifCond .eq 6, 3) := by decide +kernel
theorem dX7_addPiece_36 : decode cX7_addPiece 36 = .ok (.bipush (-2), 2) := by decide +kernel
theorem dX7_addPiece_38 : decode cX7_addPiece 38 = .ok (.ireturn, 1) := by decide +kernel
theorem dX7_addPiece_39 : decode cX7_addPiece 39 = .ok (.aload_n 0, 1) := by decide +kernel
theorem dX7_addPiece_40 : decode cX7_addPiece 40 = .ok (.getfield 10, 3) := by decide +kernel
theorem dX7_addPiece_43 : decode cX7_addPiece 43 = .ok (.getfield 91, 3) := by decide +kernel
theorem dX7_addPiece_46 : decode cX7_addPiece 46 = .ok (.bipush 8, 2) := by decide +kernel
theorem dX7_addPiece_48 : decode cX7_addPiece 48 = .ok (.if_icmp .lt 6, 3) := by decide +kernel
theorem dX7_addPiece_51 : decode cX7_addPiece 51 = .ok (.bipush (-3), 2) := by decide +kernel
theorem dX7_addPiece_53 : decode cX7_addPiece 53 = .ok (.ireturn, 1) := by decide +kernel
theorem dX7_addPiece_54 : decode cX7_addPiece 54 = .ok (.aload_n 0, 1) := by decide +kernel
theorem dX7_addPiece_55 : decode cX7_addPiece 55 = .ok (.getfield 42, 3) := by decide +kernel
theorem dX7_addPiece_58 : decode cX7_addPiece 58 = .ok (.aload_n 0, 1) := by decide +kernel
theorem dX7_addPiece_59 : decode cX7_addPiece 59 = .ok (.getfield 10, 3) := by decide +kernel
theorem dX7_addPiece_62 : decode cX7_addPiece 62 = .ok (.invokevirtual 81, 3) := by decide +kernel
theorem dX7_addPiece_65 : decode cX7_addPiece 65 = .ok (.aload_n 0, 1) := by decide +kernel
theorem dX7_addPiece_66 : decode cX7_addPiece 66 = .ok (.getfield 10, 3) := by decide +kernel
theorem dX7_addPiece_69 : decode cX7_addPiece 69 = .ok (.aload_n 0, 1) := by decide +kernel
theorem dX7_addPiece_70 : decode cX7_addPiece 70 = .ok (.getfield 56, 3) := by decide +kernel
theorem dX7_addPiece_73 : decode cX7_addPiece 73 = .ok (.aload_n 0, 1) := by decide +kernel
theorem dX7_addPiece_74 : decode cX7_addPiece 74 = .ok (.getfield 10, 3) := by decide +kernel
theorem dX7_addPiece_77 : decode cX7_addPiece 77 = .ok (.getfield 91, 3) := by decide +kernel
theorem dX7_addPiece_80 : decode cX7_addPiece 80 = .ok (.invokevirtual 105, 3) := by decide +kernel
theorem dX7_addPiece_83 : decode cX7_addPiece 83 = .ok (.aload_n 0, 1) := by decide +kernel
theorem dX7_addPiece_84 : decode cX7_addPiece 84 = .ok (.invokevirtual 88, 3) := by decide +kernel
theorem dX7_addPiece_87 : decode cX7_addPiece 87 = .ok (.aload_n 0, 1) := by decide +kernel
theorem dX7_addPiece_88 : decode cX7_addPiece 88 = .ok (.getfield 10, 3) := by decide +kernel
theorem dX7_addPiece_91 : decode cX7_addPiece 91 = .ok (.getfield 91, 3) := by decide +kernel
theorem dX7_addPiece_94 : decode cX7_addPiece 94 = .ok (.iconst 1, 1) := by decide +kernel
theorem dX7_addPiece_95 : decode cX7_addPiece 95 = .ok (.isub, 1) := by decide +kernel
theorem dX7_addPiece_96 : decode cX7_addPiece 96 = .ok (.ireturn, 1) := by decide +kernel
set_option maxHeartbeats 4000000 in
set_option maxRecDepth 100000 in
theorem c_X7_addPiece {l : Launch} {X : En} (g : Nat) (x1 : Int32) (x2 : Int32) (x3 : Int32) (x4 : Int32) (x5 : Int32) (x6 : Int32) (M : Mem) (r : Int32) (M9 : Mem) (hf : fn_X7_addPiece g x1 x2 x3 x4 x5 x6 M = some (r, M9)) : Cn l X yX7_addPiece cX7_addPiece 7 (some .int) 3 82 [.ref (X.ad 0), .int x1, .int x2, .int x3, .int x4, .int x5, .int x6] M (Qi X r M9) := by
  refine Met.ofW (cc := cX7_addPiece) (maxL := 7) (ret := (some .int)) (by decide) rfl ?_
  intro p e s m args below meth c s₁ B hml hv
  obtain ⟨rfl, hP, hk⟩ := hv
  have hx := B.exec
  have hb := B.bytes
  have hr := B.returns
  have hlocks := B.notSynchronized
  have hts : ∀ w ∈ lw_u, w.before ([.ref (X.ad 0), .int x1, .int x2, .int x3, .int x4, .int x5, .int x6] : List Value).toArray s = true := fun w hw => atoms_spec (ws := Cond.code yX7_addPiece cX7_addPiece 7 (some .int) :: lw_u) B.pre w (List.mem_cons_of_mem _ hw)
  have hown : s.vm.findClass RX7 = some m.cls := findClass_of_methodNamed B.named
  have hZ : Fx p c m s ([.ref (X.ad 0), .int x1, .int x2, .int x3, .int x4, .int x5, .int x6] : List Value).toArray X cX7_addPiece 7 RX7 := ⟨hx, hb, hml, hts, hown, hk⟩
  have hS : va_S X.A s.heap s.heap [] := va_S.rf
  have hl := lv_entry ([.ref (X.ad 0), .int x1, .int x2, .int x3, .int x4, .int x5, .int x6]) (n := 7) (Nat.le_of_ble_eq_true rfl)
  rw [lg_entry_eq]
  generalize (lg_sl ([.ref (X.ad 0), .int x1, .int x2, .int x3, .int x4, .int x5, .int x6]) ++ List.replicate (7 - (lg_sl ([.ref (X.ad 0), .int x1, .int x2, .int x3, .int x4, .int x5, .int x6])).length) Slot.unset).toArray = ls at hl ⊢
  have hl : lv_has ls 7 [(0, .ref (X.ad 0)), (1, .int x1), (2, .int x2), (3, .int x3), (4, .int x4), (5, .int x5), (6, .int x6)] := hl
  show WW p l e 3 82 s m [.ref (X.ad 0), .int x1, .int x2, .int x3, .int x4, .int x5, .int x6] below meth c X (Qi X r M9) s.heap [] 0 ls []
  have hP : wd X M s.heap := hP
  unfold fn_X7_addPiece at hf
  have key : ∀ (H : Heap) (locs : List Loc), wd X M H → va_S X.A s.heap H locs → WW p l e 3 82 s m [.ref (X.ad 0), .int x1, .int x2, .int x3, .int x4, .int x5, .int x6] below meth c X (Qi X r M9) H locs 0 ls [] := by
    intro H locs hP hS
    refine lv_aload_n hx hb dX7_addPiece_0 rfl (lv_at hl 0 rfl) ?_
    refine gX7_6 hx hb hts hown hk hP wd_1_219 dX7_addPiece_1 ?_
    refine lv_iload_n hx hb dX7_addPiece_4 rfl (lv_at hl 1 rfl) ?_
    refine lv_iload_n hx hb dX7_addPiece_5 rfl (lv_at hl 2 rfl) ?_
    refine lv_iload_n hx hb dX7_addPiece_6 rfl (lv_at hl 3 rfl) ?_
    refine lv_iload hx hb dX7_addPiece_7 (lv_at hl 4 rfl) ?_
    refine lv_iload hx hb dX7_addPiece_9 (lv_at hl 5 rfl) ?_
    refine lv_iload hx hb dX7_addPiece_11 (lv_at hl 6 rfl) ?_
    obtain ⟨⟨r_1, M_2⟩, h_r_1, hf⟩ := b_d hf
    have hf := u2_e hf
    refine k_X0_takeAll hZ hP hS hl.1 wd_2_95 ⟨Nat.le_of_ble_eq_true rfl, Nat.le_of_ble_eq_true rfl⟩ (Nat.le_of_ble_eq_true rfl) dX7_addPiece_13 ⟨Nat.zero_le _, Nat.zero_le _⟩ isB_51 h_r_1 (fun H locs hP hS => ?_)
    refine lv_if_ne (tgt := 21) hx hb dX7_addPiece_16 (by decide) (fun c_3 => ?_) (fun c_3 => ?_)
    · have hf := i_f c_3 hf
      refine lv_aload_n hx hb dX7_addPiece_21 rfl (lv_at hl 0 rfl) ?_
      refine gX7_0 hx hb hts hown hk hP wd_1_213 dX7_addPiece_22 ?_
      refine lv_aload_n hx hb dX7_addPiece_25 rfl (lv_at hl 0 rfl) ?_
      refine gX7_6 hx hb hts hown hk hP wd_1_219 dX7_addPiece_26 ?_
      refine lv_iconst (v := (-1 : Int32)) hx hb dX7_addPiece_29 (by decide) ?_
      obtain ⟨r_4, h_r_4, hf⟩ := b_d hf
      refine k_X1_meetsOther hZ hP hS hl.1 wd_2_100 ⟨Nat.le_of_ble_eq_true rfl, Nat.le_of_ble_eq_true rfl⟩ (Nat.le_of_ble_eq_true rfl) dX7_addPiece_30 ⟨Nat.zero_le _, Nat.zero_le _⟩ isF_1 isB_51 h_r_4 (fun H locs hP hS => ?_)
      refine lv_if_eq (tgt := 39) hx hb dX7_addPiece_33 (by decide) (fun c_5 => ?_) (fun c_5 => ?_)
      · have hf := i_t c_5 hf
        refine lv_aload_n hx hb dX7_addPiece_39 rfl (lv_at hl 0 rfl) ?_
        refine gX7_0 hx hb hts hown hk hP wd_1_213 dX7_addPiece_40 ?_
        refine gX1_2 hx hb hts hown hk hP isF_1 wd_1_40 dX7_addPiece_43 ?_
        refine lv_bipush (v := (8 : Int32)) hx hb dX7_addPiece_46 (by decide) ?_
        refine lv_icmp_lt (tgt := 54) hx hb dX7_addPiece_48 (by decide) (fun c_6 => ?_) (fun c_6 => ?_)
        · have hf := i_t c_6 hf
          refine lv_aload_n hx hb dX7_addPiece_54 rfl (lv_at hl 0 rfl) ?_
          refine gX7_4 hx hb hts hown hk hP wd_1_217 dX7_addPiece_55 ?_
          refine lv_aload_n hx hb dX7_addPiece_58 rfl (lv_at hl 0 rfl) ?_
          refine gX7_0 hx hb hts hown hk hP wd_1_213 dX7_addPiece_59 ?_
          obtain ⟨M_7, h_M_7, hf⟩ := b_d hf
          refine k_X2_record hZ hP hS hl.1 wd_2_66 ⟨Nat.le_of_ble_eq_true rfl, Nat.le_of_ble_eq_true rfl⟩ (Nat.le_of_ble_eq_true rfl) dX7_addPiece_62 ⟨Nat.zero_le _, Nat.zero_le _⟩ isF_1 h_M_7 (fun H locs hP hS => ?_)
          refine lv_aload_n hx hb dX7_addPiece_65 rfl (lv_at hl 0 rfl) ?_
          refine gX7_0 hx hb hts hown hk hP wd_1_213 dX7_addPiece_66 ?_
          refine lv_aload_n hx hb dX7_addPiece_69 rfl (lv_at hl 0 rfl) ?_
          refine gX7_6 hx hb hts hown hk hP wd_1_219 dX7_addPiece_70 ?_
          refine lv_aload_n hx hb dX7_addPiece_73 rfl (lv_at hl 0 rfl) ?_
          refine gX7_0 hx hb hts hown hk hP wd_1_213 dX7_addPiece_74 ?_
          refine gX1_2 hx hb hts hown hk hP isF_1 wd_1_40 dX7_addPiece_77 ?_
          obtain ⟨M_8, h_M_8, hf⟩ := b_d hf
          refine k_X1_addBox hZ hP hS hl.1 wd_2_101 ⟨Nat.le_of_ble_eq_true rfl, Nat.le_of_ble_eq_true rfl⟩ (Nat.le_of_ble_eq_true rfl) dX7_addPiece_80 ⟨Nat.zero_le _, Nat.zero_le _⟩ isF_1 isB_51 h_M_8 (fun H locs hP hS => ?_)
          refine lv_aload_n hx hb dX7_addPiece_83 rfl (lv_at hl 0 rfl) ?_
          obtain ⟨M_9, h_M_9, hf⟩ := b_d hf
          refine k_X7_forgetPieces hZ hP hS hl.1 wd_2_78 ⟨Nat.le_of_ble_eq_true rfl, Nat.le_of_ble_eq_true rfl⟩ (Nat.le_of_ble_eq_true rfl) dX7_addPiece_84 ⟨Nat.zero_le _, Nat.zero_le _⟩ h_M_9 (fun H locs hP hS => ?_)
          refine lv_aload_n hx hb dX7_addPiece_87 rfl (lv_at hl 0 rfl) ?_
          refine gX7_0 hx hb hts hown hk hP wd_1_213 dX7_addPiece_88 ?_
          refine gX1_2 hx hb hts hown hk hP isF_1 wd_1_40 dX7_addPiece_91 ?_
          refine lv_iconst (v := (1 : Int32)) hx hb dX7_addPiece_94 (by decide) ?_
          refine lv_isub hx hb dX7_addPiece_95 ?_
          have hf := Option.some.inj hf
          obtain ⟨e1, e2⟩ := Prod.mk.inj hf
          rw [e2] at hP
          exact ret_i hx hb hr hlocks hP hS e1 dX7_addPiece_96
        · have hf := i_f c_6 hf
          refine lv_bipush (v := (-3 : Int32)) hx hb dX7_addPiece_51 (by decide) ?_
          have hf := Option.some.inj hf
          obtain ⟨e1, e2⟩ := Prod.mk.inj hf
          rw [e2] at hP
          exact ret_i hx hb hr hlocks hP hS e1 dX7_addPiece_53
      · have hf := i_f c_5 hf
        refine lv_bipush (v := (-2 : Int32)) hx hb dX7_addPiece_36 (by decide) ?_
        have hf := Option.some.inj hf
        obtain ⟨e1, e2⟩ := Prod.mk.inj hf
        rw [e2] at hP
        exact ret_i hx hb hr hlocks hP hS e1 dX7_addPiece_38
    · have hf := i_t c_3 hf
      refine lv_iconst (v := (-1 : Int32)) hx hb dX7_addPiece_19 (by decide) ?_
      have hf := Option.some.inj hf
      obtain ⟨e1, e2⟩ := Prod.mk.inj hf
      rw [e2] at hP
      exact ret_i hx hb hr hlocks hP hS e1 dX7_addPiece_20
  exact key s.heap [] hP hS
theorem hd_X7_addPiece : Hd yX7_addPiece 6 := by decide +kernel
theorem k_X7_addPiece {p : Program} {l : Launch} {e : Env} {R : Room} {s : State} {m : MethodId} {args : Array Value} {below : List Frame} {meth : Method} {c : Code} {H : Heap} {locs : List Loc} {cells slots : Nat} {Q : State → Prop} {cc : ByteArray} {nL pc index : Nat} {ls : Array Slot} {rest : List Value} {X : En} {M : Mem} {H0 : Heap} {own : String} {g : Nat} {x1 : Int32} {x2 : Int32} {x3 : Int32} {x4 : Int32} {x5 : Int32} {x6 : Int32} {r : Int32} {M9 : Mem} (hZ : Fx p c m s args X cc nL own) (hP : wd X M H) (hS : va_S X.A H0 H locs) (hsz : ls.size = nL) (hlk : Cond.methodLink own index yX7_addPiece ∈ lw_u) (hR : 3 + 1 ≤ R.frames ∧ 8 + (7 + 11) + 82 ≤ R.locals) (hW : (rest.map fun v => v.category).sum ≤ 8) (hdg : decode cc pc = .ok (.invokevirtual index, 3)) (hcs : cells ≤ R.cells ∧ slots ≤ R.slots) (hf : fn_X7_addPiece g x1 x2 x3 x4 x5 x6 M = some (r, M9))
    (kk : ∀ (H1 : Heap) (locs1 : List Loc), wd X M9 H1 → va_S X.A H0 H1 locs1 → W p l e R s m args below meth c H1 locs1 cells slots Q (F0 m (pc + 3) ls (.int r :: rest))) : W p l e R s m args below meth c H locs cells slots Q (F0 m pc ls (.int x6 :: .int x5 :: .int x4 :: .int x3 :: .int x2 :: .int x1 :: .ref (X.ad 0) :: rest)) :=
  cal_i (runV (As := [.int x1, .int x2, .int x3, .int x4, .int x5, .int x6]) (rest := rest) hZ.1 hZ.2.1 hZ.2.2.1 hZ.2.2.2.1 hZ.2.2.2.2.1 hZ.2.2.2.2.2 hP (c_X7_addPiece g x1 x2 x3 x4 x5 x6 M r M9 hf) wd_2_94 wd_2_92 wd_2_93 wd_1_1 hd_X7_addPiece (by decide) rfl rfl rfl hlk hR hsz rfl hW hdg hcs) hS kk
/-! FrameRaiser.isPiece -/
def fn_X7_isPiece (x1 : Int32) (M : Mem) : Int32 :=
  if x1 < 0 then
    ((0 : Int32))
  else
    (if (M 1 2) ≤ x1 then
      ((0 : Int32))
    else
      ((1 : Int32)))
theorem dX7_isPiece_0 : decode cX7_isPiece 0 = .ok (.iload_n 1, 1) := by decide +kernel
theorem dX7_isPiece_1 : decode cX7_isPiece 1 = .ok (.ifCond .lt 18, 3) := by decide +kernel
theorem dX7_isPiece_4 : decode cX7_isPiece 4 = .ok (.iload_n 1, 1) := by decide +kernel
theorem dX7_isPiece_5 : decode cX7_isPiece 5 = .ok (.aload_n 0, 1) := by decide +kernel
theorem dX7_isPiece_6 : decode cX7_isPiece 6 = .ok (.getfield 10, 3) := by decide +kernel
theorem dX7_isPiece_9 : decode cX7_isPiece 9 = .ok (.getfield 91, 3) := by decide +kernel
theorem dX7_isPiece_12 : decode cX7_isPiece 12 = .ok (.if_icmp .ge 7, 3) := by decide +kernel
theorem dX7_isPiece_15 : decode cX7_isPiece 15 = .ok (.iconst 1, 1) := by decide +kernel
theorem dX7_isPiece_16 : decode cX7_isPiece 16 = .ok (.goto 4, 3) := by decide +kernel
theorem dX7_isPiece_19 : decode cX7_isPiece 19 = .ok (.iconst 0, 1) := by decide +kernel
theorem dX7_isPiece_20 : decode cX7_isPiece 20 = .ok (.ireturn, 1) := by decide +kernel
theorem z_X7_isPiece (x1 : Int32) (M : Mem) : isZ (fn_X7_isPiece x1 M) := by
  unfold fn_X7_isPiece
  repeat' (first | exact isZ_0 | exact isZ_1 | exact z_X8_in _ _ _ | split)
set_option maxHeartbeats 4000000 in
set_option maxRecDepth 100000 in
theorem c_X7_isPiece {l : Launch} {X : En} (x1 : Int32) (M : Mem) (r : Int32) (hf : fn_X7_isPiece x1 M = r) : Cn l X yX7_isPiece cX7_isPiece 2 (some .boolean) 0 0 [.ref (X.ad 0), .int x1] M (Qi X r M) := by
  refine Met.ofW (cc := cX7_isPiece) (maxL := 2) (ret := (some .boolean)) (by decide) rfl ?_
  intro p e s m args below meth c s₁ B hml hv
  obtain ⟨rfl, hP, hk⟩ := hv
  have hx := B.exec
  have hb := B.bytes
  have hr := B.returns
  have hlocks := B.notSynchronized
  have hts : ∀ w ∈ lw_u, w.before ([.ref (X.ad 0), .int x1] : List Value).toArray s = true := fun w hw => atoms_spec (ws := Cond.code yX7_isPiece cX7_isPiece 2 (some .boolean) :: lw_u) B.pre w (List.mem_cons_of_mem _ hw)
  have hown : s.vm.findClass RX7 = some m.cls := findClass_of_methodNamed B.named
  have hZ : Fx p c m s ([.ref (X.ad 0), .int x1] : List Value).toArray X cX7_isPiece 2 RX7 := ⟨hx, hb, hml, hts, hown, hk⟩
  have hS : va_S X.A s.heap s.heap [] := va_S.rf
  have hl := lv_entry ([.ref (X.ad 0), .int x1]) (n := 2) (Nat.le_of_ble_eq_true rfl)
  rw [lg_entry_eq]
  generalize (lg_sl ([.ref (X.ad 0), .int x1]) ++ List.replicate (2 - (lg_sl ([.ref (X.ad 0), .int x1])).length) Slot.unset).toArray = ls at hl ⊢
  have hl : lv_has ls 2 [(0, .ref (X.ad 0)), (1, .int x1)] := hl
  show WW p l e 0 0 s m [.ref (X.ad 0), .int x1] below meth c X (Qi X r M) s.heap [] 0 ls []
  have hP : wd X M s.heap := hP
  unfold fn_X7_isPiece at hf
  have key : ∀ (H : Heap) (locs : List Loc), wd X M H → va_S X.A s.heap H locs → WW p l e 0 0 s m [.ref (X.ad 0), .int x1] below meth c X (Qi X r M) H locs 0 ls [] := by
    intro H locs hP hS
    refine lv_iload_n hx hb dX7_isPiece_0 rfl (lv_at hl 1 rfl) ?_
    refine lv_if_lt (tgt := 19) hx hb dX7_isPiece_1 (by decide) (fun c_1 => ?_) (fun c_1 => ?_)
    · have hf := i_t c_1 hf
      refine lv_iconst (v := (0 : Int32)) hx hb dX7_isPiece_19 (by decide) ?_
      exact ret_z hx hb hr hlocks hP hS isZ_0 hf dX7_isPiece_20
    · have hf := i_f c_1 hf
      refine lv_iload_n hx hb dX7_isPiece_4 rfl (lv_at hl 1 rfl) ?_
      refine lv_aload_n hx hb dX7_isPiece_5 rfl (lv_at hl 0 rfl) ?_
      refine gX7_0 hx hb hts hown hk hP wd_1_213 dX7_isPiece_6 ?_
      refine gX1_2 hx hb hts hown hk hP isF_1 wd_1_40 dX7_isPiece_9 ?_
      refine lv_icmp_ge (tgt := 19) hx hb dX7_isPiece_12 (by decide) (fun c_2 => ?_) (fun c_2 => ?_)
      · have hf := i_t c_2 hf
        refine lv_iconst (v := (0 : Int32)) hx hb dX7_isPiece_19 (by decide) ?_
        exact ret_z hx hb hr hlocks hP hS isZ_0 hf dX7_isPiece_20
      · have hf := i_f c_2 hf
        refine lv_iconst (v := (1 : Int32)) hx hb dX7_isPiece_15 (by decide) ?_
        refine lv_goto (tgt := 20) hx hb dX7_isPiece_16 (by decide) ?_
        exact ret_z hx hb hr hlocks hP hS isZ_1 hf dX7_isPiece_20
  exact key s.heap [] hP hS
theorem hd_X7_isPiece : Hd yX7_isPiece 1 := by decide +kernel
theorem k_X7_isPiece {p : Program} {l : Launch} {e : Env} {R : Room} {s : State} {m : MethodId} {args : Array Value} {below : List Frame} {meth : Method} {c : Code} {H : Heap} {locs : List Loc} {cells slots : Nat} {Q : State → Prop} {cc : ByteArray} {nL pc index : Nat} {ls : Array Slot} {rest : List Value} {X : En} {M : Mem} {H0 : Heap} {own : String} {x1 : Int32} (hZ : Fx p c m s args X cc nL own) (hP : wd X M H) (hS : va_S X.A H0 H locs) (hsz : ls.size = nL) (hlk : Cond.methodLink own index yX7_isPiece ∈ lw_u) (hR : 0 + 1 ≤ R.frames ∧ 8 + (2 + 11) + 0 ≤ R.locals) (hW : (rest.map fun v => v.category).sum ≤ 8) (hdg : decode cc pc = .ok (.invokevirtual index, 3)) (hcs : cells ≤ R.cells ∧ slots ≤ R.slots)
    (kk : ∀ (H1 : Heap) (locs1 : List Loc), wd X M H1 → va_S X.A H0 H1 locs1 → W p l e R s m args below meth c H1 locs1 cells slots Q (F0 m (pc + 3) ls (.int (fn_X7_isPiece x1 M) :: rest))) : W p l e R s m args below meth c H locs cells slots Q (F0 m pc ls (.int x1 :: .ref (X.ad 0) :: rest)) :=
  cal_i (runV (As := [.int x1]) (rest := rest) hZ.1 hZ.2.1 hZ.2.2.1 hZ.2.2.2.1 hZ.2.2.2.2.1 hZ.2.2.2.2.2 hP (c_X7_isPiece x1 M _ rfl) wd_2_109 wd_2_108 wd_p_5 wd_1_1 hd_X7_isPiece (by decide) rfl rfl rfl hlk hR hsz rfl hW hdg hcs) hS kk
/-! FrameRaiser$Measures.measure -/
def bd_X3_measure_38 (x1 : Int32) (x2 : Int32) : (Int32 × Mem) → Option ((Int32 × Mem) ⊕ (Mem)) :=
  u2 fun v3_7 M_8 =>
  if (3 : Int32) ≤ v3_7 then
    (some (.inr M_8))
  else
    (bv (((3 : Int32) * x2) + v3_7) fun v4_11 =>
    if inb v4_11 24 then
    if inb v4_11 24 then
    bv (st M_8 7 (ix v4_11) (mn (M_8 7 (ix v4_11)) (fn_X7_coordinate x1 v3_7))) fun M_13 =>
    if inb v4_11 24 then
    if inb v4_11 24 then
    bv (st M_13 8 (ix v4_11) (mx (M_13 8 (ix v4_11)) (fn_X7_coordinate x1 v3_7))) fun M_16 =>
    some (.inl (v3_7 + (1 : Int32), M_16))
    else none
    else none
    else none
    else none)
def jn_X3_measure_36 (g : Nat) (x1 : Int32) (x2 : Int32) (M_6 : Mem) : Option (Mem) :=
  (lpN g (bd_X3_measure_38 x1 x2) ((0 : Int32), M_6)).bind (u1 fun M_9 =>
    some M_9)
def fn_X3_measure (g : Nat) (x1 : Int32) (x2 : Int32) (M : Mem) : Option (Mem) :=
  bv (st M 4 4 ((M 4 4) + (1 : Int32))) fun M_1 =>
  if inb x2 8 then
  if inb x2 8 then
  bv (st M_1 5 (ix x2) ((M_1 5 (ix x2)) + (1 : Int32))) fun M_3 =>
  if (36 : Int32) ≤ x1 then
    (jn_X3_measure_36 g x1 x2 M_3)
  else
    (if inb x2 8 then
    if inb x2 8 then
    bv (st M_3 6 (ix x2) ((M_3 6 (ix x2)) + (1 : Int32))) fun M_19 =>
    jn_X3_measure_36 g x1 x2 M_19
    else none
    else none)
  else none
  else none
theorem dX3_measure_0 : decode cX3_measure 0 = .ok (.aload_n 0, 1) := by decide +kernel
theorem dX3_measure_1 : decode cX3_measure 1 = .ok (.dup, 1) := by decide +kernel
theorem dX3_measure_2 : decode cX3_measure 2 = .ok (.getfield 24, 3) := by decide +kernel
theorem dX3_measure_5 : decode cX3_measure 5 = .ok (.iconst 1, 1) := by decide +kernel
theorem dX3_measure_6 : decode cX3_measure 6 = .ok (.iadd, 1) := by decide +kernel
theorem dX3_measure_7 : decode cX3_measure 7 = .ok (.putfield 24, 3) := by decide +kernel
theorem dX3_measure_10 : decode cX3_measure 10 = .ok (.aload_n 0, 1) := by decide +kernel
theorem dX3_measure_11 : decode cX3_measure 11 = .ok (.getfield 9, 3) := by decide +kernel
theorem dX3_measure_14 : decode cX3_measure 14 = .ok (.iload_n 2, 1) := by decide +kernel
theorem dX3_measure_15 : decode cX3_measure 15 = .ok (.dup2, 1) := by decide +kernel
theorem dX3_measure_16 : decode cX3_measure 16 = .ok (.iaload, 1) := by decide +kernel
theorem dX3_measure_17 : decode cX3_measure 17 = .ok (.iconst 1, 1) := by decide +kernel
theorem dX3_measure_18 : decode cX3_measure 18 = .ok (.iadd, 1) := by decide +kernel
theorem dX3_measure_19 : decode cX3_measure 19 = .ok (.iastore, 1) := by decide +kernel
theorem dX3_measure_20 : decode cX3_measure 20 = .ok (.iload_n 1, 1) := by decide +kernel
theorem dX3_measure_21 : decode cX3_measure 21 = .ok (.bipush 36, 2) := by decide +kernel
theorem dX3_measure_23 : decode cX3_measure 23 = .ok (.if_icmp .ge 13, 3) := by decide +kernel
theorem dX3_measure_26 : decode cX3_measure 26 = .ok (.aload_n 0, 1) := by decide +kernel
theorem dX3_measure_27 : decode cX3_measure 27 = .ok (.getfield 15, 3) := by decide +kernel
theorem dX3_measure_30 : decode cX3_measure 30 = .ok (.iload_n 2, 1) := by decide +kernel
theorem dX3_measure_31 : decode cX3_measure 31 = .ok (.dup2, 1) := by decide +kernel
theorem dX3_measure_32 : decode cX3_measure 32 = .ok (.iaload, 1) := by decide +kernel
theorem dX3_measure_33 : decode cX3_measure 33 = .ok (.iconst 1, 1) := by decide +kernel
theorem dX3_measure_34 : decode cX3_measure 34 = .ok (.iadd, 1) := by decide +kernel
theorem dX3_measure_35 : decode cX3_measure 35 = .ok (.iastore, 1) := by decide +kernel
theorem dX3_measure_36 : decode cX3_measure 36 = .ok (.iconst 0, 1) := by decide +kernel
theorem dX3_measure_37 : decode cX3_measure 37 = .ok (.istore_n 3, 1) := by decide +kernel
theorem dX3_measure_38 : decode cX3_measure 38 = .ok (.iload_n 3, 1) := by decide +kernel
theorem dX3_measure_39 : decode cX3_measure 39 = .ok (.iconst 3, 1) := by decide +kernel
theorem dX3_measure_40 : decode cX3_measure 40 = .ok (.if_icmp .ge 60, 3) := by decide +kernel
theorem dX3_measure_43 : decode cX3_measure 43 = .ok (.iconst 3, 1) := by decide +kernel
theorem dX3_measure_44 : decode cX3_measure 44 = .ok (.iload_n 2, 1) := by decide +kernel
theorem dX3_measure_45 : decode cX3_measure 45 = .ok (.imul, 1) := by decide +kernel
theorem dX3_measure_46 : decode cX3_measure 46 = .ok (.iload_n 3, 1) := by decide +kernel
theorem dX3_measure_47 : decode cX3_measure 47 = .ok (.iadd, 1) := by decide +kernel
theorem dX3_measure_48 : decode cX3_measure 48 = .ok (.istore 4, 2) := by decide +kernel
theorem dX3_measure_50 : decode cX3_measure 50 = .ok (.aload_n 0, 1) := by decide +kernel
theorem dX3_measure_51 : decode cX3_measure 51 = .ok (.getfield 18, 3) := by decide +kernel
theorem dX3_measure_54 : decode cX3_measure 54 = .ok (.iload 4, 2) := by decide +kernel
theorem dX3_measure_56 : decode cX3_measure 56 = .ok (.aload_n 0, 1) := by decide +kernel
theorem dX3_measure_57 : decode cX3_measure 57 = .ok (.getfield 18, 3) := by decide +kernel
theorem dX3_measure_60 : decode cX3_measure 60 = .ok (.iload 4, 2) := by decide +kernel
theorem dX3_measure_62 : decode cX3_measure 62 = .ok (.iaload, 1) := by decide +kernel
theorem dX3_measure_63 : decode cX3_measure 63 = .ok (.iload_n 1, 1) := by decide +kernel
theorem dX3_measure_64 : decode cX3_measure 64 = .ok (.iload_n 3, 1) := by decide +kernel
theorem dX3_measure_65 : decode cX3_measure 65 = .ok (.invokestatic 37, 3) := by decide +kernel
theorem dX3_measure_68 : decode cX3_measure 68 = .ok (.invokestatic 41, 3) := by decide +kernel
theorem dX3_measure_71 : decode cX3_measure 71 = .ok (.iastore, 1) := by decide +kernel
theorem dX3_measure_72 : decode cX3_measure 72 = .ok (.aload_n 0, 1) := by decide +kernel
theorem dX3_measure_73 : decode cX3_measure 73 = .ok (.getfield 21, 3) := by decide +kernel
theorem dX3_measure_76 : decode cX3_measure 76 = .ok (.iload 4, 2) := by decide +kernel
theorem dX3_measure_78 : decode cX3_measure 78 = .ok (.aload_n 0, 1) := by decide +kernel
theorem dX3_measure_79 : decode cX3_measure 79 = .ok (.getfield 21, 3) := by decide +kernel
theorem dX3_measure_82 : decode cX3_measure 82 = .ok (.iload 4, 2) := by decide +kernel
theorem dX3_measure_84 : decode cX3_measure 84 = .ok (.iaload, 1) := by decide +kernel
theorem dX3_measure_85 : decode cX3_measure 85 = .ok (.iload_n 1, 1) := by decide +kernel
theorem dX3_measure_86 : decode cX3_measure 86 = .ok (.iload_n 3, 1) := by decide +kernel
theorem dX3_measure_87 : decode cX3_measure 87 = .ok (.invokestatic 37, 3) := by decide +kernel
theorem dX3_measure_90 : decode cX3_measure 90 = .ok (.invokestatic 46, 3) := by decide +kernel
theorem dX3_measure_93 : decode cX3_measure 93 = .ok (.iastore, 1) := by decide +kernel
theorem dX3_measure_94 : decode cX3_measure 94 = .ok (.iinc 3 1, 3) := by decide +kernel
theorem dX3_measure_97 : decode cX3_measure 97 = .ok (.goto (-59), 3) := by decide +kernel
theorem dX3_measure_100 : decode cX3_measure 100 = .ok (.return_, 1) := by decide +kernel
set_option maxHeartbeats 4000000 in
set_option maxRecDepth 100000 in
theorem c_X3_measure {l : Launch} {X : En} (g : Nat) (x1 : Int32) (x2 : Int32) (M : Mem) (M9 : Mem) (hf : fn_X3_measure g x1 x2 M = some M9) : Cn l X yX3_measure cX3_measure 5 none 1 21 [.ref (X.ad 4), .int x1, .int x2] M (Qv X M9) := by
  refine Met.ofW (cc := cX3_measure) (maxL := 5) (ret := none) (by decide) rfl ?_
  intro p e s m args below meth c s₁ B hml hv
  obtain ⟨rfl, hP, hk⟩ := hv
  have hx := B.exec
  have hb := B.bytes
  have hr := B.returns
  have hlocks := B.notSynchronized
  have hts : ∀ w ∈ lw_u, w.before ([.ref (X.ad 4), .int x1, .int x2] : List Value).toArray s = true := fun w hw => atoms_spec (ws := Cond.code yX3_measure cX3_measure 5 none :: lw_u) B.pre w (List.mem_cons_of_mem _ hw)
  have hown : s.vm.findClass RX3 = some m.cls := findClass_of_methodNamed B.named
  have hZ : Fx p c m s ([.ref (X.ad 4), .int x1, .int x2] : List Value).toArray X cX3_measure 5 RX3 := ⟨hx, hb, hml, hts, hown, hk⟩
  have hS : va_S X.A s.heap s.heap [] := va_S.rf
  have hl := lv_entry ([.ref (X.ad 4), .int x1, .int x2]) (n := 5) (Nat.le_of_ble_eq_true rfl)
  rw [lg_entry_eq]
  generalize (lg_sl ([.ref (X.ad 4), .int x1, .int x2]) ++ List.replicate (5 - (lg_sl ([.ref (X.ad 4), .int x1, .int x2])).length) Slot.unset).toArray = ls at hl ⊢
  have hl : lv_has ls 5 [(0, .ref (X.ad 4)), (1, .int x1), (2, .int x2)] := hl
  show WW p l e 1 21 s m [.ref (X.ad 4), .int x1, .int x2] below meth c X (Qv X M9) s.heap [] 0 ls []
  have hP : wd X M s.heap := hP
  have jn36 : ∀  (M_6 : Mem), jn_X3_measure_36 g x1 x2 M_6 = some M9 → ∀ (H : Heap) (locs : List Loc) (ls : Array Slot), wd X M_6 H → va_S X.A s.heap H locs → lv_has ls 5 [(0, .ref (X.ad 4)), (1, .int x1), (2, .int x2)] → WW p l e 1 21 s m [.ref (X.ad 4), .int x1, .int x2] below meth c X (Qv X M9) H locs 36 ls [] := by
    intro  M_6 hf H locs ls hP hS hl
    unfold jn_X3_measure_36 at hf
    refine lv_iconst (v := (0 : Int32)) hx hb dX3_measure_36 (by decide) ?_
    refine lv_istore_n (lv' := [(3, .int (0 : Int32)), (0, .ref (X.ad 4)), (1, .int x1), (2, .int x2)]) hx hb dX3_measure_37 rfl hl (by decide) rfl (fun ls hl => ?_)
    obtain ⟨o38, ho38, hf⟩ := b_d hf
    refine lp_rule (b := bd_X3_measure_38 x1 x2) (P := fun w : Int32 × Mem => ∀ (H : Heap) (locs : List Loc) (ls : Array Slot), wd X w.2 H → va_S X.A s.heap H locs → lv_has ls 5 [(3, .int w.1), (0, .ref (X.ad 4)), (1, .int x1), (2, .int x2)] → WW p l e 1 21 s m [.ref (X.ad 4), .int x1, .int x2] below meth c X (Qv X M9) H locs 38 ls []) (K := fun o => ∀ (M_9 : Mem), o = M_9 → ∀ (H : Heap) (locs : List Loc) (ls : Array Slot), wd X M_9 H → va_S X.A s.heap H locs → lv_has ls 5 [] → WW p l e 1 21 s m [.ref (X.ad 4), .int x1, .int x2] below meth c X (Qv X M9) H locs 100 ls []) ?_ g ((0 : Int32), M_6) o38 ho38 ?_ H locs ls hP hS (lv_sub hl [0, 1, 2, 3] rfl)
    · rintro ⟨v3_7, M_8⟩ o hf hkc38 hke38 H locs ls hP hS hl
      have hf := u2_e hf
      refine lv_iload_n hx hb dX3_measure_38 rfl (lv_at hl 0 rfl) ?_
      refine lv_iconst (v := (3 : Int32)) hx hb dX3_measure_39 (by decide) ?_
      refine lv_icmp_ge (tgt := 100) hx hb dX3_measure_40 (by decide) (fun c_10 => ?_) (fun c_10 => ?_)
      · have hf := i_t c_10 hf
        exact hke38 _ (Option.some.inj hf).symm _ rfl H locs ls hP hS (lv_sub hl [] rfl)
      · have hf := i_f c_10 hf
        refine lv_iconst (v := (3 : Int32)) hx hb dX3_measure_43 (by decide) ?_
        refine lv_iload_n hx hb dX3_measure_44 rfl (lv_at hl 3 rfl) ?_
        refine lv_imul hx hb dX3_measure_45 ?_
        refine lv_iload_n hx hb dX3_measure_46 rfl (lv_at hl 0 rfl) ?_
        refine lv_iadd hx hb dX3_measure_47 ?_
        refine lv_topi (fun v4_11 e_v4_11 => ?_)
        have hf := b_v hf e_v4_11
        refine lv_istore (lv' := [(4, .int v4_11), (3, .int v3_7), (0, .ref (X.ad 4)), (1, .int x1), (2, .int x2)]) hx hb dX3_measure_48 hl (by decide) rfl (fun ls hl => ?_)
        refine lv_aload_n hx hb dX3_measure_50 rfl (lv_at hl 2 rfl) ?_
        refine gX3_2 hx hb hts hown hk hP wd_1_67 dX3_measure_51 ?_
        refine lv_iload hx hb dX3_measure_54 (lv_at hl 0 rfl) ?_
        refine lv_aload_n hx hb dX3_measure_56 rfl (lv_at hl 2 rfl) ?_
        refine gX3_2 hx hb hts hown hk hP wd_1_67 dX3_measure_57 ?_
        refine lv_iload hx hb dX3_measure_60 (lv_at hl 0 rfl) ?_
        obtain ⟨q_12, hf⟩ := g_if hf
        refine ald hx hb hk hP (by decide) rfl q_12 dX3_measure_62 ?_
        refine lv_iload_n hx hb dX3_measure_63 rfl (lv_at hl 3 rfl) ?_
        refine lv_iload_n hx hb dX3_measure_64 rfl (lv_at hl 1 rfl) ?_
        refine kn_X7_coordinate hZ hP hS hl.1 (nest_7 hk.2.1) ⟨Nat.le_of_ble_eq_true rfl, Nat.le_of_ble_eq_true rfl⟩ (Nat.le_of_ble_eq_true rfl) dX3_measure_65 ⟨Nat.zero_le _, Nat.zero_le _⟩ (fun H locs hP hS => ?_)
        refine rw_min hx hb (hml.trans hl.1.symm) hts hown wd_2_123 wd_2_124 wd_1_11 wd_2_125 (Nat.le_of_ble_eq_true rfl) (Nat.le_of_ble_eq_true rfl) (Nat.zero_le _) (Nat.zero_le _) dX3_measure_68 ?_
        obtain ⟨q_14, hf⟩ := g_if hf
        refine ast hx hb hk hP hS (by decide) (fun _ => rfl) q_14 dX3_measure_71 (fun H locs M_13 e_M_13 hP hS => ?_)
        have hf := b_v hf e_M_13
        refine lv_aload_n hx hb dX3_measure_72 rfl (lv_at hl 2 rfl) ?_
        refine gX3_3 hx hb hts hown hk hP wd_1_69 dX3_measure_73 ?_
        refine lv_iload hx hb dX3_measure_76 (lv_at hl 0 rfl) ?_
        refine lv_aload_n hx hb dX3_measure_78 rfl (lv_at hl 2 rfl) ?_
        refine gX3_3 hx hb hts hown hk hP wd_1_69 dX3_measure_79 ?_
        refine lv_iload hx hb dX3_measure_82 (lv_at hl 0 rfl) ?_
        obtain ⟨q_15, hf⟩ := g_if hf
        refine ald hx hb hk hP (by decide) rfl q_15 dX3_measure_84 ?_
        refine lv_iload_n hx hb dX3_measure_85 rfl (lv_at hl 3 rfl) ?_
        refine lv_iload_n hx hb dX3_measure_86 rfl (lv_at hl 1 rfl) ?_
        refine kn_X7_coordinate hZ hP hS hl.1 (nest_7 hk.2.1) ⟨Nat.le_of_ble_eq_true rfl, Nat.le_of_ble_eq_true rfl⟩ (Nat.le_of_ble_eq_true rfl) dX3_measure_87 ⟨Nat.zero_le _, Nat.zero_le _⟩ (fun H locs hP hS => ?_)
        refine rw_max hx hb (hml.trans hl.1.symm) hts hown wd_2_126 wd_2_127 wd_1_11 wd_2_128 (Nat.le_of_ble_eq_true rfl) (Nat.le_of_ble_eq_true rfl) (Nat.zero_le _) (Nat.zero_le _) dX3_measure_90 ?_
        obtain ⟨q_17, hf⟩ := g_if hf
        refine ast hx hb hk hP hS (by decide) (fun _ => rfl) q_17 dX3_measure_93 (fun H locs M_16 e_M_16 hP hS => ?_)
        have hf := b_v hf e_M_16
        refine lv_iinc (v := v3_7 + (1 : Int32)) (lv' := [(3, .int (v3_7 + (1 : Int32))), (4, .int v4_11), (0, .ref (X.ad 4)), (1, .int x1), (2, .int x2)]) hx hb dX3_measure_94 hl (k := 1) rfl rfl (by decide) rfl (fun ls hl => ?_)
        refine lv_goto (tgt := 38) hx hb dX3_measure_97 (by decide) ?_
        exact hkc38 _ (Option.some.inj hf).symm H locs ls hP hS (lv_sub hl [0, 2, 3, 4] rfl)
    · intro M_9 e H locs ls hP hS hl
      subst o38
      have hf := u1_e hf
      have hf := Option.some.inj hf
      rw [hf] at hP
      exact ret_v hx hb hr hlocks hP hS dX3_measure_100
  unfold fn_X3_measure at hf
  have key : ∀ (H : Heap) (locs : List Loc), wd X M H → va_S X.A s.heap H locs → WW p l e 1 21 s m [.ref (X.ad 4), .int x1, .int x2] below meth c X (Qv X M9) H locs 0 ls [] := by
    intro H locs hP hS
    refine lv_aload_n hx hb dX3_measure_0 rfl (lv_at hl 0 rfl) ?_
    refine lv_dup hx hb dX3_measure_1 rfl ?_
    refine gX3_4 hx hb hts hown hk hP wd_1_71 dX3_measure_2 ?_
    refine lv_iconst (v := (1 : Int32)) hx hb dX3_measure_5 (by decide) ?_
    refine lv_iadd hx hb dX3_measure_6 ?_
    refine pX3_4 hx hb hts hown hk hP hS wd_1_71 dX3_measure_7 (fun H locs M_1 e_M_1 hP hS => ?_)
    have hf := b_v hf e_M_1
    refine lv_aload_n hx hb dX3_measure_10 rfl (lv_at hl 0 rfl) ?_
    refine gX3_0 hx hb hts hown hk hP wd_1_63 dX3_measure_11 ?_
    refine lv_iload_n hx hb dX3_measure_14 rfl (lv_at hl 2 rfl) ?_
    refine lv_dup2_11 hx hb dX3_measure_15 rfl rfl ?_
    obtain ⟨q_2, hf⟩ := g_if hf
    refine ald hx hb hk hP (by decide) rfl q_2 dX3_measure_16 ?_
    refine lv_iconst (v := (1 : Int32)) hx hb dX3_measure_17 (by decide) ?_
    refine lv_iadd hx hb dX3_measure_18 ?_
    obtain ⟨q_4, hf⟩ := g_if hf
    refine ast hx hb hk hP hS (by decide) (fun _ => rfl) q_4 dX3_measure_19 (fun H locs M_3 e_M_3 hP hS => ?_)
    have hf := b_v hf e_M_3
    refine lv_iload_n hx hb dX3_measure_20 rfl (lv_at hl 1 rfl) ?_
    refine lv_bipush (v := (36 : Int32)) hx hb dX3_measure_21 (by decide) ?_
    refine lv_icmp_ge (tgt := 36) hx hb dX3_measure_23 (by decide) (fun c_5 => ?_) (fun c_5 => ?_)
    · have hf := i_t c_5 hf
      exact jn36 M_3 hf H locs ls hP hS (lv_sub hl [0, 1, 2] rfl)
    · have hf := i_f c_5 hf
      refine lv_aload_n hx hb dX3_measure_26 rfl (lv_at hl 0 rfl) ?_
      refine gX3_1 hx hb hts hown hk hP wd_1_65 dX3_measure_27 ?_
      refine lv_iload_n hx hb dX3_measure_30 rfl (lv_at hl 2 rfl) ?_
      refine lv_dup2_11 hx hb dX3_measure_31 rfl rfl ?_
      obtain ⟨q_18, hf⟩ := g_if hf
      refine ald hx hb hk hP (by decide) rfl q_18 dX3_measure_32 ?_
      refine lv_iconst (v := (1 : Int32)) hx hb dX3_measure_33 (by decide) ?_
      refine lv_iadd hx hb dX3_measure_34 ?_
      obtain ⟨q_20, hf⟩ := g_if hf
      refine ast hx hb hk hP hS (by decide) (fun _ => rfl) q_20 dX3_measure_35 (fun H locs M_19 e_M_19 hP hS => ?_)
      have hf := b_v hf e_M_19
      exact jn36 M_19 hf H locs ls hP hS (lv_sub hl [0, 1, 2] rfl)
  exact key s.heap [] hP hS
theorem hd_X3_measure : Hd yX3_measure 2 := by decide +kernel
theorem k_X3_measure {p : Program} {l : Launch} {e : Env} {R : Room} {s : State} {m : MethodId} {args : Array Value} {below : List Frame} {meth : Method} {c : Code} {H : Heap} {locs : List Loc} {cells slots : Nat} {Q : State → Prop} {cc : ByteArray} {nL pc index : Nat} {ls : Array Slot} {rest : List Value} {X : En} {M : Mem} {H0 : Heap} {own : String} {g : Nat} {x1 : Int32} {x2 : Int32} {M9 : Mem} (hZ : Fx p c m s args X cc nL own) (hP : wd X M H) (hS : va_S X.A H0 H locs) (hsz : ls.size = nL) (hlk : Cond.methodLink own index yX3_measure ∈ lw_u) (hR : 1 + 1 ≤ R.frames ∧ 8 + (5 + 11) + 21 ≤ R.locals) (hW : (rest.map fun v => v.category).sum ≤ 8) (hdg : decode cc pc = .ok (.invokevirtual index, 3)) (hcs : cells ≤ R.cells ∧ slots ≤ R.slots) (hf : fn_X3_measure g x1 x2 M = some M9)
    (kk : ∀ (H1 : Heap) (locs1 : List Loc), wd X M9 H1 → va_S X.A H0 H1 locs1 → W p l e R s m args below meth c H1 locs1 cells slots Q (F0 m (pc + 3) ls rest)) : W p l e R s m args below meth c H locs cells slots Q (F0 m pc ls (.int x2 :: .int x1 :: .ref (X.ad 4) :: rest)) :=
  cal_v (runV (As := [.int x1, .int x2]) (rest := rest) hZ.1 hZ.2.1 hZ.2.2.1 hZ.2.2.2.1 hZ.2.2.2.2.1 hZ.2.2.2.2.2 hP (c_X3_measure g x1 x2 M M9 hf) wd_2_121 wd_2_120 wd_p_7 wd_1_3 hd_X3_measure (by decide) rfl rfl rfl hlk hR hsz rfl hW hdg hcs) hS kk
/-! FrameRaiser$Measures.read -/
def bd_X3_read_2 : (Int32 × Mem) → Option ((Int32 × Mem) ⊕ (Mem)) :=
  u2 fun v2_1 M_2 =>
  if (8 : Int32) ≤ v2_1 then
    (some (.inr M_2))
  else
    (if inb v2_1 8 then
    bv (st M_2 5 (ix v2_1) (0 : Int32)) fun M_5 =>
    if inb v2_1 8 then
    bv (st M_5 6 (ix v2_1) (0 : Int32)) fun M_7 =>
    some (.inl (v2_1 + (1 : Int32), M_7))
    else none
    else none)
def bd_X3_read_30 : (Int32 × Mem) → Option ((Int32 × Mem) ⊕ (Mem)) :=
  u2 fun v2_9 M_10 =>
  if (24 : Int32) ≤ v2_9 then
    (some (.inr M_10))
  else
    (if inb v2_9 24 then
    bv (st M_10 7 (ix v2_9) (6 : Int32)) fun M_13 =>
    if inb v2_9 24 then
    bv (st M_13 8 (ix v2_9) (-1 : Int32)) fun M_15 =>
    some (.inl (v2_9 + (1 : Int32), M_15))
    else none
    else none)
def bd_X3_read_64 (g : Nat) (k1 : Nat) : (Int32 × Mem) → Option ((Int32 × Mem) ⊕ (Mem)) :=
  u2 fun v2_18 M_19 =>
  if (216 : Int32) ≤ v2_18 then
    (some (.inr M_19))
  else
    (if inb v2_18 216 then
    if (M_19 (k1 + 1) (ix v2_18)) = (-1 : Int32) then
      (some (.inl (v2_18 + (1 : Int32), M_19)))
    else
      (if inb v2_18 216 then
      (fn_X3_measure g v2_18 (M_19 (k1 + 1) (ix v2_18)) M_19).bind fun M_25 =>
      some (.inl (v2_18 + (1 : Int32), M_25))
      else none)
    else none)
def fn_X3_read (g : Nat) (k1 : Nat) (M : Mem) : Option (Mem) :=
  (lpN g bd_X3_read_2 ((0 : Int32), M)).bind (u1 fun M_3 =>
    (lpN g bd_X3_read_30 ((0 : Int32), M_3)).bind (u1 fun M_11 =>
      bv (st M_11 4 4 (0 : Int32)) fun M_17 =>
      (lpN g (bd_X3_read_64 g k1) ((0 : Int32), M_17)).bind (u1 fun M_20 =>
        some M_20)))
theorem dX3_read_0 : decode cX3_read 0 = .ok (.iconst 0, 1) := by decide +kernel
theorem dX3_read_1 : decode cX3_read 1 = .ok (.istore_n 2, 1) := by decide +kernel
theorem dX3_read_2 : decode cX3_read 2 = .ok (.iload_n 2, 1) := by decide +kernel
theorem dX3_read_3 : decode cX3_read 3 = .ok (.bipush 8, 2) := by decide +kernel
theorem dX3_read_5 : decode cX3_read 5 = .ok (.if_icmp .ge 23, 3) := by decide +kernel
theorem dX3_read_8 : decode cX3_read 8 = .ok (.aload_n 0, 1) := by decide +kernel
theorem dX3_read_9 : decode cX3_read 9 = .ok (.getfield 9, 3) := by decide +kernel
theorem dX3_read_12 : decode cX3_read 12 = .ok (.iload_n 2, 1) := by decide +kernel
theorem dX3_read_13 : decode cX3_read 13 = .ok (.iconst 0, 1) := by decide +kernel
theorem dX3_read_14 : decode cX3_read 14 = .ok (.iastore, 1) := by decide +kernel
theorem dX3_read_15 : decode cX3_read 15 = .ok (.aload_n 0, 1) := by decide +kernel
theorem dX3_read_16 : decode cX3_read 16 = .ok (.getfield 15, 3) := by decide +kernel
theorem dX3_read_19 : decode cX3_read 19 = .ok (.iload_n 2, 1) := by decide +kernel
theorem dX3_read_20 : decode cX3_read 20 = .ok (.iconst 0, 1) := by decide +kernel
theorem dX3_read_21 : decode cX3_read 21 = .ok (.iastore, 1) := by decide +kernel
theorem dX3_read_22 : decode cX3_read 22 = .ok (.iinc 2 1, 3) := by decide +kernel
theorem dX3_read_25 : decode cX3_read 25 = .ok (.goto (-23), 3) := by decide +kernel
theorem dX3_read_28 : decode cX3_read 28 = .ok (.iconst 0, 1) := by decide +kernel
theorem dX3_read_29 : decode cX3_read 29 = .ok (.istore_n 2, 1) := by decide +kernel
theorem dX3_read_30 : decode cX3_read 30 = .ok (.iload_n 2, 1) := by decide +kernel
theorem dX3_read_31 : decode cX3_read 31 = .ok (.bipush 24, 2) := by decide +kernel
theorem dX3_read_33 : decode cX3_read 33 = .ok (.if_icmp .ge 24, 3) := by decide +kernel
theorem dX3_read_36 : decode cX3_read 36 = .ok (.aload_n 0, 1) := by decide +kernel
theorem dX3_read_37 : decode cX3_read 37 = .ok (.getfield 18, 3) := by decide +kernel
theorem dX3_read_40 : decode cX3_read 40 = .ok (.iload_n 2, 1) := by decide +kernel
theorem dX3_read_41 : decode cX3_read 41 = .ok (.bipush 6, 2) := by decide +kernel
theorem dX3_read_43 : decode cX3_read 43 = .ok (.iastore, 1) := by decide +kernel
theorem dX3_read_44 : decode cX3_read 44 = .ok (.aload_n 0, 1) := by decide +kernel
theorem dX3_read_45 : decode cX3_read 45 = .ok (.getfield 21, 3) := by decide +kernel
theorem dX3_read_48 : decode cX3_read 48 = .ok (.iload_n 2, 1) := by decide +kernel
theorem dX3_read_49 : decode cX3_read 49 = .ok (.iconst (-1), 1) := by decide +kernel
theorem dX3_read_50 : decode cX3_read 50 = .ok (.iastore, 1) := by decide +kernel
theorem dX3_read_51 : decode cX3_read 51 = .ok (.iinc 2 1, 3) := by decide +kernel
theorem dX3_read_54 : decode cX3_read 54 = .ok (.goto (-24), 3) := by decide +kernel
theorem dX3_read_57 : decode cX3_read 57 = .ok (.aload_n 0, 1) := by decide +kernel
theorem dX3_read_58 : decode cX3_read 58 = .ok (.iconst 0, 1) := by decide +kernel
theorem dX3_read_59 : decode cX3_read 59 = .ok (.putfield 24, 3) := by decide +kernel
theorem dX3_read_62 : decode cX3_read 62 = .ok (.iconst 0, 1) := by decide +kernel
theorem dX3_read_63 : decode cX3_read 63 = .ok (.istore_n 2, 1) := by decide +kernel
theorem dX3_read_64 : decode cX3_read 64 = .ok (.iload_n 2, 1) := by decide +kernel
theorem dX3_read_65 : decode cX3_read 65 = .ok (.sipush 216, 3) := by decide +kernel
theorem dX3_read_68 : decode cX3_read 68 = .ok (.if_icmp .ge 30, 3) := by decide +kernel
theorem dX3_read_71 : decode cX3_read 71 = .ok (.aload_n 1, 1) := by decide +kernel
theorem dX3_read_72 : decode cX3_read 72 = .ok (.getfield 28, 3) := by decide +kernel
theorem dX3_read_75 : decode cX3_read 75 = .ok (.iload_n 2, 1) := by decide +kernel
theorem dX3_read_76 : decode cX3_read 76 = .ok (.iaload, 1) := by decide +kernel
theorem dX3_read_77 : decode cX3_read 77 = .ok (.iconst (-1), 1) := by decide +kernel
theorem dX3_read_78 : decode cX3_read 78 = .ok (.if_icmp .eq 14, 3) := by decide +kernel
theorem dX3_read_81 : decode cX3_read 81 = .ok (.aload_n 0, 1) := by decide +kernel
theorem dX3_read_82 : decode cX3_read 82 = .ok (.iload_n 2, 1) := by decide +kernel
theorem dX3_read_83 : decode cX3_read 83 = .ok (.aload_n 1, 1) := by decide +kernel
theorem dX3_read_84 : decode cX3_read 84 = .ok (.getfield 28, 3) := by decide +kernel
theorem dX3_read_87 : decode cX3_read 87 = .ok (.iload_n 2, 1) := by decide +kernel
theorem dX3_read_88 : decode cX3_read 88 = .ok (.iaload, 1) := by decide +kernel
theorem dX3_read_89 : decode cX3_read 89 = .ok (.invokevirtual 33, 3) := by decide +kernel
theorem dX3_read_92 : decode cX3_read 92 = .ok (.iinc 2 1, 3) := by decide +kernel
theorem dX3_read_95 : decode cX3_read 95 = .ok (.goto (-31), 3) := by decide +kernel
theorem dX3_read_98 : decode cX3_read 98 = .ok (.return_, 1) := by decide +kernel
set_option maxHeartbeats 4000000 in
set_option maxRecDepth 100000 in
theorem c_X3_read {l : Launch} {X : En} (g : Nat) (k1 : Nat) (M : Mem) (hk1 : isF k1) (M9 : Mem) (hf : fn_X3_read g k1 M = some M9) : Cn l X yX3_read cX3_read 3 none 2 45 [.ref (X.ad 4), .ref (X.ad k1)] M (Qv X M9) := by
  refine Met.ofW (cc := cX3_read) (maxL := 3) (ret := none) (by decide) rfl ?_
  intro p e s m args below meth c s₁ B hml hv
  obtain ⟨rfl, hP, hk⟩ := hv
  have hx := B.exec
  have hb := B.bytes
  have hr := B.returns
  have hlocks := B.notSynchronized
  have hts : ∀ w ∈ lw_u, w.before ([.ref (X.ad 4), .ref (X.ad k1)] : List Value).toArray s = true := fun w hw => atoms_spec (ws := Cond.code yX3_read cX3_read 3 none :: lw_u) B.pre w (List.mem_cons_of_mem _ hw)
  have hown : s.vm.findClass RX3 = some m.cls := findClass_of_methodNamed B.named
  have hZ : Fx p c m s ([.ref (X.ad 4), .ref (X.ad k1)] : List Value).toArray X cX3_read 3 RX3 := ⟨hx, hb, hml, hts, hown, hk⟩
  have hS : va_S X.A s.heap s.heap [] := va_S.rf
  have hl := lv_entry ([.ref (X.ad 4), .ref (X.ad k1)]) (n := 3) (Nat.le_of_ble_eq_true rfl)
  rw [lg_entry_eq]
  generalize (lg_sl ([.ref (X.ad 4), .ref (X.ad k1)]) ++ List.replicate (3 - (lg_sl ([.ref (X.ad 4), .ref (X.ad k1)])).length) Slot.unset).toArray = ls at hl ⊢
  have hl : lv_has ls 3 [(0, .ref (X.ad 4)), (1, .ref (X.ad k1))] := hl
  show WW p l e 2 45 s m [.ref (X.ad 4), .ref (X.ad k1)] below meth c X (Qv X M9) s.heap [] 0 ls []
  have hP : wd X M s.heap := hP
  unfold fn_X3_read at hf
  have key : ∀ (H : Heap) (locs : List Loc), wd X M H → va_S X.A s.heap H locs → WW p l e 2 45 s m [.ref (X.ad 4), .ref (X.ad k1)] below meth c X (Qv X M9) H locs 0 ls [] := by
    intro H locs hP hS
    refine lv_iconst (v := (0 : Int32)) hx hb dX3_read_0 (by decide) ?_
    refine lv_istore_n (lv' := [(2, .int (0 : Int32)), (0, .ref (X.ad 4)), (1, .ref (X.ad k1))]) hx hb dX3_read_1 rfl hl (by decide) rfl (fun ls hl => ?_)
    obtain ⟨o2, ho2, hf⟩ := b_d hf
    refine lp_rule (b := bd_X3_read_2) (P := fun w : Int32 × Mem => ∀ (H : Heap) (locs : List Loc) (ls : Array Slot), wd X w.2 H → va_S X.A s.heap H locs → lv_has ls 3 [(2, .int w.1), (0, .ref (X.ad 4)), (1, .ref (X.ad k1))] → WW p l e 2 45 s m [.ref (X.ad 4), .ref (X.ad k1)] below meth c X (Qv X M9) H locs 2 ls []) (K := fun o => ∀ (M_3 : Mem), o = M_3 → ∀ (H : Heap) (locs : List Loc) (ls : Array Slot), wd X M_3 H → va_S X.A s.heap H locs → lv_has ls 3 [(0, .ref (X.ad 4)), (1, .ref (X.ad k1))] → WW p l e 2 45 s m [.ref (X.ad 4), .ref (X.ad k1)] below meth c X (Qv X M9) H locs 28 ls []) ?_ g ((0 : Int32), M) o2 ho2 ?_ H locs ls hP hS (lv_sub hl [0, 1, 2] rfl)
    · rintro ⟨v2_1, M_2⟩ o hf hkc2 hke2 H locs ls hP hS hl
      have hf := u2_e hf
      refine lv_iload_n hx hb dX3_read_2 rfl (lv_at hl 0 rfl) ?_
      refine lv_bipush (v := (8 : Int32)) hx hb dX3_read_3 (by decide) ?_
      refine lv_icmp_ge (tgt := 28) hx hb dX3_read_5 (by decide) (fun c_4 => ?_) (fun c_4 => ?_)
      · have hf := i_t c_4 hf
        exact hke2 _ (Option.some.inj hf).symm _ rfl H locs ls hP hS (lv_sub hl [1, 2] rfl)
      · have hf := i_f c_4 hf
        refine lv_aload_n hx hb dX3_read_8 rfl (lv_at hl 1 rfl) ?_
        refine gX3_0 hx hb hts hown hk hP wd_1_63 dX3_read_9 ?_
        refine lv_iload_n hx hb dX3_read_12 rfl (lv_at hl 0 rfl) ?_
        refine lv_iconst (v := (0 : Int32)) hx hb dX3_read_13 (by decide) ?_
        obtain ⟨q_6, hf⟩ := g_if hf
        refine ast hx hb hk hP hS (by decide) (fun _ => rfl) q_6 dX3_read_14 (fun H locs M_5 e_M_5 hP hS => ?_)
        have hf := b_v hf e_M_5
        refine lv_aload_n hx hb dX3_read_15 rfl (lv_at hl 1 rfl) ?_
        refine gX3_1 hx hb hts hown hk hP wd_1_65 dX3_read_16 ?_
        refine lv_iload_n hx hb dX3_read_19 rfl (lv_at hl 0 rfl) ?_
        refine lv_iconst (v := (0 : Int32)) hx hb dX3_read_20 (by decide) ?_
        obtain ⟨q_8, hf⟩ := g_if hf
        refine ast hx hb hk hP hS (by decide) (fun _ => rfl) q_8 dX3_read_21 (fun H locs M_7 e_M_7 hP hS => ?_)
        have hf := b_v hf e_M_7
        refine lv_iinc (v := v2_1 + (1 : Int32)) (lv' := [(2, .int (v2_1 + (1 : Int32))), (0, .ref (X.ad 4)), (1, .ref (X.ad k1))]) hx hb dX3_read_22 hl (k := 0) rfl rfl (by decide) rfl (fun ls hl => ?_)
        refine lv_goto (tgt := 2) hx hb dX3_read_25 (by decide) ?_
        exact hkc2 _ (Option.some.inj hf).symm H locs ls hP hS (lv_sub hl [0, 1, 2] rfl)
    · intro M_3 e H locs ls hP hS hl
      subst o2
      have hf := u1_e hf
      refine lv_iconst (v := (0 : Int32)) hx hb dX3_read_28 (by decide) ?_
      refine lv_istore_n (lv' := [(2, .int (0 : Int32)), (0, .ref (X.ad 4)), (1, .ref (X.ad k1))]) hx hb dX3_read_29 rfl hl (by decide) rfl (fun ls hl => ?_)
      obtain ⟨o30, ho30, hf⟩ := b_d hf
      refine lp_rule (b := bd_X3_read_30) (P := fun w : Int32 × Mem => ∀ (H : Heap) (locs : List Loc) (ls : Array Slot), wd X w.2 H → va_S X.A s.heap H locs → lv_has ls 3 [(2, .int w.1), (0, .ref (X.ad 4)), (1, .ref (X.ad k1))] → WW p l e 2 45 s m [.ref (X.ad 4), .ref (X.ad k1)] below meth c X (Qv X M9) H locs 30 ls []) (K := fun o => ∀ (M_11 : Mem), o = M_11 → ∀ (H : Heap) (locs : List Loc) (ls : Array Slot), wd X M_11 H → va_S X.A s.heap H locs → lv_has ls 3 [(0, .ref (X.ad 4)), (1, .ref (X.ad k1))] → WW p l e 2 45 s m [.ref (X.ad 4), .ref (X.ad k1)] below meth c X (Qv X M9) H locs 57 ls []) ?_ g ((0 : Int32), M_3) o30 ho30 ?_ H locs ls hP hS (lv_sub hl [0, 1, 2] rfl)
      · rintro ⟨v2_9, M_10⟩ o hf hkc30 hke30 H locs ls hP hS hl
        have hf := u2_e hf
        refine lv_iload_n hx hb dX3_read_30 rfl (lv_at hl 0 rfl) ?_
        refine lv_bipush (v := (24 : Int32)) hx hb dX3_read_31 (by decide) ?_
        refine lv_icmp_ge (tgt := 57) hx hb dX3_read_33 (by decide) (fun c_12 => ?_) (fun c_12 => ?_)
        · have hf := i_t c_12 hf
          exact hke30 _ (Option.some.inj hf).symm _ rfl H locs ls hP hS (lv_sub hl [1, 2] rfl)
        · have hf := i_f c_12 hf
          refine lv_aload_n hx hb dX3_read_36 rfl (lv_at hl 1 rfl) ?_
          refine gX3_2 hx hb hts hown hk hP wd_1_67 dX3_read_37 ?_
          refine lv_iload_n hx hb dX3_read_40 rfl (lv_at hl 0 rfl) ?_
          refine lv_bipush (v := (6 : Int32)) hx hb dX3_read_41 (by decide) ?_
          obtain ⟨q_14, hf⟩ := g_if hf
          refine ast hx hb hk hP hS (by decide) (fun _ => rfl) q_14 dX3_read_43 (fun H locs M_13 e_M_13 hP hS => ?_)
          have hf := b_v hf e_M_13
          refine lv_aload_n hx hb dX3_read_44 rfl (lv_at hl 1 rfl) ?_
          refine gX3_3 hx hb hts hown hk hP wd_1_69 dX3_read_45 ?_
          refine lv_iload_n hx hb dX3_read_48 rfl (lv_at hl 0 rfl) ?_
          refine lv_iconst (v := (-1 : Int32)) hx hb dX3_read_49 (by decide) ?_
          obtain ⟨q_16, hf⟩ := g_if hf
          refine ast hx hb hk hP hS (by decide) (fun _ => rfl) q_16 dX3_read_50 (fun H locs M_15 e_M_15 hP hS => ?_)
          have hf := b_v hf e_M_15
          refine lv_iinc (v := v2_9 + (1 : Int32)) (lv' := [(2, .int (v2_9 + (1 : Int32))), (0, .ref (X.ad 4)), (1, .ref (X.ad k1))]) hx hb dX3_read_51 hl (k := 0) rfl rfl (by decide) rfl (fun ls hl => ?_)
          refine lv_goto (tgt := 30) hx hb dX3_read_54 (by decide) ?_
          exact hkc30 _ (Option.some.inj hf).symm H locs ls hP hS (lv_sub hl [0, 1, 2] rfl)
      · intro M_11 e H locs ls hP hS hl
        subst o30
        have hf := u1_e hf
        refine lv_aload_n hx hb dX3_read_57 rfl (lv_at hl 0 rfl) ?_
        refine lv_iconst (v := (0 : Int32)) hx hb dX3_read_58 (by decide) ?_
        refine pX3_4 hx hb hts hown hk hP hS wd_1_71 dX3_read_59 (fun H locs M_17 e_M_17 hP hS => ?_)
        have hf := b_v hf e_M_17
        refine lv_iconst (v := (0 : Int32)) hx hb dX3_read_62 (by decide) ?_
        refine lv_istore_n (lv' := [(2, .int (0 : Int32)), (0, .ref (X.ad 4)), (1, .ref (X.ad k1))]) hx hb dX3_read_63 rfl hl (by decide) rfl (fun ls hl => ?_)
        obtain ⟨o64, ho64, hf⟩ := b_d hf
        refine lp_rule (b := bd_X3_read_64 g k1) (P := fun w : Int32 × Mem => ∀ (H : Heap) (locs : List Loc) (ls : Array Slot), wd X w.2 H → va_S X.A s.heap H locs → lv_has ls 3 [(2, .int w.1), (0, .ref (X.ad 4)), (1, .ref (X.ad k1))] → WW p l e 2 45 s m [.ref (X.ad 4), .ref (X.ad k1)] below meth c X (Qv X M9) H locs 64 ls []) (K := fun o => ∀ (M_20 : Mem), o = M_20 → ∀ (H : Heap) (locs : List Loc) (ls : Array Slot), wd X M_20 H → va_S X.A s.heap H locs → lv_has ls 3 [] → WW p l e 2 45 s m [.ref (X.ad 4), .ref (X.ad k1)] below meth c X (Qv X M9) H locs 98 ls []) ?_ g ((0 : Int32), M_17) o64 ho64 ?_ H locs ls hP hS (lv_sub hl [0, 1, 2] rfl)
        · rintro ⟨v2_18, M_19⟩ o hf hkc64 hke64 H locs ls hP hS hl
          have hf := u2_e hf
          refine lv_iload_n hx hb dX3_read_64 rfl (lv_at hl 0 rfl) ?_
          refine lv_sipush (v := (216 : Int32)) hx hb dX3_read_65 (by decide) ?_
          refine lv_icmp_ge (tgt := 98) hx hb dX3_read_68 (by decide) (fun c_21 => ?_) (fun c_21 => ?_)
          · have hf := i_t c_21 hf
            exact hke64 _ (Option.some.inj hf).symm _ rfl H locs ls hP hS (lv_sub hl [] rfl)
          · have hf := i_f c_21 hf
            refine lv_aload_n hx hb dX3_read_71 rfl (lv_at hl 2 rfl) ?_
            refine gX1_0 hx hb hts hown hk hP hk1 wd_1_33 dX3_read_72 ?_
            refine lv_iload_n hx hb dX3_read_75 rfl (lv_at hl 0 rfl) ?_
            obtain ⟨q_22, hf⟩ := g_if hf
            refine ald hx hb hk hP (isF_lt1 hk1) (rd_F1 hk1 _) q_22 dX3_read_76 ?_
            refine lv_iconst (v := (-1 : Int32)) hx hb dX3_read_77 (by decide) ?_
            refine lv_icmp_eq (tgt := 92) hx hb dX3_read_78 (by decide) (fun c_23 => ?_) (fun c_23 => ?_)
            · have hf := i_t c_23 hf
              refine lv_iinc (v := v2_18 + (1 : Int32)) (lv' := [(2, .int (v2_18 + (1 : Int32))), (0, .ref (X.ad 4)), (1, .ref (X.ad k1))]) hx hb dX3_read_92 hl (k := 0) rfl rfl (by decide) rfl (fun ls hl => ?_)
              refine lv_goto (tgt := 64) hx hb dX3_read_95 (by decide) ?_
              exact hkc64 _ (Option.some.inj hf).symm H locs ls hP hS (lv_sub hl [0, 1, 2] rfl)
            · have hf := i_f c_23 hf
              refine lv_aload_n hx hb dX3_read_81 rfl (lv_at hl 1 rfl) ?_
              refine lv_iload_n hx hb dX3_read_82 rfl (lv_at hl 0 rfl) ?_
              refine lv_aload_n hx hb dX3_read_83 rfl (lv_at hl 2 rfl) ?_
              refine gX1_0 hx hb hts hown hk hP hk1 wd_1_33 dX3_read_84 ?_
              refine lv_iload_n hx hb dX3_read_87 rfl (lv_at hl 0 rfl) ?_
              obtain ⟨q_24, hf⟩ := g_if hf
              refine ald hx hb hk hP (isF_lt1 hk1) (rd_F1 hk1 _) q_24 dX3_read_88 ?_
              obtain ⟨M_25, h_M_25, hf⟩ := b_d hf
              refine k_X3_measure hZ hP hS hl.1 wd_2_118 ⟨Nat.le_of_ble_eq_true rfl, Nat.le_of_ble_eq_true rfl⟩ (Nat.le_of_ble_eq_true rfl) dX3_read_89 ⟨Nat.zero_le _, Nat.zero_le _⟩ h_M_25 (fun H locs hP hS => ?_)
              refine lv_iinc (v := v2_18 + (1 : Int32)) (lv' := [(2, .int (v2_18 + (1 : Int32))), (0, .ref (X.ad 4)), (1, .ref (X.ad k1))]) hx hb dX3_read_92 hl (k := 0) rfl rfl (by decide) rfl (fun ls hl => ?_)
              refine lv_goto (tgt := 64) hx hb dX3_read_95 (by decide) ?_
              exact hkc64 _ (Option.some.inj hf).symm H locs ls hP hS (lv_sub hl [0, 1, 2] rfl)
        · intro M_20 e H locs ls hP hS hl
          subst o64
          have hf := u1_e hf
          have hf := Option.some.inj hf
          rw [hf] at hP
          exact ret_v hx hb hr hlocks hP hS dX3_read_98
  exact key s.heap [] hP hS
theorem hd_X3_read : Hd yX3_read 1 := by decide +kernel
theorem k_X3_read {p : Program} {l : Launch} {e : Env} {R : Room} {s : State} {m : MethodId} {args : Array Value} {below : List Frame} {meth : Method} {c : Code} {H : Heap} {locs : List Loc} {cells slots : Nat} {Q : State → Prop} {cc : ByteArray} {nL pc index : Nat} {ls : Array Slot} {rest : List Value} {X : En} {M : Mem} {H0 : Heap} {own : String} {g : Nat} {k1 : Nat} {M9 : Mem} (hZ : Fx p c m s args X cc nL own) (hP : wd X M H) (hS : va_S X.A H0 H locs) (hsz : ls.size = nL) (hlk : Cond.methodLink own index yX3_read ∈ lw_u) (hR : 2 + 1 ≤ R.frames ∧ 8 + (3 + 11) + 45 ≤ R.locals) (hW : (rest.map fun v => v.category).sum ≤ 8) (hdg : decode cc pc = .ok (.invokevirtual index, 3)) (hcs : cells ≤ R.cells ∧ slots ≤ R.slots) (hk1 : isF k1) (hf : fn_X3_read g k1 M = some M9)
    (kk : ∀ (H1 : Heap) (locs1 : List Loc), wd X M9 H1 → va_S X.A H0 H1 locs1 → W p l e R s m args below meth c H1 locs1 cells slots Q (F0 m (pc + 3) ls rest)) : W p l e R s m args below meth c H locs cells slots Q (F0 m pc ls (.ref (X.ad k1) :: .ref (X.ad 4) :: rest)) :=
  cal_v (runV (As := [.ref (X.ad k1)]) (rest := rest) hZ.1 hZ.2.1 hZ.2.2.1 hZ.2.2.2.1 hZ.2.2.2.2.1 hZ.2.2.2.2.2 hP (c_X3_read g k1 M hk1 M9 hf) wd_2_117 wd_2_115 wd_2_116 wd_1_3 hd_X3_read (by decide) rfl rfl rfl hlk hR hsz rfl hW hdg hcs) hS kk
/-! FrameRaiser.knownMeasures -/
def jn_X7_knownMeasures_23 (M_2 : Mem) : Option (Mem) :=
  some M_2
def fn_X7_knownMeasures (g : Nat) (M : Mem) : Option (Mem) :=
  if (M 0 9) = 0 then
    ((fn_X3_read g 1 M).bind fun M_3 =>
    bv (st M_3 0 9 (1 : Int32)) fun M_4 =>
    jn_X7_knownMeasures_23 M_4)
  else
    (jn_X7_knownMeasures_23 M)
theorem dX7_knownMeasures_0 : decode cX7_knownMeasures 0 = .ok (.aload_n 0, 1) := by decide +kernel
theorem dX7_knownMeasures_1 : decode cX7_knownMeasures 1 = .ok (.getfield 297, 3) := by decide +kernel
theorem dX7_knownMeasures_4 : decode cX7_knownMeasures 4 = .ok (.ifCond .ne 19, 3) := by decide +kernel
theorem dX7_knownMeasures_7 : decode cX7_knownMeasures 7 = .ok (.aload_n 0, 1) := by decide +kernel
theorem dX7_knownMeasures_8 : decode cX7_knownMeasures 8 = .ok (.getfield 19, 3) := by decide +kernel
theorem dX7_knownMeasures_11 : decode cX7_knownMeasures 11 = .ok (.aload_n 0, 1) := by decide +kernel
theorem dX7_knownMeasures_12 : decode cX7_knownMeasures 12 = .ok (.getfield 10, 3) := by decide +kernel
theorem dX7_knownMeasures_15 : decode cX7_knownMeasures 15 = .ok (.invokevirtual 307, 3) := by decide +kernel
theorem dX7_knownMeasures_18 : decode cX7_knownMeasures 18 = .ok (.aload_n 0, 1) := by decide +kernel
theorem dX7_knownMeasures_19 : decode cX7_knownMeasures 19 = .ok (.iconst 1, 1) := by decide +kernel
theorem dX7_knownMeasures_20 : decode cX7_knownMeasures 20 = .ok (.putfield 297, 3) := by decide +kernel
theorem dX7_knownMeasures_23 : decode cX7_knownMeasures 23 = .ok (.aload_n 0, 1) := by decide +kernel
theorem dX7_knownMeasures_24 : decode cX7_knownMeasures 24 = .ok (.getfield 19, 3) := by decide +kernel
theorem dX7_knownMeasures_27 : decode cX7_knownMeasures 27 = .ok (.areturn, 1) := by decide +kernel
set_option maxHeartbeats 4000000 in
set_option maxRecDepth 100000 in
theorem c_X7_knownMeasures {l : Launch} {X : En} (g : Nat) (M : Mem) (M9 : Mem) (hf : fn_X7_knownMeasures g M = some M9) : Cn l X yX7_knownMeasures cX7_knownMeasures 1 (some (.object "FrameRaiser$Measures")) 3 67 [.ref (X.ad 0)] M (Qr X 4 M9) := by
  refine Met.ofW (cc := cX7_knownMeasures) (maxL := 1) (ret := (some (.object "FrameRaiser$Measures"))) (by decide) rfl ?_
  intro p e s m args below meth c s₁ B hml hv
  obtain ⟨rfl, hP, hk⟩ := hv
  have hx := B.exec
  have hb := B.bytes
  have hr := B.returns
  have hlocks := B.notSynchronized
  have hts : ∀ w ∈ lw_u, w.before ([.ref (X.ad 0)] : List Value).toArray s = true := fun w hw => atoms_spec (ws := Cond.code yX7_knownMeasures cX7_knownMeasures 1 (some (.object "FrameRaiser$Measures")) :: lw_u) B.pre w (List.mem_cons_of_mem _ hw)
  have hown : s.vm.findClass RX7 = some m.cls := findClass_of_methodNamed B.named
  have hZ : Fx p c m s ([.ref (X.ad 0)] : List Value).toArray X cX7_knownMeasures 1 RX7 := ⟨hx, hb, hml, hts, hown, hk⟩
  have hS : va_S X.A s.heap s.heap [] := va_S.rf
  have hl := lv_entry ([.ref (X.ad 0)]) (n := 1) (Nat.le_of_ble_eq_true rfl)
  rw [lg_entry_eq]
  generalize (lg_sl ([.ref (X.ad 0)]) ++ List.replicate (1 - (lg_sl ([.ref (X.ad 0)])).length) Slot.unset).toArray = ls at hl ⊢
  have hl : lv_has ls 1 [(0, .ref (X.ad 0))] := hl
  show WW p l e 3 67 s m [.ref (X.ad 0)] below meth c X (Qr X 4 M9) s.heap [] 0 ls []
  have hP : wd X M s.heap := hP
  have jn23 : ∀  (M_2 : Mem), jn_X7_knownMeasures_23 M_2 = some M9 → ∀ (H : Heap) (locs : List Loc) (ls : Array Slot), wd X M_2 H → va_S X.A s.heap H locs → lv_has ls 1 [(0, .ref (X.ad 0))] → WW p l e 3 67 s m [.ref (X.ad 0)] below meth c X (Qr X 4 M9) H locs 23 ls [] := by
    intro  M_2 hf H locs ls hP hS hl
    unfold jn_X7_knownMeasures_23 at hf
    refine lv_aload_n hx hb dX7_knownMeasures_23 rfl (lv_at hl 0 rfl) ?_
    refine gX7_1 hx hb hts hown hk hP wd_1_214 dX7_knownMeasures_24 ?_
    have hf := Option.some.inj hf
    rw [hf] at hP
    exact ret_r hx hb hr hlocks hP hS dX7_knownMeasures_27
  unfold fn_X7_knownMeasures at hf
  have key : ∀ (H : Heap) (locs : List Loc), wd X M H → va_S X.A s.heap H locs → WW p l e 3 67 s m [.ref (X.ad 0)] below meth c X (Qr X 4 M9) H locs 0 ls [] := by
    intro H locs hP hS
    refine lv_aload_n hx hb dX7_knownMeasures_0 rfl (lv_at hl 0 rfl) ?_
    refine gX7_9 hx hb hts hown hk hP wd_1_222 dX7_knownMeasures_1 ?_
    refine lv_if_ne (tgt := 23) hx hb dX7_knownMeasures_4 (by decide) (fun c_1 => ?_) (fun c_1 => ?_)
    · have hf := i_f c_1 hf
      exact jn23 M hf H locs ls hP hS (lv_sub hl [0] rfl)
    · have hf := i_t c_1 hf
      refine lv_aload_n hx hb dX7_knownMeasures_7 rfl (lv_at hl 0 rfl) ?_
      refine gX7_1 hx hb hts hown hk hP wd_1_214 dX7_knownMeasures_8 ?_
      refine lv_aload_n hx hb dX7_knownMeasures_11 rfl (lv_at hl 0 rfl) ?_
      refine gX7_0 hx hb hts hown hk hP wd_1_213 dX7_knownMeasures_12 ?_
      obtain ⟨M_3, h_M_3, hf⟩ := b_d hf
      refine k_X3_read hZ hP hS hl.1 wd_2_114 ⟨Nat.le_of_ble_eq_true rfl, Nat.le_of_ble_eq_true rfl⟩ (Nat.le_of_ble_eq_true rfl) dX7_knownMeasures_15 ⟨Nat.zero_le _, Nat.zero_le _⟩ isF_1 h_M_3 (fun H locs hP hS => ?_)
      refine lv_aload_n hx hb dX7_knownMeasures_18 rfl (lv_at hl 0 rfl) ?_
      refine lv_iconst (v := (1 : Int32)) hx hb dX7_knownMeasures_19 (by decide) ?_
      refine pX7_9 hx hb hts hown hk hP hS isZ_1 wd_1_222 dX7_knownMeasures_20 (fun H locs M_4 e_M_4 hP hS => ?_)
      have hf := b_v hf e_M_4
      exact jn23 M_4 hf H locs ls hP hS (lv_sub hl [0] rfl)
  exact key s.heap [] hP hS
theorem hd_X7_knownMeasures : Hd yX7_knownMeasures 0 := by decide +kernel
theorem k_X7_knownMeasures {p : Program} {l : Launch} {e : Env} {R : Room} {s : State} {m : MethodId} {args : Array Value} {below : List Frame} {meth : Method} {c : Code} {H : Heap} {locs : List Loc} {cells slots : Nat} {Q : State → Prop} {cc : ByteArray} {nL pc index : Nat} {ls : Array Slot} {rest : List Value} {X : En} {M : Mem} {H0 : Heap} {own : String} {g : Nat} {M9 : Mem} (hZ : Fx p c m s args X cc nL own) (hP : wd X M H) (hS : va_S X.A H0 H locs) (hsz : ls.size = nL) (hlk : Cond.methodLink own index yX7_knownMeasures ∈ lw_u) (hR : 3 + 1 ≤ R.frames ∧ 8 + (1 + 11) + 67 ≤ R.locals) (hW : (rest.map fun v => v.category).sum ≤ 8) (hdg : decode cc pc = .ok (.invokevirtual index, 3)) (hcs : cells ≤ R.cells ∧ slots ≤ R.slots) (hf : fn_X7_knownMeasures g M = some M9)
    (kk : ∀ (H1 : Heap) (locs1 : List Loc), wd X M9 H1 → va_S X.A H0 H1 locs1 → W p l e R s m args below meth c H1 locs1 cells slots Q (F0 m (pc + 3) ls (.ref (X.ad 4) :: rest))) : W p l e R s m args below meth c H locs cells slots Q (F0 m pc ls (.ref (X.ad 0) :: rest)) :=
  cal_r (runV (As := []) (rest := rest) hZ.1 hZ.2.1 hZ.2.2.1 hZ.2.2.2.1 hZ.2.2.2.2.1 hZ.2.2.2.2.2 hP (c_X7_knownMeasures g M M9 hf) wd_2_113 wd_2_112 wd_p_6 wd_1_1 hd_X7_knownMeasures (by decide) rfl rfl rfl hlk hR hsz rfl hW hdg hcs) hS kk
/-! FrameRaiser.extend -/
def fn_X7_extend (g : Nat) (x1 : Int32) (x2 : Int32) (x3 : Int32) (x4 : Int32) (x5 : Int32) (x6 : Int32) (x7 : Int32) (M : Mem) : Option (Int32 × Mem) :=
  if (fn_X7_isPiece x1 M) = 0 then
    (some ((-1 : Int32), M))
  else
    ((fn_X0_takeAll 51 x2 x3 x4 x5 x6 x7 M).bind (u2 fun r_2 M_3 =>
    if r_2 = 0 then
      (some ((-1 : Int32), M_3))
    else
      ((fn_X1_meetsOther g 1 51 x1 M_3).bind fun r_5 =>
      if r_5 = 0 then
        (if inb x1 8 then
        if (M_3 3 (ix x1)) < (4 : Int32) then
          ((fn_X2_record 1 M_3).bind fun M_9 =>
          (fn_X1_addBox g 1 51 x1 M_9).bind fun M_10 =>
          (fn_X7_forgetPieces M_10).bind fun M_11 =>
          (fn_X7_knownMeasures g M_11).bind fun M_12 =>
          if inb x1 8 then
          some (M_12 5 (ix x1), M_12)
          else none)
        else
          (some ((-3 : Int32), M_3))
        else none)
      else
        (some ((-2 : Int32), M_3)))))
theorem dX7_extend_0 : decode cX7_extend 0 = .ok (.aload_n 0, 1) := by decide +kernel
theorem dX7_extend_1 : decode cX7_extend 1 = .ok (.iload_n 1, 1) := by decide +kernel
theorem dX7_extend_2 : decode cX7_extend 2 = .ok (.invokevirtual 109, 3) := by decide +kernel
theorem dX7_extend_5 : decode cX7_extend 5 = .ok (.ifCond .eq 23, 3) := by decide +kernel
theorem dX7_extend_8 : decode cX7_extend 8 = .ok (.aload_n 0, 1) := by decide +kernel
theorem dX7_extend_9 : decode cX7_extend 9 = .ok (.getfield 56, 3) := by decide +kernel
theorem dX7_extend_12 : decode cX7_extend 12 = .ok (.iload_n 2, 1) := by decide +kernel
theorem dX7_extend_13 : decode cX7_extend 13 = .ok (.iload_n 3, 1) := by decide +kernel
theorem dX7_extend_14 : decode cX7_extend 14 = .ok (.iload 4, 2) := by decide +kernel
theorem dX7_extend_16 : decode cX7_extend 16 = .ok (.iload 5, 2) := by decide +kernel
theorem dX7_extend_18 : decode cX7_extend 18 = .ok (.iload 6, 2) := by decide +kernel
theorem dX7_extend_20 : decode cX7_extend 20 = .ok (.iload 7, 2) := by decide +kernel
theorem dX7_extend_22 : decode cX7_extend 22 = .ok (.invokevirtual 97, 3) := by decide +kernel
theorem dX7_extend_25 : decode cX7_extend 25 = .ok (.ifCond .ne 5, 3) := by decide +kernel
theorem dX7_extend_28 : decode cX7_extend 28 = .ok (.iconst (-1), 1) := by decide +kernel
theorem dX7_extend_29 : decode cX7_extend 29 = .ok (.ireturn, 1) := by decide +kernel
theorem dX7_extend_30 : decode cX7_extend 30 = .ok (.aload_n 0, 1) := by decide +kernel
theorem dX7_extend_31 : decode cX7_extend 31 = .ok (.getfield 10, 3) := by decide +kernel
theorem dX7_extend_34 : decode cX7_extend 34 = .ok (.aload_n 0, 1) := by decide +kernel
theorem dX7_extend_35 : decode cX7_extend 35 = .ok (.getfield 56, 3) := by decide +kernel
theorem dX7_extend_38 : decode cX7_extend 38 = .ok (.iload_n 1, 1) := by decide +kernel
theorem dX7_extend_39 : decode cX7_extend 39 = .ok (.invokevirtual 101, 3) := by decide +kernel
theorem dX7_extend_42 : decode cX7_extend 42 = .ok (.ifCond .eq 6, 3) := by decide +kernel
theorem dX7_extend_45 : decode cX7_extend 45 = .ok (.bipush (-2), 2) := by decide +kernel
theorem dX7_extend_47 : decode cX7_extend 47 = .ok (.ireturn, 1) := by decide +kernel
theorem dX7_extend_48 : decode cX7_extend 48 = .ok (.aload_n 0, 1) := by decide +kernel
theorem dX7_extend_49 : decode cX7_extend 49 = .ok (.getfield 10, 3) := by decide +kernel
theorem dX7_extend_52 : decode cX7_extend 52 = .ok (.getfield 113, 3) := by decide +kernel
theorem dX7_extend_55 : decode cX7_extend 55 = .ok (.iload_n 1, 1) := by decide +kernel
theorem dX7_extend_56 : decode cX7_extend 56 = .ok (.iaload, 1) := by decide +kernel
theorem dX7_extend_57 : decode cX7_extend 57 = .ok (.iconst 4, 1) := by decide +kernel
theorem dX7_extend_58 : decode cX7_extend 58 = .ok (.if_icmp .lt 6, 3) := by decide +kernel
theorem dX7_extend_61 : decode cX7_extend 61 = .ok (.bipush (-3), 2) := by decide +kernel
theorem dX7_extend_63 : decode cX7_extend 63 = .ok (.ireturn, 1) := by decide +kernel
theorem dX7_extend_64 : decode cX7_extend 64 = .ok (.aload_n 0, 1) := by decide +kernel
theorem dX7_extend_65 : decode cX7_extend 65 = .ok (.getfield 42, 3) := by decide +kernel
theorem dX7_extend_68 : decode cX7_extend 68 = .ok (.aload_n 0, 1) := by decide +kernel
theorem dX7_extend_69 : decode cX7_extend 69 = .ok (.getfield 10, 3) := by decide +kernel
theorem dX7_extend_72 : decode cX7_extend 72 = .ok (.invokevirtual 81, 3) := by decide +kernel
theorem dX7_extend_75 : decode cX7_extend 75 = .ok (.aload_n 0, 1) := by decide +kernel
theorem dX7_extend_76 : decode cX7_extend 76 = .ok (.getfield 10, 3) := by decide +kernel
theorem dX7_extend_79 : decode cX7_extend 79 = .ok (.aload_n 0, 1) := by decide +kernel
theorem dX7_extend_80 : decode cX7_extend 80 = .ok (.getfield 56, 3) := by decide +kernel
theorem dX7_extend_83 : decode cX7_extend 83 = .ok (.iload_n 1, 1) := by decide +kernel
theorem dX7_extend_84 : decode cX7_extend 84 = .ok (.invokevirtual 105, 3) := by decide +kernel
theorem dX7_extend_87 : decode cX7_extend 87 = .ok (.aload_n 0, 1) := by decide +kernel
theorem dX7_extend_88 : decode cX7_extend 88 = .ok (.invokevirtual 88, 3) := by decide +kernel
theorem dX7_extend_91 : decode cX7_extend 91 = .ok (.aload_n 0, 1) := by decide +kernel
theorem dX7_extend_92 : decode cX7_extend 92 = .ok (.invokevirtual 117, 3) := by decide +kernel
theorem dX7_extend_95 : decode cX7_extend 95 = .ok (.getfield 121, 3) := by decide +kernel
theorem dX7_extend_98 : decode cX7_extend 98 = .ok (.iload_n 1, 1) := by decide +kernel
theorem dX7_extend_99 : decode cX7_extend 99 = .ok (.iaload, 1) := by decide +kernel
theorem dX7_extend_100 : decode cX7_extend 100 = .ok (.ireturn, 1) := by decide +kernel
set_option maxHeartbeats 4000000 in
set_option maxRecDepth 100000 in
theorem c_X7_extend {l : Launch} {X : En} (g : Nat) (x1 : Int32) (x2 : Int32) (x3 : Int32) (x4 : Int32) (x5 : Int32) (x6 : Int32) (x7 : Int32) (M : Mem) (r : Int32) (M9 : Mem) (hf : fn_X7_extend g x1 x2 x3 x4 x5 x6 x7 M = some (r, M9)) : Cn l X yX7_extend cX7_extend 8 (some .int) 4 87 [.ref (X.ad 0), .int x1, .int x2, .int x3, .int x4, .int x5, .int x6, .int x7] M (Qi X r M9) := by
  refine Met.ofW (cc := cX7_extend) (maxL := 8) (ret := (some .int)) (by decide) rfl ?_
  intro p e s m args below meth c s₁ B hml hv
  obtain ⟨rfl, hP, hk⟩ := hv
  have hx := B.exec
  have hb := B.bytes
  have hr := B.returns
  have hlocks := B.notSynchronized
  have hts : ∀ w ∈ lw_u, w.before ([.ref (X.ad 0), .int x1, .int x2, .int x3, .int x4, .int x5, .int x6, .int x7] : List Value).toArray s = true := fun w hw => atoms_spec (ws := Cond.code yX7_extend cX7_extend 8 (some .int) :: lw_u) B.pre w (List.mem_cons_of_mem _ hw)
  have hown : s.vm.findClass RX7 = some m.cls := findClass_of_methodNamed B.named
  have hZ : Fx p c m s ([.ref (X.ad 0), .int x1, .int x2, .int x3, .int x4, .int x5, .int x6, .int x7] : List Value).toArray X cX7_extend 8 RX7 := ⟨hx, hb, hml, hts, hown, hk⟩
  have hS : va_S X.A s.heap s.heap [] := va_S.rf
  have hl := lv_entry ([.ref (X.ad 0), .int x1, .int x2, .int x3, .int x4, .int x5, .int x6, .int x7]) (n := 8) (Nat.le_of_ble_eq_true rfl)
  rw [lg_entry_eq]
  generalize (lg_sl ([.ref (X.ad 0), .int x1, .int x2, .int x3, .int x4, .int x5, .int x6, .int x7]) ++ List.replicate (8 - (lg_sl ([.ref (X.ad 0), .int x1, .int x2, .int x3, .int x4, .int x5, .int x6, .int x7])).length) Slot.unset).toArray = ls at hl ⊢
  have hl : lv_has ls 8 [(0, .ref (X.ad 0)), (1, .int x1), (2, .int x2), (3, .int x3), (4, .int x4), (5, .int x5), (6, .int x6), (7, .int x7)] := hl
  show WW p l e 4 87 s m [.ref (X.ad 0), .int x1, .int x2, .int x3, .int x4, .int x5, .int x6, .int x7] below meth c X (Qi X r M9) s.heap [] 0 ls []
  have hP : wd X M s.heap := hP
  unfold fn_X7_extend at hf
  have key : ∀ (H : Heap) (locs : List Loc), wd X M H → va_S X.A s.heap H locs → WW p l e 4 87 s m [.ref (X.ad 0), .int x1, .int x2, .int x3, .int x4, .int x5, .int x6, .int x7] below meth c X (Qi X r M9) H locs 0 ls [] := by
    intro H locs hP hS
    refine lv_aload_n hx hb dX7_extend_0 rfl (lv_at hl 0 rfl) ?_
    refine lv_iload_n hx hb dX7_extend_1 rfl (lv_at hl 1 rfl) ?_
    refine k_X7_isPiece hZ hP hS hl.1 wd_2_106 ⟨Nat.le_of_ble_eq_true rfl, Nat.le_of_ble_eq_true rfl⟩ (Nat.le_of_ble_eq_true rfl) dX7_extend_2 ⟨Nat.zero_le _, Nat.zero_le _⟩ (fun H locs hP hS => ?_)
    refine lv_if_eq (tgt := 28) hx hb dX7_extend_5 (by decide) (fun c_1 => ?_) (fun c_1 => ?_)
    · have hf := i_t c_1 hf
      refine lv_iconst (v := (-1 : Int32)) hx hb dX7_extend_28 (by decide) ?_
      have hf := Option.some.inj hf
      obtain ⟨e1, e2⟩ := Prod.mk.inj hf
      rw [e2] at hP
      exact ret_i hx hb hr hlocks hP hS e1 dX7_extend_29
    · have hf := i_f c_1 hf
      refine lv_aload_n hx hb dX7_extend_8 rfl (lv_at hl 0 rfl) ?_
      refine gX7_6 hx hb hts hown hk hP wd_1_219 dX7_extend_9 ?_
      refine lv_iload_n hx hb dX7_extend_12 rfl (lv_at hl 2 rfl) ?_
      refine lv_iload_n hx hb dX7_extend_13 rfl (lv_at hl 3 rfl) ?_
      refine lv_iload hx hb dX7_extend_14 (lv_at hl 4 rfl) ?_
      refine lv_iload hx hb dX7_extend_16 (lv_at hl 5 rfl) ?_
      refine lv_iload hx hb dX7_extend_18 (lv_at hl 6 rfl) ?_
      refine lv_iload hx hb dX7_extend_20 (lv_at hl 7 rfl) ?_
      obtain ⟨⟨r_2, M_3⟩, h_r_2, hf⟩ := b_d hf
      have hf := u2_e hf
      refine k_X0_takeAll hZ hP hS hl.1 wd_2_95 ⟨Nat.le_of_ble_eq_true rfl, Nat.le_of_ble_eq_true rfl⟩ (Nat.le_of_ble_eq_true rfl) dX7_extend_22 ⟨Nat.zero_le _, Nat.zero_le _⟩ isB_51 h_r_2 (fun H locs hP hS => ?_)
      refine lv_if_ne (tgt := 30) hx hb dX7_extend_25 (by decide) (fun c_4 => ?_) (fun c_4 => ?_)
      · have hf := i_f c_4 hf
        refine lv_aload_n hx hb dX7_extend_30 rfl (lv_at hl 0 rfl) ?_
        refine gX7_0 hx hb hts hown hk hP wd_1_213 dX7_extend_31 ?_
        refine lv_aload_n hx hb dX7_extend_34 rfl (lv_at hl 0 rfl) ?_
        refine gX7_6 hx hb hts hown hk hP wd_1_219 dX7_extend_35 ?_
        refine lv_iload_n hx hb dX7_extend_38 rfl (lv_at hl 1 rfl) ?_
        obtain ⟨r_5, h_r_5, hf⟩ := b_d hf
        refine k_X1_meetsOther hZ hP hS hl.1 wd_2_100 ⟨Nat.le_of_ble_eq_true rfl, Nat.le_of_ble_eq_true rfl⟩ (Nat.le_of_ble_eq_true rfl) dX7_extend_39 ⟨Nat.zero_le _, Nat.zero_le _⟩ isF_1 isB_51 h_r_5 (fun H locs hP hS => ?_)
        refine lv_if_eq (tgt := 48) hx hb dX7_extend_42 (by decide) (fun c_6 => ?_) (fun c_6 => ?_)
        · have hf := i_t c_6 hf
          refine lv_aload_n hx hb dX7_extend_48 rfl (lv_at hl 0 rfl) ?_
          refine gX7_0 hx hb hts hown hk hP wd_1_213 dX7_extend_49 ?_
          refine gX1_1 hx hb hts hown hk hP isF_1 wd_1_37 dX7_extend_52 ?_
          refine lv_iload_n hx hb dX7_extend_55 rfl (lv_at hl 1 rfl) ?_
          obtain ⟨q_7, hf⟩ := g_if hf
          refine ald hx hb hk hP (by decide) rfl q_7 dX7_extend_56 ?_
          refine lv_iconst (v := (4 : Int32)) hx hb dX7_extend_57 (by decide) ?_
          refine lv_icmp_lt (tgt := 64) hx hb dX7_extend_58 (by decide) (fun c_8 => ?_) (fun c_8 => ?_)
          · have hf := i_t c_8 hf
            refine lv_aload_n hx hb dX7_extend_64 rfl (lv_at hl 0 rfl) ?_
            refine gX7_4 hx hb hts hown hk hP wd_1_217 dX7_extend_65 ?_
            refine lv_aload_n hx hb dX7_extend_68 rfl (lv_at hl 0 rfl) ?_
            refine gX7_0 hx hb hts hown hk hP wd_1_213 dX7_extend_69 ?_
            obtain ⟨M_9, h_M_9, hf⟩ := b_d hf
            refine k_X2_record hZ hP hS hl.1 wd_2_66 ⟨Nat.le_of_ble_eq_true rfl, Nat.le_of_ble_eq_true rfl⟩ (Nat.le_of_ble_eq_true rfl) dX7_extend_72 ⟨Nat.zero_le _, Nat.zero_le _⟩ isF_1 h_M_9 (fun H locs hP hS => ?_)
            refine lv_aload_n hx hb dX7_extend_75 rfl (lv_at hl 0 rfl) ?_
            refine gX7_0 hx hb hts hown hk hP wd_1_213 dX7_extend_76 ?_
            refine lv_aload_n hx hb dX7_extend_79 rfl (lv_at hl 0 rfl) ?_
            refine gX7_6 hx hb hts hown hk hP wd_1_219 dX7_extend_80 ?_
            refine lv_iload_n hx hb dX7_extend_83 rfl (lv_at hl 1 rfl) ?_
            obtain ⟨M_10, h_M_10, hf⟩ := b_d hf
            refine k_X1_addBox hZ hP hS hl.1 wd_2_101 ⟨Nat.le_of_ble_eq_true rfl, Nat.le_of_ble_eq_true rfl⟩ (Nat.le_of_ble_eq_true rfl) dX7_extend_84 ⟨Nat.zero_le _, Nat.zero_le _⟩ isF_1 isB_51 h_M_10 (fun H locs hP hS => ?_)
            refine lv_aload_n hx hb dX7_extend_87 rfl (lv_at hl 0 rfl) ?_
            obtain ⟨M_11, h_M_11, hf⟩ := b_d hf
            refine k_X7_forgetPieces hZ hP hS hl.1 wd_2_78 ⟨Nat.le_of_ble_eq_true rfl, Nat.le_of_ble_eq_true rfl⟩ (Nat.le_of_ble_eq_true rfl) dX7_extend_88 ⟨Nat.zero_le _, Nat.zero_le _⟩ h_M_11 (fun H locs hP hS => ?_)
            refine lv_aload_n hx hb dX7_extend_91 rfl (lv_at hl 0 rfl) ?_
            obtain ⟨M_12, h_M_12, hf⟩ := b_d hf
            refine k_X7_knownMeasures hZ hP hS hl.1 wd_2_110 ⟨Nat.le_of_ble_eq_true rfl, Nat.le_of_ble_eq_true rfl⟩ (Nat.le_of_ble_eq_true rfl) dX7_extend_92 ⟨Nat.zero_le _, Nat.zero_le _⟩ h_M_12 (fun H locs hP hS => ?_)
            refine gX3_0 hx hb hts hown hk hP wd_1_64 dX7_extend_95 ?_
            refine lv_iload_n hx hb dX7_extend_98 rfl (lv_at hl 1 rfl) ?_
            obtain ⟨q_13, hf⟩ := g_if hf
            refine ald hx hb hk hP (by decide) rfl q_13 dX7_extend_99 ?_
            have hf := Option.some.inj hf
            obtain ⟨e1, e2⟩ := Prod.mk.inj hf
            rw [e2] at hP
            exact ret_i hx hb hr hlocks hP hS e1 dX7_extend_100
          · have hf := i_f c_8 hf
            refine lv_bipush (v := (-3 : Int32)) hx hb dX7_extend_61 (by decide) ?_
            have hf := Option.some.inj hf
            obtain ⟨e1, e2⟩ := Prod.mk.inj hf
            rw [e2] at hP
            exact ret_i hx hb hr hlocks hP hS e1 dX7_extend_63
        · have hf := i_f c_6 hf
          refine lv_bipush (v := (-2 : Int32)) hx hb dX7_extend_45 (by decide) ?_
          have hf := Option.some.inj hf
          obtain ⟨e1, e2⟩ := Prod.mk.inj hf
          rw [e2] at hP
          exact ret_i hx hb hr hlocks hP hS e1 dX7_extend_47
      · have hf := i_t c_4 hf
        refine lv_iconst (v := (-1 : Int32)) hx hb dX7_extend_28 (by decide) ?_
        have hf := Option.some.inj hf
        obtain ⟨e1, e2⟩ := Prod.mk.inj hf
        rw [e2] at hP
        exact ret_i hx hb hr hlocks hP hS e1 dX7_extend_29
  exact key s.heap [] hP hS
theorem hd_X7_extend : Hd yX7_extend 7 := by decide +kernel
theorem k_X7_extend {p : Program} {l : Launch} {e : Env} {R : Room} {s : State} {m : MethodId} {args : Array Value} {below : List Frame} {meth : Method} {c : Code} {H : Heap} {locs : List Loc} {cells slots : Nat} {Q : State → Prop} {cc : ByteArray} {nL pc index : Nat} {ls : Array Slot} {rest : List Value} {X : En} {M : Mem} {H0 : Heap} {own : String} {g : Nat} {x1 : Int32} {x2 : Int32} {x3 : Int32} {x4 : Int32} {x5 : Int32} {x6 : Int32} {x7 : Int32} {r : Int32} {M9 : Mem} (hZ : Fx p c m s args X cc nL own) (hP : wd X M H) (hS : va_S X.A H0 H locs) (hsz : ls.size = nL) (hlk : Cond.methodLink own index yX7_extend ∈ lw_u) (hR : 4 + 1 ≤ R.frames ∧ 8 + (8 + 11) + 87 ≤ R.locals) (hW : (rest.map fun v => v.category).sum ≤ 8) (hdg : decode cc pc = .ok (.invokevirtual index, 3)) (hcs : cells ≤ R.cells ∧ slots ≤ R.slots) (hf : fn_X7_extend g x1 x2 x3 x4 x5 x6 x7 M = some (r, M9))
    (kk : ∀ (H1 : Heap) (locs1 : List Loc), wd X M9 H1 → va_S X.A H0 H1 locs1 → W p l e R s m args below meth c H1 locs1 cells slots Q (F0 m (pc + 3) ls (.int r :: rest))) : W p l e R s m args below meth c H locs cells slots Q (F0 m pc ls (.int x7 :: .int x6 :: .int x5 :: .int x4 :: .int x3 :: .int x2 :: .int x1 :: .ref (X.ad 0) :: rest)) :=
  cal_i (runV (As := [.int x1, .int x2, .int x3, .int x4, .int x5, .int x6, .int x7]) (rest := rest) hZ.1 hZ.2.1 hZ.2.2.1 hZ.2.2.2.1 hZ.2.2.2.2.1 hZ.2.2.2.2.2 hP (c_X7_extend g x1 x2 x3 x4 x5 x6 x7 M r M9 hf) wd_2_105 wd_2_103 wd_2_104 wd_1_1 hd_X7_extend (by decide) rfl rfl rfl hlk hR hsz rfl hW hdg hcs) hS kk
/-! FrameRaiser$Frame.remove -/
def bd_X1_remove_15 (k0 : Nat) (x1 : Int32) : (Int32 × Mem) → Option ((Int32 × Mem) ⊕ (Mem)) :=
  u2 fun v2_3 M_4 =>
  if (216 : Int32) ≤ v2_3 then
    (some (.inr M_4))
  else
    (if inb v2_3 216 then
    if (M_4 (k0 + 1) (ix v2_3)) = x1 then
      (if inb v2_3 216 then
      bv (st M_4 (k0 + 1) (ix v2_3) (-1 : Int32)) fun M_14 =>
      some (.inl (v2_3 + (1 : Int32), M_14))
      else none)
    else
      (if inb v2_3 216 then
      if (M_4 (k0 + 1) (ix v2_3)) ≤ x1 then
        (some (.inl (v2_3 + (1 : Int32), M_4)))
      else
        (if inb v2_3 216 then
        if inb v2_3 216 then
        bv (st M_4 (k0 + 1) (ix v2_3) ((M_4 (k0 + 1) (ix v2_3)) - (1 : Int32))) fun M_12 =>
        some (.inl (v2_3 + (1 : Int32), M_12))
        else none
        else none)
      else none)
    else none)
def bd_X1_remove_72 (k0 : Nat) : (Int32 × Mem) → Option ((Int32 × Mem) ⊕ (Mem)) :=
  u2 fun v2_17 M_18 =>
  if (M_18 k0 2) ≤ v2_17 then
    (some (.inr M_18))
  else
    (if inb v2_17 8 then
    if inb (v2_17 - (1 : Int32)) 8 then
    bv (st M_18 (k0 + 2) (ix (v2_17 - (1 : Int32))) (M_18 (k0 + 2) (ix v2_17))) fun M_22 =>
    some (.inl (v2_17 + (1 : Int32), M_22))
    else none
    else none)
def fn_X1_remove (g : Nat) (k0 : Nat) (x1 : Int32) (M : Mem) : Option (Mem) :=
  if x1 < 0 then
    (some M)
  else
    (if x1 < (M k0 2) then
      ((lpN g (bd_X1_remove_15 k0 x1) ((0 : Int32), M)).bind (u1 fun M_5 =>
        bv (x1 + (1 : Int32)) fun v2_16 =>
        (lpN g (bd_X1_remove_72 k0) (v2_16, M_5)).bind (u1 fun M_19 =>
          bv (st M_19 k0 2 ((M_19 k0 2) - (1 : Int32))) fun M_24 =>
          if inb (M_24 k0 2) 8 then
          bv (st M_24 (k0 + 2) (ix (M_24 k0 2)) (0 : Int32)) fun M_25 =>
          bv ((M_25 k0 3) &&& ((sl (1 : Int32) x1) - (1 : Int32))) fun v2_27 =>
          bv (sr (M_25 k0 3) (x1 + (1 : Int32))) fun v3_28 =>
          bv (st M_25 k0 3 (v2_27 ||| (sl v3_28 x1))) fun M_29 =>
          some M_29
          else none)))
    else
      (some M))
theorem dX1_remove_0 : decode cX1_remove 0 = .ok (.iload_n 1, 1) := by decide +kernel
theorem dX1_remove_1 : decode cX1_remove 1 = .ok (.ifCond .lt 11, 3) := by decide +kernel
theorem dX1_remove_4 : decode cX1_remove 4 = .ok (.iload_n 1, 1) := by decide +kernel
theorem dX1_remove_5 : decode cX1_remove 5 = .ok (.aload_n 0, 1) := by decide +kernel
theorem dX1_remove_6 : decode cX1_remove 6 = .ok (.getfield 21, 3) := by decide +kernel
theorem dX1_remove_9 : decode cX1_remove 9 = .ok (.if_icmp .lt 4, 3) := by decide +kernel
theorem dX1_remove_12 : decode cX1_remove 12 = .ok (.return_, 1) := by decide +kernel
theorem dX1_remove_13 : decode cX1_remove 13 = .ok (.iconst 0, 1) := by decide +kernel
theorem dX1_remove_14 : decode cX1_remove 14 = .ok (.istore_n 2, 1) := by decide +kernel
theorem dX1_remove_15 : decode cX1_remove 15 = .ok (.iload_n 2, 1) := by decide +kernel
theorem dX1_remove_16 : decode cX1_remove 16 = .ok (.sipush 216, 3) := by decide +kernel
theorem dX1_remove_19 : decode cX1_remove 19 = .ok (.if_icmp .ge 49, 3) := by decide +kernel
theorem dX1_remove_22 : decode cX1_remove 22 = .ok (.aload_n 0, 1) := by decide +kernel
theorem dX1_remove_23 : decode cX1_remove 23 = .ok (.getfield 9, 3) := by decide +kernel
theorem dX1_remove_26 : decode cX1_remove 26 = .ok (.iload_n 2, 1) := by decide +kernel
theorem dX1_remove_27 : decode cX1_remove 27 = .ok (.iaload, 1) := by decide +kernel
theorem dX1_remove_28 : decode cX1_remove 28 = .ok (.iload_n 1, 1) := by decide +kernel
theorem dX1_remove_29 : decode cX1_remove 29 = .ok (.if_icmp .ne 13, 3) := by decide +kernel
theorem dX1_remove_32 : decode cX1_remove 32 = .ok (.aload_n 0, 1) := by decide +kernel
theorem dX1_remove_33 : decode cX1_remove 33 = .ok (.getfield 9, 3) := by decide +kernel
theorem dX1_remove_36 : decode cX1_remove 36 = .ok (.iload_n 2, 1) := by decide +kernel
theorem dX1_remove_37 : decode cX1_remove 37 = .ok (.iconst (-1), 1) := by decide +kernel
theorem dX1_remove_38 : decode cX1_remove 38 = .ok (.iastore, 1) := by decide +kernel
theorem dX1_remove_39 : decode cX1_remove 39 = .ok (.goto 23, 3) := by decide +kernel
theorem dX1_remove_42 : decode cX1_remove 42 = .ok (.aload_n 0, 1) := by decide +kernel
theorem dX1_remove_43 : decode cX1_remove 43 = .ok (.getfield 9, 3) := by decide +kernel
theorem dX1_remove_46 : decode cX1_remove 46 = .ok (.iload_n 2, 1) := by decide +kernel
theorem dX1_remove_47 : decode cX1_remove 47 = .ok (.iaload, 1) := by decide +kernel
theorem dX1_remove_48 : decode cX1_remove 48 = .ok (.iload_n 1, 1) := by decide +kernel
theorem dX1_remove_49 : decode cX1_remove 49 = .ok (.if_icmp .le 13, 3) := by decide +kernel
theorem dX1_remove_52 : decode cX1_remove 52 = .ok (.aload_n 0, 1) := by decide +kernel
theorem dX1_remove_53 : decode cX1_remove 53 = .ok (.getfield 9, 3) := by decide +kernel
theorem dX1_remove_56 : decode cX1_remove 56 = .ok (.iload_n 2, 1) := by decide +kernel
theorem dX1_remove_57 : decode cX1_remove 57 = .ok (.dup2, 1) := by decide +kernel
theorem dX1_remove_58 : decode cX1_remove 58 = .ok (.iaload, 1) := by decide +kernel
theorem dX1_remove_59 : decode cX1_remove 59 = .ok (.iconst 1, 1) := by decide +kernel
theorem dX1_remove_60 : decode cX1_remove 60 = .ok (.isub, 1) := by decide +kernel
theorem dX1_remove_61 : decode cX1_remove 61 = .ok (.iastore, 1) := by decide +kernel
theorem dX1_remove_62 : decode cX1_remove 62 = .ok (.iinc 2 1, 3) := by decide +kernel
theorem dX1_remove_65 : decode cX1_remove 65 = .ok (.goto (-50), 3) := by decide +kernel
theorem dX1_remove_68 : decode cX1_remove 68 = .ok (.iload_n 1, 1) := by decide +kernel
theorem dX1_remove_69 : decode cX1_remove 69 = .ok (.iconst 1, 1) := by decide +kernel
theorem dX1_remove_70 : decode cX1_remove 70 = .ok (.iadd, 1) := by decide +kernel
theorem dX1_remove_71 : decode cX1_remove 71 = .ok (.istore_n 2, 1) := by decide +kernel
theorem dX1_remove_72 : decode cX1_remove 72 = .ok (.iload_n 2, 1) := by decide +kernel
theorem dX1_remove_73 : decode cX1_remove 73 = .ok (.aload_n 0, 1) := by decide +kernel
theorem dX1_remove_74 : decode cX1_remove 74 = .ok (.getfield 21, 3) := by decide +kernel
theorem dX1_remove_77 : decode cX1_remove 77 = .ok (.if_icmp .ge 23, 3) := by decide +kernel
theorem dX1_remove_80 : decode cX1_remove 80 = .ok (.aload_n 0, 1) := by decide +kernel
theorem dX1_remove_81 : decode cX1_remove 81 = .ok (.getfield 15, 3) := by decide +kernel
theorem dX1_remove_84 : decode cX1_remove 84 = .ok (.iload_n 2, 1) := by decide +kernel
theorem dX1_remove_85 : decode cX1_remove 85 = .ok (.iconst 1, 1) := by decide +kernel
theorem dX1_remove_86 : decode cX1_remove 86 = .ok (.isub, 1) := by decide +kernel
theorem dX1_remove_87 : decode cX1_remove 87 = .ok (.aload_n 0, 1) := by decide +kernel
theorem dX1_remove_88 : decode cX1_remove 88 = .ok (.getfield 15, 3) := by decide +kernel
theorem dX1_remove_91 : decode cX1_remove 91 = .ok (.iload_n 2, 1) := by decide +kernel
theorem dX1_remove_92 : decode cX1_remove 92 = .ok (.iaload, 1) := by decide +kernel
theorem dX1_remove_93 : decode cX1_remove 93 = .ok (.iastore, 1) := by decide +kernel
theorem dX1_remove_94 : decode cX1_remove 94 = .ok (.iinc 2 1, 3) := by decide +kernel
theorem dX1_remove_97 : decode cX1_remove 97 = .ok (.goto (-25), 3) := by decide +kernel
theorem dX1_remove_100 : decode cX1_remove 100 = .ok (.aload_n 0, 1) := by decide +kernel
theorem dX1_remove_101 : decode cX1_remove 101 = .ok (.dup, 1) := by decide +kernel
theorem dX1_remove_102 : decode cX1_remove 102 = .ok (.getfield 21, 3) := by decide +kernel
theorem dX1_remove_105 : decode cX1_remove 105 = .ok (.iconst 1, 1) := by decide +kernel
theorem dX1_remove_106 : decode cX1_remove 106 = .ok (.isub, 1) := by decide +kernel
theorem dX1_remove_107 : decode cX1_remove 107 = .ok (.putfield 21, 3) := by decide +kernel
theorem dX1_remove_110 : decode cX1_remove 110 = .ok (.aload_n 0, 1) := by decide +kernel
theorem dX1_remove_111 : decode cX1_remove 111 = .ok (.getfield 15, 3) := by decide +kernel
theorem dX1_remove_114 : decode cX1_remove 114 = .ok (.aload_n 0, 1) := by decide +kernel
theorem dX1_remove_115 : decode cX1_remove 115 = .ok (.getfield 21, 3) := by decide +kernel
theorem dX1_remove_118 : decode cX1_remove 118 = .ok (.iconst 0, 1) := by decide +kernel
theorem dX1_remove_119 : decode cX1_remove 119 = .ok (.iastore, 1) := by decide +kernel
theorem dX1_remove_120 : decode cX1_remove 120 = .ok (.aload_n 0, 1) := by decide +kernel
theorem dX1_remove_121 : decode cX1_remove 121 = .ok (.getfield 25, 3) := by decide +kernel
theorem dX1_remove_124 : decode cX1_remove 124 = .ok (.iconst 1, 1) := by decide +kernel
theorem dX1_remove_125 : decode cX1_remove 125 = .ok (.iload_n 1, 1) := by decide +kernel
theorem dX1_remove_126 : decode cX1_remove 126 = .ok (.ishl, 1) := by decide +kernel
theorem dX1_remove_127 : decode cX1_remove 127 = .ok (.iconst 1, 1) := by decide +kernel
theorem dX1_remove_128 : decode cX1_remove 128 = .ok (.isub, 1) := by decide +kernel
theorem dX1_remove_129 : decode cX1_remove 129 = .ok (.iand, 1) := by decide +kernel
theorem dX1_remove_130 : decode cX1_remove 130 = .ok (.istore_n 2, 1) := by decide +kernel
theorem dX1_remove_131 : decode cX1_remove 131 = .ok (.aload_n 0, 1) := by decide +kernel
theorem dX1_remove_132 : decode cX1_remove 132 = .ok (.getfield 25, 3) := by decide +kernel
theorem dX1_remove_135 : decode cX1_remove 135 = .ok (.iload_n 1, 1) := by decide +kernel
theorem dX1_remove_136 : decode cX1_remove 136 = .ok (.iconst 1, 1) := by decide +kernel
theorem dX1_remove_137 : decode cX1_remove 137 = .ok (.iadd, 1) := by decide +kernel
theorem dX1_remove_138 : decode cX1_remove 138 = .ok (.ishr, 1) := by decide +kernel
theorem dX1_remove_139 : decode cX1_remove 139 = .ok (.istore_n 3, 1) := by decide +kernel
theorem dX1_remove_140 : decode cX1_remove 140 = .ok (.aload_n 0, 1) := by decide +kernel
theorem dX1_remove_141 : decode cX1_remove 141 = .ok (.iload_n 2, 1) := by decide +kernel
theorem dX1_remove_142 : decode cX1_remove 142 = .ok (.iload_n 3, 1) := by decide +kernel
theorem dX1_remove_143 : decode cX1_remove 143 = .ok (.iload_n 1, 1) := by decide +kernel
theorem dX1_remove_144 : decode cX1_remove 144 = .ok (.ishl, 1) := by decide +kernel
theorem dX1_remove_145 : decode cX1_remove 145 = .ok (.ior, 1) := by decide +kernel
theorem dX1_remove_146 : decode cX1_remove 146 = .ok (.putfield 25, 3) := by decide +kernel
theorem dX1_remove_149 : decode cX1_remove 149 = .ok (.return_, 1) := by decide +kernel
set_option maxHeartbeats 4000000 in
set_option maxRecDepth 100000 in
theorem c_X1_remove {l : Launch} {X : En} (g : Nat) (k0 : Nat) (x1 : Int32) (M : Mem) (hk0 : isF k0) (M9 : Mem) (hf : fn_X1_remove g k0 x1 M = some M9) : Cn l X yX1_remove cX1_remove 4 none 0 0 [.ref (X.ad k0), .int x1] M (Qv X M9) := by
  refine Met.ofW (cc := cX1_remove) (maxL := 4) (ret := none) (by decide) rfl ?_
  intro p e s m args below meth c s₁ B hml hv
  obtain ⟨rfl, hP, hk⟩ := hv
  have hx := B.exec
  have hb := B.bytes
  have hr := B.returns
  have hlocks := B.notSynchronized
  have hts : ∀ w ∈ lw_u, w.before ([.ref (X.ad k0), .int x1] : List Value).toArray s = true := fun w hw => atoms_spec (ws := Cond.code yX1_remove cX1_remove 4 none :: lw_u) B.pre w (List.mem_cons_of_mem _ hw)
  have hown : s.vm.findClass RX1 = some m.cls := findClass_of_methodNamed B.named
  have hZ : Fx p c m s ([.ref (X.ad k0), .int x1] : List Value).toArray X cX1_remove 4 RX1 := ⟨hx, hb, hml, hts, hown, hk⟩
  have hS : va_S X.A s.heap s.heap [] := va_S.rf
  have hl := lv_entry ([.ref (X.ad k0), .int x1]) (n := 4) (Nat.le_of_ble_eq_true rfl)
  rw [lg_entry_eq]
  generalize (lg_sl ([.ref (X.ad k0), .int x1]) ++ List.replicate (4 - (lg_sl ([.ref (X.ad k0), .int x1])).length) Slot.unset).toArray = ls at hl ⊢
  have hl : lv_has ls 4 [(0, .ref (X.ad k0)), (1, .int x1)] := hl
  show WW p l e 0 0 s m [.ref (X.ad k0), .int x1] below meth c X (Qv X M9) s.heap [] 0 ls []
  have hP : wd X M s.heap := hP
  unfold fn_X1_remove at hf
  have key : ∀ (H : Heap) (locs : List Loc), wd X M H → va_S X.A s.heap H locs → WW p l e 0 0 s m [.ref (X.ad k0), .int x1] below meth c X (Qv X M9) H locs 0 ls [] := by
    intro H locs hP hS
    refine lv_iload_n hx hb dX1_remove_0 rfl (lv_at hl 1 rfl) ?_
    refine lv_if_lt (tgt := 12) hx hb dX1_remove_1 (by decide) (fun c_1 => ?_) (fun c_1 => ?_)
    · have hf := i_t c_1 hf
      have hf := Option.some.inj hf
      rw [hf] at hP
      exact ret_v hx hb hr hlocks hP hS dX1_remove_12
    · have hf := i_f c_1 hf
      refine lv_iload_n hx hb dX1_remove_4 rfl (lv_at hl 1 rfl) ?_
      refine lv_aload_n hx hb dX1_remove_5 rfl (lv_at hl 0 rfl) ?_
      refine gX1_2 hx hb hts hown hk hP hk0 wd_1_39 dX1_remove_6 ?_
      refine lv_icmp_lt (tgt := 13) hx hb dX1_remove_9 (by decide) (fun c_2 => ?_) (fun c_2 => ?_)
      · have hf := i_t c_2 hf
        refine lv_iconst (v := (0 : Int32)) hx hb dX1_remove_13 (by decide) ?_
        refine lv_istore_n (lv' := [(2, .int (0 : Int32)), (0, .ref (X.ad k0)), (1, .int x1)]) hx hb dX1_remove_14 rfl hl (by decide) rfl (fun ls hl => ?_)
        obtain ⟨o15, ho15, hf⟩ := b_d hf
        refine lp_rule (b := bd_X1_remove_15 k0 x1) (P := fun w : Int32 × Mem => ∀ (H : Heap) (locs : List Loc) (ls : Array Slot), wd X w.2 H → va_S X.A s.heap H locs → lv_has ls 4 [(2, .int w.1), (0, .ref (X.ad k0)), (1, .int x1)] → WW p l e 0 0 s m [.ref (X.ad k0), .int x1] below meth c X (Qv X M9) H locs 15 ls []) (K := fun o => ∀ (M_5 : Mem), o = M_5 → ∀ (H : Heap) (locs : List Loc) (ls : Array Slot), wd X M_5 H → va_S X.A s.heap H locs → lv_has ls 4 [(0, .ref (X.ad k0)), (1, .int x1)] → WW p l e 0 0 s m [.ref (X.ad k0), .int x1] below meth c X (Qv X M9) H locs 68 ls []) ?_ g ((0 : Int32), M) o15 ho15 ?_ H locs ls hP hS (lv_sub hl [0, 1, 2] rfl)
        · rintro ⟨v2_3, M_4⟩ o hf hkc15 hke15 H locs ls hP hS hl
          have hf := u2_e hf
          refine lv_iload_n hx hb dX1_remove_15 rfl (lv_at hl 0 rfl) ?_
          refine lv_sipush (v := (216 : Int32)) hx hb dX1_remove_16 (by decide) ?_
          refine lv_icmp_ge (tgt := 68) hx hb dX1_remove_19 (by decide) (fun c_6 => ?_) (fun c_6 => ?_)
          · have hf := i_t c_6 hf
            exact hke15 _ (Option.some.inj hf).symm _ rfl H locs ls hP hS (lv_sub hl [1, 2] rfl)
          · have hf := i_f c_6 hf
            refine lv_aload_n hx hb dX1_remove_22 rfl (lv_at hl 1 rfl) ?_
            refine gX1_0 hx hb hts hown hk hP hk0 wd_1_31 dX1_remove_23 ?_
            refine lv_iload_n hx hb dX1_remove_26 rfl (lv_at hl 0 rfl) ?_
            obtain ⟨q_7, hf⟩ := g_if hf
            refine ald hx hb hk hP (isF_lt1 hk0) (rd_F1 hk0 _) q_7 dX1_remove_27 ?_
            refine lv_iload_n hx hb dX1_remove_28 rfl (lv_at hl 2 rfl) ?_
            refine lv_icmp_ne (tgt := 42) hx hb dX1_remove_29 (by decide) (fun c_8 => ?_) (fun c_8 => ?_)
            · have hf := i_f c_8 hf
              refine lv_aload_n hx hb dX1_remove_42 rfl (lv_at hl 1 rfl) ?_
              refine gX1_0 hx hb hts hown hk hP hk0 wd_1_31 dX1_remove_43 ?_
              refine lv_iload_n hx hb dX1_remove_46 rfl (lv_at hl 0 rfl) ?_
              obtain ⟨q_9, hf⟩ := g_if hf
              refine ald hx hb hk hP (isF_lt1 hk0) (rd_F1 hk0 _) q_9 dX1_remove_47 ?_
              refine lv_iload_n hx hb dX1_remove_48 rfl (lv_at hl 2 rfl) ?_
              refine lv_icmp_le (tgt := 62) hx hb dX1_remove_49 (by decide) (fun c_10 => ?_) (fun c_10 => ?_)
              · have hf := i_t c_10 hf
                refine lv_iinc (v := v2_3 + (1 : Int32)) (lv' := [(2, .int (v2_3 + (1 : Int32))), (0, .ref (X.ad k0)), (1, .int x1)]) hx hb dX1_remove_62 hl (k := 0) rfl rfl (by decide) rfl (fun ls hl => ?_)
                refine lv_goto (tgt := 15) hx hb dX1_remove_65 (by decide) ?_
                exact hkc15 _ (Option.some.inj hf).symm H locs ls hP hS (lv_sub hl [0, 1, 2] rfl)
              · have hf := i_f c_10 hf
                refine lv_aload_n hx hb dX1_remove_52 rfl (lv_at hl 1 rfl) ?_
                refine gX1_0 hx hb hts hown hk hP hk0 wd_1_31 dX1_remove_53 ?_
                refine lv_iload_n hx hb dX1_remove_56 rfl (lv_at hl 0 rfl) ?_
                refine lv_dup2_11 hx hb dX1_remove_57 rfl rfl ?_
                obtain ⟨q_11, hf⟩ := g_if hf
                refine ald hx hb hk hP (isF_lt1 hk0) (rd_F1 hk0 _) q_11 dX1_remove_58 ?_
                refine lv_iconst (v := (1 : Int32)) hx hb dX1_remove_59 (by decide) ?_
                refine lv_isub hx hb dX1_remove_60 ?_
                obtain ⟨q_13, hf⟩ := g_if hf
                refine ast hx hb hk hP hS (isF_lt1 hk0) (rd_F1 hk0) q_13 dX1_remove_61 (fun H locs M_12 e_M_12 hP hS => ?_)
                have hf := b_v hf e_M_12
                refine lv_iinc (v := v2_3 + (1 : Int32)) (lv' := [(2, .int (v2_3 + (1 : Int32))), (0, .ref (X.ad k0)), (1, .int x1)]) hx hb dX1_remove_62 hl (k := 0) rfl rfl (by decide) rfl (fun ls hl => ?_)
                refine lv_goto (tgt := 15) hx hb dX1_remove_65 (by decide) ?_
                exact hkc15 _ (Option.some.inj hf).symm H locs ls hP hS (lv_sub hl [0, 1, 2] rfl)
            · have hf := i_t c_8 hf
              refine lv_aload_n hx hb dX1_remove_32 rfl (lv_at hl 1 rfl) ?_
              refine gX1_0 hx hb hts hown hk hP hk0 wd_1_31 dX1_remove_33 ?_
              refine lv_iload_n hx hb dX1_remove_36 rfl (lv_at hl 0 rfl) ?_
              refine lv_iconst (v := (-1 : Int32)) hx hb dX1_remove_37 (by decide) ?_
              obtain ⟨q_15, hf⟩ := g_if hf
              refine ast hx hb hk hP hS (isF_lt1 hk0) (rd_F1 hk0) q_15 dX1_remove_38 (fun H locs M_14 e_M_14 hP hS => ?_)
              have hf := b_v hf e_M_14
              refine lv_goto (tgt := 62) hx hb dX1_remove_39 (by decide) ?_
              refine lv_iinc (v := v2_3 + (1 : Int32)) (lv' := [(2, .int (v2_3 + (1 : Int32))), (0, .ref (X.ad k0)), (1, .int x1)]) hx hb dX1_remove_62 hl (k := 0) rfl rfl (by decide) rfl (fun ls hl => ?_)
              refine lv_goto (tgt := 15) hx hb dX1_remove_65 (by decide) ?_
              exact hkc15 _ (Option.some.inj hf).symm H locs ls hP hS (lv_sub hl [0, 1, 2] rfl)
        · intro M_5 e H locs ls hP hS hl
          subst o15
          have hf := u1_e hf
          refine lv_iload_n hx hb dX1_remove_68 rfl (lv_at hl 1 rfl) ?_
          refine lv_iconst (v := (1 : Int32)) hx hb dX1_remove_69 (by decide) ?_
          refine lv_iadd hx hb dX1_remove_70 ?_
          refine lv_topi (fun v2_16 e_v2_16 => ?_)
          have hf := b_v hf e_v2_16
          refine lv_istore_n (lv' := [(2, .int v2_16), (0, .ref (X.ad k0)), (1, .int x1)]) hx hb dX1_remove_71 rfl hl (by decide) rfl (fun ls hl => ?_)
          obtain ⟨o72, ho72, hf⟩ := b_d hf
          refine lp_rule (b := bd_X1_remove_72 k0) (P := fun w : Int32 × Mem => ∀ (H : Heap) (locs : List Loc) (ls : Array Slot), wd X w.2 H → va_S X.A s.heap H locs → lv_has ls 4 [(2, .int w.1), (0, .ref (X.ad k0)), (1, .int x1)] → WW p l e 0 0 s m [.ref (X.ad k0), .int x1] below meth c X (Qv X M9) H locs 72 ls []) (K := fun o => ∀ (M_19 : Mem), o = M_19 → ∀ (H : Heap) (locs : List Loc) (ls : Array Slot), wd X M_19 H → va_S X.A s.heap H locs → lv_has ls 4 [(0, .ref (X.ad k0)), (1, .int x1)] → WW p l e 0 0 s m [.ref (X.ad k0), .int x1] below meth c X (Qv X M9) H locs 100 ls []) ?_ g (v2_16, M_5) o72 ho72 ?_ H locs ls hP hS (lv_sub hl [0, 1, 2] rfl)
          · rintro ⟨v2_17, M_18⟩ o hf hkc72 hke72 H locs ls hP hS hl
            have hf := u2_e hf
            refine lv_iload_n hx hb dX1_remove_72 rfl (lv_at hl 0 rfl) ?_
            refine lv_aload_n hx hb dX1_remove_73 rfl (lv_at hl 1 rfl) ?_
            refine gX1_2 hx hb hts hown hk hP hk0 wd_1_39 dX1_remove_74 ?_
            refine lv_icmp_ge (tgt := 100) hx hb dX1_remove_77 (by decide) (fun c_20 => ?_) (fun c_20 => ?_)
            · have hf := i_t c_20 hf
              exact hke72 _ (Option.some.inj hf).symm _ rfl H locs ls hP hS (lv_sub hl [1, 2] rfl)
            · have hf := i_f c_20 hf
              refine lv_aload_n hx hb dX1_remove_80 rfl (lv_at hl 1 rfl) ?_
              refine gX1_1 hx hb hts hown hk hP hk0 wd_1_35 dX1_remove_81 ?_
              refine lv_iload_n hx hb dX1_remove_84 rfl (lv_at hl 0 rfl) ?_
              refine lv_iconst (v := (1 : Int32)) hx hb dX1_remove_85 (by decide) ?_
              refine lv_isub hx hb dX1_remove_86 ?_
              refine lv_aload_n hx hb dX1_remove_87 rfl (lv_at hl 1 rfl) ?_
              refine gX1_1 hx hb hts hown hk hP hk0 wd_1_35 dX1_remove_88 ?_
              refine lv_iload_n hx hb dX1_remove_91 rfl (lv_at hl 0 rfl) ?_
              obtain ⟨q_21, hf⟩ := g_if hf
              refine ald hx hb hk hP (isF_lt hk0) (rd_F2 hk0 _) q_21 dX1_remove_92 ?_
              obtain ⟨q_23, hf⟩ := g_if hf
              refine ast hx hb hk hP hS (isF_lt hk0) (rd_F2 hk0) q_23 dX1_remove_93 (fun H locs M_22 e_M_22 hP hS => ?_)
              have hf := b_v hf e_M_22
              refine lv_iinc (v := v2_17 + (1 : Int32)) (lv' := [(2, .int (v2_17 + (1 : Int32))), (0, .ref (X.ad k0)), (1, .int x1)]) hx hb dX1_remove_94 hl (k := 0) rfl rfl (by decide) rfl (fun ls hl => ?_)
              refine lv_goto (tgt := 72) hx hb dX1_remove_97 (by decide) ?_
              exact hkc72 _ (Option.some.inj hf).symm H locs ls hP hS (lv_sub hl [0, 1, 2] rfl)
          · intro M_19 e H locs ls hP hS hl
            subst o72
            have hf := u1_e hf
            refine lv_aload_n hx hb dX1_remove_100 rfl (lv_at hl 0 rfl) ?_
            refine lv_dup hx hb dX1_remove_101 rfl ?_
            refine gX1_2 hx hb hts hown hk hP hk0 wd_1_39 dX1_remove_102 ?_
            refine lv_iconst (v := (1 : Int32)) hx hb dX1_remove_105 (by decide) ?_
            refine lv_isub hx hb dX1_remove_106 ?_
            refine pX1_2 hx hb hts hown hk hP hS hk0 wd_1_39 dX1_remove_107 (fun H locs M_24 e_M_24 hP hS => ?_)
            have hf := b_v hf e_M_24
            refine lv_aload_n hx hb dX1_remove_110 rfl (lv_at hl 0 rfl) ?_
            refine gX1_1 hx hb hts hown hk hP hk0 wd_1_35 dX1_remove_111 ?_
            refine lv_aload_n hx hb dX1_remove_114 rfl (lv_at hl 0 rfl) ?_
            refine gX1_2 hx hb hts hown hk hP hk0 wd_1_39 dX1_remove_115 ?_
            refine lv_iconst (v := (0 : Int32)) hx hb dX1_remove_118 (by decide) ?_
            obtain ⟨q_26, hf⟩ := g_if hf
            refine ast hx hb hk hP hS (isF_lt hk0) (rd_F2 hk0) q_26 dX1_remove_119 (fun H locs M_25 e_M_25 hP hS => ?_)
            have hf := b_v hf e_M_25
            refine lv_aload_n hx hb dX1_remove_120 rfl (lv_at hl 0 rfl) ?_
            refine gX1_3 hx hb hts hown hk hP hk0 wd_1_41 dX1_remove_121 ?_
            refine lv_iconst (v := (1 : Int32)) hx hb dX1_remove_124 (by decide) ?_
            refine lv_iload_n hx hb dX1_remove_125 rfl (lv_at hl 1 rfl) ?_
            refine rw_ishl hx hb dX1_remove_126 ?_
            refine lv_iconst (v := (1 : Int32)) hx hb dX1_remove_127 (by decide) ?_
            refine lv_isub hx hb dX1_remove_128 ?_
            refine lv_iand hx hb dX1_remove_129 ?_
            refine lv_topi (fun v2_27 e_v2_27 => ?_)
            have hf := b_v hf e_v2_27
            refine lv_istore_n (lv' := [(2, .int v2_27), (0, .ref (X.ad k0)), (1, .int x1)]) hx hb dX1_remove_130 rfl hl (by decide) rfl (fun ls hl => ?_)
            refine lv_aload_n hx hb dX1_remove_131 rfl (lv_at hl 1 rfl) ?_
            refine gX1_3 hx hb hts hown hk hP hk0 wd_1_41 dX1_remove_132 ?_
            refine lv_iload_n hx hb dX1_remove_135 rfl (lv_at hl 2 rfl) ?_
            refine lv_iconst (v := (1 : Int32)) hx hb dX1_remove_136 (by decide) ?_
            refine lv_iadd hx hb dX1_remove_137 ?_
            refine rw_ishr hx hb dX1_remove_138 ?_
            refine lv_topi (fun v3_28 e_v3_28 => ?_)
            have hf := b_v hf e_v3_28
            refine lv_istore_n (lv' := [(3, .int v3_28), (2, .int v2_27), (0, .ref (X.ad k0)), (1, .int x1)]) hx hb dX1_remove_139 rfl hl (by decide) rfl (fun ls hl => ?_)
            refine lv_aload_n hx hb dX1_remove_140 rfl (lv_at hl 2 rfl) ?_
            refine lv_iload_n hx hb dX1_remove_141 rfl (lv_at hl 1 rfl) ?_
            refine lv_iload_n hx hb dX1_remove_142 rfl (lv_at hl 0 rfl) ?_
            refine lv_iload_n hx hb dX1_remove_143 rfl (lv_at hl 3 rfl) ?_
            refine rw_ishl hx hb dX1_remove_144 ?_
            refine lv_ior hx hb dX1_remove_145 ?_
            refine pX1_3 hx hb hts hown hk hP hS hk0 wd_1_41 dX1_remove_146 (fun H locs M_29 e_M_29 hP hS => ?_)
            have hf := b_v hf e_M_29
            have hf := Option.some.inj hf
            rw [hf] at hP
            exact ret_v hx hb hr hlocks hP hS dX1_remove_149
      · have hf := i_f c_2 hf
        have hf := Option.some.inj hf
        rw [hf] at hP
        exact ret_v hx hb hr hlocks hP hS dX1_remove_12
  exact key s.heap [] hP hS
theorem hd_X1_remove : Hd yX1_remove 1 := by decide +kernel
theorem k_X1_remove {p : Program} {l : Launch} {e : Env} {R : Room} {s : State} {m : MethodId} {args : Array Value} {below : List Frame} {meth : Method} {c : Code} {H : Heap} {locs : List Loc} {cells slots : Nat} {Q : State → Prop} {cc : ByteArray} {nL pc index : Nat} {ls : Array Slot} {rest : List Value} {X : En} {M : Mem} {H0 : Heap} {own : String} {g : Nat} {k0 : Nat} {x1 : Int32} {M9 : Mem} (hZ : Fx p c m s args X cc nL own) (hP : wd X M H) (hS : va_S X.A H0 H locs) (hsz : ls.size = nL) (hlk : Cond.methodLink own index yX1_remove ∈ lw_u) (hR : 0 + 1 ≤ R.frames ∧ 8 + (4 + 11) + 0 ≤ R.locals) (hW : (rest.map fun v => v.category).sum ≤ 8) (hdg : decode cc pc = .ok (.invokevirtual index, 3)) (hcs : cells ≤ R.cells ∧ slots ≤ R.slots) (hk0 : isF k0) (hf : fn_X1_remove g k0 x1 M = some M9)
    (kk : ∀ (H1 : Heap) (locs1 : List Loc), wd X M9 H1 → va_S X.A H0 H1 locs1 → W p l e R s m args below meth c H1 locs1 cells slots Q (F0 m (pc + 3) ls rest)) : W p l e R s m args below meth c H locs cells slots Q (F0 m pc ls (.int x1 :: .ref (X.ad k0) :: rest)) :=
  cal_v (runV (As := [.int x1]) (rest := rest) hZ.1 hZ.2.1 hZ.2.2.1 hZ.2.2.2.1 hZ.2.2.2.2.1 hZ.2.2.2.2.2 hP (c_X1_remove g k0 x1 M hk0 M9 hf) wd_2_136 wd_2_134 wd_2_135 wd_1_2 hd_X1_remove (isF_lt0 hk0) (rd_F0 hk0 _) rfl rfl hlk hR hsz rfl hW hdg hcs) hS kk
/-! FrameRaiser.drop -/
def fn_X7_drop (g : Nat) (x1 : Int32) (M : Mem) : Option (Int32 × Mem) :=
  if (fn_X7_isPiece x1 M) = 0 then
    (some ((-1 : Int32), M))
  else
    ((fn_X2_record 1 M).bind fun M_2 =>
    (fn_X1_remove g 1 x1 M_2).bind fun M_3 =>
    (fn_X7_forgetPieces M_3).bind fun M_4 =>
    some (M_4 1 2, M_4))
theorem dX7_drop_0 : decode cX7_drop 0 = .ok (.aload_n 0, 1) := by decide +kernel
theorem dX7_drop_1 : decode cX7_drop 1 = .ok (.iload_n 1, 1) := by decide +kernel
theorem dX7_drop_2 : decode cX7_drop 2 = .ok (.invokevirtual 109, 3) := by decide +kernel
theorem dX7_drop_5 : decode cX7_drop 5 = .ok (.ifCond .ne 5, 3) := by decide +kernel
theorem dX7_drop_8 : decode cX7_drop 8 = .ok (.iconst (-1), 1) := by decide +kernel
theorem dX7_drop_9 : decode cX7_drop 9 = .ok (.ireturn, 1) := by decide +kernel
theorem dX7_drop_10 : decode cX7_drop 10 = .ok (.aload_n 0, 1) := by decide +kernel
theorem dX7_drop_11 : decode cX7_drop 11 = .ok (.getfield 42, 3) := by decide +kernel
theorem dX7_drop_14 : decode cX7_drop 14 = .ok (.aload_n 0, 1) := by decide +kernel
theorem dX7_drop_15 : decode cX7_drop 15 = .ok (.getfield 10, 3) := by decide +kernel
theorem dX7_drop_18 : decode cX7_drop 18 = .ok (.invokevirtual 81, 3) := by decide +kernel
theorem dX7_drop_21 : decode cX7_drop 21 = .ok (.aload_n 0, 1) := by decide +kernel
theorem dX7_drop_22 : decode cX7_drop 22 = .ok (.getfield 10, 3) := by decide +kernel
theorem dX7_drop_25 : decode cX7_drop 25 = .ok (.iload_n 1, 1) := by decide +kernel
theorem dX7_drop_26 : decode cX7_drop 26 = .ok (.invokevirtual 124, 3) := by decide +kernel
theorem dX7_drop_29 : decode cX7_drop 29 = .ok (.aload_n 0, 1) := by decide +kernel
theorem dX7_drop_30 : decode cX7_drop 30 = .ok (.invokevirtual 88, 3) := by decide +kernel
theorem dX7_drop_33 : decode cX7_drop 33 = .ok (.aload_n 0, 1) := by decide +kernel
theorem dX7_drop_34 : decode cX7_drop 34 = .ok (.getfield 10, 3) := by decide +kernel
theorem dX7_drop_37 : decode cX7_drop 37 = .ok (.getfield 91, 3) := by decide +kernel
theorem dX7_drop_40 : decode cX7_drop 40 = .ok (.ireturn, 1) := by decide +kernel
set_option maxHeartbeats 4000000 in
set_option maxRecDepth 100000 in
theorem c_X7_drop {l : Launch} {X : En} (g : Nat) (x1 : Int32) (M : Mem) (r : Int32) (M9 : Mem) (hf : fn_X7_drop g x1 M = some (r, M9)) : Cn l X yX7_drop cX7_drop 2 (some .int) 3 82 [.ref (X.ad 0), .int x1] M (Qi X r M9) := by
  refine Met.ofW (cc := cX7_drop) (maxL := 2) (ret := (some .int)) (by decide) rfl ?_
  intro p e s m args below meth c s₁ B hml hv
  obtain ⟨rfl, hP, hk⟩ := hv
  have hx := B.exec
  have hb := B.bytes
  have hr := B.returns
  have hlocks := B.notSynchronized
  have hts : ∀ w ∈ lw_u, w.before ([.ref (X.ad 0), .int x1] : List Value).toArray s = true := fun w hw => atoms_spec (ws := Cond.code yX7_drop cX7_drop 2 (some .int) :: lw_u) B.pre w (List.mem_cons_of_mem _ hw)
  have hown : s.vm.findClass RX7 = some m.cls := findClass_of_methodNamed B.named
  have hZ : Fx p c m s ([.ref (X.ad 0), .int x1] : List Value).toArray X cX7_drop 2 RX7 := ⟨hx, hb, hml, hts, hown, hk⟩
  have hS : va_S X.A s.heap s.heap [] := va_S.rf
  have hl := lv_entry ([.ref (X.ad 0), .int x1]) (n := 2) (Nat.le_of_ble_eq_true rfl)
  rw [lg_entry_eq]
  generalize (lg_sl ([.ref (X.ad 0), .int x1]) ++ List.replicate (2 - (lg_sl ([.ref (X.ad 0), .int x1])).length) Slot.unset).toArray = ls at hl ⊢
  have hl : lv_has ls 2 [(0, .ref (X.ad 0)), (1, .int x1)] := hl
  show WW p l e 3 82 s m [.ref (X.ad 0), .int x1] below meth c X (Qi X r M9) s.heap [] 0 ls []
  have hP : wd X M s.heap := hP
  unfold fn_X7_drop at hf
  have key : ∀ (H : Heap) (locs : List Loc), wd X M H → va_S X.A s.heap H locs → WW p l e 3 82 s m [.ref (X.ad 0), .int x1] below meth c X (Qi X r M9) H locs 0 ls [] := by
    intro H locs hP hS
    refine lv_aload_n hx hb dX7_drop_0 rfl (lv_at hl 0 rfl) ?_
    refine lv_iload_n hx hb dX7_drop_1 rfl (lv_at hl 1 rfl) ?_
    refine k_X7_isPiece hZ hP hS hl.1 wd_2_106 ⟨Nat.le_of_ble_eq_true rfl, Nat.le_of_ble_eq_true rfl⟩ (Nat.le_of_ble_eq_true rfl) dX7_drop_2 ⟨Nat.zero_le _, Nat.zero_le _⟩ (fun H locs hP hS => ?_)
    refine lv_if_ne (tgt := 10) hx hb dX7_drop_5 (by decide) (fun c_1 => ?_) (fun c_1 => ?_)
    · have hf := i_f c_1 hf
      refine lv_aload_n hx hb dX7_drop_10 rfl (lv_at hl 0 rfl) ?_
      refine gX7_4 hx hb hts hown hk hP wd_1_217 dX7_drop_11 ?_
      refine lv_aload_n hx hb dX7_drop_14 rfl (lv_at hl 0 rfl) ?_
      refine gX7_0 hx hb hts hown hk hP wd_1_213 dX7_drop_15 ?_
      obtain ⟨M_2, h_M_2, hf⟩ := b_d hf
      refine k_X2_record hZ hP hS hl.1 wd_2_66 ⟨Nat.le_of_ble_eq_true rfl, Nat.le_of_ble_eq_true rfl⟩ (Nat.le_of_ble_eq_true rfl) dX7_drop_18 ⟨Nat.zero_le _, Nat.zero_le _⟩ isF_1 h_M_2 (fun H locs hP hS => ?_)
      refine lv_aload_n hx hb dX7_drop_21 rfl (lv_at hl 0 rfl) ?_
      refine gX7_0 hx hb hts hown hk hP wd_1_213 dX7_drop_22 ?_
      refine lv_iload_n hx hb dX7_drop_25 rfl (lv_at hl 1 rfl) ?_
      obtain ⟨M_3, h_M_3, hf⟩ := b_d hf
      refine k_X1_remove hZ hP hS hl.1 wd_2_133 ⟨Nat.le_of_ble_eq_true rfl, Nat.le_of_ble_eq_true rfl⟩ (Nat.le_of_ble_eq_true rfl) dX7_drop_26 ⟨Nat.zero_le _, Nat.zero_le _⟩ isF_1 h_M_3 (fun H locs hP hS => ?_)
      refine lv_aload_n hx hb dX7_drop_29 rfl (lv_at hl 0 rfl) ?_
      obtain ⟨M_4, h_M_4, hf⟩ := b_d hf
      refine k_X7_forgetPieces hZ hP hS hl.1 wd_2_78 ⟨Nat.le_of_ble_eq_true rfl, Nat.le_of_ble_eq_true rfl⟩ (Nat.le_of_ble_eq_true rfl) dX7_drop_30 ⟨Nat.zero_le _, Nat.zero_le _⟩ h_M_4 (fun H locs hP hS => ?_)
      refine lv_aload_n hx hb dX7_drop_33 rfl (lv_at hl 0 rfl) ?_
      refine gX7_0 hx hb hts hown hk hP wd_1_213 dX7_drop_34 ?_
      refine gX1_2 hx hb hts hown hk hP isF_1 wd_1_40 dX7_drop_37 ?_
      have hf := Option.some.inj hf
      obtain ⟨e1, e2⟩ := Prod.mk.inj hf
      rw [e2] at hP
      exact ret_i hx hb hr hlocks hP hS e1 dX7_drop_40
    · have hf := i_t c_1 hf
      refine lv_iconst (v := (-1 : Int32)) hx hb dX7_drop_8 (by decide) ?_
      have hf := Option.some.inj hf
      obtain ⟨e1, e2⟩ := Prod.mk.inj hf
      rw [e2] at hP
      exact ret_i hx hb hr hlocks hP hS e1 dX7_drop_9
  exact key s.heap [] hP hS
theorem hd_X7_drop : Hd yX7_drop 1 := by decide +kernel
theorem k_X7_drop {p : Program} {l : Launch} {e : Env} {R : Room} {s : State} {m : MethodId} {args : Array Value} {below : List Frame} {meth : Method} {c : Code} {H : Heap} {locs : List Loc} {cells slots : Nat} {Q : State → Prop} {cc : ByteArray} {nL pc index : Nat} {ls : Array Slot} {rest : List Value} {X : En} {M : Mem} {H0 : Heap} {own : String} {g : Nat} {x1 : Int32} {r : Int32} {M9 : Mem} (hZ : Fx p c m s args X cc nL own) (hP : wd X M H) (hS : va_S X.A H0 H locs) (hsz : ls.size = nL) (hlk : Cond.methodLink own index yX7_drop ∈ lw_u) (hR : 3 + 1 ≤ R.frames ∧ 8 + (2 + 11) + 82 ≤ R.locals) (hW : (rest.map fun v => v.category).sum ≤ 8) (hdg : decode cc pc = .ok (.invokevirtual index, 3)) (hcs : cells ≤ R.cells ∧ slots ≤ R.slots) (hf : fn_X7_drop g x1 M = some (r, M9))
    (kk : ∀ (H1 : Heap) (locs1 : List Loc), wd X M9 H1 → va_S X.A H0 H1 locs1 → W p l e R s m args below meth c H1 locs1 cells slots Q (F0 m (pc + 3) ls (.int r :: rest))) : W p l e R s m args below meth c H locs cells slots Q (F0 m pc ls (.int x1 :: .ref (X.ad 0) :: rest)) :=
  cal_i (runV (As := [.int x1]) (rest := rest) hZ.1 hZ.2.1 hZ.2.2.1 hZ.2.2.2.1 hZ.2.2.2.2.1 hZ.2.2.2.2.2 hP (c_X7_drop g x1 M r M9 hf) wd_2_132 wd_2_130 wd_2_131 wd_1_1 hd_X7_drop (by decide) rfl rfl rfl hlk hR hsz rfl hW hdg hcs) hS kk
/-! FrameRaiser.isDirection -/
def fn_X7_isDirection (x0 : Int32) : Int32 :=
  if x0 < 0 then
    ((0 : Int32))
  else
    (if (6 : Int32) ≤ x0 then
      ((0 : Int32))
    else
      ((1 : Int32)))
theorem dX7_isDirection_0 : decode cX7_isDirection 0 = .ok (.iload_n 0, 1) := by decide +kernel
theorem dX7_isDirection_1 : decode cX7_isDirection 1 = .ok (.ifCond .lt 13, 3) := by decide +kernel
theorem dX7_isDirection_4 : decode cX7_isDirection 4 = .ok (.iload_n 0, 1) := by decide +kernel
theorem dX7_isDirection_5 : decode cX7_isDirection 5 = .ok (.bipush 6, 2) := by decide +kernel
theorem dX7_isDirection_7 : decode cX7_isDirection 7 = .ok (.if_icmp .ge 7, 3) := by decide +kernel
theorem dX7_isDirection_10 : decode cX7_isDirection 10 = .ok (.iconst 1, 1) := by decide +kernel
theorem dX7_isDirection_11 : decode cX7_isDirection 11 = .ok (.goto 4, 3) := by decide +kernel
theorem dX7_isDirection_14 : decode cX7_isDirection 14 = .ok (.iconst 0, 1) := by decide +kernel
theorem dX7_isDirection_15 : decode cX7_isDirection 15 = .ok (.ireturn, 1) := by decide +kernel
theorem z_X7_isDirection (x0 : Int32) : isZ (fn_X7_isDirection x0) := by
  unfold fn_X7_isDirection
  repeat' (first | exact isZ_0 | exact isZ_1 | exact z_X8_in _ _ _ | split)
set_option maxHeartbeats 4000000 in
set_option maxRecDepth 100000 in
theorem c_X7_isDirection {l : Launch} {X : En} (x0 : Int32) (M : Mem) (r : Int32) (hf : fn_X7_isDirection x0 = r) : Cn l X yX7_isDirection cX7_isDirection 1 (some .boolean) 0 0 [.int x0] M (Qi X r M) := by
  refine Met.ofW (cc := cX7_isDirection) (maxL := 1) (ret := (some .boolean)) (by decide) rfl ?_
  intro p e s m args below meth c s₁ B hml hv
  obtain ⟨rfl, hP, hk⟩ := hv
  have hx := B.exec
  have hb := B.bytes
  have hr := B.returns
  have hlocks := B.notSynchronized
  have hts : ∀ w ∈ lw_u, w.before ([.int x0] : List Value).toArray s = true := fun w hw => atoms_spec (ws := Cond.code yX7_isDirection cX7_isDirection 1 (some .boolean) :: lw_u) B.pre w (List.mem_cons_of_mem _ hw)
  have hown : s.vm.findClass RX7 = some m.cls := findClass_of_methodNamed B.named
  have hZ : Fx p c m s ([.int x0] : List Value).toArray X cX7_isDirection 1 RX7 := ⟨hx, hb, hml, hts, hown, hk⟩
  have hS : va_S X.A s.heap s.heap [] := va_S.rf
  have hl := lv_entry ([.int x0]) (n := 1) (Nat.le_of_ble_eq_true rfl)
  rw [lg_entry_eq]
  generalize (lg_sl ([.int x0]) ++ List.replicate (1 - (lg_sl ([.int x0])).length) Slot.unset).toArray = ls at hl ⊢
  have hl : lv_has ls 1 [(0, .int x0)] := hl
  show WW p l e 0 0 s m [.int x0] below meth c X (Qi X r M) s.heap [] 0 ls []
  have hP : wd X M s.heap := hP
  unfold fn_X7_isDirection at hf
  have key : ∀ (H : Heap) (locs : List Loc), wd X M H → va_S X.A s.heap H locs → WW p l e 0 0 s m [.int x0] below meth c X (Qi X r M) H locs 0 ls [] := by
    intro H locs hP hS
    refine lv_iload_n hx hb dX7_isDirection_0 rfl (lv_at hl 0 rfl) ?_
    refine lv_if_lt (tgt := 14) hx hb dX7_isDirection_1 (by decide) (fun c_1 => ?_) (fun c_1 => ?_)
    · have hf := i_t c_1 hf
      refine lv_iconst (v := (0 : Int32)) hx hb dX7_isDirection_14 (by decide) ?_
      exact ret_z hx hb hr hlocks hP hS isZ_0 hf dX7_isDirection_15
    · have hf := i_f c_1 hf
      refine lv_iload_n hx hb dX7_isDirection_4 rfl (lv_at hl 0 rfl) ?_
      refine lv_bipush (v := (6 : Int32)) hx hb dX7_isDirection_5 (by decide) ?_
      refine lv_icmp_ge (tgt := 14) hx hb dX7_isDirection_7 (by decide) (fun c_2 => ?_) (fun c_2 => ?_)
      · have hf := i_t c_2 hf
        refine lv_iconst (v := (0 : Int32)) hx hb dX7_isDirection_14 (by decide) ?_
        exact ret_z hx hb hr hlocks hP hS isZ_0 hf dX7_isDirection_15
      · have hf := i_f c_2 hf
        refine lv_iconst (v := (1 : Int32)) hx hb dX7_isDirection_10 (by decide) ?_
        refine lv_goto (tgt := 15) hx hb dX7_isDirection_11 (by decide) ?_
        exact ret_z hx hb hr hlocks hP hS isZ_1 hf dX7_isDirection_15
  exact key s.heap [] hP hS
theorem hd_X7_isDirection : Hd yX7_isDirection 1 := by decide +kernel
theorem k_X7_isDirection {p : Program} {l : Launch} {e : Env} {R : Room} {s : State} {m : MethodId} {args : Array Value} {below : List Frame} {meth : Method} {c : Code} {H : Heap} {locs : List Loc} {cells slots : Nat} {Q : State → Prop} {cc : ByteArray} {nL pc index : Nat} {ls : Array Slot} {rest : List Value} {X : En} {M : Mem} {H0 : Heap} {own : String} {x0 : Int32} (hZ : Fx p c m s args X cc nL own) (hP : wd X M H) (hS : va_S X.A H0 H locs) (hsz : ls.size = nL) (hlk : Cond.methodLink own index yX7_isDirection ∈ lw_u) (hR : 0 + 1 ≤ R.frames ∧ 8 + (1 + 11) + 0 ≤ R.locals) (hW : (rest.map fun v => v.category).sum ≤ 8) (hdg : decode cc pc = .ok (.invokestatic index, 3)) (hcs : cells ≤ R.cells ∧ slots ≤ R.slots)
    (kk : ∀ (H1 : Heap) (locs1 : List Loc), wd X M H1 → va_S X.A H0 H1 locs1 → W p l e R s m args below meth c H1 locs1 cells slots Q (F0 m (pc + 3) ls (.int (fn_X7_isDirection x0) :: rest))) : W p l e R s m args below meth c H locs cells slots Q (F0 m pc ls (.int x0 :: rest)) :=
  cal_i (runS (As := [.int x0]) (rest := rest) hZ.1 hZ.2.1 hZ.2.2.1 hZ.2.2.2.1 hZ.2.2.2.2.1 hZ.2.2.2.2.2 hP (c_X7_isDirection x0 M _ rfl) wd_2_147 wd_2_146 wd_1_1 hd_X7_isDirection rfl hlk hR hsz rfl hW hdg hcs) hS kk
/-! FrameRaiser.stride -/
def fn_X7_stride (x0 : Int32) : Int32 :=
  if x0 = 0 then
    ((1 : Int32))
  else
    (if x0 = (1 : Int32) then
      ((6 : Int32))
    else
      ((36 : Int32)))
theorem dX7_stride_0 : decode cX7_stride 0 = .ok (.iload_n 0, 1) := by decide +kernel
theorem dX7_stride_1 : decode cX7_stride 1 = .ok (.ifCond .ne 5, 3) := by decide +kernel
theorem dX7_stride_4 : decode cX7_stride 4 = .ok (.iconst 1, 1) := by decide +kernel
theorem dX7_stride_5 : decode cX7_stride 5 = .ok (.ireturn, 1) := by decide +kernel
theorem dX7_stride_6 : decode cX7_stride 6 = .ok (.iload_n 0, 1) := by decide +kernel
theorem dX7_stride_7 : decode cX7_stride 7 = .ok (.iconst 1, 1) := by decide +kernel
theorem dX7_stride_8 : decode cX7_stride 8 = .ok (.if_icmp .ne 8, 3) := by decide +kernel
theorem dX7_stride_11 : decode cX7_stride 11 = .ok (.bipush 6, 2) := by decide +kernel
theorem dX7_stride_13 : decode cX7_stride 13 = .ok (.goto 5, 3) := by decide +kernel
theorem dX7_stride_16 : decode cX7_stride 16 = .ok (.bipush 36, 2) := by decide +kernel
theorem dX7_stride_18 : decode cX7_stride 18 = .ok (.ireturn, 1) := by decide +kernel
set_option maxHeartbeats 4000000 in
set_option maxRecDepth 100000 in
theorem c_X7_stride {l : Launch} {X : En} (x0 : Int32) (M : Mem) (r : Int32) (hf : fn_X7_stride x0 = r) : Cn l X yX7_stride cX7_stride 1 (some .int) 0 0 [.int x0] M (Qi X r M) := by
  refine Met.ofW (cc := cX7_stride) (maxL := 1) (ret := (some .int)) (by decide) rfl ?_
  intro p e s m args below meth c s₁ B hml hv
  obtain ⟨rfl, hP, hk⟩ := hv
  have hx := B.exec
  have hb := B.bytes
  have hr := B.returns
  have hlocks := B.notSynchronized
  have hts : ∀ w ∈ lw_u, w.before ([.int x0] : List Value).toArray s = true := fun w hw => atoms_spec (ws := Cond.code yX7_stride cX7_stride 1 (some .int) :: lw_u) B.pre w (List.mem_cons_of_mem _ hw)
  have hown : s.vm.findClass RX7 = some m.cls := findClass_of_methodNamed B.named
  have hZ : Fx p c m s ([.int x0] : List Value).toArray X cX7_stride 1 RX7 := ⟨hx, hb, hml, hts, hown, hk⟩
  have hS : va_S X.A s.heap s.heap [] := va_S.rf
  have hl := lv_entry ([.int x0]) (n := 1) (Nat.le_of_ble_eq_true rfl)
  rw [lg_entry_eq]
  generalize (lg_sl ([.int x0]) ++ List.replicate (1 - (lg_sl ([.int x0])).length) Slot.unset).toArray = ls at hl ⊢
  have hl : lv_has ls 1 [(0, .int x0)] := hl
  show WW p l e 0 0 s m [.int x0] below meth c X (Qi X r M) s.heap [] 0 ls []
  have hP : wd X M s.heap := hP
  unfold fn_X7_stride at hf
  have key : ∀ (H : Heap) (locs : List Loc), wd X M H → va_S X.A s.heap H locs → WW p l e 0 0 s m [.int x0] below meth c X (Qi X r M) H locs 0 ls [] := by
    intro H locs hP hS
    refine lv_iload_n hx hb dX7_stride_0 rfl (lv_at hl 0 rfl) ?_
    refine lv_if_ne (tgt := 6) hx hb dX7_stride_1 (by decide) (fun c_1 => ?_) (fun c_1 => ?_)
    · have hf := i_f c_1 hf
      refine lv_iload_n hx hb dX7_stride_6 rfl (lv_at hl 0 rfl) ?_
      refine lv_iconst (v := (1 : Int32)) hx hb dX7_stride_7 (by decide) ?_
      refine lv_icmp_ne (tgt := 16) hx hb dX7_stride_8 (by decide) (fun c_2 => ?_) (fun c_2 => ?_)
      · have hf := i_f c_2 hf
        refine lv_bipush (v := (36 : Int32)) hx hb dX7_stride_16 (by decide) ?_
        exact ret_i hx hb hr hlocks hP hS hf dX7_stride_18
      · have hf := i_t c_2 hf
        refine lv_bipush (v := (6 : Int32)) hx hb dX7_stride_11 (by decide) ?_
        refine lv_goto (tgt := 18) hx hb dX7_stride_13 (by decide) ?_
        exact ret_i hx hb hr hlocks hP hS hf dX7_stride_18
    · have hf := i_t c_1 hf
      refine lv_iconst (v := (1 : Int32)) hx hb dX7_stride_4 (by decide) ?_
      exact ret_i hx hb hr hlocks hP hS hf dX7_stride_5
  exact key s.heap [] hP hS
theorem hd_X7_stride : Hd yX7_stride 1 := by decide +kernel
theorem k_X7_stride {p : Program} {l : Launch} {e : Env} {R : Room} {s : State} {m : MethodId} {args : Array Value} {below : List Frame} {meth : Method} {c : Code} {H : Heap} {locs : List Loc} {cells slots : Nat} {Q : State → Prop} {cc : ByteArray} {nL pc index : Nat} {ls : Array Slot} {rest : List Value} {X : En} {M : Mem} {H0 : Heap} {own : String} {x0 : Int32} (hZ : Fx p c m s args X cc nL own) (hP : wd X M H) (hS : va_S X.A H0 H locs) (hsz : ls.size = nL) (hlk : Cond.methodLink own index yX7_stride ∈ lw_u) (hR : 0 + 1 ≤ R.frames ∧ 8 + (1 + 11) + 0 ≤ R.locals) (hW : (rest.map fun v => v.category).sum ≤ 8) (hdg : decode cc pc = .ok (.invokestatic index, 3)) (hcs : cells ≤ R.cells ∧ slots ≤ R.slots)
    (kk : ∀ (H1 : Heap) (locs1 : List Loc), wd X M H1 → va_S X.A H0 H1 locs1 → W p l e R s m args below meth c H1 locs1 cells slots Q (F0 m (pc + 3) ls (.int (fn_X7_stride x0) :: rest))) : W p l e R s m args below meth c H locs cells slots Q (F0 m pc ls (.int x0 :: rest)) :=
  cal_i (runS (As := [.int x0]) (rest := rest) hZ.1 hZ.2.1 hZ.2.2.1 hZ.2.2.2.1 hZ.2.2.2.2.1 hZ.2.2.2.2.2 hP (c_X7_stride x0 M _ rfl) wd_2_158 wd_2_157 wd_1_1 hd_X7_stride rfl hlk hR hsz rfl hW hdg hcs) hS kk
theorem kn_X7_stride {p : Program} {l : Launch} {e : Env} {R : Room} {s : State} {m : MethodId} {args : Array Value} {below : List Frame} {meth : Method} {c : Code} {H : Heap} {locs : List Loc} {cells slots : Nat} {Q : State → Prop} {cc : ByteArray} {nL pc index : Nat} {ls : Array Slot} {rest : List Value} {X : En} {M : Mem} {H0 : Heap} {own : String} {x0 : Int32} (hZ : Fx p c m s args X cc nL own) (hP : wd X M H) (hS : va_S X.A H0 H locs) (hsz : ls.size = nL) (hlk : va_Nw (Cond.methodLinkNest own index yX7_stride RX7) s) (hR : 0 + 1 ≤ R.frames ∧ 8 + (1 + 11) + 0 ≤ R.locals) (hW : (rest.map fun v => v.category).sum ≤ 8) (hdg : decode cc pc = .ok (.invokestatic index, 3)) (hcs : cells ≤ R.cells ∧ slots ≤ R.slots)
    (kk : ∀ (H1 : Heap) (locs1 : List Loc), wd X M H1 → va_S X.A H0 H1 locs1 → W p l e R s m args below meth c H1 locs1 cells slots Q (F0 m (pc + 3) ls (.int (fn_X7_stride x0) :: rest))) : W p l e R s m args below meth c H locs cells slots Q (F0 m pc ls (.int x0 :: rest)) :=
  cal_i (runSN (As := [.int x0]) (rest := rest) hZ.1 hZ.2.1 hZ.2.2.1 hZ.2.2.2.1 hZ.2.2.2.2.1 hZ.2.2.2.2.2 hP (c_X7_stride x0 M _ rfl) wd_2_158 wd_2_157 wd_1_1 hd_X7_stride rfl hlk hR hsz rfl hW hdg hcs) hS kk
/-! FrameRaiser.neighbor -/
def fn_X7_neighbor (x0 : Int32) (x1 : Int32) : Int32 :=
  bv (x1 / (2 : Int32)) fun v2_1 =>
  bv (fn_X7_coordinate x0 v2_1) fun v3_2 =>
  if (rm x1 (2 : Int32)) = 0 then
    (if v3_2 = (5 : Int32) then
      ((-1 : Int32))
    else
      (x0 + (fn_X7_stride v2_1)))
  else
    (if v3_2 = 0 then
      ((-1 : Int32))
    else
      (x0 - (fn_X7_stride v2_1)))
theorem dX7_neighbor_0 : decode cX7_neighbor 0 = .ok (.iload_n 1, 1) := by decide +kernel
theorem dX7_neighbor_1 : decode cX7_neighbor 1 = .ok (.iconst 2, 1) := by decide +kernel
theorem dX7_neighbor_2 : decode cX7_neighbor 2 = .ok (.idiv, 1) := by decide +kernel
theorem dX7_neighbor_3 : decode cX7_neighbor 3 = .ok (.istore_n 2, 1) := by decide +kernel
theorem dX7_neighbor_4 : decode cX7_neighbor 4 = .ok (.iload_n 0, 1) := by decide +kernel
theorem dX7_neighbor_5 : decode cX7_neighbor 5 = .ok (.iload_n 2, 1) := by decide +kernel
theorem dX7_neighbor_6 : decode cX7_neighbor 6 = .ok (.invokestatic 311, 3) := by decide +kernel
theorem dX7_neighbor_9 : decode cX7_neighbor 9 = .ok (.istore_n 3, 1) := by decide +kernel
theorem dX7_neighbor_10 : decode cX7_neighbor 10 = .ok (.iload_n 1, 1) := by decide +kernel
theorem dX7_neighbor_11 : decode cX7_neighbor 11 = .ok (.iconst 2, 1) := by decide +kernel
theorem dX7_neighbor_12 : decode cX7_neighbor 12 = .ok (.irem, 1) := by decide +kernel
theorem dX7_neighbor_13 : decode cX7_neighbor 13 = .ok (.ifCond .ne 19, 3) := by decide +kernel
theorem dX7_neighbor_16 : decode cX7_neighbor 16 = .ok (.iload_n 3, 1) := by decide +kernel
theorem dX7_neighbor_17 : decode cX7_neighbor 17 = .ok (.iconst 5, 1) := by decide +kernel
theorem dX7_neighbor_18 : decode cX7_neighbor 18 = .ok (.if_icmp .ne 7, 3) := by decide +kernel
theorem dX7_neighbor_21 : decode cX7_neighbor 21 = .ok (.iconst (-1), 1) := by decide +kernel
theorem dX7_neighbor_22 : decode cX7_neighbor 22 = .ok (.goto 9, 3) := by decide +kernel
theorem dX7_neighbor_25 : decode cX7_neighbor 25 = .ok (.iload_n 0, 1) := by decide +kernel
theorem dX7_neighbor_26 : decode cX7_neighbor 26 = .ok (.iload_n 2, 1) := by decide +kernel
theorem dX7_neighbor_27 : decode cX7_neighbor 27 = .ok (.invokestatic 314, 3) := by decide +kernel
theorem dX7_neighbor_30 : decode cX7_neighbor 30 = .ok (.iadd, 1) := by decide +kernel
theorem dX7_neighbor_31 : decode cX7_neighbor 31 = .ok (.ireturn, 1) := by decide +kernel
theorem dX7_neighbor_32 : decode cX7_neighbor 32 = .ok (.iload_n 3, 1) := by decide +kernel
theorem dX7_neighbor_33 : decode cX7_neighbor 33 = .ok (.ifCond .ne 7, 3) := by decide +kernel
theorem dX7_neighbor_36 : decode cX7_neighbor 36 = .ok (.iconst (-1), 1) := by decide +kernel
theorem dX7_neighbor_37 : decode cX7_neighbor 37 = .ok (.goto 9, 3) := by decide +kernel
theorem dX7_neighbor_40 : decode cX7_neighbor 40 = .ok (.iload_n 0, 1) := by decide +kernel
theorem dX7_neighbor_41 : decode cX7_neighbor 41 = .ok (.iload_n 2, 1) := by decide +kernel
theorem dX7_neighbor_42 : decode cX7_neighbor 42 = .ok (.invokestatic 314, 3) := by decide +kernel
theorem dX7_neighbor_45 : decode cX7_neighbor 45 = .ok (.isub, 1) := by decide +kernel
theorem dX7_neighbor_46 : decode cX7_neighbor 46 = .ok (.ireturn, 1) := by decide +kernel
set_option maxHeartbeats 4000000 in
set_option maxRecDepth 100000 in
theorem c_X7_neighbor {l : Launch} {X : En} (x0 : Int32) (x1 : Int32) (M : Mem) (r : Int32) (hf : fn_X7_neighbor x0 x1 = r) : Cn l X yX7_neighbor cX7_neighbor 4 (some .int) 1 21 [.int x0, .int x1] M (Qi X r M) := by
  refine Met.ofW (cc := cX7_neighbor) (maxL := 4) (ret := (some .int)) (by decide) rfl ?_
  intro p e s m args below meth c s₁ B hml hv
  obtain ⟨rfl, hP, hk⟩ := hv
  have hx := B.exec
  have hb := B.bytes
  have hr := B.returns
  have hlocks := B.notSynchronized
  have hts : ∀ w ∈ lw_u, w.before ([.int x0, .int x1] : List Value).toArray s = true := fun w hw => atoms_spec (ws := Cond.code yX7_neighbor cX7_neighbor 4 (some .int) :: lw_u) B.pre w (List.mem_cons_of_mem _ hw)
  have hown : s.vm.findClass RX7 = some m.cls := findClass_of_methodNamed B.named
  have hZ : Fx p c m s ([.int x0, .int x1] : List Value).toArray X cX7_neighbor 4 RX7 := ⟨hx, hb, hml, hts, hown, hk⟩
  have hS : va_S X.A s.heap s.heap [] := va_S.rf
  have hl := lv_entry ([.int x0, .int x1]) (n := 4) (Nat.le_of_ble_eq_true rfl)
  rw [lg_entry_eq]
  generalize (lg_sl ([.int x0, .int x1]) ++ List.replicate (4 - (lg_sl ([.int x0, .int x1])).length) Slot.unset).toArray = ls at hl ⊢
  have hl : lv_has ls 4 [(0, .int x0), (1, .int x1)] := hl
  show WW p l e 1 21 s m [.int x0, .int x1] below meth c X (Qi X r M) s.heap [] 0 ls []
  have hP : wd X M s.heap := hP
  unfold fn_X7_neighbor at hf
  have key : ∀ (H : Heap) (locs : List Loc), wd X M H → va_S X.A s.heap H locs → WW p l e 1 21 s m [.int x0, .int x1] below meth c X (Qi X r M) H locs 0 ls [] := by
    intro H locs hP hS
    refine lv_iload_n hx hb dX7_neighbor_0 rfl (lv_at hl 1 rfl) ?_
    refine lv_iconst (v := (2 : Int32)) hx hb dX7_neighbor_1 (by decide) ?_
    refine lv_idiv hx hb dX7_neighbor_2 (by decide) ?_
    refine lv_topi (fun v2_1 e_v2_1 => ?_)
    have hf := b_v hf e_v2_1
    refine lv_istore_n (lv' := [(2, .int v2_1), (0, .int x0), (1, .int x1)]) hx hb dX7_neighbor_3 rfl hl (by decide) rfl (fun ls hl => ?_)
    refine lv_iload_n hx hb dX7_neighbor_4 rfl (lv_at hl 1 rfl) ?_
    refine lv_iload_n hx hb dX7_neighbor_5 rfl (lv_at hl 0 rfl) ?_
    refine k_X7_coordinate hZ hP hS hl.1 wd_2_155 ⟨Nat.le_of_ble_eq_true rfl, Nat.le_of_ble_eq_true rfl⟩ (Nat.le_of_ble_eq_true rfl) dX7_neighbor_6 ⟨Nat.zero_le _, Nat.zero_le _⟩ (fun H locs hP hS => ?_)
    refine lv_topi (fun v3_2 e_v3_2 => ?_)
    have hf := b_v hf e_v3_2
    refine lv_istore_n (lv' := [(3, .int v3_2), (2, .int v2_1), (0, .int x0), (1, .int x1)]) hx hb dX7_neighbor_9 rfl hl (by decide) rfl (fun ls hl => ?_)
    refine lv_iload_n hx hb dX7_neighbor_10 rfl (lv_at hl 3 rfl) ?_
    refine lv_iconst (v := (2 : Int32)) hx hb dX7_neighbor_11 (by decide) ?_
    refine rw_irem hx hb dX7_neighbor_12 (by decide) ?_
    refine lv_if_ne (tgt := 32) hx hb dX7_neighbor_13 (by decide) (fun c_3 => ?_) (fun c_3 => ?_)
    · have hf := i_f c_3 hf
      refine lv_iload_n hx hb dX7_neighbor_32 rfl (lv_at hl 0 rfl) ?_
      refine lv_if_ne (tgt := 40) hx hb dX7_neighbor_33 (by decide) (fun c_4 => ?_) (fun c_4 => ?_)
      · have hf := i_f c_4 hf
        refine lv_iload_n hx hb dX7_neighbor_40 rfl (lv_at hl 2 rfl) ?_
        refine lv_iload_n hx hb dX7_neighbor_41 rfl (lv_at hl 1 rfl) ?_
        refine k_X7_stride hZ hP hS hl.1 wd_2_156 ⟨Nat.le_of_ble_eq_true rfl, Nat.le_of_ble_eq_true rfl⟩ (Nat.le_of_ble_eq_true rfl) dX7_neighbor_42 ⟨Nat.zero_le _, Nat.zero_le _⟩ (fun H locs hP hS => ?_)
        refine lv_isub hx hb dX7_neighbor_45 ?_
        exact ret_i hx hb hr hlocks hP hS hf dX7_neighbor_46
      · have hf := i_t c_4 hf
        refine lv_iconst (v := (-1 : Int32)) hx hb dX7_neighbor_36 (by decide) ?_
        refine lv_goto (tgt := 46) hx hb dX7_neighbor_37 (by decide) ?_
        exact ret_i hx hb hr hlocks hP hS hf dX7_neighbor_46
    · have hf := i_t c_3 hf
      refine lv_iload_n hx hb dX7_neighbor_16 rfl (lv_at hl 0 rfl) ?_
      refine lv_iconst (v := (5 : Int32)) hx hb dX7_neighbor_17 (by decide) ?_
      refine lv_icmp_ne (tgt := 25) hx hb dX7_neighbor_18 (by decide) (fun c_5 => ?_) (fun c_5 => ?_)
      · have hf := i_f c_5 hf
        refine lv_iload_n hx hb dX7_neighbor_25 rfl (lv_at hl 2 rfl) ?_
        refine lv_iload_n hx hb dX7_neighbor_26 rfl (lv_at hl 1 rfl) ?_
        refine k_X7_stride hZ hP hS hl.1 wd_2_156 ⟨Nat.le_of_ble_eq_true rfl, Nat.le_of_ble_eq_true rfl⟩ (Nat.le_of_ble_eq_true rfl) dX7_neighbor_27 ⟨Nat.zero_le _, Nat.zero_le _⟩ (fun H locs hP hS => ?_)
        refine lv_iadd hx hb dX7_neighbor_30 ?_
        exact ret_i hx hb hr hlocks hP hS hf dX7_neighbor_31
      · have hf := i_t c_5 hf
        refine lv_iconst (v := (-1 : Int32)) hx hb dX7_neighbor_21 (by decide) ?_
        refine lv_goto (tgt := 31) hx hb dX7_neighbor_22 (by decide) ?_
        exact ret_i hx hb hr hlocks hP hS hf dX7_neighbor_31
  exact key s.heap [] hP hS
theorem hd_X7_neighbor : Hd yX7_neighbor 2 := by decide +kernel
theorem k_X7_neighbor {p : Program} {l : Launch} {e : Env} {R : Room} {s : State} {m : MethodId} {args : Array Value} {below : List Frame} {meth : Method} {c : Code} {H : Heap} {locs : List Loc} {cells slots : Nat} {Q : State → Prop} {cc : ByteArray} {nL pc index : Nat} {ls : Array Slot} {rest : List Value} {X : En} {M : Mem} {H0 : Heap} {own : String} {x0 : Int32} {x1 : Int32} (hZ : Fx p c m s args X cc nL own) (hP : wd X M H) (hS : va_S X.A H0 H locs) (hsz : ls.size = nL) (hlk : Cond.methodLink own index yX7_neighbor ∈ lw_u) (hR : 1 + 1 ≤ R.frames ∧ 8 + (4 + 11) + 21 ≤ R.locals) (hW : (rest.map fun v => v.category).sum ≤ 8) (hdg : decode cc pc = .ok (.invokestatic index, 3)) (hcs : cells ≤ R.cells ∧ slots ≤ R.slots)
    (kk : ∀ (H1 : Heap) (locs1 : List Loc), wd X M H1 → va_S X.A H0 H1 locs1 → W p l e R s m args below meth c H1 locs1 cells slots Q (F0 m (pc + 3) ls (.int (fn_X7_neighbor x0 x1) :: rest))) : W p l e R s m args below meth c H locs cells slots Q (F0 m pc ls (.int x1 :: .int x0 :: rest)) :=
  cal_i (runS (As := [.int x0, .int x1]) (rest := rest) hZ.1 hZ.2.1 hZ.2.2.1 hZ.2.2.2.1 hZ.2.2.2.2.1 hZ.2.2.2.2.2 hP (c_X7_neighbor x0 x1 M _ rfl) wd_2_154 wd_2_153 wd_1_1 hd_X7_neighbor rfl hlk hR hsz rfl hW hdg hcs) hS kk
theorem kn_X7_neighbor {p : Program} {l : Launch} {e : Env} {R : Room} {s : State} {m : MethodId} {args : Array Value} {below : List Frame} {meth : Method} {c : Code} {H : Heap} {locs : List Loc} {cells slots : Nat} {Q : State → Prop} {cc : ByteArray} {nL pc index : Nat} {ls : Array Slot} {rest : List Value} {X : En} {M : Mem} {H0 : Heap} {own : String} {x0 : Int32} {x1 : Int32} (hZ : Fx p c m s args X cc nL own) (hP : wd X M H) (hS : va_S X.A H0 H locs) (hsz : ls.size = nL) (hlk : va_Nw (Cond.methodLinkNest own index yX7_neighbor RX7) s) (hR : 1 + 1 ≤ R.frames ∧ 8 + (4 + 11) + 21 ≤ R.locals) (hW : (rest.map fun v => v.category).sum ≤ 8) (hdg : decode cc pc = .ok (.invokestatic index, 3)) (hcs : cells ≤ R.cells ∧ slots ≤ R.slots)
    (kk : ∀ (H1 : Heap) (locs1 : List Loc), wd X M H1 → va_S X.A H0 H1 locs1 → W p l e R s m args below meth c H1 locs1 cells slots Q (F0 m (pc + 3) ls (.int (fn_X7_neighbor x0 x1) :: rest))) : W p l e R s m args below meth c H locs cells slots Q (F0 m pc ls (.int x1 :: .int x0 :: rest)) :=
  cal_i (runSN (As := [.int x0, .int x1]) (rest := rest) hZ.1 hZ.2.1 hZ.2.2.1 hZ.2.2.2.1 hZ.2.2.2.2.1 hZ.2.2.2.2.2 hP (c_X7_neighbor x0 x1 M _ rfl) wd_2_154 wd_2_153 wd_1_1 hd_X7_neighbor rfl hlk hR hsz rfl hW hdg hcs) hS kk
/-! FrameRaiser$Frame.isOpen -/
def jn_X1_isOpen_25 : Option (Int32) :=
  some (1 : Int32)
def fn_X1_isOpen (k0 : Nat) (x1 : Int32) (x2 : Int32) (M : Mem) : Option (Int32) :=
  if x1 = (-1 : Int32) then
    (some (0 : Int32))
  else
    (if inb x1 216 then
    if (M (k0 + 1) (ix x1)) = (-1 : Int32) then
      (jn_X1_isOpen_25)
    else
      (if inb x1 216 then
      if (M (k0 + 1) (ix x1)) = x2 then
        (jn_X1_isOpen_25)
      else
        (some (0 : Int32))
      else none)
    else none)
theorem dX1_isOpen_0 : decode cX1_isOpen 0 = .ok (.iload_n 1, 1) := by decide +kernel
theorem dX1_isOpen_1 : decode cX1_isOpen 1 = .ok (.iconst (-1), 1) := by decide +kernel
theorem dX1_isOpen_2 : decode cX1_isOpen 2 = .ok (.if_icmp .eq 27, 3) := by decide +kernel
theorem dX1_isOpen_5 : decode cX1_isOpen 5 = .ok (.aload_n 0, 1) := by decide +kernel
theorem dX1_isOpen_6 : decode cX1_isOpen 6 = .ok (.getfield 9, 3) := by decide +kernel
theorem dX1_isOpen_9 : decode cX1_isOpen 9 = .ok (.iload_n 1, 1) := by decide +kernel
theorem dX1_isOpen_10 : decode cX1_isOpen 10 = .ok (.iaload, 1) := by decide +kernel
theorem dX1_isOpen_11 : decode cX1_isOpen 11 = .ok (.iconst (-1), 1) := by decide +kernel
theorem dX1_isOpen_12 : decode cX1_isOpen 12 = .ok (.if_icmp .eq 13, 3) := by decide +kernel
theorem dX1_isOpen_15 : decode cX1_isOpen 15 = .ok (.aload_n 0, 1) := by decide +kernel
theorem dX1_isOpen_16 : decode cX1_isOpen 16 = .ok (.getfield 9, 3) := by decide +kernel
theorem dX1_isOpen_19 : decode cX1_isOpen 19 = .ok (.iload_n 1, 1) := by decide +kernel
theorem dX1_isOpen_20 : decode cX1_isOpen 20 = .ok (.iaload, 1) := by decide +kernel
theorem dX1_isOpen_21 : decode cX1_isOpen 21 = .ok (.iload_n 2, 1) := by decide +kernel
theorem dX1_isOpen_22 : decode cX1_isOpen 22 = .ok (.if_icmp .ne 7, 3) := by decide +kernel
theorem dX1_isOpen_25 : decode cX1_isOpen 25 = .ok (.iconst 1, 1) := by decide +kernel
theorem dX1_isOpen_26 : decode cX1_isOpen 26 = .ok (.goto 4, 3) := by decide +kernel
theorem dX1_isOpen_29 : decode cX1_isOpen 29 = .ok (.iconst 0, 1) := by decide +kernel
theorem dX1_isOpen_30 : decode cX1_isOpen 30 = .ok (.ireturn, 1) := by decide +kernel
set_option maxHeartbeats 4000000 in
set_option maxRecDepth 100000 in
theorem c_X1_isOpen {l : Launch} {X : En} (k0 : Nat) (x1 : Int32) (x2 : Int32) (M : Mem) (hk0 : isF k0) (r : Int32) (hf : fn_X1_isOpen k0 x1 x2 M = some r) : Cn l X yX1_isOpen cX1_isOpen 3 (some .boolean) 0 0 [.ref (X.ad k0), .int x1, .int x2] M (Qi X r M) := by
  refine Met.ofW (cc := cX1_isOpen) (maxL := 3) (ret := (some .boolean)) (by decide) rfl ?_
  intro p e s m args below meth c s₁ B hml hv
  obtain ⟨rfl, hP, hk⟩ := hv
  have hx := B.exec
  have hb := B.bytes
  have hr := B.returns
  have hlocks := B.notSynchronized
  have hts : ∀ w ∈ lw_u, w.before ([.ref (X.ad k0), .int x1, .int x2] : List Value).toArray s = true := fun w hw => atoms_spec (ws := Cond.code yX1_isOpen cX1_isOpen 3 (some .boolean) :: lw_u) B.pre w (List.mem_cons_of_mem _ hw)
  have hown : s.vm.findClass RX1 = some m.cls := findClass_of_methodNamed B.named
  have hZ : Fx p c m s ([.ref (X.ad k0), .int x1, .int x2] : List Value).toArray X cX1_isOpen 3 RX1 := ⟨hx, hb, hml, hts, hown, hk⟩
  have hS : va_S X.A s.heap s.heap [] := va_S.rf
  have hl := lv_entry ([.ref (X.ad k0), .int x1, .int x2]) (n := 3) (Nat.le_of_ble_eq_true rfl)
  rw [lg_entry_eq]
  generalize (lg_sl ([.ref (X.ad k0), .int x1, .int x2]) ++ List.replicate (3 - (lg_sl ([.ref (X.ad k0), .int x1, .int x2])).length) Slot.unset).toArray = ls at hl ⊢
  have hl : lv_has ls 3 [(0, .ref (X.ad k0)), (1, .int x1), (2, .int x2)] := hl
  show WW p l e 0 0 s m [.ref (X.ad k0), .int x1, .int x2] below meth c X (Qi X r M) s.heap [] 0 ls []
  have hP : wd X M s.heap := hP
  have jn25 : jn_X1_isOpen_25 = some r → ∀ (H : Heap) (locs : List Loc) (ls : Array Slot), wd X M H → va_S X.A s.heap H locs → lv_has ls 3 [] → WW p l e 0 0 s m [.ref (X.ad k0), .int x1, .int x2] below meth c X (Qi X r M) H locs 25 ls [] := by
    intro   hf H locs ls hP hS hl
    unfold jn_X1_isOpen_25 at hf
    refine lv_iconst (v := (1 : Int32)) hx hb dX1_isOpen_25 (by decide) ?_
    refine lv_goto (tgt := 30) hx hb dX1_isOpen_26 (by decide) ?_
    have hf := Option.some.inj hf
    exact ret_z hx hb hr hlocks hP hS isZ_1 hf dX1_isOpen_30
  unfold fn_X1_isOpen at hf
  have key : ∀ (H : Heap) (locs : List Loc), wd X M H → va_S X.A s.heap H locs → WW p l e 0 0 s m [.ref (X.ad k0), .int x1, .int x2] below meth c X (Qi X r M) H locs 0 ls [] := by
    intro H locs hP hS
    refine lv_iload_n hx hb dX1_isOpen_0 rfl (lv_at hl 1 rfl) ?_
    refine lv_iconst (v := (-1 : Int32)) hx hb dX1_isOpen_1 (by decide) ?_
    refine lv_icmp_eq (tgt := 29) hx hb dX1_isOpen_2 (by decide) (fun c_1 => ?_) (fun c_1 => ?_)
    · have hf := i_t c_1 hf
      refine lv_iconst (v := (0 : Int32)) hx hb dX1_isOpen_29 (by decide) ?_
      have hf := Option.some.inj hf
      exact ret_z hx hb hr hlocks hP hS isZ_0 hf dX1_isOpen_30
    · have hf := i_f c_1 hf
      refine lv_aload_n hx hb dX1_isOpen_5 rfl (lv_at hl 0 rfl) ?_
      refine gX1_0 hx hb hts hown hk hP hk0 wd_1_31 dX1_isOpen_6 ?_
      refine lv_iload_n hx hb dX1_isOpen_9 rfl (lv_at hl 1 rfl) ?_
      obtain ⟨q_2, hf⟩ := g_if hf
      refine ald hx hb hk hP (isF_lt1 hk0) (rd_F1 hk0 _) q_2 dX1_isOpen_10 ?_
      refine lv_iconst (v := (-1 : Int32)) hx hb dX1_isOpen_11 (by decide) ?_
      refine lv_icmp_eq (tgt := 25) hx hb dX1_isOpen_12 (by decide) (fun c_3 => ?_) (fun c_3 => ?_)
      · have hf := i_t c_3 hf
        exact jn25  hf H locs ls hP hS (lv_sub hl [] rfl)
      · have hf := i_f c_3 hf
        refine lv_aload_n hx hb dX1_isOpen_15 rfl (lv_at hl 0 rfl) ?_
        refine gX1_0 hx hb hts hown hk hP hk0 wd_1_31 dX1_isOpen_16 ?_
        refine lv_iload_n hx hb dX1_isOpen_19 rfl (lv_at hl 1 rfl) ?_
        obtain ⟨q_4, hf⟩ := g_if hf
        refine ald hx hb hk hP (isF_lt1 hk0) (rd_F1 hk0 _) q_4 dX1_isOpen_20 ?_
        refine lv_iload_n hx hb dX1_isOpen_21 rfl (lv_at hl 2 rfl) ?_
        refine lv_icmp_ne (tgt := 29) hx hb dX1_isOpen_22 (by decide) (fun c_5 => ?_) (fun c_5 => ?_)
        · have hf := i_f c_5 hf
          refine lv_iconst (v := (0 : Int32)) hx hb dX1_isOpen_29 (by decide) ?_
          have hf := Option.some.inj hf
          exact ret_z hx hb hr hlocks hP hS isZ_0 hf dX1_isOpen_30
        · have hf := i_t c_5 hf
          exact jn25  hf H locs ls hP hS (lv_sub hl [] rfl)
  exact key s.heap [] hP hS
theorem hd_X1_isOpen : Hd yX1_isOpen 2 := by decide +kernel
theorem k_X1_isOpen {p : Program} {l : Launch} {e : Env} {R : Room} {s : State} {m : MethodId} {args : Array Value} {below : List Frame} {meth : Method} {c : Code} {H : Heap} {locs : List Loc} {cells slots : Nat} {Q : State → Prop} {cc : ByteArray} {nL pc index : Nat} {ls : Array Slot} {rest : List Value} {X : En} {M : Mem} {H0 : Heap} {own : String} {k0 : Nat} {x1 : Int32} {x2 : Int32} {r : Int32} (hZ : Fx p c m s args X cc nL own) (hP : wd X M H) (hS : va_S X.A H0 H locs) (hsz : ls.size = nL) (hlk : Cond.methodLink own index yX1_isOpen ∈ lw_u) (hR : 0 + 1 ≤ R.frames ∧ 8 + (3 + 11) + 0 ≤ R.locals) (hW : (rest.map fun v => v.category).sum ≤ 8) (hdg : decode cc pc = .ok (.invokevirtual index, 3)) (hcs : cells ≤ R.cells ∧ slots ≤ R.slots) (hk0 : isF k0) (hf : fn_X1_isOpen k0 x1 x2 M = some r)
    (kk : ∀ (H1 : Heap) (locs1 : List Loc), wd X M H1 → va_S X.A H0 H1 locs1 → W p l e R s m args below meth c H1 locs1 cells slots Q (F0 m (pc + 3) ls (.int r :: rest))) : W p l e R s m args below meth c H locs cells slots Q (F0 m pc ls (.int x2 :: .int x1 :: .ref (X.ad k0) :: rest)) :=
  cal_i (runV (As := [.int x1, .int x2]) (rest := rest) hZ.1 hZ.2.1 hZ.2.2.1 hZ.2.2.2.1 hZ.2.2.2.2.1 hZ.2.2.2.2.2 hP (c_X1_isOpen k0 x1 x2 M hk0 r hf) wd_2_162 wd_2_161 wd_p_9 wd_1_2 hd_X1_isOpen (isF_lt0 hk0) (rd_F0 hk0 _) rfl rfl hlk hR hsz rfl hW hdg hcs) hS kk
/-! FrameRaiser$Frame.canMove -/
def bd_X1_canMove_2 (k0 : Nat) (x1 : Int32) (x2 : Int32) (M : Mem) : (Int32) → Option ((Int32) ⊕ ((Unit) ⊕ (Int32))) :=
  u1 fun v3_1 =>
  if (216 : Int32) ≤ v3_1 then
    (some (.inr (.inl ())))
  else
    (if inb v3_1 216 then
    if (M (k0 + 1) (ix v3_1)) = x1 then
      ((fn_X1_isOpen k0 (fn_X7_neighbor v3_1 x2) x1 M).bind fun r_5 =>
      if r_5 = 0 then
        (some (.inr (.inr (0 : Int32))))
      else
        (some (.inl (v3_1 + (1 : Int32)))))
    else
      (some (.inl (v3_1 + (1 : Int32))))
    else none)
def fn_X1_canMove (g : Nat) (k0 : Nat) (x1 : Int32) (x2 : Int32) (M : Mem) : Option (Int32) :=
  (lpN g (bd_X1_canMove_2 k0 x1 x2 M) (0 : Int32)).bind (el (fun (_ : Unit) =>
    some (1 : Int32)) (fun rr => some rr))
theorem dX1_canMove_0 : decode cX1_canMove 0 = .ok (.iconst 0, 1) := by decide +kernel
theorem dX1_canMove_1 : decode cX1_canMove 1 = .ok (.istore_n 3, 1) := by decide +kernel
theorem dX1_canMove_2 : decode cX1_canMove 2 = .ok (.iload_n 3, 1) := by decide +kernel
theorem dX1_canMove_3 : decode cX1_canMove 3 = .ok (.sipush 216, 3) := by decide +kernel
theorem dX1_canMove_6 : decode cX1_canMove 6 = .ok (.if_icmp .ge 34, 3) := by decide +kernel
theorem dX1_canMove_9 : decode cX1_canMove 9 = .ok (.aload_n 0, 1) := by decide +kernel
theorem dX1_canMove_10 : decode cX1_canMove 10 = .ok (.getfield 9, 3) := by decide +kernel
theorem dX1_canMove_13 : decode cX1_canMove 13 = .ok (.iload_n 3, 1) := by decide +kernel
theorem dX1_canMove_14 : decode cX1_canMove 14 = .ok (.iaload, 1) := by decide +kernel
theorem dX1_canMove_15 : decode cX1_canMove 15 = .ok (.iload_n 1, 1) := by decide +kernel
theorem dX1_canMove_16 : decode cX1_canMove 16 = .ok (.if_icmp .ne 18, 3) := by decide +kernel
theorem dX1_canMove_19 : decode cX1_canMove 19 = .ok (.aload_n 0, 1) := by decide +kernel
theorem dX1_canMove_20 : decode cX1_canMove 20 = .ok (.iload_n 3, 1) := by decide +kernel
theorem dX1_canMove_21 : decode cX1_canMove 21 = .ok (.iload_n 2, 1) := by decide +kernel
theorem dX1_canMove_22 : decode cX1_canMove 22 = .ok (.invokestatic 43, 3) := by decide +kernel
theorem dX1_canMove_25 : decode cX1_canMove 25 = .ok (.iload_n 1, 1) := by decide +kernel
theorem dX1_canMove_26 : decode cX1_canMove 26 = .ok (.invokevirtual 47, 3) := by decide +kernel
theorem dX1_canMove_29 : decode cX1_canMove 29 = .ok (.ifCond .ne 5, 3) := by decide +kernel
theorem dX1_canMove_32 : decode cX1_canMove 32 = .ok (.iconst 0, 1) := by decide +kernel
theorem dX1_canMove_33 : decode cX1_canMove 33 = .ok (.ireturn, 1) := by decide +kernel
theorem dX1_canMove_34 : decode cX1_canMove 34 = .ok (.iinc 3 1, 3) := by decide +kernel
theorem dX1_canMove_37 : decode cX1_canMove 37 = .ok (.goto (-35), 3) := by decide +kernel
theorem dX1_canMove_40 : decode cX1_canMove 40 = .ok (.iconst 1, 1) := by decide +kernel
theorem dX1_canMove_41 : decode cX1_canMove 41 = .ok (.ireturn, 1) := by decide +kernel
set_option maxHeartbeats 4000000 in
set_option maxRecDepth 100000 in
theorem c_X1_canMove {l : Launch} {X : En} (g : Nat) (k0 : Nat) (x1 : Int32) (x2 : Int32) (M : Mem) (hk0 : isF k0) (r : Int32) (hf : fn_X1_canMove g k0 x1 x2 M = some r) : Cn l X yX1_canMove cX1_canMove 4 (some .boolean) 2 44 [.ref (X.ad k0), .int x1, .int x2] M (Qi X r M) := by
  refine Met.ofW (cc := cX1_canMove) (maxL := 4) (ret := (some .boolean)) (by decide) rfl ?_
  intro p e s m args below meth c s₁ B hml hv
  obtain ⟨rfl, hP, hk⟩ := hv
  have hx := B.exec
  have hb := B.bytes
  have hr := B.returns
  have hlocks := B.notSynchronized
  have hts : ∀ w ∈ lw_u, w.before ([.ref (X.ad k0), .int x1, .int x2] : List Value).toArray s = true := fun w hw => atoms_spec (ws := Cond.code yX1_canMove cX1_canMove 4 (some .boolean) :: lw_u) B.pre w (List.mem_cons_of_mem _ hw)
  have hown : s.vm.findClass RX1 = some m.cls := findClass_of_methodNamed B.named
  have hZ : Fx p c m s ([.ref (X.ad k0), .int x1, .int x2] : List Value).toArray X cX1_canMove 4 RX1 := ⟨hx, hb, hml, hts, hown, hk⟩
  have hS : va_S X.A s.heap s.heap [] := va_S.rf
  have hl := lv_entry ([.ref (X.ad k0), .int x1, .int x2]) (n := 4) (Nat.le_of_ble_eq_true rfl)
  rw [lg_entry_eq]
  generalize (lg_sl ([.ref (X.ad k0), .int x1, .int x2]) ++ List.replicate (4 - (lg_sl ([.ref (X.ad k0), .int x1, .int x2])).length) Slot.unset).toArray = ls at hl ⊢
  have hl : lv_has ls 4 [(0, .ref (X.ad k0)), (1, .int x1), (2, .int x2)] := hl
  show WW p l e 2 44 s m [.ref (X.ad k0), .int x1, .int x2] below meth c X (Qi X r M) s.heap [] 0 ls []
  have hP : wd X M s.heap := hP
  unfold fn_X1_canMove at hf
  have key : ∀ (H : Heap) (locs : List Loc), wd X M H → va_S X.A s.heap H locs → WW p l e 2 44 s m [.ref (X.ad k0), .int x1, .int x2] below meth c X (Qi X r M) H locs 0 ls [] := by
    intro H locs hP hS
    refine lv_iconst (v := (0 : Int32)) hx hb dX1_canMove_0 (by decide) ?_
    refine lv_istore_n (lv' := [(3, .int (0 : Int32)), (0, .ref (X.ad k0)), (1, .int x1), (2, .int x2)]) hx hb dX1_canMove_1 rfl hl (by decide) rfl (fun ls hl => ?_)
    obtain ⟨o2, ho2, hf⟩ := b_d hf
    refine lp_rule (b := bd_X1_canMove_2 k0 x1 x2 M) (P := fun w : Int32 => ∀ (H : Heap) (locs : List Loc) (ls : Array Slot), wd X M H → va_S X.A s.heap H locs → lv_has ls 4 [(3, .int w), (0, .ref (X.ad k0)), (1, .int x1), (2, .int x2)] → WW p l e 2 44 s m [.ref (X.ad k0), .int x1, .int x2] below meth c X (Qi X r M) H locs 2 ls []) (K := fun o => (o = .inl () → ∀ (H : Heap) (locs : List Loc) (ls : Array Slot), wd X M H → va_S X.A s.heap H locs → lv_has ls 4 [] → WW p l e 2 44 s m [.ref (X.ad k0), .int x1, .int x2] below meth c X (Qi X r M) H locs 40 ls []) ∧ (∀ rr : Int32, o = .inr rr → rr = r)) ?_ g (0 : Int32) o2 ho2 ?_ H locs ls hP hS (lv_sub hl [0, 1, 2, 3] rfl)
    · rintro v3_1 o hf hkc2 hke2 H locs ls hP hS hl
      have hf := u1_e hf
      refine lv_iload_n hx hb dX1_canMove_2 rfl (lv_at hl 0 rfl) ?_
      refine lv_sipush (v := (216 : Int32)) hx hb dX1_canMove_3 (by decide) ?_
      refine lv_icmp_ge (tgt := 40) hx hb dX1_canMove_6 (by decide) (fun c_2 => ?_) (fun c_2 => ?_)
      · have hf := i_t c_2 hf
        exact (hke2 _ (Option.some.inj hf).symm).1  rfl H locs ls hP hS (lv_sub hl [] rfl)
      · have hf := i_f c_2 hf
        refine lv_aload_n hx hb dX1_canMove_9 rfl (lv_at hl 1 rfl) ?_
        refine gX1_0 hx hb hts hown hk hP hk0 wd_1_31 dX1_canMove_10 ?_
        refine lv_iload_n hx hb dX1_canMove_13 rfl (lv_at hl 0 rfl) ?_
        obtain ⟨q_3, hf⟩ := g_if hf
        refine ald hx hb hk hP (isF_lt1 hk0) (rd_F1 hk0 _) q_3 dX1_canMove_14 ?_
        refine lv_iload_n hx hb dX1_canMove_15 rfl (lv_at hl 2 rfl) ?_
        refine lv_icmp_ne (tgt := 34) hx hb dX1_canMove_16 (by decide) (fun c_4 => ?_) (fun c_4 => ?_)
        · have hf := i_f c_4 hf
          refine lv_iinc (v := v3_1 + (1 : Int32)) (lv' := [(3, .int (v3_1 + (1 : Int32))), (0, .ref (X.ad k0)), (1, .int x1), (2, .int x2)]) hx hb dX1_canMove_34 hl (k := 0) rfl rfl (by decide) rfl (fun ls hl => ?_)
          refine lv_goto (tgt := 2) hx hb dX1_canMove_37 (by decide) ?_
          exact hkc2 _ (Option.some.inj hf).symm H locs ls hP hS (lv_sub hl [0, 1, 2, 3] rfl)
        · have hf := i_t c_4 hf
          refine lv_aload_n hx hb dX1_canMove_19 rfl (lv_at hl 1 rfl) ?_
          refine lv_iload_n hx hb dX1_canMove_20 rfl (lv_at hl 0 rfl) ?_
          refine lv_iload_n hx hb dX1_canMove_21 rfl (lv_at hl 3 rfl) ?_
          refine kn_X7_neighbor hZ hP hS hl.1 (nest_8 hk.2.1) ⟨Nat.le_of_ble_eq_true rfl, Nat.le_of_ble_eq_true rfl⟩ (Nat.le_of_ble_eq_true rfl) dX1_canMove_22 ⟨Nat.zero_le _, Nat.zero_le _⟩ (fun H locs hP hS => ?_)
          refine lv_iload_n hx hb dX1_canMove_25 rfl (lv_at hl 2 rfl) ?_
          obtain ⟨r_5, h_r_5, hf⟩ := b_d hf
          refine k_X1_isOpen hZ hP hS hl.1 wd_2_159 ⟨Nat.le_of_ble_eq_true rfl, Nat.le_of_ble_eq_true rfl⟩ (Nat.le_of_ble_eq_true rfl) dX1_canMove_26 ⟨Nat.zero_le _, Nat.zero_le _⟩ hk0 h_r_5 (fun H locs hP hS => ?_)
          refine lv_if_ne (tgt := 34) hx hb dX1_canMove_29 (by decide) (fun c_6 => ?_) (fun c_6 => ?_)
          · have hf := i_f c_6 hf
            refine lv_iinc (v := v3_1 + (1 : Int32)) (lv' := [(3, .int (v3_1 + (1 : Int32))), (0, .ref (X.ad k0)), (1, .int x1), (2, .int x2)]) hx hb dX1_canMove_34 hl (k := 0) rfl rfl (by decide) rfl (fun ls hl => ?_)
            refine lv_goto (tgt := 2) hx hb dX1_canMove_37 (by decide) ?_
            exact hkc2 _ (Option.some.inj hf).symm H locs ls hP hS (lv_sub hl [0, 1, 2, 3] rfl)
          · have hf := i_t c_6 hf
            refine lv_iconst (v := (0 : Int32)) hx hb dX1_canMove_32 (by decide) ?_
            have hf := (hke2 _ (Option.some.inj hf).symm).2 _ rfl
            exact ret_z hx hb hr hlocks hP hS isZ_0 hf dX1_canMove_33
    · refine ⟨?_, ?_⟩
      · intro  e H locs ls hP hS hl
        subst o2
        have hf := el_l hf
        refine lv_iconst (v := (1 : Int32)) hx hb dX1_canMove_40 (by decide) ?_
        have hf := Option.some.inj hf
        exact ret_z hx hb hr hlocks hP hS isZ_1 hf dX1_canMove_41
      · intro rr e
        subst o2
        have hf := el_r hf
        exact Option.some.inj hf
  exact key s.heap [] hP hS
theorem hd_X1_canMove : Hd yX1_canMove 2 := by decide +kernel
theorem k_X1_canMove {p : Program} {l : Launch} {e : Env} {R : Room} {s : State} {m : MethodId} {args : Array Value} {below : List Frame} {meth : Method} {c : Code} {H : Heap} {locs : List Loc} {cells slots : Nat} {Q : State → Prop} {cc : ByteArray} {nL pc index : Nat} {ls : Array Slot} {rest : List Value} {X : En} {M : Mem} {H0 : Heap} {own : String} {g : Nat} {k0 : Nat} {x1 : Int32} {x2 : Int32} {r : Int32} (hZ : Fx p c m s args X cc nL own) (hP : wd X M H) (hS : va_S X.A H0 H locs) (hsz : ls.size = nL) (hlk : Cond.methodLink own index yX1_canMove ∈ lw_u) (hR : 2 + 1 ≤ R.frames ∧ 8 + (4 + 11) + 44 ≤ R.locals) (hW : (rest.map fun v => v.category).sum ≤ 8) (hdg : decode cc pc = .ok (.invokevirtual index, 3)) (hcs : cells ≤ R.cells ∧ slots ≤ R.slots) (hk0 : isF k0) (hf : fn_X1_canMove g k0 x1 x2 M = some r)
    (kk : ∀ (H1 : Heap) (locs1 : List Loc), wd X M H1 → va_S X.A H0 H1 locs1 → W p l e R s m args below meth c H1 locs1 cells slots Q (F0 m (pc + 3) ls (.int r :: rest))) : W p l e R s m args below meth c H locs cells slots Q (F0 m pc ls (.int x2 :: .int x1 :: .ref (X.ad k0) :: rest)) :=
  cal_i (runV (As := [.int x1, .int x2]) (rest := rest) hZ.1 hZ.2.1 hZ.2.2.1 hZ.2.2.2.1 hZ.2.2.2.2.1 hZ.2.2.2.2.2 hP (c_X1_canMove g k0 x1 x2 M hk0 r hf) wd_2_151 wd_2_149 wd_2_150 wd_1_2 hd_X1_canMove (isF_lt0 hk0) (rd_F0 hk0 _) rfl rfl hlk hR hsz rfl hW hdg hcs) hS kk
/-! FrameRaiser.shiftFault -/
def fn_X7_shiftFault (g : Nat) (x1 : Int32) (x2 : Int32) (M : Mem) : Option (Int32) :=
  if (fn_X7_isPiece x1 M) = 0 then
    (some (-1 : Int32))
  else
    (if (fn_X7_isDirection x2) = 0 then
      (some (-1 : Int32))
    else
      ((fn_X1_canMove g 1 x1 x2 M).bind fun r_3 =>
      if r_3 = 0 then
        (some (-2 : Int32))
      else
        (some (0 : Int32))))
theorem dX7_shiftFault_0 : decode cX7_shiftFault 0 = .ok (.aload_n 0, 1) := by decide +kernel
theorem dX7_shiftFault_1 : decode cX7_shiftFault 1 = .ok (.iload_n 1, 1) := by decide +kernel
theorem dX7_shiftFault_2 : decode cX7_shiftFault 2 = .ok (.invokevirtual 109, 3) := by decide +kernel
theorem dX7_shiftFault_5 : decode cX7_shiftFault 5 = .ok (.ifCond .eq 10, 3) := by decide +kernel
theorem dX7_shiftFault_8 : decode cX7_shiftFault 8 = .ok (.iload_n 2, 1) := by decide +kernel
theorem dX7_shiftFault_9 : decode cX7_shiftFault 9 = .ok (.invokestatic 157, 3) := by decide +kernel
theorem dX7_shiftFault_12 : decode cX7_shiftFault 12 = .ok (.ifCond .ne 5, 3) := by decide +kernel
theorem dX7_shiftFault_15 : decode cX7_shiftFault 15 = .ok (.iconst (-1), 1) := by decide +kernel
theorem dX7_shiftFault_16 : decode cX7_shiftFault 16 = .ok (.ireturn, 1) := by decide +kernel
theorem dX7_shiftFault_17 : decode cX7_shiftFault 17 = .ok (.aload_n 0, 1) := by decide +kernel
theorem dX7_shiftFault_18 : decode cX7_shiftFault 18 = .ok (.getfield 10, 3) := by decide +kernel
theorem dX7_shiftFault_21 : decode cX7_shiftFault 21 = .ok (.iload_n 1, 1) := by decide +kernel
theorem dX7_shiftFault_22 : decode cX7_shiftFault 22 = .ok (.iload_n 2, 1) := by decide +kernel
theorem dX7_shiftFault_23 : decode cX7_shiftFault 23 = .ok (.invokevirtual 294, 3) := by decide +kernel
theorem dX7_shiftFault_26 : decode cX7_shiftFault 26 = .ok (.ifCond .eq 7, 3) := by decide +kernel
theorem dX7_shiftFault_29 : decode cX7_shiftFault 29 = .ok (.iconst 0, 1) := by decide +kernel
theorem dX7_shiftFault_30 : decode cX7_shiftFault 30 = .ok (.goto 5, 3) := by decide +kernel
theorem dX7_shiftFault_33 : decode cX7_shiftFault 33 = .ok (.bipush (-2), 2) := by decide +kernel
theorem dX7_shiftFault_35 : decode cX7_shiftFault 35 = .ok (.ireturn, 1) := by decide +kernel
set_option maxHeartbeats 4000000 in
set_option maxRecDepth 100000 in
theorem c_X7_shiftFault {l : Launch} {X : En} (g : Nat) (x1 : Int32) (x2 : Int32) (M : Mem) (r : Int32) (hf : fn_X7_shiftFault g x1 x2 M = some r) : Cn l X yX7_shiftFault cX7_shiftFault 3 (some .int) 3 67 [.ref (X.ad 0), .int x1, .int x2] M (Qi X r M) := by
  refine Met.ofW (cc := cX7_shiftFault) (maxL := 3) (ret := (some .int)) (by decide) rfl ?_
  intro p e s m args below meth c s₁ B hml hv
  obtain ⟨rfl, hP, hk⟩ := hv
  have hx := B.exec
  have hb := B.bytes
  have hr := B.returns
  have hlocks := B.notSynchronized
  have hts : ∀ w ∈ lw_u, w.before ([.ref (X.ad 0), .int x1, .int x2] : List Value).toArray s = true := fun w hw => atoms_spec (ws := Cond.code yX7_shiftFault cX7_shiftFault 3 (some .int) :: lw_u) B.pre w (List.mem_cons_of_mem _ hw)
  have hown : s.vm.findClass RX7 = some m.cls := findClass_of_methodNamed B.named
  have hZ : Fx p c m s ([.ref (X.ad 0), .int x1, .int x2] : List Value).toArray X cX7_shiftFault 3 RX7 := ⟨hx, hb, hml, hts, hown, hk⟩
  have hS : va_S X.A s.heap s.heap [] := va_S.rf
  have hl := lv_entry ([.ref (X.ad 0), .int x1, .int x2]) (n := 3) (Nat.le_of_ble_eq_true rfl)
  rw [lg_entry_eq]
  generalize (lg_sl ([.ref (X.ad 0), .int x1, .int x2]) ++ List.replicate (3 - (lg_sl ([.ref (X.ad 0), .int x1, .int x2])).length) Slot.unset).toArray = ls at hl ⊢
  have hl : lv_has ls 3 [(0, .ref (X.ad 0)), (1, .int x1), (2, .int x2)] := hl
  show WW p l e 3 67 s m [.ref (X.ad 0), .int x1, .int x2] below meth c X (Qi X r M) s.heap [] 0 ls []
  have hP : wd X M s.heap := hP
  unfold fn_X7_shiftFault at hf
  have key : ∀ (H : Heap) (locs : List Loc), wd X M H → va_S X.A s.heap H locs → WW p l e 3 67 s m [.ref (X.ad 0), .int x1, .int x2] below meth c X (Qi X r M) H locs 0 ls [] := by
    intro H locs hP hS
    refine lv_aload_n hx hb dX7_shiftFault_0 rfl (lv_at hl 0 rfl) ?_
    refine lv_iload_n hx hb dX7_shiftFault_1 rfl (lv_at hl 1 rfl) ?_
    refine k_X7_isPiece hZ hP hS hl.1 wd_2_106 ⟨Nat.le_of_ble_eq_true rfl, Nat.le_of_ble_eq_true rfl⟩ (Nat.le_of_ble_eq_true rfl) dX7_shiftFault_2 ⟨Nat.zero_le _, Nat.zero_le _⟩ (fun H locs hP hS => ?_)
    refine lv_if_eq (tgt := 15) hx hb dX7_shiftFault_5 (by decide) (fun c_1 => ?_) (fun c_1 => ?_)
    · have hf := i_t c_1 hf
      refine lv_iconst (v := (-1 : Int32)) hx hb dX7_shiftFault_15 (by decide) ?_
      have hf := Option.some.inj hf
      exact ret_i hx hb hr hlocks hP hS hf dX7_shiftFault_16
    · have hf := i_f c_1 hf
      refine lv_iload_n hx hb dX7_shiftFault_8 rfl (lv_at hl 2 rfl) ?_
      refine k_X7_isDirection hZ hP hS hl.1 wd_2_145 ⟨Nat.le_of_ble_eq_true rfl, Nat.le_of_ble_eq_true rfl⟩ (Nat.le_of_ble_eq_true rfl) dX7_shiftFault_9 ⟨Nat.zero_le _, Nat.zero_le _⟩ (fun H locs hP hS => ?_)
      refine lv_if_ne (tgt := 17) hx hb dX7_shiftFault_12 (by decide) (fun c_2 => ?_) (fun c_2 => ?_)
      · have hf := i_f c_2 hf
        refine lv_aload_n hx hb dX7_shiftFault_17 rfl (lv_at hl 0 rfl) ?_
        refine gX7_0 hx hb hts hown hk hP wd_1_213 dX7_shiftFault_18 ?_
        refine lv_iload_n hx hb dX7_shiftFault_21 rfl (lv_at hl 1 rfl) ?_
        refine lv_iload_n hx hb dX7_shiftFault_22 rfl (lv_at hl 2 rfl) ?_
        obtain ⟨r_3, h_r_3, hf⟩ := b_d hf
        refine k_X1_canMove hZ hP hS hl.1 wd_2_148 ⟨Nat.le_of_ble_eq_true rfl, Nat.le_of_ble_eq_true rfl⟩ (Nat.le_of_ble_eq_true rfl) dX7_shiftFault_23 ⟨Nat.zero_le _, Nat.zero_le _⟩ isF_1 h_r_3 (fun H locs hP hS => ?_)
        refine lv_if_eq (tgt := 33) hx hb dX7_shiftFault_26 (by decide) (fun c_4 => ?_) (fun c_4 => ?_)
        · have hf := i_t c_4 hf
          refine lv_bipush (v := (-2 : Int32)) hx hb dX7_shiftFault_33 (by decide) ?_
          have hf := Option.some.inj hf
          exact ret_i hx hb hr hlocks hP hS hf dX7_shiftFault_35
        · have hf := i_f c_4 hf
          refine lv_iconst (v := (0 : Int32)) hx hb dX7_shiftFault_29 (by decide) ?_
          refine lv_goto (tgt := 35) hx hb dX7_shiftFault_30 (by decide) ?_
          have hf := Option.some.inj hf
          exact ret_i hx hb hr hlocks hP hS hf dX7_shiftFault_35
      · have hf := i_t c_2 hf
        refine lv_iconst (v := (-1 : Int32)) hx hb dX7_shiftFault_15 (by decide) ?_
        have hf := Option.some.inj hf
        exact ret_i hx hb hr hlocks hP hS hf dX7_shiftFault_16
  exact key s.heap [] hP hS
theorem hd_X7_shiftFault : Hd yX7_shiftFault 2 := by decide +kernel
theorem k_X7_shiftFault {p : Program} {l : Launch} {e : Env} {R : Room} {s : State} {m : MethodId} {args : Array Value} {below : List Frame} {meth : Method} {c : Code} {H : Heap} {locs : List Loc} {cells slots : Nat} {Q : State → Prop} {cc : ByteArray} {nL pc index : Nat} {ls : Array Slot} {rest : List Value} {X : En} {M : Mem} {H0 : Heap} {own : String} {g : Nat} {x1 : Int32} {x2 : Int32} {r : Int32} (hZ : Fx p c m s args X cc nL own) (hP : wd X M H) (hS : va_S X.A H0 H locs) (hsz : ls.size = nL) (hlk : Cond.methodLink own index yX7_shiftFault ∈ lw_u) (hR : 3 + 1 ≤ R.frames ∧ 8 + (3 + 11) + 67 ≤ R.locals) (hW : (rest.map fun v => v.category).sum ≤ 8) (hdg : decode cc pc = .ok (.invokevirtual index, 3)) (hcs : cells ≤ R.cells ∧ slots ≤ R.slots) (hf : fn_X7_shiftFault g x1 x2 M = some r)
    (kk : ∀ (H1 : Heap) (locs1 : List Loc), wd X M H1 → va_S X.A H0 H1 locs1 → W p l e R s m args below meth c H1 locs1 cells slots Q (F0 m (pc + 3) ls (.int r :: rest))) : W p l e R s m args below meth c H locs cells slots Q (F0 m pc ls (.int x2 :: .int x1 :: .ref (X.ad 0) :: rest)) :=
  cal_i (runV (As := [.int x1, .int x2]) (rest := rest) hZ.1 hZ.2.1 hZ.2.2.1 hZ.2.2.2.1 hZ.2.2.2.2.1 hZ.2.2.2.2.2 hP (c_X7_shiftFault g x1 x2 M r hf) wd_2_144 wd_2_143 wd_p_8 wd_1_1 hd_X7_shiftFault (by decide) rfl rfl rfl hlk hR hsz rfl hW hdg hcs) hS kk
/-! FrameRaiser$Frame.move -/
def jn_X1_move_61 (k0 : Nat) (s_16 : Int32) (v4_14 : Int32) (v5_15 : Int32) (x1 : Int32) (M_17 : Mem) : Option ((Int32 × Mem) ⊕ (Mem)) :=
  if s_16 = (-1 : Int32) then
    (some (.inl (v4_14 + (1 : Int32), M_17)))
  else
    (if inb v5_15 216 then
    bv (st M_17 (k0 + 1) (ix v5_15) (-1 : Int32)) fun M_19 =>
    if inb s_16 216 then
    bv (st M_19 (k0 + 1) (ix s_16) x1) fun M_21 =>
    some (.inl (v4_14 + (1 : Int32), M_21))
    else none
    else none)
def jn_X1_move_38 (k0 : Nat) (s_10 : Int32) (v4_9 : Int32) (x1 : Int32) (x2 : Int32) (M_11 : Mem) : Option ((Int32 × Mem) ⊕ (Mem)) :=
  if inb s_10 216 then
  if (M_11 (k0 + 1) (ix s_10)) = x1 then
    (jn_X1_move_61 k0 (fn_X7_neighbor s_10 x2) v4_9 s_10 x1 M_11)
  else
    (jn_X1_move_61 k0 (-1 : Int32) v4_9 s_10 x1 M_11)
  else none
def bd_X1_move_15 (k0 : Nat) (s_2 : Int32) (x1 : Int32) (x2 : Int32) : (Int32 × Mem) → Option ((Int32 × Mem) ⊕ (Mem)) :=
  u2 fun v4_4 M_5 =>
  if (216 : Int32) ≤ v4_4 then
    (some (.inr M_5))
  else
    (if s_2 = 0 then
      (jn_X1_move_38 k0 v4_4 v4_4 x1 x2 M_5)
    else
      (jn_X1_move_38 k0 ((215 : Int32) - v4_4) v4_4 x1 x2 M_5))
def jn_X1_move_11 (g : Nat) (k0 : Nat) (s_2 : Int32) (x1 : Int32) (x2 : Int32) (M_3 : Mem) : Option (Mem) :=
  (lpN g (bd_X1_move_15 k0 s_2 x1 x2) ((0 : Int32), M_3)).bind (u1 fun M_6 =>
    some M_6)
def fn_X1_move (g : Nat) (k0 : Nat) (x1 : Int32) (x2 : Int32) (M : Mem) : Option (Mem) :=
  if (rm x2 (2 : Int32)) = 0 then
    (jn_X1_move_11 g k0 (1 : Int32) x1 x2 M)
  else
    (jn_X1_move_11 g k0 (0 : Int32) x1 x2 M)
theorem dX1_move_0 : decode cX1_move 0 = .ok (.iload_n 2, 1) := by decide +kernel
theorem dX1_move_1 : decode cX1_move 1 = .ok (.iconst 2, 1) := by decide +kernel
theorem dX1_move_2 : decode cX1_move 2 = .ok (.irem, 1) := by decide +kernel
theorem dX1_move_3 : decode cX1_move 3 = .ok (.ifCond .ne 7, 3) := by decide +kernel
theorem dX1_move_6 : decode cX1_move 6 = .ok (.iconst 1, 1) := by decide +kernel
theorem dX1_move_7 : decode cX1_move 7 = .ok (.goto 4, 3) := by decide +kernel
theorem dX1_move_10 : decode cX1_move 10 = .ok (.iconst 0, 1) := by decide +kernel
theorem dX1_move_11 : decode cX1_move 11 = .ok (.istore_n 3, 1) := by decide +kernel
theorem dX1_move_12 : decode cX1_move 12 = .ok (.iconst 0, 1) := by decide +kernel
theorem dX1_move_13 : decode cX1_move 13 = .ok (.istore 4, 2) := by decide +kernel
theorem dX1_move_15 : decode cX1_move 15 = .ok (.iload 4, 2) := by decide +kernel
theorem dX1_move_17 : decode cX1_move 17 = .ok (.sipush 216, 3) := by decide +kernel
theorem dX1_move_20 : decode cX1_move 20 = .ok (.if_icmp .ge 71, 3) := by decide +kernel
theorem dX1_move_23 : decode cX1_move 23 = .ok (.iload_n 3, 1) := by decide +kernel
theorem dX1_move_24 : decode cX1_move 24 = .ok (.ifCond .eq 12, 3) := by decide +kernel
theorem dX1_move_27 : decode cX1_move 27 = .ok (.sipush 215, 3) := by decide +kernel
theorem dX1_move_30 : decode cX1_move 30 = .ok (.iload 4, 2) := by decide +kernel
theorem dX1_move_32 : decode cX1_move 32 = .ok (.isub, 1) := by decide +kernel
theorem dX1_move_33 : decode cX1_move 33 = .ok (.goto 5, 3) := by decide +kernel
theorem dX1_move_36 : decode cX1_move 36 = .ok (.iload 4, 2) := by decide +kernel
theorem dX1_move_38 : decode cX1_move 38 = .ok (.istore 5, 2) := by decide +kernel
theorem dX1_move_40 : decode cX1_move 40 = .ok (.aload_n 0, 1) := by decide +kernel
theorem dX1_move_41 : decode cX1_move 41 = .ok (.getfield 9, 3) := by decide +kernel
theorem dX1_move_44 : decode cX1_move 44 = .ok (.iload 5, 2) := by decide +kernel
theorem dX1_move_46 : decode cX1_move 46 = .ok (.iaload, 1) := by decide +kernel
theorem dX1_move_47 : decode cX1_move 47 = .ok (.iload_n 1, 1) := by decide +kernel
theorem dX1_move_48 : decode cX1_move 48 = .ok (.if_icmp .ne 12, 3) := by decide +kernel
theorem dX1_move_51 : decode cX1_move 51 = .ok (.iload 5, 2) := by decide +kernel
theorem dX1_move_53 : decode cX1_move 53 = .ok (.iload_n 2, 1) := by decide +kernel
theorem dX1_move_54 : decode cX1_move 54 = .ok (.invokestatic 43, 3) := by decide +kernel
theorem dX1_move_57 : decode cX1_move 57 = .ok (.goto 4, 3) := by decide +kernel
theorem dX1_move_60 : decode cX1_move 60 = .ok (.iconst (-1), 1) := by decide +kernel
theorem dX1_move_61 : decode cX1_move 61 = .ok (.istore 6, 2) := by decide +kernel
theorem dX1_move_63 : decode cX1_move 63 = .ok (.iload 6, 2) := by decide +kernel
theorem dX1_move_65 : decode cX1_move 65 = .ok (.iconst (-1), 1) := by decide +kernel
theorem dX1_move_66 : decode cX1_move 66 = .ok (.if_icmp .eq 19, 3) := by decide +kernel
theorem dX1_move_69 : decode cX1_move 69 = .ok (.aload_n 0, 1) := by decide +kernel
theorem dX1_move_70 : decode cX1_move 70 = .ok (.getfield 9, 3) := by decide +kernel
theorem dX1_move_73 : decode cX1_move 73 = .ok (.iload 5, 2) := by decide +kernel
theorem dX1_move_75 : decode cX1_move 75 = .ok (.iconst (-1), 1) := by decide +kernel
theorem dX1_move_76 : decode cX1_move 76 = .ok (.iastore, 1) := by decide +kernel
theorem dX1_move_77 : decode cX1_move 77 = .ok (.aload_n 0, 1) := by decide +kernel
theorem dX1_move_78 : decode cX1_move 78 = .ok (.getfield 9, 3) := by decide +kernel
theorem dX1_move_81 : decode cX1_move 81 = .ok (.iload 6, 2) := by decide +kernel
theorem dX1_move_83 : decode cX1_move 83 = .ok (.iload_n 1, 1) := by decide +kernel
theorem dX1_move_84 : decode cX1_move 84 = .ok (.iastore, 1) := by decide +kernel
theorem dX1_move_85 : decode cX1_move 85 = .ok (.iinc 4 1, 3) := by decide +kernel
theorem dX1_move_88 : decode cX1_move 88 = .ok (.goto (-73), 3) := by decide +kernel
theorem dX1_move_91 : decode cX1_move 91 = .ok (.return_, 1) := by decide +kernel
set_option maxHeartbeats 4000000 in
set_option maxRecDepth 100000 in
theorem c_X1_move {l : Launch} {X : En} (g : Nat) (k0 : Nat) (x1 : Int32) (x2 : Int32) (M : Mem) (hk0 : isF k0) (M9 : Mem) (hf : fn_X1_move g k0 x1 x2 M = some M9) : Cn l X yX1_move cX1_move 7 none 2 44 [.ref (X.ad k0), .int x1, .int x2] M (Qv X M9) := by
  refine Met.ofW (cc := cX1_move) (maxL := 7) (ret := none) (by decide) rfl ?_
  intro p e s m args below meth c s₁ B hml hv
  obtain ⟨rfl, hP, hk⟩ := hv
  have hx := B.exec
  have hb := B.bytes
  have hr := B.returns
  have hlocks := B.notSynchronized
  have hts : ∀ w ∈ lw_u, w.before ([.ref (X.ad k0), .int x1, .int x2] : List Value).toArray s = true := fun w hw => atoms_spec (ws := Cond.code yX1_move cX1_move 7 none :: lw_u) B.pre w (List.mem_cons_of_mem _ hw)
  have hown : s.vm.findClass RX1 = some m.cls := findClass_of_methodNamed B.named
  have hZ : Fx p c m s ([.ref (X.ad k0), .int x1, .int x2] : List Value).toArray X cX1_move 7 RX1 := ⟨hx, hb, hml, hts, hown, hk⟩
  have hS : va_S X.A s.heap s.heap [] := va_S.rf
  have hl := lv_entry ([.ref (X.ad k0), .int x1, .int x2]) (n := 7) (Nat.le_of_ble_eq_true rfl)
  rw [lg_entry_eq]
  generalize (lg_sl ([.ref (X.ad k0), .int x1, .int x2]) ++ List.replicate (7 - (lg_sl ([.ref (X.ad k0), .int x1, .int x2])).length) Slot.unset).toArray = ls at hl ⊢
  have hl : lv_has ls 7 [(0, .ref (X.ad k0)), (1, .int x1), (2, .int x2)] := hl
  show WW p l e 2 44 s m [.ref (X.ad k0), .int x1, .int x2] below meth c X (Qv X M9) s.heap [] 0 ls []
  have hP : wd X M s.heap := hP
  have jn11 : ∀ (s_2 : Int32) (M_3 : Mem), jn_X1_move_11 g k0 s_2 x1 x2 M_3 = some M9 → ∀ (H : Heap) (locs : List Loc) (ls : Array Slot), wd X M_3 H → va_S X.A s.heap H locs → lv_has ls 7 [(0, .ref (X.ad k0)), (1, .int x1), (2, .int x2)] → WW p l e 2 44 s m [.ref (X.ad k0), .int x1, .int x2] below meth c X (Qv X M9) H locs 11 ls [.int s_2] := by
    intro s_2 M_3 hf H locs ls hP hS hl
    unfold jn_X1_move_11 at hf
    refine lv_istore_n (lv' := [(3, .int s_2), (0, .ref (X.ad k0)), (1, .int x1), (2, .int x2)]) hx hb dX1_move_11 rfl hl (by decide) rfl (fun ls hl => ?_)
    refine lv_iconst (v := (0 : Int32)) hx hb dX1_move_12 (by decide) ?_
    refine lv_istore (lv' := [(4, .int (0 : Int32)), (3, .int s_2), (0, .ref (X.ad k0)), (1, .int x1), (2, .int x2)]) hx hb dX1_move_13 hl (by decide) rfl (fun ls hl => ?_)
    obtain ⟨o15, ho15, hf⟩ := b_d hf
    refine lp_rule (b := bd_X1_move_15 k0 s_2 x1 x2) (P := fun w : Int32 × Mem => ∀ (H : Heap) (locs : List Loc) (ls : Array Slot), wd X w.2 H → va_S X.A s.heap H locs → lv_has ls 7 [(4, .int w.1), (3, .int s_2), (0, .ref (X.ad k0)), (1, .int x1), (2, .int x2)] → WW p l e 2 44 s m [.ref (X.ad k0), .int x1, .int x2] below meth c X (Qv X M9) H locs 15 ls []) (K := fun o => ∀ (M_6 : Mem), o = M_6 → ∀ (H : Heap) (locs : List Loc) (ls : Array Slot), wd X M_6 H → va_S X.A s.heap H locs → lv_has ls 7 [] → WW p l e 2 44 s m [.ref (X.ad k0), .int x1, .int x2] below meth c X (Qv X M9) H locs 91 ls []) ?_ g ((0 : Int32), M_3) o15 ho15 ?_ H locs ls hP hS (lv_sub hl [0, 1, 2, 3, 4] rfl)
    · rintro ⟨v4_4, M_5⟩ o hf hkc15 hke15 H locs ls hP hS hl
      have hf := u2_e hf
      have jn61 : ∀ (v4_14 : Int32) (v5_15 : Int32) (s_16 : Int32) (M_17 : Mem), jn_X1_move_61 k0 s_16 v4_14 v5_15 x1 M_17 = some o → ∀ (H : Heap) (locs : List Loc) (ls : Array Slot), wd X M_17 H → va_S X.A s.heap H locs → lv_has ls 7 [(0, .ref (X.ad k0)), (1, .int x1), (2, .int x2), (3, .int s_2), (4, .int v4_14), (5, .int v5_15)] → WW p l e 2 44 s m [.ref (X.ad k0), .int x1, .int x2] below meth c X (Qv X M9) H locs 61 ls [.int s_16] := by
        intro v4_14 v5_15 s_16 M_17 hf H locs ls hP hS hl
        unfold jn_X1_move_61 at hf
        refine lv_istore (lv' := [(6, .int s_16), (0, .ref (X.ad k0)), (1, .int x1), (2, .int x2), (3, .int s_2), (4, .int v4_14), (5, .int v5_15)]) hx hb dX1_move_61 hl (by decide) rfl (fun ls hl => ?_)
        refine lv_iload hx hb dX1_move_63 (lv_at hl 0 rfl) ?_
        refine lv_iconst (v := (-1 : Int32)) hx hb dX1_move_65 (by decide) ?_
        refine lv_icmp_eq (tgt := 85) hx hb dX1_move_66 (by decide) (fun c_18 => ?_) (fun c_18 => ?_)
        · have hf := i_t c_18 hf
          refine lv_iinc (v := v4_14 + (1 : Int32)) (lv' := [(4, .int (v4_14 + (1 : Int32))), (6, .int s_16), (0, .ref (X.ad k0)), (1, .int x1), (2, .int x2), (3, .int s_2), (5, .int v5_15)]) hx hb dX1_move_85 hl (k := 5) rfl rfl (by decide) rfl (fun ls hl => ?_)
          refine lv_goto (tgt := 15) hx hb dX1_move_88 (by decide) ?_
          exact hkc15 _ (Option.some.inj hf).symm H locs ls hP hS (lv_sub hl [0, 5, 2, 3, 4] rfl)
        · have hf := i_f c_18 hf
          refine lv_aload_n hx hb dX1_move_69 rfl (lv_at hl 1 rfl) ?_
          refine gX1_0 hx hb hts hown hk hP hk0 wd_1_31 dX1_move_70 ?_
          refine lv_iload hx hb dX1_move_73 (lv_at hl 6 rfl) ?_
          refine lv_iconst (v := (-1 : Int32)) hx hb dX1_move_75 (by decide) ?_
          obtain ⟨q_20, hf⟩ := g_if hf
          refine ast hx hb hk hP hS (isF_lt1 hk0) (rd_F1 hk0) q_20 dX1_move_76 (fun H locs M_19 e_M_19 hP hS => ?_)
          have hf := b_v hf e_M_19
          refine lv_aload_n hx hb dX1_move_77 rfl (lv_at hl 1 rfl) ?_
          refine gX1_0 hx hb hts hown hk hP hk0 wd_1_31 dX1_move_78 ?_
          refine lv_iload hx hb dX1_move_81 (lv_at hl 0 rfl) ?_
          refine lv_iload_n hx hb dX1_move_83 rfl (lv_at hl 2 rfl) ?_
          obtain ⟨q_22, hf⟩ := g_if hf
          refine ast hx hb hk hP hS (isF_lt1 hk0) (rd_F1 hk0) q_22 dX1_move_84 (fun H locs M_21 e_M_21 hP hS => ?_)
          have hf := b_v hf e_M_21
          refine lv_iinc (v := v4_14 + (1 : Int32)) (lv' := [(4, .int (v4_14 + (1 : Int32))), (6, .int s_16), (0, .ref (X.ad k0)), (1, .int x1), (2, .int x2), (3, .int s_2), (5, .int v5_15)]) hx hb dX1_move_85 hl (k := 5) rfl rfl (by decide) rfl (fun ls hl => ?_)
          refine lv_goto (tgt := 15) hx hb dX1_move_88 (by decide) ?_
          exact hkc15 _ (Option.some.inj hf).symm H locs ls hP hS (lv_sub hl [0, 5, 2, 3, 4] rfl)
      have jn38 : ∀ (v4_9 : Int32) (s_10 : Int32) (M_11 : Mem), jn_X1_move_38 k0 s_10 v4_9 x1 x2 M_11 = some o → ∀ (H : Heap) (locs : List Loc) (ls : Array Slot), wd X M_11 H → va_S X.A s.heap H locs → lv_has ls 7 [(0, .ref (X.ad k0)), (1, .int x1), (2, .int x2), (3, .int s_2), (4, .int v4_9)] → WW p l e 2 44 s m [.ref (X.ad k0), .int x1, .int x2] below meth c X (Qv X M9) H locs 38 ls [.int s_10] := by
        intro v4_9 s_10 M_11 hf H locs ls hP hS hl
        unfold jn_X1_move_38 at hf
        refine lv_istore (lv' := [(5, .int s_10), (0, .ref (X.ad k0)), (1, .int x1), (2, .int x2), (3, .int s_2), (4, .int v4_9)]) hx hb dX1_move_38 hl (by decide) rfl (fun ls hl => ?_)
        refine lv_aload_n hx hb dX1_move_40 rfl (lv_at hl 1 rfl) ?_
        refine gX1_0 hx hb hts hown hk hP hk0 wd_1_31 dX1_move_41 ?_
        refine lv_iload hx hb dX1_move_44 (lv_at hl 0 rfl) ?_
        obtain ⟨q_12, hf⟩ := g_if hf
        refine ald hx hb hk hP (isF_lt1 hk0) (rd_F1 hk0 _) q_12 dX1_move_46 ?_
        refine lv_iload_n hx hb dX1_move_47 rfl (lv_at hl 2 rfl) ?_
        refine lv_icmp_ne (tgt := 60) hx hb dX1_move_48 (by decide) (fun c_13 => ?_) (fun c_13 => ?_)
        · have hf := i_f c_13 hf
          refine lv_iconst (v := (-1 : Int32)) hx hb dX1_move_60 (by decide) ?_
          exact jn61 v4_9 s_10 (-1 : Int32) M_11 hf H locs ls hP hS (lv_sub hl [1, 2, 3, 4, 5, 0] rfl)
        · have hf := i_t c_13 hf
          refine lv_iload hx hb dX1_move_51 (lv_at hl 0 rfl) ?_
          refine lv_iload_n hx hb dX1_move_53 rfl (lv_at hl 3 rfl) ?_
          refine kn_X7_neighbor hZ hP hS hl.1 (nest_8 hk.2.1) ⟨Nat.le_of_ble_eq_true rfl, Nat.le_of_ble_eq_true rfl⟩ (Nat.le_of_ble_eq_true rfl) dX1_move_54 ⟨Nat.zero_le _, Nat.zero_le _⟩ (fun H locs hP hS => ?_)
          refine lv_goto (tgt := 61) hx hb dX1_move_57 (by decide) ?_
          exact jn61 v4_9 s_10 (fn_X7_neighbor s_10 x2) M_11 hf H locs ls hP hS (lv_sub hl [1, 2, 3, 4, 5, 0] rfl)
      refine lv_iload hx hb dX1_move_15 (lv_at hl 0 rfl) ?_
      refine lv_sipush (v := (216 : Int32)) hx hb dX1_move_17 (by decide) ?_
      refine lv_icmp_ge (tgt := 91) hx hb dX1_move_20 (by decide) (fun c_7 => ?_) (fun c_7 => ?_)
      · have hf := i_t c_7 hf
        exact hke15 _ (Option.some.inj hf).symm _ rfl H locs ls hP hS (lv_sub hl [] rfl)
      · have hf := i_f c_7 hf
        refine lv_iload_n hx hb dX1_move_23 rfl (lv_at hl 1 rfl) ?_
        refine lv_if_eq (tgt := 36) hx hb dX1_move_24 (by decide) (fun c_8 => ?_) (fun c_8 => ?_)
        · have hf := i_t c_8 hf
          refine lv_iload hx hb dX1_move_36 (lv_at hl 0 rfl) ?_
          exact jn38 v4_4 v4_4 M_5 hf H locs ls hP hS (lv_sub hl [2, 3, 4, 1, 0] rfl)
        · have hf := i_f c_8 hf
          refine lv_sipush (v := (215 : Int32)) hx hb dX1_move_27 (by decide) ?_
          refine lv_iload hx hb dX1_move_30 (lv_at hl 0 rfl) ?_
          refine lv_isub hx hb dX1_move_32 ?_
          refine lv_goto (tgt := 38) hx hb dX1_move_33 (by decide) ?_
          exact jn38 v4_4 ((215 : Int32) - v4_4) M_5 hf H locs ls hP hS (lv_sub hl [2, 3, 4, 1, 0] rfl)
    · intro M_6 e H locs ls hP hS hl
      subst o15
      have hf := u1_e hf
      have hf := Option.some.inj hf
      rw [hf] at hP
      exact ret_v hx hb hr hlocks hP hS dX1_move_91
  unfold fn_X1_move at hf
  have key : ∀ (H : Heap) (locs : List Loc), wd X M H → va_S X.A s.heap H locs → WW p l e 2 44 s m [.ref (X.ad k0), .int x1, .int x2] below meth c X (Qv X M9) H locs 0 ls [] := by
    intro H locs hP hS
    refine lv_iload_n hx hb dX1_move_0 rfl (lv_at hl 2 rfl) ?_
    refine lv_iconst (v := (2 : Int32)) hx hb dX1_move_1 (by decide) ?_
    refine rw_irem hx hb dX1_move_2 (by decide) ?_
    refine lv_if_ne (tgt := 10) hx hb dX1_move_3 (by decide) (fun c_1 => ?_) (fun c_1 => ?_)
    · have hf := i_f c_1 hf
      refine lv_iconst (v := (0 : Int32)) hx hb dX1_move_10 (by decide) ?_
      exact jn11 (0 : Int32) M hf H locs ls hP hS (lv_sub hl [0, 1, 2] rfl)
    · have hf := i_t c_1 hf
      refine lv_iconst (v := (1 : Int32)) hx hb dX1_move_6 (by decide) ?_
      refine lv_goto (tgt := 11) hx hb dX1_move_7 (by decide) ?_
      exact jn11 (1 : Int32) M hf H locs ls hP hS (lv_sub hl [0, 1, 2] rfl)
  exact key s.heap [] hP hS
theorem hd_X1_move : Hd yX1_move 2 := by decide +kernel
theorem k_X1_move {p : Program} {l : Launch} {e : Env} {R : Room} {s : State} {m : MethodId} {args : Array Value} {below : List Frame} {meth : Method} {c : Code} {H : Heap} {locs : List Loc} {cells slots : Nat} {Q : State → Prop} {cc : ByteArray} {nL pc index : Nat} {ls : Array Slot} {rest : List Value} {X : En} {M : Mem} {H0 : Heap} {own : String} {g : Nat} {k0 : Nat} {x1 : Int32} {x2 : Int32} {M9 : Mem} (hZ : Fx p c m s args X cc nL own) (hP : wd X M H) (hS : va_S X.A H0 H locs) (hsz : ls.size = nL) (hlk : Cond.methodLink own index yX1_move ∈ lw_u) (hR : 2 + 1 ≤ R.frames ∧ 8 + (7 + 11) + 44 ≤ R.locals) (hW : (rest.map fun v => v.category).sum ≤ 8) (hdg : decode cc pc = .ok (.invokevirtual index, 3)) (hcs : cells ≤ R.cells ∧ slots ≤ R.slots) (hk0 : isF k0) (hf : fn_X1_move g k0 x1 x2 M = some M9)
    (kk : ∀ (H1 : Heap) (locs1 : List Loc), wd X M9 H1 → va_S X.A H0 H1 locs1 → W p l e R s m args below meth c H1 locs1 cells slots Q (F0 m (pc + 3) ls rest)) : W p l e R s m args below meth c H locs cells slots Q (F0 m pc ls (.int x2 :: .int x1 :: .ref (X.ad k0) :: rest)) :=
  cal_v (runV (As := [.int x1, .int x2]) (rest := rest) hZ.1 hZ.2.1 hZ.2.2.1 hZ.2.2.2.1 hZ.2.2.2.2.1 hZ.2.2.2.2.2 hP (c_X1_move g k0 x1 x2 M hk0 M9 hf) wd_2_166 wd_2_164 wd_2_165 wd_1_2 hd_X1_move (isF_lt0 hk0) (rd_F0 hk0 _) rfl rfl hlk hR hsz rfl hW hdg hcs) hS kk
/-! FrameRaiser.shift -/
def fn_X7_shift (g : Nat) (x1 : Int32) (x2 : Int32) (M : Mem) : Option (Int32 × Mem) :=
  (fn_X7_shiftFault g x1 x2 M).bind fun r_1 =>
  if r_1 = 0 then
    ((fn_X2_record 1 M).bind fun M_3 =>
    (fn_X1_move g 1 x1 x2 M_3).bind fun M_4 =>
    (fn_X7_forgetPieces M_4).bind fun M_5 =>
    some ((1 : Int32), M_5))
  else
    (some (r_1, M))
theorem dX7_shift_0 : decode cX7_shift 0 = .ok (.aload_n 0, 1) := by decide +kernel
theorem dX7_shift_1 : decode cX7_shift 1 = .ok (.iload_n 1, 1) := by decide +kernel
theorem dX7_shift_2 : decode cX7_shift 2 = .ok (.iload_n 2, 1) := by decide +kernel
theorem dX7_shift_3 : decode cX7_shift 3 = .ok (.invokevirtual 127, 3) := by decide +kernel
theorem dX7_shift_6 : decode cX7_shift 6 = .ok (.istore_n 3, 1) := by decide +kernel
theorem dX7_shift_7 : decode cX7_shift 7 = .ok (.iload_n 3, 1) := by decide +kernel
theorem dX7_shift_8 : decode cX7_shift 8 = .ok (.ifCond .eq 5, 3) := by decide +kernel
theorem dX7_shift_11 : decode cX7_shift 11 = .ok (.iload_n 3, 1) := by decide +kernel
theorem dX7_shift_12 : decode cX7_shift 12 = .ok (.ireturn, 1) := by decide +kernel
theorem dX7_shift_13 : decode cX7_shift 13 = .ok (.aload_n 0, 1) := by decide +kernel
theorem dX7_shift_14 : decode cX7_shift 14 = .ok (.getfield 42, 3) := by decide +kernel
theorem dX7_shift_17 : decode cX7_shift 17 = .ok (.aload_n 0, 1) := by decide +kernel
theorem dX7_shift_18 : decode cX7_shift 18 = .ok (.getfield 10, 3) := by decide +kernel
theorem dX7_shift_21 : decode cX7_shift 21 = .ok (.invokevirtual 81, 3) := by decide +kernel
theorem dX7_shift_24 : decode cX7_shift 24 = .ok (.aload_n 0, 1) := by decide +kernel
theorem dX7_shift_25 : decode cX7_shift 25 = .ok (.getfield 10, 3) := by decide +kernel
theorem dX7_shift_28 : decode cX7_shift 28 = .ok (.iload_n 1, 1) := by decide +kernel
theorem dX7_shift_29 : decode cX7_shift 29 = .ok (.iload_n 2, 1) := by decide +kernel
theorem dX7_shift_30 : decode cX7_shift 30 = .ok (.invokevirtual 131, 3) := by decide +kernel
theorem dX7_shift_33 : decode cX7_shift 33 = .ok (.aload_n 0, 1) := by decide +kernel
theorem dX7_shift_34 : decode cX7_shift 34 = .ok (.invokevirtual 88, 3) := by decide +kernel
theorem dX7_shift_37 : decode cX7_shift 37 = .ok (.iconst 1, 1) := by decide +kernel
theorem dX7_shift_38 : decode cX7_shift 38 = .ok (.ireturn, 1) := by decide +kernel
set_option maxHeartbeats 4000000 in
set_option maxRecDepth 100000 in
theorem c_X7_shift {l : Launch} {X : En} (g : Nat) (x1 : Int32) (x2 : Int32) (M : Mem) (r : Int32) (M9 : Mem) (hf : fn_X7_shift g x1 x2 M = some (r, M9)) : Cn l X yX7_shift cX7_shift 4 (some .int) 4 89 [.ref (X.ad 0), .int x1, .int x2] M (Qi X r M9) := by
  refine Met.ofW (cc := cX7_shift) (maxL := 4) (ret := (some .int)) (by decide) rfl ?_
  intro p e s m args below meth c s₁ B hml hv
  obtain ⟨rfl, hP, hk⟩ := hv
  have hx := B.exec
  have hb := B.bytes
  have hr := B.returns
  have hlocks := B.notSynchronized
  have hts : ∀ w ∈ lw_u, w.before ([.ref (X.ad 0), .int x1, .int x2] : List Value).toArray s = true := fun w hw => atoms_spec (ws := Cond.code yX7_shift cX7_shift 4 (some .int) :: lw_u) B.pre w (List.mem_cons_of_mem _ hw)
  have hown : s.vm.findClass RX7 = some m.cls := findClass_of_methodNamed B.named
  have hZ : Fx p c m s ([.ref (X.ad 0), .int x1, .int x2] : List Value).toArray X cX7_shift 4 RX7 := ⟨hx, hb, hml, hts, hown, hk⟩
  have hS : va_S X.A s.heap s.heap [] := va_S.rf
  have hl := lv_entry ([.ref (X.ad 0), .int x1, .int x2]) (n := 4) (Nat.le_of_ble_eq_true rfl)
  rw [lg_entry_eq]
  generalize (lg_sl ([.ref (X.ad 0), .int x1, .int x2]) ++ List.replicate (4 - (lg_sl ([.ref (X.ad 0), .int x1, .int x2])).length) Slot.unset).toArray = ls at hl ⊢
  have hl : lv_has ls 4 [(0, .ref (X.ad 0)), (1, .int x1), (2, .int x2)] := hl
  show WW p l e 4 89 s m [.ref (X.ad 0), .int x1, .int x2] below meth c X (Qi X r M9) s.heap [] 0 ls []
  have hP : wd X M s.heap := hP
  unfold fn_X7_shift at hf
  have key : ∀ (H : Heap) (locs : List Loc), wd X M H → va_S X.A s.heap H locs → WW p l e 4 89 s m [.ref (X.ad 0), .int x1, .int x2] below meth c X (Qi X r M9) H locs 0 ls [] := by
    intro H locs hP hS
    refine lv_aload_n hx hb dX7_shift_0 rfl (lv_at hl 0 rfl) ?_
    refine lv_iload_n hx hb dX7_shift_1 rfl (lv_at hl 1 rfl) ?_
    refine lv_iload_n hx hb dX7_shift_2 rfl (lv_at hl 2 rfl) ?_
    obtain ⟨r_1, h_r_1, hf⟩ := b_d hf
    refine k_X7_shiftFault hZ hP hS hl.1 wd_2_141 ⟨Nat.le_of_ble_eq_true rfl, Nat.le_of_ble_eq_true rfl⟩ (Nat.le_of_ble_eq_true rfl) dX7_shift_3 ⟨Nat.zero_le _, Nat.zero_le _⟩ h_r_1 (fun H locs hP hS => ?_)
    refine lv_istore_n (lv' := [(3, .int r_1), (0, .ref (X.ad 0)), (1, .int x1), (2, .int x2)]) hx hb dX7_shift_6 rfl hl (by decide) rfl (fun ls hl => ?_)
    refine lv_iload_n hx hb dX7_shift_7 rfl (lv_at hl 0 rfl) ?_
    refine lv_if_eq (tgt := 13) hx hb dX7_shift_8 (by decide) (fun c_2 => ?_) (fun c_2 => ?_)
    · have hf := i_t c_2 hf
      refine lv_aload_n hx hb dX7_shift_13 rfl (lv_at hl 1 rfl) ?_
      refine gX7_4 hx hb hts hown hk hP wd_1_217 dX7_shift_14 ?_
      refine lv_aload_n hx hb dX7_shift_17 rfl (lv_at hl 1 rfl) ?_
      refine gX7_0 hx hb hts hown hk hP wd_1_213 dX7_shift_18 ?_
      obtain ⟨M_3, h_M_3, hf⟩ := b_d hf
      refine k_X2_record hZ hP hS hl.1 wd_2_66 ⟨Nat.le_of_ble_eq_true rfl, Nat.le_of_ble_eq_true rfl⟩ (Nat.le_of_ble_eq_true rfl) dX7_shift_21 ⟨Nat.zero_le _, Nat.zero_le _⟩ isF_1 h_M_3 (fun H locs hP hS => ?_)
      refine lv_aload_n hx hb dX7_shift_24 rfl (lv_at hl 1 rfl) ?_
      refine gX7_0 hx hb hts hown hk hP wd_1_213 dX7_shift_25 ?_
      refine lv_iload_n hx hb dX7_shift_28 rfl (lv_at hl 2 rfl) ?_
      refine lv_iload_n hx hb dX7_shift_29 rfl (lv_at hl 3 rfl) ?_
      obtain ⟨M_4, h_M_4, hf⟩ := b_d hf
      refine k_X1_move hZ hP hS hl.1 wd_2_163 ⟨Nat.le_of_ble_eq_true rfl, Nat.le_of_ble_eq_true rfl⟩ (Nat.le_of_ble_eq_true rfl) dX7_shift_30 ⟨Nat.zero_le _, Nat.zero_le _⟩ isF_1 h_M_4 (fun H locs hP hS => ?_)
      refine lv_aload_n hx hb dX7_shift_33 rfl (lv_at hl 1 rfl) ?_
      obtain ⟨M_5, h_M_5, hf⟩ := b_d hf
      refine k_X7_forgetPieces hZ hP hS hl.1 wd_2_78 ⟨Nat.le_of_ble_eq_true rfl, Nat.le_of_ble_eq_true rfl⟩ (Nat.le_of_ble_eq_true rfl) dX7_shift_34 ⟨Nat.zero_le _, Nat.zero_le _⟩ h_M_5 (fun H locs hP hS => ?_)
      refine lv_iconst (v := (1 : Int32)) hx hb dX7_shift_37 (by decide) ?_
      have hf := Option.some.inj hf
      obtain ⟨e1, e2⟩ := Prod.mk.inj hf
      rw [e2] at hP
      exact ret_i hx hb hr hlocks hP hS e1 dX7_shift_38
    · have hf := i_f c_2 hf
      refine lv_iload_n hx hb dX7_shift_11 rfl (lv_at hl 0 rfl) ?_
      have hf := Option.some.inj hf
      obtain ⟨e1, e2⟩ := Prod.mk.inj hf
      rw [e2] at hP
      exact ret_i hx hb hr hlocks hP hS e1 dX7_shift_12
  exact key s.heap [] hP hS
theorem hd_X7_shift : Hd yX7_shift 2 := by decide +kernel
theorem k_X7_shift {p : Program} {l : Launch} {e : Env} {R : Room} {s : State} {m : MethodId} {args : Array Value} {below : List Frame} {meth : Method} {c : Code} {H : Heap} {locs : List Loc} {cells slots : Nat} {Q : State → Prop} {cc : ByteArray} {nL pc index : Nat} {ls : Array Slot} {rest : List Value} {X : En} {M : Mem} {H0 : Heap} {own : String} {g : Nat} {x1 : Int32} {x2 : Int32} {r : Int32} {M9 : Mem} (hZ : Fx p c m s args X cc nL own) (hP : wd X M H) (hS : va_S X.A H0 H locs) (hsz : ls.size = nL) (hlk : Cond.methodLink own index yX7_shift ∈ lw_u) (hR : 4 + 1 ≤ R.frames ∧ 8 + (4 + 11) + 89 ≤ R.locals) (hW : (rest.map fun v => v.category).sum ≤ 8) (hdg : decode cc pc = .ok (.invokevirtual index, 3)) (hcs : cells ≤ R.cells ∧ slots ≤ R.slots) (hf : fn_X7_shift g x1 x2 M = some (r, M9))
    (kk : ∀ (H1 : Heap) (locs1 : List Loc), wd X M9 H1 → va_S X.A H0 H1 locs1 → W p l e R s m args below meth c H1 locs1 cells slots Q (F0 m (pc + 3) ls (.int r :: rest))) : W p l e R s m args below meth c H locs cells slots Q (F0 m pc ls (.int x2 :: .int x1 :: .ref (X.ad 0) :: rest)) :=
  cal_i (runV (As := [.int x1, .int x2]) (rest := rest) hZ.1 hZ.2.1 hZ.2.2.1 hZ.2.2.2.1 hZ.2.2.2.2.1 hZ.2.2.2.2.2 hP (c_X7_shift g x1 x2 M r M9 hf) wd_2_140 wd_2_138 wd_2_139 wd_1_1 hd_X7_shift (by decide) rfl rfl rfl hlk hR hsz rfl hW hdg hcs) hS kk
/-! FrameRaiser.isCoordinate -/
def fn_X7_isCoordinate (x0 : Int32) : Int32 :=
  if x0 < 0 then
    ((0 : Int32))
  else
    (if (6 : Int32) ≤ x0 then
      ((0 : Int32))
    else
      ((1 : Int32)))
theorem dX7_isCoordinate_0 : decode cX7_isCoordinate 0 = .ok (.iload_n 0, 1) := by decide +kernel
theorem dX7_isCoordinate_1 : decode cX7_isCoordinate 1 = .ok (.ifCond .lt 13, 3) := by decide +kernel
theorem dX7_isCoordinate_4 : decode cX7_isCoordinate 4 = .ok (.iload_n 0, 1) := by decide +kernel
theorem dX7_isCoordinate_5 : decode cX7_isCoordinate 5 = .ok (.bipush 6, 2) := by decide +kernel
theorem dX7_isCoordinate_7 : decode cX7_isCoordinate 7 = .ok (.if_icmp .ge 7, 3) := by decide +kernel
theorem dX7_isCoordinate_10 : decode cX7_isCoordinate 10 = .ok (.iconst 1, 1) := by decide +kernel
theorem dX7_isCoordinate_11 : decode cX7_isCoordinate 11 = .ok (.goto 4, 3) := by decide +kernel
theorem dX7_isCoordinate_14 : decode cX7_isCoordinate 14 = .ok (.iconst 0, 1) := by decide +kernel
theorem dX7_isCoordinate_15 : decode cX7_isCoordinate 15 = .ok (.ireturn, 1) := by decide +kernel
theorem z_X7_isCoordinate (x0 : Int32) : isZ (fn_X7_isCoordinate x0) := by
  unfold fn_X7_isCoordinate
  repeat' (first | exact isZ_0 | exact isZ_1 | exact z_X8_in _ _ _ | split)
set_option maxHeartbeats 4000000 in
set_option maxRecDepth 100000 in
theorem c_X7_isCoordinate {l : Launch} {X : En} (x0 : Int32) (M : Mem) (r : Int32) (hf : fn_X7_isCoordinate x0 = r) : Cn l X yX7_isCoordinate cX7_isCoordinate 1 (some .boolean) 0 0 [.int x0] M (Qi X r M) := by
  refine Met.ofW (cc := cX7_isCoordinate) (maxL := 1) (ret := (some .boolean)) (by decide) rfl ?_
  intro p e s m args below meth c s₁ B hml hv
  obtain ⟨rfl, hP, hk⟩ := hv
  have hx := B.exec
  have hb := B.bytes
  have hr := B.returns
  have hlocks := B.notSynchronized
  have hts : ∀ w ∈ lw_u, w.before ([.int x0] : List Value).toArray s = true := fun w hw => atoms_spec (ws := Cond.code yX7_isCoordinate cX7_isCoordinate 1 (some .boolean) :: lw_u) B.pre w (List.mem_cons_of_mem _ hw)
  have hown : s.vm.findClass RX7 = some m.cls := findClass_of_methodNamed B.named
  have hZ : Fx p c m s ([.int x0] : List Value).toArray X cX7_isCoordinate 1 RX7 := ⟨hx, hb, hml, hts, hown, hk⟩
  have hS : va_S X.A s.heap s.heap [] := va_S.rf
  have hl := lv_entry ([.int x0]) (n := 1) (Nat.le_of_ble_eq_true rfl)
  rw [lg_entry_eq]
  generalize (lg_sl ([.int x0]) ++ List.replicate (1 - (lg_sl ([.int x0])).length) Slot.unset).toArray = ls at hl ⊢
  have hl : lv_has ls 1 [(0, .int x0)] := hl
  show WW p l e 0 0 s m [.int x0] below meth c X (Qi X r M) s.heap [] 0 ls []
  have hP : wd X M s.heap := hP
  unfold fn_X7_isCoordinate at hf
  have key : ∀ (H : Heap) (locs : List Loc), wd X M H → va_S X.A s.heap H locs → WW p l e 0 0 s m [.int x0] below meth c X (Qi X r M) H locs 0 ls [] := by
    intro H locs hP hS
    refine lv_iload_n hx hb dX7_isCoordinate_0 rfl (lv_at hl 0 rfl) ?_
    refine lv_if_lt (tgt := 14) hx hb dX7_isCoordinate_1 (by decide) (fun c_1 => ?_) (fun c_1 => ?_)
    · have hf := i_t c_1 hf
      refine lv_iconst (v := (0 : Int32)) hx hb dX7_isCoordinate_14 (by decide) ?_
      exact ret_z hx hb hr hlocks hP hS isZ_0 hf dX7_isCoordinate_15
    · have hf := i_f c_1 hf
      refine lv_iload_n hx hb dX7_isCoordinate_4 rfl (lv_at hl 0 rfl) ?_
      refine lv_bipush (v := (6 : Int32)) hx hb dX7_isCoordinate_5 (by decide) ?_
      refine lv_icmp_ge (tgt := 14) hx hb dX7_isCoordinate_7 (by decide) (fun c_2 => ?_) (fun c_2 => ?_)
      · have hf := i_t c_2 hf
        refine lv_iconst (v := (0 : Int32)) hx hb dX7_isCoordinate_14 (by decide) ?_
        exact ret_z hx hb hr hlocks hP hS isZ_0 hf dX7_isCoordinate_15
      · have hf := i_f c_2 hf
        refine lv_iconst (v := (1 : Int32)) hx hb dX7_isCoordinate_10 (by decide) ?_
        refine lv_goto (tgt := 15) hx hb dX7_isCoordinate_11 (by decide) ?_
        exact ret_z hx hb hr hlocks hP hS isZ_1 hf dX7_isCoordinate_15
  exact key s.heap [] hP hS
theorem hd_X7_isCoordinate : Hd yX7_isCoordinate 1 := by decide +kernel
theorem k_X7_isCoordinate {p : Program} {l : Launch} {e : Env} {R : Room} {s : State} {m : MethodId} {args : Array Value} {below : List Frame} {meth : Method} {c : Code} {H : Heap} {locs : List Loc} {cells slots : Nat} {Q : State → Prop} {cc : ByteArray} {nL pc index : Nat} {ls : Array Slot} {rest : List Value} {X : En} {M : Mem} {H0 : Heap} {own : String} {x0 : Int32} (hZ : Fx p c m s args X cc nL own) (hP : wd X M H) (hS : va_S X.A H0 H locs) (hsz : ls.size = nL) (hlk : Cond.methodLink own index yX7_isCoordinate ∈ lw_u) (hR : 0 + 1 ≤ R.frames ∧ 8 + (1 + 11) + 0 ≤ R.locals) (hW : (rest.map fun v => v.category).sum ≤ 8) (hdg : decode cc pc = .ok (.invokestatic index, 3)) (hcs : cells ≤ R.cells ∧ slots ≤ R.slots)
    (kk : ∀ (H1 : Heap) (locs1 : List Loc), wd X M H1 → va_S X.A H0 H1 locs1 → W p l e R s m args below meth c H1 locs1 cells slots Q (F0 m (pc + 3) ls (.int (fn_X7_isCoordinate x0) :: rest))) : W p l e R s m args below meth c H locs cells slots Q (F0 m pc ls (.int x0 :: rest)) :=
  cal_i (runS (As := [.int x0]) (rest := rest) hZ.1 hZ.2.1 hZ.2.2.1 hZ.2.2.2.1 hZ.2.2.2.2.1 hZ.2.2.2.2.2 hP (c_X7_isCoordinate x0 M _ rfl) wd_2_173 wd_2_172 wd_1_1 hd_X7_isCoordinate rfl hlk hR hsz rfl hW hdg hcs) hS kk
/-! FrameRaiser.pieceAt -/
def fn_X7_pieceAt (x1 : Int32) (x2 : Int32) (x3 : Int32) (M : Mem) : Option (Int32) :=
  if (fn_X7_isCoordinate x1) = 0 then
    (some (-1 : Int32))
  else
    (if (fn_X7_isCoordinate x2) = 0 then
      (some (-1 : Int32))
    else
      (if (fn_X7_isCoordinate x3) = 0 then
        (some (-1 : Int32))
      else
        (if inb ((x1 + ((6 : Int32) * x2)) + ((36 : Int32) * x3)) 216 then
        bv (M 2 (ix ((x1 + ((6 : Int32) * x2)) + ((36 : Int32) * x3)))) fun v4_5 =>
        if v4_5 = (-1 : Int32) then
          (some (-9 : Int32))
        else
          (some v4_5)
        else none)))
theorem dX7_pieceAt_0 : decode cX7_pieceAt 0 = .ok (.iload_n 1, 1) := by decide +kernel
theorem dX7_pieceAt_1 : decode cX7_pieceAt 1 = .ok (.invokestatic 135, 3) := by decide +kernel
theorem dX7_pieceAt_4 : decode cX7_pieceAt 4 = .ok (.ifCond .eq 17, 3) := by decide +kernel
theorem dX7_pieceAt_7 : decode cX7_pieceAt 7 = .ok (.iload_n 2, 1) := by decide +kernel
theorem dX7_pieceAt_8 : decode cX7_pieceAt 8 = .ok (.invokestatic 135, 3) := by decide +kernel
theorem dX7_pieceAt_11 : decode cX7_pieceAt 11 = .ok (.ifCond .eq 10, 3) := by decide +kernel
theorem dX7_pieceAt_14 : decode cX7_pieceAt 14 = .ok (.iload_n 3, 1) := by decide +kernel
theorem dX7_pieceAt_15 : decode cX7_pieceAt 15 = .ok (.invokestatic 135, 3) := by decide +kernel
theorem dX7_pieceAt_18 : decode cX7_pieceAt 18 = .ok (.ifCond .ne 5, 3) := by decide +kernel
theorem dX7_pieceAt_21 : decode cX7_pieceAt 21 = .ok (.iconst (-1), 1) := by decide +kernel
theorem dX7_pieceAt_22 : decode cX7_pieceAt 22 = .ok (.ireturn, 1) := by decide +kernel
theorem dX7_pieceAt_23 : decode cX7_pieceAt 23 = .ok (.aload_n 0, 1) := by decide +kernel
theorem dX7_pieceAt_24 : decode cX7_pieceAt 24 = .ok (.getfield 10, 3) := by decide +kernel
theorem dX7_pieceAt_27 : decode cX7_pieceAt 27 = .ok (.getfield 138, 3) := by decide +kernel
theorem dX7_pieceAt_30 : decode cX7_pieceAt 30 = .ok (.iload_n 1, 1) := by decide +kernel
theorem dX7_pieceAt_31 : decode cX7_pieceAt 31 = .ok (.bipush 6, 2) := by decide +kernel
theorem dX7_pieceAt_33 : decode cX7_pieceAt 33 = .ok (.iload_n 2, 1) := by decide +kernel
theorem dX7_pieceAt_34 : decode cX7_pieceAt 34 = .ok (.imul, 1) := by decide +kernel
theorem dX7_pieceAt_35 : decode cX7_pieceAt 35 = .ok (.iadd, 1) := by decide +kernel
theorem dX7_pieceAt_36 : decode cX7_pieceAt 36 = .ok (.bipush 36, 2) := by decide +kernel
theorem dX7_pieceAt_38 : decode cX7_pieceAt 38 = .ok (.iload_n 3, 1) := by decide +kernel
theorem dX7_pieceAt_39 : decode cX7_pieceAt 39 = .ok (.imul, 1) := by decide +kernel
theorem dX7_pieceAt_40 : decode cX7_pieceAt 40 = .ok (.iadd, 1) := by decide +kernel
theorem dX7_pieceAt_41 : decode cX7_pieceAt 41 = .ok (.iaload, 1) := by decide +kernel
theorem dX7_pieceAt_42 : decode cX7_pieceAt 42 = .ok (.istore 4, 2) := by decide +kernel
theorem dX7_pieceAt_44 : decode cX7_pieceAt 44 = .ok (.iload 4, 2) := by decide +kernel
theorem dX7_pieceAt_46 : decode cX7_pieceAt 46 = .ok (.iconst (-1), 1) := by decide +kernel
theorem dX7_pieceAt_47 : decode cX7_pieceAt 47 = .ok (.if_icmp .ne 8, 3) := by decide +kernel
theorem dX7_pieceAt_50 : decode cX7_pieceAt 50 = .ok (.bipush (-9), 2) := by decide +kernel
theorem dX7_pieceAt_52 : decode cX7_pieceAt 52 = .ok (.goto 5, 3) := by decide +kernel
theorem dX7_pieceAt_55 : decode cX7_pieceAt 55 = .ok (.iload 4, 2) := by decide +kernel
theorem dX7_pieceAt_57 : decode cX7_pieceAt 57 = .ok (.ireturn, 1) := by decide +kernel
set_option maxHeartbeats 4000000 in
set_option maxRecDepth 100000 in
theorem c_X7_pieceAt {l : Launch} {X : En} (x1 : Int32) (x2 : Int32) (x3 : Int32) (M : Mem) (r : Int32) (hf : fn_X7_pieceAt x1 x2 x3 M = some r) : Cn l X yX7_pieceAt cX7_pieceAt 5 (some .int) 1 20 [.ref (X.ad 0), .int x1, .int x2, .int x3] M (Qi X r M) := by
  refine Met.ofW (cc := cX7_pieceAt) (maxL := 5) (ret := (some .int)) (by decide) rfl ?_
  intro p e s m args below meth c s₁ B hml hv
  obtain ⟨rfl, hP, hk⟩ := hv
  have hx := B.exec
  have hb := B.bytes
  have hr := B.returns
  have hlocks := B.notSynchronized
  have hts : ∀ w ∈ lw_u, w.before ([.ref (X.ad 0), .int x1, .int x2, .int x3] : List Value).toArray s = true := fun w hw => atoms_spec (ws := Cond.code yX7_pieceAt cX7_pieceAt 5 (some .int) :: lw_u) B.pre w (List.mem_cons_of_mem _ hw)
  have hown : s.vm.findClass RX7 = some m.cls := findClass_of_methodNamed B.named
  have hZ : Fx p c m s ([.ref (X.ad 0), .int x1, .int x2, .int x3] : List Value).toArray X cX7_pieceAt 5 RX7 := ⟨hx, hb, hml, hts, hown, hk⟩
  have hS : va_S X.A s.heap s.heap [] := va_S.rf
  have hl := lv_entry ([.ref (X.ad 0), .int x1, .int x2, .int x3]) (n := 5) (Nat.le_of_ble_eq_true rfl)
  rw [lg_entry_eq]
  generalize (lg_sl ([.ref (X.ad 0), .int x1, .int x2, .int x3]) ++ List.replicate (5 - (lg_sl ([.ref (X.ad 0), .int x1, .int x2, .int x3])).length) Slot.unset).toArray = ls at hl ⊢
  have hl : lv_has ls 5 [(0, .ref (X.ad 0)), (1, .int x1), (2, .int x2), (3, .int x3)] := hl
  show WW p l e 1 20 s m [.ref (X.ad 0), .int x1, .int x2, .int x3] below meth c X (Qi X r M) s.heap [] 0 ls []
  have hP : wd X M s.heap := hP
  unfold fn_X7_pieceAt at hf
  have key : ∀ (H : Heap) (locs : List Loc), wd X M H → va_S X.A s.heap H locs → WW p l e 1 20 s m [.ref (X.ad 0), .int x1, .int x2, .int x3] below meth c X (Qi X r M) H locs 0 ls [] := by
    intro H locs hP hS
    refine lv_iload_n hx hb dX7_pieceAt_0 rfl (lv_at hl 1 rfl) ?_
    refine k_X7_isCoordinate hZ hP hS hl.1 wd_2_171 ⟨Nat.le_of_ble_eq_true rfl, Nat.le_of_ble_eq_true rfl⟩ (Nat.le_of_ble_eq_true rfl) dX7_pieceAt_1 ⟨Nat.zero_le _, Nat.zero_le _⟩ (fun H locs hP hS => ?_)
    refine lv_if_eq (tgt := 21) hx hb dX7_pieceAt_4 (by decide) (fun c_1 => ?_) (fun c_1 => ?_)
    · have hf := i_t c_1 hf
      refine lv_iconst (v := (-1 : Int32)) hx hb dX7_pieceAt_21 (by decide) ?_
      have hf := Option.some.inj hf
      exact ret_i hx hb hr hlocks hP hS hf dX7_pieceAt_22
    · have hf := i_f c_1 hf
      refine lv_iload_n hx hb dX7_pieceAt_7 rfl (lv_at hl 2 rfl) ?_
      refine k_X7_isCoordinate hZ hP hS hl.1 wd_2_171 ⟨Nat.le_of_ble_eq_true rfl, Nat.le_of_ble_eq_true rfl⟩ (Nat.le_of_ble_eq_true rfl) dX7_pieceAt_8 ⟨Nat.zero_le _, Nat.zero_le _⟩ (fun H locs hP hS => ?_)
      refine lv_if_eq (tgt := 21) hx hb dX7_pieceAt_11 (by decide) (fun c_2 => ?_) (fun c_2 => ?_)
      · have hf := i_t c_2 hf
        refine lv_iconst (v := (-1 : Int32)) hx hb dX7_pieceAt_21 (by decide) ?_
        have hf := Option.some.inj hf
        exact ret_i hx hb hr hlocks hP hS hf dX7_pieceAt_22
      · have hf := i_f c_2 hf
        refine lv_iload_n hx hb dX7_pieceAt_14 rfl (lv_at hl 3 rfl) ?_
        refine k_X7_isCoordinate hZ hP hS hl.1 wd_2_171 ⟨Nat.le_of_ble_eq_true rfl, Nat.le_of_ble_eq_true rfl⟩ (Nat.le_of_ble_eq_true rfl) dX7_pieceAt_15 ⟨Nat.zero_le _, Nat.zero_le _⟩ (fun H locs hP hS => ?_)
        refine lv_if_ne (tgt := 23) hx hb dX7_pieceAt_18 (by decide) (fun c_3 => ?_) (fun c_3 => ?_)
        · have hf := i_f c_3 hf
          refine lv_aload_n hx hb dX7_pieceAt_23 rfl (lv_at hl 0 rfl) ?_
          refine gX7_0 hx hb hts hown hk hP wd_1_213 dX7_pieceAt_24 ?_
          refine gX1_0 hx hb hts hown hk hP isF_1 wd_1_34 dX7_pieceAt_27 ?_
          refine lv_iload_n hx hb dX7_pieceAt_30 rfl (lv_at hl 1 rfl) ?_
          refine lv_bipush (v := (6 : Int32)) hx hb dX7_pieceAt_31 (by decide) ?_
          refine lv_iload_n hx hb dX7_pieceAt_33 rfl (lv_at hl 2 rfl) ?_
          refine lv_imul hx hb dX7_pieceAt_34 ?_
          refine lv_iadd hx hb dX7_pieceAt_35 ?_
          refine lv_bipush (v := (36 : Int32)) hx hb dX7_pieceAt_36 (by decide) ?_
          refine lv_iload_n hx hb dX7_pieceAt_38 rfl (lv_at hl 3 rfl) ?_
          refine lv_imul hx hb dX7_pieceAt_39 ?_
          refine lv_iadd hx hb dX7_pieceAt_40 ?_
          obtain ⟨q_4, hf⟩ := g_if hf
          refine ald hx hb hk hP (by decide) rfl q_4 dX7_pieceAt_41 ?_
          refine lv_topi (fun v4_5 e_v4_5 => ?_)
          have hf := b_v hf e_v4_5
          refine lv_istore (lv' := [(4, .int v4_5), (0, .ref (X.ad 0)), (1, .int x1), (2, .int x2), (3, .int x3)]) hx hb dX7_pieceAt_42 hl (by decide) rfl (fun ls hl => ?_)
          refine lv_iload hx hb dX7_pieceAt_44 (lv_at hl 0 rfl) ?_
          refine lv_iconst (v := (-1 : Int32)) hx hb dX7_pieceAt_46 (by decide) ?_
          refine lv_icmp_ne (tgt := 55) hx hb dX7_pieceAt_47 (by decide) (fun c_6 => ?_) (fun c_6 => ?_)
          · have hf := i_f c_6 hf
            refine lv_iload hx hb dX7_pieceAt_55 (lv_at hl 0 rfl) ?_
            have hf := Option.some.inj hf
            exact ret_i hx hb hr hlocks hP hS hf dX7_pieceAt_57
          · have hf := i_t c_6 hf
            refine lv_bipush (v := (-9 : Int32)) hx hb dX7_pieceAt_50 (by decide) ?_
            refine lv_goto (tgt := 57) hx hb dX7_pieceAt_52 (by decide) ?_
            have hf := Option.some.inj hf
            exact ret_i hx hb hr hlocks hP hS hf dX7_pieceAt_57
        · have hf := i_t c_3 hf
          refine lv_iconst (v := (-1 : Int32)) hx hb dX7_pieceAt_21 (by decide) ?_
          have hf := Option.some.inj hf
          exact ret_i hx hb hr hlocks hP hS hf dX7_pieceAt_22
  exact key s.heap [] hP hS
theorem hd_X7_pieceAt : Hd yX7_pieceAt 3 := by decide +kernel
theorem k_X7_pieceAt {p : Program} {l : Launch} {e : Env} {R : Room} {s : State} {m : MethodId} {args : Array Value} {below : List Frame} {meth : Method} {c : Code} {H : Heap} {locs : List Loc} {cells slots : Nat} {Q : State → Prop} {cc : ByteArray} {nL pc index : Nat} {ls : Array Slot} {rest : List Value} {X : En} {M : Mem} {H0 : Heap} {own : String} {x1 : Int32} {x2 : Int32} {x3 : Int32} {r : Int32} (hZ : Fx p c m s args X cc nL own) (hP : wd X M H) (hS : va_S X.A H0 H locs) (hsz : ls.size = nL) (hlk : Cond.methodLink own index yX7_pieceAt ∈ lw_u) (hR : 1 + 1 ≤ R.frames ∧ 8 + (5 + 11) + 20 ≤ R.locals) (hW : (rest.map fun v => v.category).sum ≤ 8) (hdg : decode cc pc = .ok (.invokevirtual index, 3)) (hcs : cells ≤ R.cells ∧ slots ≤ R.slots) (hf : fn_X7_pieceAt x1 x2 x3 M = some r)
    (kk : ∀ (H1 : Heap) (locs1 : List Loc), wd X M H1 → va_S X.A H0 H1 locs1 → W p l e R s m args below meth c H1 locs1 cells slots Q (F0 m (pc + 3) ls (.int r :: rest))) : W p l e R s m args below meth c H locs cells slots Q (F0 m pc ls (.int x3 :: .int x2 :: .int x1 :: .ref (X.ad 0) :: rest)) :=
  cal_i (runV (As := [.int x1, .int x2, .int x3]) (rest := rest) hZ.1 hZ.2.1 hZ.2.2.1 hZ.2.2.2.1 hZ.2.2.2.2.1 hZ.2.2.2.2.2 hP (c_X7_pieceAt x1 x2 x3 M r hf) wd_2_170 wd_2_168 wd_2_169 wd_1_1 hd_X7_pieceAt (by decide) rfl rfl rfl hlk hR hsz rfl hW hdg hcs) hS kk
/-! FrameRaiser.has -/
def fn_X7_has (x0 : Int32) (x1 : Int32) : Int32 :=
  if ((sr x0 x1) &&& (1 : Int32)) = (1 : Int32) then
    ((1 : Int32))
  else
    ((0 : Int32))
theorem dX7_has_0 : decode cX7_has 0 = .ok (.iload_n 0, 1) := by decide +kernel
theorem dX7_has_1 : decode cX7_has 1 = .ok (.iload_n 1, 1) := by decide +kernel
theorem dX7_has_2 : decode cX7_has 2 = .ok (.ishr, 1) := by decide +kernel
theorem dX7_has_3 : decode cX7_has 3 = .ok (.iconst 1, 1) := by decide +kernel
theorem dX7_has_4 : decode cX7_has 4 = .ok (.iand, 1) := by decide +kernel
theorem dX7_has_5 : decode cX7_has 5 = .ok (.iconst 1, 1) := by decide +kernel
theorem dX7_has_6 : decode cX7_has 6 = .ok (.if_icmp .ne 7, 3) := by decide +kernel
theorem dX7_has_9 : decode cX7_has 9 = .ok (.iconst 1, 1) := by decide +kernel
theorem dX7_has_10 : decode cX7_has 10 = .ok (.goto 4, 3) := by decide +kernel
theorem dX7_has_13 : decode cX7_has 13 = .ok (.iconst 0, 1) := by decide +kernel
theorem dX7_has_14 : decode cX7_has 14 = .ok (.ireturn, 1) := by decide +kernel
theorem z_X7_has (x0 : Int32) (x1 : Int32) : isZ (fn_X7_has x0 x1) := by
  unfold fn_X7_has
  repeat' (first | exact isZ_0 | exact isZ_1 | exact z_X8_in _ _ _ | split)
set_option maxHeartbeats 4000000 in
set_option maxRecDepth 100000 in
theorem c_X7_has {l : Launch} {X : En} (x0 : Int32) (x1 : Int32) (M : Mem) (r : Int32) (hf : fn_X7_has x0 x1 = r) : Cn l X yX7_has cX7_has 2 (some .boolean) 0 0 [.int x0, .int x1] M (Qi X r M) := by
  refine Met.ofW (cc := cX7_has) (maxL := 2) (ret := (some .boolean)) (by decide) rfl ?_
  intro p e s m args below meth c s₁ B hml hv
  obtain ⟨rfl, hP, hk⟩ := hv
  have hx := B.exec
  have hb := B.bytes
  have hr := B.returns
  have hlocks := B.notSynchronized
  have hts : ∀ w ∈ lw_u, w.before ([.int x0, .int x1] : List Value).toArray s = true := fun w hw => atoms_spec (ws := Cond.code yX7_has cX7_has 2 (some .boolean) :: lw_u) B.pre w (List.mem_cons_of_mem _ hw)
  have hown : s.vm.findClass RX7 = some m.cls := findClass_of_methodNamed B.named
  have hZ : Fx p c m s ([.int x0, .int x1] : List Value).toArray X cX7_has 2 RX7 := ⟨hx, hb, hml, hts, hown, hk⟩
  have hS : va_S X.A s.heap s.heap [] := va_S.rf
  have hl := lv_entry ([.int x0, .int x1]) (n := 2) (Nat.le_of_ble_eq_true rfl)
  rw [lg_entry_eq]
  generalize (lg_sl ([.int x0, .int x1]) ++ List.replicate (2 - (lg_sl ([.int x0, .int x1])).length) Slot.unset).toArray = ls at hl ⊢
  have hl : lv_has ls 2 [(0, .int x0), (1, .int x1)] := hl
  show WW p l e 0 0 s m [.int x0, .int x1] below meth c X (Qi X r M) s.heap [] 0 ls []
  have hP : wd X M s.heap := hP
  unfold fn_X7_has at hf
  have key : ∀ (H : Heap) (locs : List Loc), wd X M H → va_S X.A s.heap H locs → WW p l e 0 0 s m [.int x0, .int x1] below meth c X (Qi X r M) H locs 0 ls [] := by
    intro H locs hP hS
    refine lv_iload_n hx hb dX7_has_0 rfl (lv_at hl 0 rfl) ?_
    refine lv_iload_n hx hb dX7_has_1 rfl (lv_at hl 1 rfl) ?_
    refine rw_ishr hx hb dX7_has_2 ?_
    refine lv_iconst (v := (1 : Int32)) hx hb dX7_has_3 (by decide) ?_
    refine lv_iand hx hb dX7_has_4 ?_
    refine lv_iconst (v := (1 : Int32)) hx hb dX7_has_5 (by decide) ?_
    refine lv_icmp_ne (tgt := 13) hx hb dX7_has_6 (by decide) (fun c_1 => ?_) (fun c_1 => ?_)
    · have hf := i_f c_1 hf
      refine lv_iconst (v := (0 : Int32)) hx hb dX7_has_13 (by decide) ?_
      exact ret_z hx hb hr hlocks hP hS isZ_0 hf dX7_has_14
    · have hf := i_t c_1 hf
      refine lv_iconst (v := (1 : Int32)) hx hb dX7_has_9 (by decide) ?_
      refine lv_goto (tgt := 14) hx hb dX7_has_10 (by decide) ?_
      exact ret_z hx hb hr hlocks hP hS isZ_1 hf dX7_has_14
  exact key s.heap [] hP hS
theorem hd_X7_has : Hd yX7_has 2 := by decide +kernel
theorem k_X7_has {p : Program} {l : Launch} {e : Env} {R : Room} {s : State} {m : MethodId} {args : Array Value} {below : List Frame} {meth : Method} {c : Code} {H : Heap} {locs : List Loc} {cells slots : Nat} {Q : State → Prop} {cc : ByteArray} {nL pc index : Nat} {ls : Array Slot} {rest : List Value} {X : En} {M : Mem} {H0 : Heap} {own : String} {x0 : Int32} {x1 : Int32} (hZ : Fx p c m s args X cc nL own) (hP : wd X M H) (hS : va_S X.A H0 H locs) (hsz : ls.size = nL) (hlk : Cond.methodLink own index yX7_has ∈ lw_u) (hR : 0 + 1 ≤ R.frames ∧ 8 + (2 + 11) + 0 ≤ R.locals) (hW : (rest.map fun v => v.category).sum ≤ 8) (hdg : decode cc pc = .ok (.invokestatic index, 3)) (hcs : cells ≤ R.cells ∧ slots ≤ R.slots)
    (kk : ∀ (H1 : Heap) (locs1 : List Loc), wd X M H1 → va_S X.A H0 H1 locs1 → W p l e R s m args below meth c H1 locs1 cells slots Q (F0 m (pc + 3) ls (.int (fn_X7_has x0 x1) :: rest))) : W p l e R s m args below meth c H locs cells slots Q (F0 m pc ls (.int x1 :: .int x0 :: rest)) :=
  cal_i (runS (As := [.int x0, .int x1]) (rest := rest) hZ.1 hZ.2.1 hZ.2.2.1 hZ.2.2.2.1 hZ.2.2.2.2.1 hZ.2.2.2.2.2 hP (c_X7_has x0 x1 M _ rfl) wd_2_180 wd_2_179 wd_1_1 hd_X7_has rfl hlk hR hsz rfl hW hdg hcs) hS kk
theorem kn_X7_has {p : Program} {l : Launch} {e : Env} {R : Room} {s : State} {m : MethodId} {args : Array Value} {below : List Frame} {meth : Method} {c : Code} {H : Heap} {locs : List Loc} {cells slots : Nat} {Q : State → Prop} {cc : ByteArray} {nL pc index : Nat} {ls : Array Slot} {rest : List Value} {X : En} {M : Mem} {H0 : Heap} {own : String} {x0 : Int32} {x1 : Int32} (hZ : Fx p c m s args X cc nL own) (hP : wd X M H) (hS : va_S X.A H0 H locs) (hsz : ls.size = nL) (hlk : va_Nw (Cond.methodLinkNest own index yX7_has RX7) s) (hR : 0 + 1 ≤ R.frames ∧ 8 + (2 + 11) + 0 ≤ R.locals) (hW : (rest.map fun v => v.category).sum ≤ 8) (hdg : decode cc pc = .ok (.invokestatic index, 3)) (hcs : cells ≤ R.cells ∧ slots ≤ R.slots)
    (kk : ∀ (H1 : Heap) (locs1 : List Loc), wd X M H1 → va_S X.A H0 H1 locs1 → W p l e R s m args below meth c H1 locs1 cells slots Q (F0 m (pc + 3) ls (.int (fn_X7_has x0 x1) :: rest))) : W p l e R s m args below meth c H locs cells slots Q (F0 m pc ls (.int x1 :: .int x0 :: rest)) :=
  cal_i (runSN (As := [.int x0, .int x1]) (rest := rest) hZ.1 hZ.2.1 hZ.2.2.1 hZ.2.2.2.1 hZ.2.2.2.2.1 hZ.2.2.2.2.2 hP (c_X7_has x0 x1 M _ rfl) wd_2_180 wd_2_179 wd_1_1 hd_X7_has rfl hlk hR hsz rfl hW hdg hcs) hS kk
end
