section
-- ===== PART A: goes FIRST, ahead of the names: the tables' words, and 'selects' of the private methods out of them =====
/-- a private method of a class that the tables say can be made, by its rows of tables_1 -/
def lw_okq (q : MethodName × Nat) : Prop := (q.1.cls ≠ "java/lang/invoke/MethodHandle" ∧ q.1.cls ≠ "java/lang/invoke/VarHandle") ∧ Cond.instantiable q.1.cls q.2 ∈ tables_1 ∧ Cond.privateMethod q.1 ∈ tables_1 ∧ Cond.instanceMethod q.1 ∈ tables_1
theorem lw_p0 : lw_okq (⟨"StripeDisk", "layOut", "(II)V"⟩, 9) := ⟨⟨by decide +kernel, by decide +kernel⟩, List.mem_of_getElem? (i := 8) (by decide +kernel), List.mem_of_getElem? (i := 72) (by decide +kernel), List.mem_of_getElem? (i := 73) (by decide +kernel)⟩
theorem lw_p1 : lw_okq (⟨"StripeDisk", "finishLabel", "()V"⟩, 9) := ⟨⟨by decide +kernel, by decide +kernel⟩, List.mem_of_getElem? (i := 8) (by decide +kernel), List.mem_of_getElem? (i := 100) (by decide +kernel), List.mem_of_getElem? (i := 101) (by decide +kernel)⟩
theorem lw_p2 : lw_okq (⟨"StripeDisk", "writeLabel", "(J)V"⟩, 9) := ⟨⟨by decide +kernel, by decide +kernel⟩, List.mem_of_getElem? (i := 8) (by decide +kernel), List.mem_of_getElem? (i := 105) (by decide +kernel), List.mem_of_getElem? (i := 106) (by decide +kernel)⟩
theorem lw_p3 : lw_okq (⟨"StripeDisk$Labels", "put", "(III)V"⟩, 7) := ⟨⟨by decide +kernel, by decide +kernel⟩, List.mem_of_getElem? (i := 41) (by decide +kernel), List.mem_of_getElem? (i := 116) (by decide +kernel), List.mem_of_getElem? (i := 117) (by decide +kernel)⟩
theorem lw_p4 : lw_okq (⟨"StripeDisk", "blocks", "()I"⟩, 9) := ⟨⟨by decide +kernel, by decide +kernel⟩, List.mem_of_getElem? (i := 8) (by decide +kernel), List.mem_of_getElem? (i := 156) (by decide +kernel), List.mem_of_getElem? (i := 157) (by decide +kernel)⟩
theorem lw_p5 : lw_okq (⟨"StripeDisk", "isByte", "(II)Z"⟩, 9) := ⟨⟨by decide +kernel, by decide +kernel⟩, List.mem_of_getElem? (i := 8) (by decide +kernel), List.mem_of_getElem? (i := 164) (by decide +kernel), List.mem_of_getElem? (i := 165) (by decide +kernel)⟩
theorem lw_p6 : lw_okq (⟨"StripeDisk", "rowOf", "(I)I"⟩, 9) := ⟨⟨by decide +kernel, by decide +kernel⟩, List.mem_of_getElem? (i := 8) (by decide +kernel), List.mem_of_getElem? (i := 172) (by decide +kernel), List.mem_of_getElem? (i := 173) (by decide +kernel)⟩
theorem lw_p7 : lw_okq (⟨"StripeDisk$Group", "firstOf", "(I)I"⟩, 5) := ⟨⟨by decide +kernel, by decide +kernel⟩, List.mem_of_getElem? (i := 16) (by decide +kernel), List.mem_of_getElem? (i := 180) (by decide +kernel), List.mem_of_getElem? (i := 181) (by decide +kernel)⟩
theorem lw_p8 : lw_okq (⟨"StripeDisk", "powerFails", "()I"⟩, 9) := ⟨⟨by decide +kernel, by decide +kernel⟩, List.mem_of_getElem? (i := 8) (by decide +kernel), List.mem_of_getElem? (i := 219) (by decide +kernel), List.mem_of_getElem? (i := 220) (by decide +kernel)⟩
theorem lw_p9 : lw_okq (⟨"StripeDisk", "powerFailsInLabel", "(J)I"⟩, 9) := ⟨⟨by decide +kernel, by decide +kernel⟩, List.mem_of_getElem? (i := 8) (by decide +kernel), List.mem_of_getElem? (i := 227) (by decide +kernel), List.mem_of_getElem? (i := 228) (by decide +kernel)⟩
theorem lw_p10 : lw_okq (⟨"StripeDisk", "isDisk", "(I)Z"⟩, 9) := ⟨⟨by decide +kernel, by decide +kernel⟩, List.mem_of_getElem? (i := 8) (by decide +kernel), List.mem_of_getElem? (i := 247) (by decide +kernel), List.mem_of_getElem? (i := 248) (by decide +kernel)⟩
theorem lw_p11 : lw_okq (⟨"StripeDisk", "canBeMissed", "(I)Z"⟩, 9) := ⟨⟨by decide +kernel, by decide +kernel⟩, List.mem_of_getElem? (i := 8) (by decide +kernel), List.mem_of_getElem? (i := 251) (by decide +kernel), List.mem_of_getElem? (i := 252) (by decide +kernel)⟩
theorem lw_p12 : lw_okq (⟨"StripeDisk", "isGone", "(II)Z"⟩, 9) := ⟨⟨by decide +kernel, by decide +kernel⟩, List.mem_of_getElem? (i := 8) (by decide +kernel), List.mem_of_getElem? (i := 255) (by decide +kernel), List.mem_of_getElem? (i := 256) (by decide +kernel)⟩
theorem lw_p13 : lw_okq (⟨"StripeDisk", "isRotten", "(II)Z"⟩, 9) := ⟨⟨by decide +kernel, by decide +kernel⟩, List.mem_of_getElem? (i := 8) (by decide +kernel), List.mem_of_getElem? (i := 259) (by decide +kernel), List.mem_of_getElem? (i := 260) (by decide +kernel)⟩
theorem lw_p14 : lw_okq (⟨"StripeDisk", "goneIn", "(I)I"⟩, 9) := ⟨⟨by decide +kernel, by decide +kernel⟩, List.mem_of_getElem? (i := 8) (by decide +kernel), List.mem_of_getElem? (i := 263) (by decide +kernel), List.mem_of_getElem? (i := 264) (by decide +kernel)⟩
theorem lw_p15 : lw_okq (⟨"StripeDisk", "lostDisks", "()I"⟩, 9) := ⟨⟨by decide +kernel, by decide +kernel⟩, List.mem_of_getElem? (i := 8) (by decide +kernel), List.mem_of_getElem? (i := 267) (by decide +kernel), List.mem_of_getElem? (i := 268) (by decide +kernel)⟩
def lw_privs_1 : List (MethodName × Nat) := [(⟨"StripeDisk", "layOut", "(II)V"⟩, 9), (⟨"StripeDisk", "finishLabel", "()V"⟩, 9), (⟨"StripeDisk", "writeLabel", "(J)V"⟩, 9), (⟨"StripeDisk$Labels", "put", "(III)V"⟩, 7), (⟨"StripeDisk", "blocks", "()I"⟩, 9), (⟨"StripeDisk", "isByte", "(II)Z"⟩, 9), (⟨"StripeDisk", "rowOf", "(I)I"⟩, 9), (⟨"StripeDisk$Group", "firstOf", "(I)I"⟩, 5), (⟨"StripeDisk", "powerFails", "()I"⟩, 9), (⟨"StripeDisk", "powerFailsInLabel", "(J)I"⟩, 9), (⟨"StripeDisk", "isDisk", "(I)Z"⟩, 9), (⟨"StripeDisk", "canBeMissed", "(I)Z"⟩, 9), (⟨"StripeDisk", "isGone", "(II)Z"⟩, 9), (⟨"StripeDisk", "isRotten", "(II)Z"⟩, 9), (⟨"StripeDisk", "goneIn", "(I)I"⟩, 9), (⟨"StripeDisk", "lostDisks", "()I"⟩, 9)]
theorem lw_r1 : ∀ q ∈ lw_privs_1, lw_okq q := List.forall_mem_cons.mpr ⟨lw_p0, List.forall_mem_cons.mpr ⟨lw_p1, List.forall_mem_cons.mpr ⟨lw_p2, List.forall_mem_cons.mpr ⟨lw_p3, List.forall_mem_cons.mpr ⟨lw_p4, List.forall_mem_cons.mpr ⟨lw_p5, List.forall_mem_cons.mpr ⟨lw_p6, List.forall_mem_cons.mpr ⟨lw_p7, List.forall_mem_cons.mpr ⟨lw_p8, List.forall_mem_cons.mpr ⟨lw_p9, List.forall_mem_cons.mpr ⟨lw_p10, List.forall_mem_cons.mpr ⟨lw_p11, List.forall_mem_cons.mpr ⟨lw_p12, List.forall_mem_cons.mpr ⟨lw_p13, List.forall_mem_cons.mpr ⟨lw_p14, List.forall_mem_cons.mpr ⟨lw_p15, fun _ h => absurd h List.not_mem_nil⟩⟩⟩⟩⟩⟩⟩⟩⟩⟩⟩⟩⟩⟩⟩⟩
theorem lw_p16 : lw_okq (⟨"StripeDisk", "disksMarked", "(II)I"⟩, 9) := ⟨⟨by decide +kernel, by decide +kernel⟩, List.mem_of_getElem? (i := 8) (by decide +kernel), List.mem_of_getElem? (i := 271) (by decide +kernel), List.mem_of_getElem? (i := 272) (by decide +kernel)⟩
theorem lw_p17 : lw_okq (⟨"StripeDisk", "isRow", "(I)Z"⟩, 9) := ⟨⟨by decide +kernel, by decide +kernel⟩, List.mem_of_getElem? (i := 8) (by decide +kernel), List.mem_of_getElem? (i := 283) (by decide +kernel), List.mem_of_getElem? (i := 284) (by decide +kernel)⟩
theorem lw_p18 : lw_okq (⟨"StripeDisk", "isBlank", "(I)Z"⟩, 9) := ⟨⟨by decide +kernel, by decide +kernel⟩, List.mem_of_getElem? (i := 8) (by decide +kernel), List.mem_of_getElem? (i := 291) (by decide +kernel), List.mem_of_getElem? (i := 292) (by decide +kernel)⟩
theorem lw_p19 : lw_okq (⟨"StripeDisk", "rottenIn", "(I)I"⟩, 9) := ⟨⟨by decide +kernel, by decide +kernel⟩, List.mem_of_getElem? (i := 8) (by decide +kernel), List.mem_of_getElem? (i := 303) (by decide +kernel), List.mem_of_getElem? (i := 304) (by decide +kernel)⟩
theorem lw_p20 : lw_okq (⟨"StripeDisk$Labels", "has", "(II)Z"⟩, 7) := ⟨⟨by decide +kernel, by decide +kernel⟩, List.mem_of_getElem? (i := 41) (by decide +kernel), List.mem_of_getElem? (i := 316) (by decide +kernel), List.mem_of_getElem? (i := 317) (by decide +kernel)⟩
theorem lw_p21 : lw_okq (⟨"StripeDisk", "writeLabelAgain", "(J)V"⟩, 9) := ⟨⟨by decide +kernel, by decide +kernel⟩, List.mem_of_getElem? (i := 8) (by decide +kernel), List.mem_of_getElem? (i := 320) (by decide +kernel), List.mem_of_getElem? (i := 321) (by decide +kernel)⟩
theorem lw_p22 : lw_okq (⟨"StripeDisk", "takeMarksOfLabel", "()V"⟩, 9) := ⟨⟨by decide +kernel, by decide +kernel⟩, List.mem_of_getElem? (i := 8) (by decide +kernel), List.mem_of_getElem? (i := 332) (by decide +kernel), List.mem_of_getElem? (i := 333) (by decide +kernel)⟩
theorem lw_p23 : lw_okq (⟨"StripeDisk", "unitsOfJournal", "()I"⟩, 9) := ⟨⟨by decide +kernel, by decide +kernel⟩, List.mem_of_getElem? (i := 8) (by decide +kernel), List.mem_of_getElem? (i := 344) (by decide +kernel), List.mem_of_getElem? (i := 345) (by decide +kernel)⟩
theorem lw_p24 : lw_okq (⟨"StripeDisk", "takesUnit", "(II)I"⟩, 9) := ⟨⟨by decide +kernel, by decide +kernel⟩, List.mem_of_getElem? (i := 8) (by decide +kernel), List.mem_of_getElem? (i := 356) (by decide +kernel), List.mem_of_getElem? (i := 357) (by decide +kernel)⟩
theorem lw_p25 : lw_okq (⟨"StripeDisk", "blankDisks", "()I"⟩, 9) := ⟨⟨by decide +kernel, by decide +kernel⟩, List.mem_of_getElem? (i := 8) (by decide +kernel), List.mem_of_getElem? (i := 384) (by decide +kernel), List.mem_of_getElem? (i := 385) (by decide +kernel)⟩
theorem lw_p26 : lw_okq (⟨"StripeDiskModel", "wipe", "(I)V"⟩, 20) := ⟨⟨by decide +kernel, by decide +kernel⟩, List.mem_of_getElem? (i := 388) (by decide +kernel), List.mem_of_getElem? (i := 398) (by decide +kernel), List.mem_of_getElem? (i := 399) (by decide +kernel)⟩
theorem lw_p27 : lw_okq (⟨"StripeDiskModel", "label", "(Z)V"⟩, 20) := ⟨⟨by decide +kernel, by decide +kernel⟩, List.mem_of_getElem? (i := 388) (by decide +kernel), List.mem_of_getElem? (i := 402) (by decide +kernel), List.mem_of_getElem? (i := 403) (by decide +kernel)⟩
theorem lw_p28 : lw_okq (⟨"StripeDiskModel", "newLabel", "(Z)V"⟩, 20) := ⟨⟨by decide +kernel, by decide +kernel⟩, List.mem_of_getElem? (i := 388) (by decide +kernel), List.mem_of_getElem? (i := 406) (by decide +kernel), List.mem_of_getElem? (i := 407) (by decide +kernel)⟩
theorem lw_p29 : lw_okq (⟨"StripeDiskModel", "spread", "(IZZJ)V"⟩, 20) := ⟨⟨by decide +kernel, by decide +kernel⟩, List.mem_of_getElem? (i := 388) (by decide +kernel), List.mem_of_getElem? (i := 410) (by decide +kernel), List.mem_of_getElem? (i := 411) (by decide +kernel)⟩
theorem lw_p30 : lw_okq (⟨"StripeDiskModel", "has", "(I)I"⟩, 20) := ⟨⟨by decide +kernel, by decide +kernel⟩, List.mem_of_getElem? (i := 388) (by decide +kernel), List.mem_of_getElem? (i := 414) (by decide +kernel), List.mem_of_getElem? (i := 415) (by decide +kernel)⟩
theorem lw_p31 : lw_okq (⟨"StripeDiskModel", "bitsOf", "(JI)I"⟩, 20) := ⟨⟨by decide +kernel, by decide +kernel⟩, List.mem_of_getElem? (i := 388) (by decide +kernel), List.mem_of_getElem? (i := 418) (by decide +kernel), List.mem_of_getElem? (i := 419) (by decide +kernel)⟩
def lw_privs_2 : List (MethodName × Nat) := [(⟨"StripeDisk", "disksMarked", "(II)I"⟩, 9), (⟨"StripeDisk", "isRow", "(I)Z"⟩, 9), (⟨"StripeDisk", "isBlank", "(I)Z"⟩, 9), (⟨"StripeDisk", "rottenIn", "(I)I"⟩, 9), (⟨"StripeDisk$Labels", "has", "(II)Z"⟩, 7), (⟨"StripeDisk", "writeLabelAgain", "(J)V"⟩, 9), (⟨"StripeDisk", "takeMarksOfLabel", "()V"⟩, 9), (⟨"StripeDisk", "unitsOfJournal", "()I"⟩, 9), (⟨"StripeDisk", "takesUnit", "(II)I"⟩, 9), (⟨"StripeDisk", "blankDisks", "()I"⟩, 9), (⟨"StripeDiskModel", "wipe", "(I)V"⟩, 20), (⟨"StripeDiskModel", "label", "(Z)V"⟩, 20), (⟨"StripeDiskModel", "newLabel", "(Z)V"⟩, 20), (⟨"StripeDiskModel", "spread", "(IZZJ)V"⟩, 20), (⟨"StripeDiskModel", "has", "(I)I"⟩, 20), (⟨"StripeDiskModel", "bitsOf", "(JI)I"⟩, 20)]
theorem lw_r2 : ∀ q ∈ lw_privs_2, lw_okq q := List.forall_mem_cons.mpr ⟨lw_p16, List.forall_mem_cons.mpr ⟨lw_p17, List.forall_mem_cons.mpr ⟨lw_p18, List.forall_mem_cons.mpr ⟨lw_p19, List.forall_mem_cons.mpr ⟨lw_p20, List.forall_mem_cons.mpr ⟨lw_p21, List.forall_mem_cons.mpr ⟨lw_p22, List.forall_mem_cons.mpr ⟨lw_p23, List.forall_mem_cons.mpr ⟨lw_p24, List.forall_mem_cons.mpr ⟨lw_p25, List.forall_mem_cons.mpr ⟨lw_p26, List.forall_mem_cons.mpr ⟨lw_p27, List.forall_mem_cons.mpr ⟨lw_p28, List.forall_mem_cons.mpr ⟨lw_p29, List.forall_mem_cons.mpr ⟨lw_p30, List.forall_mem_cons.mpr ⟨lw_p31, fun _ h => absurd h List.not_mem_nil⟩⟩⟩⟩⟩⟩⟩⟩⟩⟩⟩⟩⟩⟩⟩⟩
theorem lw_p32 : lw_okq (⟨"StripeDiskModel", "blocks", "()I"⟩, 20) := ⟨⟨by decide +kernel, by decide +kernel⟩, List.mem_of_getElem? (i := 388) (by decide +kernel), List.mem_of_getElem? (i := 423) (by decide +kernel), List.mem_of_getElem? (i := 424) (by decide +kernel)⟩
theorem lw_p33 : lw_okq (⟨"StripeDiskModel", "goneIn", "(I)I"⟩, 20) := ⟨⟨by decide +kernel, by decide +kernel⟩, List.mem_of_getElem? (i := 388) (by decide +kernel), List.mem_of_getElem? (i := 493) (by decide +kernel), List.mem_of_getElem? (i := 494) (by decide +kernel)⟩
theorem lw_p34 : lw_okq (⟨"StripeDiskModel", "isGone", "(II)Z"⟩, 20) := ⟨⟨by decide +kernel, by decide +kernel⟩, List.mem_of_getElem? (i := 388) (by decide +kernel), List.mem_of_getElem? (i := 497) (by decide +kernel), List.mem_of_getElem? (i := 498) (by decide +kernel)⟩
theorem lw_p35 : lw_okq (⟨"StripeDiskModel", "noDisk", "(I)Z"⟩, 20) := ⟨⟨by decide +kernel, by decide +kernel⟩, List.mem_of_getElem? (i := 388) (by decide +kernel), List.mem_of_getElem? (i := 505) (by decide +kernel), List.mem_of_getElem? (i := 506) (by decide +kernel)⟩
theorem lw_p36 : lw_okq (⟨"StripeDiskModel", "noBlock", "(I)Z"⟩, 20) := ⟨⟨by decide +kernel, by decide +kernel⟩, List.mem_of_getElem? (i := 388) (by decide +kernel), List.mem_of_getElem? (i := 513) (by decide +kernel), List.mem_of_getElem? (i := 514) (by decide +kernel)⟩
theorem lw_p37 : lw_okq (⟨"StripeDiskModel", "use", "()I"⟩, 20) := ⟨⟨by decide +kernel, by decide +kernel⟩, List.mem_of_getElem? (i := 388) (by decide +kernel), List.mem_of_getElem? (i := 517) (by decide +kernel), List.mem_of_getElem? (i := 518) (by decide +kernel)⟩
theorem lw_p38 : lw_okq (⟨"StripeDiskModel", "many", "()I"⟩, 20) := ⟨⟨by decide +kernel, by decide +kernel⟩, List.mem_of_getElem? (i := 388) (by decide +kernel), List.mem_of_getElem? (i := 521) (by decide +kernel), List.mem_of_getElem? (i := 522) (by decide +kernel)⟩
theorem lw_p39 : lw_okq (⟨"StripeDiskModel", "inRow", "([ZI)I"⟩, 20) := ⟨⟨by decide +kernel, by decide +kernel⟩, List.mem_of_getElem? (i := 388) (by decide +kernel), List.mem_of_getElem? (i := 525) (by decide +kernel), List.mem_of_getElem? (i := 526) (by decide +kernel)⟩
theorem lw_p40 : lw_okq (⟨"StripeDiskModel", "rowOf", "(I)I"⟩, 20) := ⟨⟨by decide +kernel, by decide +kernel⟩, List.mem_of_getElem? (i := 388) (by decide +kernel), List.mem_of_getElem? (i := 529) (by decide +kernel), List.mem_of_getElem? (i := 530) (by decide +kernel)⟩
theorem lw_p41 : lw_okq (⟨"StripeDiskModel", "powerOff", "()I"⟩, 20) := ⟨⟨by decide +kernel, by decide +kernel⟩, List.mem_of_getElem? (i := 388) (by decide +kernel), List.mem_of_getElem? (i := 541) (by decide +kernel), List.mem_of_getElem? (i := 542) (by decide +kernel)⟩
theorem lw_p42 : lw_okq (⟨"StripeDiskModel", "copy", "([B[BI)V"⟩, 20) := ⟨⟨by decide +kernel, by decide +kernel⟩, List.mem_of_getElem? (i := 388) (by decide +kernel), List.mem_of_getElem? (i := 545) (by decide +kernel), List.mem_of_getElem? (i := 546) (by decide +kernel)⟩
theorem lw_p43 : lw_okq (⟨"StripeDiskModel", "stopAtLabel", "(ZJ)I"⟩, 20) := ⟨⟨by decide +kernel, by decide +kernel⟩, List.mem_of_getElem? (i := 388) (by decide +kernel), List.mem_of_getElem? (i := 549) (by decide +kernel), List.mem_of_getElem? (i := 550) (by decide +kernel)⟩
theorem lw_p44 : lw_okq (⟨"StripeDiskModel", "place", "()V"⟩, 20) := ⟨⟨by decide +kernel, by decide +kernel⟩, List.mem_of_getElem? (i := 388) (by decide +kernel), List.mem_of_getElem? (i := 553) (by decide +kernel), List.mem_of_getElem? (i := 554) (by decide +kernel)⟩
theorem lw_p45 : lw_okq (⟨"StripeDiskModel", "manyLost", "()I"⟩, 20) := ⟨⟨by decide +kernel, by decide +kernel⟩, List.mem_of_getElem? (i := 388) (by decide +kernel), List.mem_of_getElem? (i := 565) (by decide +kernel), List.mem_of_getElem? (i := 566) (by decide +kernel)⟩
theorem lw_p46 : lw_okq (⟨"StripeDiskModel", "isBlank", "(I)Z"⟩, 20) := ⟨⟨by decide +kernel, by decide +kernel⟩, List.mem_of_getElem? (i := 388) (by decide +kernel), List.mem_of_getElem? (i := 581) (by decide +kernel), List.mem_of_getElem? (i := 582) (by decide +kernel)⟩
theorem lw_p47 : lw_okq (⟨"StripeDiskModel", "stopped", "()I"⟩, 20) := ⟨⟨by decide +kernel, by decide +kernel⟩, List.mem_of_getElem? (i := 388) (by decide +kernel), List.mem_of_getElem? (i := 597) (by decide +kernel), List.mem_of_getElem? (i := 598) (by decide +kernel)⟩
def lw_privs_3 : List (MethodName × Nat) := [(⟨"StripeDiskModel", "blocks", "()I"⟩, 20), (⟨"StripeDiskModel", "goneIn", "(I)I"⟩, 20), (⟨"StripeDiskModel", "isGone", "(II)Z"⟩, 20), (⟨"StripeDiskModel", "noDisk", "(I)Z"⟩, 20), (⟨"StripeDiskModel", "noBlock", "(I)Z"⟩, 20), (⟨"StripeDiskModel", "use", "()I"⟩, 20), (⟨"StripeDiskModel", "many", "()I"⟩, 20), (⟨"StripeDiskModel", "inRow", "([ZI)I"⟩, 20), (⟨"StripeDiskModel", "rowOf", "(I)I"⟩, 20), (⟨"StripeDiskModel", "powerOff", "()I"⟩, 20), (⟨"StripeDiskModel", "copy", "([B[BI)V"⟩, 20), (⟨"StripeDiskModel", "stopAtLabel", "(ZJ)I"⟩, 20), (⟨"StripeDiskModel", "place", "()V"⟩, 20), (⟨"StripeDiskModel", "manyLost", "()I"⟩, 20), (⟨"StripeDiskModel", "isBlank", "(I)Z"⟩, 20), (⟨"StripeDiskModel", "stopped", "()I"⟩, 20)]
theorem lw_r3 : ∀ q ∈ lw_privs_3, lw_okq q := List.forall_mem_cons.mpr ⟨lw_p32, List.forall_mem_cons.mpr ⟨lw_p33, List.forall_mem_cons.mpr ⟨lw_p34, List.forall_mem_cons.mpr ⟨lw_p35, List.forall_mem_cons.mpr ⟨lw_p36, List.forall_mem_cons.mpr ⟨lw_p37, List.forall_mem_cons.mpr ⟨lw_p38, List.forall_mem_cons.mpr ⟨lw_p39, List.forall_mem_cons.mpr ⟨lw_p40, List.forall_mem_cons.mpr ⟨lw_p41, List.forall_mem_cons.mpr ⟨lw_p42, List.forall_mem_cons.mpr ⟨lw_p43, List.forall_mem_cons.mpr ⟨lw_p44, List.forall_mem_cons.mpr ⟨lw_p45, List.forall_mem_cons.mpr ⟨lw_p46, List.forall_mem_cons.mpr ⟨lw_p47, fun _ h => absurd h List.not_mem_nil⟩⟩⟩⟩⟩⟩⟩⟩⟩⟩⟩⟩⟩⟩⟩⟩
theorem lw_p48 : lw_okq (⟨"StripeDiskModel", "placed", "()I"⟩, 20) := ⟨⟨by decide +kernel, by decide +kernel⟩, List.mem_of_getElem? (i := 388) (by decide +kernel), List.mem_of_getElem? (i := 601) (by decide +kernel), List.mem_of_getElem? (i := 602) (by decide +kernel)⟩
theorem lw_p49 : lw_okq (⟨"StripeDiskModel", "writes", "(II)I"⟩, 20) := ⟨⟨by decide +kernel, by decide +kernel⟩, List.mem_of_getElem? (i := 388) (by decide +kernel), List.mem_of_getElem? (i := 605) (by decide +kernel), List.mem_of_getElem? (i := 606) (by decide +kernel)⟩
def lw_privs_4 : List (MethodName × Nat) := [(⟨"StripeDiskModel", "placed", "()I"⟩, 20), (⟨"StripeDiskModel", "writes", "(II)I"⟩, 20)]
theorem lw_r4 : ∀ q ∈ lw_privs_4, lw_okq q := List.forall_mem_cons.mpr ⟨lw_p48, List.forall_mem_cons.mpr ⟨lw_p49, fun _ h => absurd h List.not_mem_nil⟩⟩
def lw_privs : List (MethodName × Nat) := lw_privs_1 ++ (lw_privs_2 ++ (lw_privs_3 ++ (lw_privs_4)))
def lw_tbl : List Cond := k2_sels lw_privs ++ tables_1
theorem lw_privs_ok : ∀ q ∈ lw_privs, lw_okq q := by
  show ∀ q ∈ lw_privs_1 ++ (lw_privs_2 ++ (lw_privs_3 ++ (lw_privs_4))), lw_okq q
  exact List.forall_mem_append.mpr ⟨lw_r1, List.forall_mem_append.mpr ⟨lw_r2, List.forall_mem_append.mpr ⟨lw_r3, lw_r4⟩⟩⟩
end
section
def R_G : String := "StripeDisk$Group"
def R_L : String := "StripeDisk$Labels"
def R_D : String := "StripeDisk"
def R_M : String := "StripeDiskModel"
def R_J : String := "java/util/Arrays"
def R_W : String := "StripeDiskLaw"
def T_G : u_T := fun k => match k with
  | 0 => ("StripeDisk$Group", "block", "[I", true)
  | 1 => ("StripeDisk$Group", "rowOfBlock", "[I", true)
  | 2 => ("StripeDisk$Group", "bytes", "[B", true)
  | 3 => ("StripeDisk$Group", "taken", "I", false)
  | _ => ("StripeDisk$Group", "rowsTaken", "I", false)
def ty_G : Nat → FieldType := fun k => match k with
  | 0 => (.array .int)
  | 1 => (.array .int)
  | 2 => (.array .byte)
  | 3 => .int
  | _ => .int
theorem nm_G : ∀ a, a < 5 → ∀ b, b < 5 → a ≠ b → (T_G a).2.1 ≠ (T_G b).2.1 := by decide +kernel
theorem ok_G : ∀ k, k < 5 → parseFieldDescriptor (T_G k).2.2.1 = some (ty_G k) := by decide +kernel
def T_L : u_T := fun k => match k with
  | 0 => ("StripeDisk$Labels", "firstHalf", "[[I", true)
  | 1 => ("StripeDisk$Labels", "lastHalf", "[[I", true)
  | 2 => ("StripeDisk$Labels", "told", "[[I", true)
  | 3 => ("StripeDisk$Labels", "number", "[I", true)
  | 4 => ("StripeDisk$Labels", "ofGroup", "[Z", true)
  | 5 => ("StripeDisk$Labels", "made", "I", false)
  | _ => ("StripeDisk$Labels", "counting", "I", false)
def ty_L : Nat → FieldType := fun k => match k with
  | 0 => (.array (.array .int))
  | 1 => (.array (.array .int))
  | 2 => (.array (.array .int))
  | 3 => (.array .int)
  | 4 => (.array .boolean)
  | 5 => .int
  | _ => .int
theorem nm_L : ∀ a, a < 7 → ∀ b, b < 7 → a ≠ b → (T_L a).2.1 ≠ (T_L b).2.1 := by decide +kernel
theorem ok_L : ∀ k, k < 7 → parseFieldDescriptor (T_L k).2.2.1 = some (ty_L k) := by decide +kernel
def T_D : u_T := fun k => match k with
  | 0 => ("StripeDisk", "mark", "[I", true)
  | 1 => ("StripeDisk", "rotten", "[J", true)
  | 2 => ("StripeDisk", "kept", "[B", true)
  | 3 => ("StripeDisk", "group", "LStripeDisk$Group;", true)
  | 4 => ("StripeDisk", "journal", "LStripeDisk$Group;", true)
  | 5 => ("StripeDisk", "labels", "LStripeDisk$Labels;", true)
  | 6 => ("StripeDisk", "disks", "I", false)
  | 7 => ("StripeDisk", "rows", "I", false)
  | _ => ("StripeDisk", "power", "Z", false)
def ty_D : Nat → FieldType := fun k => match k with
  | 0 => (.array .int)
  | 1 => (.array .long)
  | 2 => (.array .byte)
  | 3 => .object "StripeDisk$Group"
  | 4 => .object "StripeDisk$Group"
  | 5 => .object "StripeDisk$Labels"
  | 6 => .int
  | 7 => .int
  | _ => .boolean
theorem nm_D : ∀ a, a < 9 → ∀ b, b < 9 → a ≠ b → (T_D a).2.1 ≠ (T_D b).2.1 := by decide +kernel
theorem ok_D : ∀ k, k < 9 → parseFieldDescriptor (T_D k).2.2.1 = some (ty_D k) := by decide +kernel
def T_M : u_T := fun k => match k with
  | 0 => ("StripeDiskModel", "thrown", "I", false)
  | 1 => ("StripeDiskModel", "n", "I", false)
  | 2 => ("StripeDiskModel", "\x72", "I", false)
  | 3 => ("StripeDiskModel", "off", "Z", false)
  | 4 => ("StripeDiskModel", "now", "[B", true)
  | 5 => ("StripeDiskModel", "kept", "[B", true)
  | 6 => ("StripeDiskModel", "written", "[Z", true)
  | 7 => ("StripeDiskModel", "lost", "[Z", true)
  | 8 => ("StripeDiskModel", "marks", "[I", true)
  | 9 => ("StripeDiskModel", "were", "[I", true)
  | 10 => ("StripeDiskModel", "rotten", "[Z", true)
  | 11 => ("StripeDiskModel", "first", "[I", true)
  | 12 => ("StripeDiskModel", "last", "[I", true)
  | 13 => ("StripeDiskModel", "latest", "I", false)
  | 14 => ("StripeDiskModel", "base", "I", false)
  | 15 => ("StripeDiskModel", "places", "[I", true)
  | 16 => ("StripeDiskModel", "says", "[Z", true)
  | 17 => ("StripeDiskModel", "tells", "[I", true)
  | 18 => ("StripeDiskModel", "journal", "[B", true)
  | _ => ("StripeDiskModel", "inJournal", "[Z", true)
def ty_M : Nat → FieldType := fun k => match k with
  | 0 => .int
  | 1 => .int
  | 2 => .int
  | 3 => .boolean
  | 4 => (.array .byte)
  | 5 => (.array .byte)
  | 6 => (.array .boolean)
  | 7 => (.array .boolean)
  | 8 => (.array .int)
  | 9 => (.array .int)
  | 10 => (.array .boolean)
  | 11 => (.array .int)
  | 12 => (.array .int)
  | 13 => .int
  | 14 => .int
  | 15 => (.array .int)
  | 16 => (.array .boolean)
  | 17 => (.array .int)
  | 18 => (.array .byte)
  | _ => (.array .boolean)
theorem nm_M : ∀ a, a < 20 → ∀ b, b < 20 → a ≠ b → (T_M a).2.1 ≠ (T_M b).2.1 := by decide +kernel
theorem ok_M : ∀ k, k < 20 → parseFieldDescriptor (T_M k).2.2.1 = some (ty_M k) := by decide +kernel
abbrev clA : List vw_C := [(R_G, T_G, 5), (R_L, T_L, 7), (R_D, T_D, 9), (R_M, T_M, 20)]
abbrev c_G_init : ByteArray := prog_2_method_1_code
def y_G_init : MethodName := ⟨R_G, "<init>", "()V"⟩
abbrev c_G_clear : ByteArray := prog_2_method_2_code
def y_G_clear : MethodName := ⟨R_G, "clear", "()V"⟩
abbrev c_G_isEmpty : ByteArray := prog_2_method_3_code
def y_G_isEmpty : MethodName := ⟨R_G, "isEmpty", "()Z"⟩
abbrev c_G_size : ByteArray := prog_2_method_4_code
def y_G_size : MethodName := ⟨R_G, "size", "()I"⟩
abbrev c_G_blockAt : ByteArray := prog_2_method_5_code
def y_G_blockAt : MethodName := ⟨R_G, "blockAt", "(I)I"⟩
abbrev c_G_rowAt : ByteArray := prog_2_method_6_code
def y_G_rowAt : MethodName := ⟨R_G, "rowAt", "(I)I"⟩
abbrev c_G_byteAt : ByteArray := prog_2_method_7_code
def y_G_byteAt : MethodName := ⟨R_G, "byteAt", "(II)I"⟩
abbrev c_G_use : ByteArray := prog_2_method_8_code
def y_G_use : MethodName := ⟨R_G, "use", "()I"⟩
abbrev c_G_useWithOneMore : ByteArray := prog_2_method_9_code
def y_G_useWithOneMore : MethodName := ⟨R_G, "useWithOneMore", "(I)I"⟩
abbrev c_G_placeOf : ByteArray := prog_2_method_10_code
def y_G_placeOf : MethodName := ⟨R_G, "placeOf", "(I)I"⟩
abbrev c_G_isFirstOfRow : ByteArray := prog_2_method_11_code
def y_G_isFirstOfRow : MethodName := ⟨R_G, "isFirstOfRow", "(I)Z"⟩
abbrev c_G_take : ByteArray := prog_2_method_12_code
def y_G_take : MethodName := ⟨R_G, "take", "(II[B)I"⟩
abbrev c_G_set : ByteArray := prog_2_method_13_code
def y_G_set : MethodName := ⟨R_G, "set", "(IIII)V"⟩
abbrev c_G_become : ByteArray := prog_2_method_14_code
def y_G_become : MethodName := ⟨R_G, "become", "(LStripeDisk$Group;)V"⟩
abbrev c_G_keepIn : ByteArray := prog_2_method_15_code
def y_G_keepIn : MethodName := ⟨R_G, "keepIn", "([B)V"⟩
abbrev c_G_firstOf : ByteArray := prog_2_method_16_code
def y_G_firstOf : MethodName := ⟨R_G, "firstOf", "(I)I"⟩
abbrev c_L_init : ByteArray := prog_3_method_1_code
def y_L_init : MethodName := ⟨R_L, "<init>", "()V"⟩
abbrev c_L_draft : ByteArray := prog_3_method_2_code
def y_L_draft : MethodName := ⟨R_L, "draft", "(Z[I)V"⟩
abbrev c_L_tell : ByteArray := prog_3_method_3_code
def y_L_tell : MethodName := ⟨R_L, "tell", "(II)V"⟩
abbrev c_L_draftCounts : ByteArray := prog_3_method_4_code
def y_L_draftCounts : MethodName := ⟨R_L, "draftCounts", "()V"⟩
abbrev c_L_putDraft : ByteArray := prog_3_method_5_code
def y_L_putDraft : MethodName := ⟨R_L, "putDraft", "(II)V"⟩
abbrev c_L_putCounting : ByteArray := prog_3_method_6_code
def y_L_putCounting : MethodName := ⟨R_L, "putCounting", "(II)V"⟩
abbrev c_L_wipe : ByteArray := prog_3_method_7_code
def y_L_wipe : MethodName := ⟨R_L, "wipe", "(I)V"⟩
abbrev c_L_hasSome : ByteArray := prog_3_method_8_code
def y_L_hasSome : MethodName := ⟨R_L, "hasSome", "(I)Z"⟩
abbrev c_L_tellsOfGroup : ByteArray := prog_3_method_9_code
def y_L_tellsOfGroup : MethodName := ⟨R_L, "tellsOfGroup", "()Z"⟩
abbrev c_L_toldMark : ByteArray := prog_3_method_10_code
def y_L_toldMark : MethodName := ⟨R_L, "toldMark", "(I)I"⟩
abbrev c_L_findCounting : ByteArray := prog_3_method_11_code
def y_L_findCounting : MethodName := ⟨R_L, "findCounting", "()V"⟩
abbrev c_L_has : ByteArray := prog_3_method_12_code
def y_L_has : MethodName := ⟨R_L, "has", "(II)Z"⟩
abbrev c_L_put : ByteArray := prog_3_method_13_code
def y_L_put : MethodName := ⟨R_L, "put", "(III)V"⟩
abbrev c_D_init : ByteArray := prog_1_method_1_code
def y_D_init : MethodName := ⟨R_D, "<init>", "()V"⟩
abbrev c_D_lay : ByteArray := prog_1_method_2_code
def y_D_lay : MethodName := ⟨R_D, "lay", "(II)I"⟩
abbrev c_D_write : ByteArray := prog_1_method_3_code
def y_D_write : MethodName := ⟨R_D, "write", "(IIII)I"⟩
abbrev c_D_read : ByteArray := prog_1_method_4_code
def y_D_read : MethodName := ⟨R_D, "read", "(II)I"⟩
abbrev c_D_commit : ByteArray := prog_1_method_5_code
def y_D_commit : MethodName := ⟨R_D, "commit", "(IJ)I"⟩
abbrev c_D_forget : ByteArray := prog_1_method_6_code
def y_D_forget : MethodName := ⟨R_D, "forget", "()I"⟩
abbrev c_D_lose : ByteArray := prog_1_method_7_code
def y_D_lose : MethodName := ⟨R_D, "lose", "(I)I"⟩
abbrev c_D_replace : ByteArray := prog_1_method_8_code
def y_D_replace : MethodName := ⟨R_D, "replace", "(I)I"⟩
abbrev c_D_rot : ByteArray := prog_1_method_9_code
def y_D_rot : MethodName := ⟨R_D, "rot", "(II)I"⟩
abbrev c_D_fill : ByteArray := prog_1_method_10_code
def y_D_fill : MethodName := ⟨R_D, "fill", "(IIJ)I"⟩
abbrev c_D_scrub : ByteArray := prog_1_method_11_code
def y_D_scrub : MethodName := ⟨R_D, "scrub", "(IIJ)I"⟩
abbrev c_D_mount : ByteArray := prog_1_method_12_code
def y_D_mount : MethodName := ⟨R_D, "mount", "(IJ)I"⟩
abbrev c_D_fail : ByteArray := prog_1_method_13_code
def y_D_fail : MethodName := ⟨R_D, "fail", "()I"⟩
abbrev c_D_check : ByteArray := prog_1_method_14_code
def y_D_check : MethodName := ⟨R_D, "check", "()I"⟩
abbrev c_D_gone : ByteArray := prog_1_method_15_code
def y_D_gone : MethodName := ⟨R_D, "gone", "(I)I"⟩
abbrev c_D_status : ByteArray := prog_1_method_16_code
def y_D_status : MethodName := ⟨R_D, "status", "(I)I"⟩
abbrev c_D_count : ByteArray := prog_1_method_17_code
def y_D_count : MethodName := ⟨R_D, "count", "(I)I"⟩
abbrev c_D_layOut : ByteArray := prog_1_method_18_code
def y_D_layOut : MethodName := ⟨R_D, "layOut", "(II)V"⟩
abbrev c_D_powerFails : ByteArray := prog_1_method_19_code
def y_D_powerFails : MethodName := ⟨R_D, "powerFails", "()I"⟩
abbrev c_D_powerFailsInLabel : ByteArray := prog_1_method_20_code
def y_D_powerFailsInLabel : MethodName := ⟨R_D, "powerFailsInLabel", "(J)I"⟩
abbrev c_D_finishLabel : ByteArray := prog_1_method_21_code
def y_D_finishLabel : MethodName := ⟨R_D, "finishLabel", "()V"⟩
abbrev c_D_writeLabel : ByteArray := prog_1_method_22_code
def y_D_writeLabel : MethodName := ⟨R_D, "writeLabel", "(J)V"⟩
abbrev c_D_writeLabelAgain : ByteArray := prog_1_method_23_code
def y_D_writeLabelAgain : MethodName := ⟨R_D, "writeLabelAgain", "(J)V"⟩
abbrev c_D_partDown : ByteArray := prog_1_method_24_code
def y_D_partDown : MethodName := ⟨R_D, "partDown", "(JI)I"⟩
abbrev c_D_takeMarksOfLabel : ByteArray := prog_1_method_25_code
def y_D_takeMarksOfLabel : MethodName := ⟨R_D, "takeMarksOfLabel", "()V"⟩
abbrev c_D_unitsOfJournal : ByteArray := prog_1_method_26_code
def y_D_unitsOfJournal : MethodName := ⟨R_D, "unitsOfJournal", "()I"⟩
abbrev c_D_takesUnit : ByteArray := prog_1_method_27_code
def y_D_takesUnit : MethodName := ⟨R_D, "takesUnit", "(II)I"⟩
abbrev c_D_blocks : ByteArray := prog_1_method_28_code
def y_D_blocks : MethodName := ⟨R_D, "blocks", "()I"⟩
abbrev c_D_rowOf : ByteArray := prog_1_method_29_code
def y_D_rowOf : MethodName := ⟨R_D, "rowOf", "(I)I"⟩
abbrev c_D_isByte : ByteArray := prog_1_method_30_code
def y_D_isByte : MethodName := ⟨R_D, "isByte", "(II)Z"⟩
abbrev c_D_isDisk : ByteArray := prog_1_method_31_code
def y_D_isDisk : MethodName := ⟨R_D, "isDisk", "(I)Z"⟩
abbrev c_D_isRow : ByteArray := prog_1_method_32_code
def y_D_isRow : MethodName := ⟨R_D, "isRow", "(I)Z"⟩
abbrev c_D_isBlank : ByteArray := prog_1_method_33_code
def y_D_isBlank : MethodName := ⟨R_D, "isBlank", "(I)Z"⟩
abbrev c_D_isRotten : ByteArray := prog_1_method_34_code
def y_D_isRotten : MethodName := ⟨R_D, "isRotten", "(II)Z"⟩
abbrev c_D_isGone : ByteArray := prog_1_method_35_code
def y_D_isGone : MethodName := ⟨R_D, "isGone", "(II)Z"⟩
abbrev c_D_goneIn : ByteArray := prog_1_method_36_code
def y_D_goneIn : MethodName := ⟨R_D, "goneIn", "(I)I"⟩
abbrev c_D_rottenIn : ByteArray := prog_1_method_37_code
def y_D_rottenIn : MethodName := ⟨R_D, "rottenIn", "(I)I"⟩
abbrev c_D_canBeMissed : ByteArray := prog_1_method_38_code
def y_D_canBeMissed : MethodName := ⟨R_D, "canBeMissed", "(I)Z"⟩
abbrev c_D_lostDisks : ByteArray := prog_1_method_39_code
def y_D_lostDisks : MethodName := ⟨R_D, "lostDisks", "()I"⟩
abbrev c_D_blankDisks : ByteArray := prog_1_method_40_code
def y_D_blankDisks : MethodName := ⟨R_D, "blankDisks", "()I"⟩
abbrev c_D_disksMarked : ByteArray := prog_1_method_41_code
def y_D_disksMarked : MethodName := ⟨R_D, "disksMarked", "(II)I"⟩
abbrev c_M_init : ByteArray := prog_5_method_1_code
def y_M_init : MethodName := ⟨R_M, "<init>", "()V"⟩
abbrev c_M_lay : ByteArray := prog_5_method_3_code
def y_M_lay : MethodName := ⟨R_M, "lay", "(II)I"⟩
abbrev c_M_blocks : ByteArray := prog_5_method_4_code
def y_M_blocks : MethodName := ⟨R_M, "blocks", "()I"⟩
abbrev c_M_wipe : ByteArray := prog_5_method_5_code
def y_M_wipe : MethodName := ⟨R_M, "wipe", "(I)V"⟩
abbrev c_M_newLabel : ByteArray := prog_5_method_6_code
def y_M_newLabel : MethodName := ⟨R_M, "newLabel", "(Z)V"⟩
abbrev c_M_has : ByteArray := prog_5_method_7_code
def y_M_has : MethodName := ⟨R_M, "has", "(I)I"⟩
abbrev c_M_bitsOf : ByteArray := prog_5_method_8_code
def y_M_bitsOf : MethodName := ⟨R_M, "bitsOf", "(JI)I"⟩
abbrev c_M_spread : ByteArray := prog_5_method_9_code
def y_M_spread : MethodName := ⟨R_M, "spread", "(IZZJ)V"⟩
abbrev c_M_label : ByteArray := prog_5_method_10_code
def y_M_label : MethodName := ⟨R_M, "label", "(Z)V"⟩
abbrev c_M_stopAtLabel : ByteArray := prog_5_method_11_code
def y_M_stopAtLabel : MethodName := ⟨R_M, "stopAtLabel", "(ZJ)I"⟩
abbrev c_M_powerOff : ByteArray := prog_5_method_12_code
def y_M_powerOff : MethodName := ⟨R_M, "powerOff", "()I"⟩
abbrev c_M_isGone : ByteArray := prog_5_method_13_code
def y_M_isGone : MethodName := ⟨R_M, "isGone", "(II)Z"⟩
abbrev c_M_goneIn : ByteArray := prog_5_method_14_code
def y_M_goneIn : MethodName := ⟨R_M, "goneIn", "(I)I"⟩
abbrev c_M_gone : ByteArray := prog_5_method_15_code
def y_M_gone : MethodName := ⟨R_M, "gone", "(I)I"⟩
abbrev c_M_noDisk : ByteArray := prog_5_method_16_code
def y_M_noDisk : MethodName := ⟨R_M, "noDisk", "(I)Z"⟩
abbrev c_M_status : ByteArray := prog_5_method_17_code
def y_M_status : MethodName := ⟨R_M, "status", "(I)I"⟩
abbrev c_M_manyLost : ByteArray := prog_5_method_18_code
def y_M_manyLost : MethodName := ⟨R_M, "manyLost", "()I"⟩
abbrev c_M_isBlank : ByteArray := prog_5_method_19_code
def y_M_isBlank : MethodName := ⟨R_M, "isBlank", "(I)Z"⟩
abbrev c_M_noBlock : ByteArray := prog_5_method_20_code
def y_M_noBlock : MethodName := ⟨R_M, "noBlock", "(I)Z"⟩
abbrev c_M_rowOf : ByteArray := prog_5_method_21_code
def y_M_rowOf : MethodName := ⟨R_M, "rowOf", "(I)I"⟩
abbrev c_M_inRow : ByteArray := prog_5_method_22_code
def y_M_inRow : MethodName := ⟨R_M, "inRow", "([ZI)I"⟩
abbrev c_M_many : ByteArray := prog_5_method_23_code
def y_M_many : MethodName := ⟨R_M, "many", "()I"⟩
abbrev c_M_use : ByteArray := prog_5_method_24_code
def y_M_use : MethodName := ⟨R_M, "use", "()I"⟩
abbrev c_M_write : ByteArray := prog_5_method_25_code
def y_M_write : MethodName := ⟨R_M, "write", "(IIII)I"⟩
abbrev c_M_read : ByteArray := prog_5_method_26_code
def y_M_read : MethodName := ⟨R_M, "read", "(II)I"⟩
abbrev c_M_copy : ByteArray := prog_5_method_27_code
def y_M_copy : MethodName := ⟨R_M, "copy", "([B[BI)V"⟩
abbrev c_M_commit : ByteArray := prog_5_method_28_code
def y_M_commit : MethodName := ⟨R_M, "commit", "(IJ)I"⟩
abbrev c_M_place : ByteArray := prog_5_method_29_code
def y_M_place : MethodName := ⟨R_M, "place", "()V"⟩
abbrev c_M_forget : ByteArray := prog_5_method_30_code
def y_M_forget : MethodName := ⟨R_M, "forget", "()I"⟩
abbrev c_M_lose : ByteArray := prog_5_method_31_code
def y_M_lose : MethodName := ⟨R_M, "lose", "(I)I"⟩
abbrev c_M_replace : ByteArray := prog_5_method_32_code
def y_M_replace : MethodName := ⟨R_M, "replace", "(I)I"⟩
abbrev c_M_rot : ByteArray := prog_5_method_33_code
def y_M_rot : MethodName := ⟨R_M, "rot", "(II)I"⟩
abbrev c_M_fill : ByteArray := prog_5_method_34_code
def y_M_fill : MethodName := ⟨R_M, "fill", "(IIJ)I"⟩
abbrev c_M_scrub : ByteArray := prog_5_method_35_code
def y_M_scrub : MethodName := ⟨R_M, "scrub", "(IIJ)I"⟩
abbrev c_M_fail : ByteArray := prog_5_method_36_code
def y_M_fail : MethodName := ⟨R_M, "fail", "()I"⟩
abbrev c_M_writes : ByteArray := prog_5_method_37_code
def y_M_writes : MethodName := ⟨R_M, "writes", "(II)I"⟩
abbrev c_M_placed : ByteArray := prog_5_method_38_code
def y_M_placed : MethodName := ⟨R_M, "placed", "()I"⟩
abbrev c_M_stopped : ByteArray := prog_5_method_39_code
def y_M_stopped : MethodName := ⟨R_M, "stopped", "()I"⟩
abbrev c_M_mount : ByteArray := prog_5_method_40_code
def y_M_mount : MethodName := ⟨R_M, "mount", "(IJ)I"⟩
abbrev c_M_check : ByteArray := prog_5_method_41_code
def y_M_check : MethodName := ⟨R_M, "check", "()I"⟩
abbrev c_M_count : ByteArray := prog_5_method_42_code
def y_M_count : MethodName := ⟨R_M, "count", "(I)I"⟩
abbrev c_W_law : ByteArray := code
def y_W_law : MethodName := ⟨R_W, "law", "([I)Z"⟩
abbrev c_J_rangeCheck : ByteArray := prog_7_method_30_code
def y_J_rangeCheck : MethodName := ⟨R_J, "rangeCheck", "(III)V"⟩
abbrev c_J_fillJ : ByteArray := prog_7_method_101_code
def y_J_fillJ : MethodName := ⟨R_J, "fill", "([JJ)V"⟩
abbrev c_J_fillI : ByteArray := prog_7_method_103_code
def y_J_fillI : MethodName := ⟨R_J, "fill", "([II)V"⟩
abbrev c_J_fillB : ByteArray := prog_7_method_109_code
def y_J_fillB : MethodName := ⟨R_J, "fill", "([BB)V"⟩
abbrev c_J_fillR : ByteArray := prog_7_method_110_code
def y_J_fillR : MethodName := ⟨R_J, "fill", "([BIIB)V"⟩
/-- the words of the tables that a callee may take along -/
def wsA : List Cond := lw_tbl.filter goodWord
theorem wd {w : Cond} (i : Nat) (h : lw_tbl[i]? = some w) (hg : goodWord w = true) : w ∈ wsA := List.mem_filter.mpr ⟨List.mem_of_getElem? h, hg⟩
theorem wsA_good {w : Cond} (h : w ∈ wsA) : (w.onTables && w.keeps) = true ∨ ∃ ty, w = .arrayClass ty := good_of_word (List.mem_filter.mp h).2
theorem goodA {ws : List Cond} (h : ∀ w ∈ ws, w ∈ wsA) : GoodIn wsA ws := fun w hw => ⟨h w hw, wsA_good (h w hw)⟩
def w_G_init : List Cond := .code y_G_init c_G_init 1 none :: wsA
def w_G_clear : List Cond := .code y_G_clear c_G_clear 1 none :: wsA
def w_G_isEmpty : List Cond := .code y_G_isEmpty c_G_isEmpty 1 (some .boolean) :: wsA
def w_G_size : List Cond := .code y_G_size c_G_size 1 (some .int) :: wsA
def w_G_blockAt : List Cond := .code y_G_blockAt c_G_blockAt 2 (some .int) :: wsA
def w_G_rowAt : List Cond := .code y_G_rowAt c_G_rowAt 2 (some .int) :: wsA
def w_G_byteAt : List Cond := .code y_G_byteAt c_G_byteAt 3 (some .int) :: wsA
def w_G_use : List Cond := .code y_G_use c_G_use 1 (some .int) :: wsA
def w_G_useWithOneMore : List Cond := .code y_G_useWithOneMore c_G_useWithOneMore 3 (some .int) :: wsA
def w_G_placeOf : List Cond := .code y_G_placeOf c_G_placeOf 3 (some .int) :: wsA
def w_G_isFirstOfRow : List Cond := .code y_G_isFirstOfRow c_G_isFirstOfRow 2 (some .boolean) :: wsA
def w_G_take : List Cond := .code y_G_take c_G_take 5 (some .int) :: wsA
def w_G_set : List Cond := .code y_G_set c_G_set 6 none :: wsA
def w_G_become : List Cond := .code y_G_become c_G_become 2 none :: wsA
def w_G_keepIn : List Cond := .code y_G_keepIn c_G_keepIn 3 none :: wsA
def w_G_firstOf : List Cond := .code y_G_firstOf c_G_firstOf 3 (some .int) :: wsA
def w_L_init : List Cond := .code y_L_init c_L_init 1 none :: wsA
def w_L_draft : List Cond := .code y_L_draft c_L_draft 4 none :: wsA
def w_L_tell : List Cond := .code y_L_tell c_L_tell 3 none :: wsA
def w_L_draftCounts : List Cond := .code y_L_draftCounts c_L_draftCounts 1 none :: wsA
def w_L_putDraft : List Cond := .code y_L_putDraft c_L_putDraft 3 none :: wsA
def w_L_putCounting : List Cond := .code y_L_putCounting c_L_putCounting 3 none :: wsA
def w_L_wipe : List Cond := .code y_L_wipe c_L_wipe 3 none :: wsA
def w_L_hasSome : List Cond := .code y_L_hasSome c_L_hasSome 2 (some .boolean) :: wsA
def w_L_tellsOfGroup : List Cond := .code y_L_tellsOfGroup c_L_tellsOfGroup 1 (some .boolean) :: wsA
def w_L_toldMark : List Cond := .code y_L_toldMark c_L_toldMark 2 (some .int) :: wsA
def w_L_findCounting : List Cond := .code y_L_findCounting c_L_findCounting 4 none :: wsA
def w_L_has : List Cond := .code y_L_has c_L_has 3 (some .boolean) :: wsA
def w_L_put : List Cond := .code y_L_put c_L_put 4 none :: wsA
def w_D_init : List Cond := .code y_D_init c_D_init 1 none :: wsA
def w_D_lay : List Cond := .code y_D_lay c_D_lay 3 (some .int) :: wsA
def w_D_write : List Cond := .code y_D_write c_D_write 7 (some .int) :: wsA
def w_D_read : List Cond := .code y_D_read c_D_read 4 (some .int) :: wsA
def w_D_commit : List Cond := .code y_D_commit c_D_commit 5 (some .int) :: wsA
def w_D_forget : List Cond := .code y_D_forget c_D_forget 2 (some .int) :: wsA
def w_D_lose : List Cond := .code y_D_lose c_D_lose 2 (some .int) :: wsA
def w_D_replace : List Cond := .code y_D_replace c_D_replace 2 (some .int) :: wsA
def w_D_rot : List Cond := .code y_D_rot c_D_rot 4 (some .int) :: wsA
def w_D_fill : List Cond := .code y_D_fill c_D_fill 6 (some .int) :: wsA
def w_D_scrub : List Cond := .code y_D_scrub c_D_scrub 7 (some .int) :: wsA
def w_D_mount : List Cond := .code y_D_mount c_D_mount 5 (some .int) :: wsA
def w_D_fail : List Cond := .code y_D_fail c_D_fail 1 (some .int) :: wsA
def w_D_check : List Cond := .code y_D_check c_D_check 1 (some .int) :: wsA
def w_D_gone : List Cond := .code y_D_gone c_D_gone 2 (some .int) :: wsA
def w_D_status : List Cond := .code y_D_status c_D_status 2 (some .int) :: wsA
def w_D_count : List Cond := .code y_D_count c_D_count 2 (some .int) :: wsA
def w_D_layOut : List Cond := .code y_D_layOut c_D_layOut 4 none :: wsA
def w_D_powerFails : List Cond := .code y_D_powerFails c_D_powerFails 1 (some .int) :: wsA
def w_D_powerFailsInLabel : List Cond := .code y_D_powerFailsInLabel c_D_powerFailsInLabel 3 (some .int) :: wsA
def w_D_finishLabel : List Cond := .code y_D_finishLabel c_D_finishLabel 1 none :: wsA
def w_D_writeLabel : List Cond := .code y_D_writeLabel c_D_writeLabel 5 none :: wsA
def w_D_writeLabelAgain : List Cond := .code y_D_writeLabelAgain c_D_writeLabelAgain 5 none :: wsA
def w_D_partDown : List Cond := .code y_D_partDown c_D_partDown 3 (some .int) :: wsA
def w_D_takeMarksOfLabel : List Cond := .code y_D_takeMarksOfLabel c_D_takeMarksOfLabel 2 none :: wsA
def w_D_unitsOfJournal : List Cond := .code y_D_unitsOfJournal c_D_unitsOfJournal 5 (some .int) :: wsA
def w_D_takesUnit : List Cond := .code y_D_takesUnit c_D_takesUnit 3 (some .int) :: wsA
def w_D_blocks : List Cond := .code y_D_blocks c_D_blocks 1 (some .int) :: wsA
def w_D_rowOf : List Cond := .code y_D_rowOf c_D_rowOf 2 (some .int) :: wsA
def w_D_isByte : List Cond := .code y_D_isByte c_D_isByte 3 (some .boolean) :: wsA
def w_D_isDisk : List Cond := .code y_D_isDisk c_D_isDisk 2 (some .boolean) :: wsA
def w_D_isRow : List Cond := .code y_D_isRow c_D_isRow 2 (some .boolean) :: wsA
def w_D_isBlank : List Cond := .code y_D_isBlank c_D_isBlank 2 (some .boolean) :: wsA
def w_D_isRotten : List Cond := .code y_D_isRotten c_D_isRotten 3 (some .boolean) :: wsA
def w_D_isGone : List Cond := .code y_D_isGone c_D_isGone 3 (some .boolean) :: wsA
def w_D_goneIn : List Cond := .code y_D_goneIn c_D_goneIn 4 (some .int) :: wsA
def w_D_rottenIn : List Cond := .code y_D_rottenIn c_D_rottenIn 4 (some .int) :: wsA
def w_D_canBeMissed : List Cond := .code y_D_canBeMissed c_D_canBeMissed 3 (some .boolean) :: wsA
def w_D_lostDisks : List Cond := .code y_D_lostDisks c_D_lostDisks 1 (some .int) :: wsA
def w_D_blankDisks : List Cond := .code y_D_blankDisks c_D_blankDisks 1 (some .int) :: wsA
def w_D_disksMarked : List Cond := .code y_D_disksMarked c_D_disksMarked 5 (some .int) :: wsA
def w_M_init : List Cond := .code y_M_init c_M_init 2 none :: wsA
def w_M_lay : List Cond := .code y_M_lay c_M_lay 4 (some .int) :: wsA
def w_M_blocks : List Cond := .code y_M_blocks c_M_blocks 1 (some .int) :: wsA
def w_M_wipe : List Cond := .code y_M_wipe c_M_wipe 3 none :: wsA
def w_M_newLabel : List Cond := .code y_M_newLabel c_M_newLabel 4 none :: wsA
def w_M_has : List Cond := .code y_M_has c_M_has 4 (some .int) :: wsA
def w_M_bitsOf : List Cond := .code y_M_bitsOf c_M_bitsOf 4 (some .int) :: wsA
def w_M_spread : List Cond := .code y_M_spread c_M_spread 10 none :: wsA
def w_M_label : List Cond := .code y_M_label c_M_label 2 none :: wsA
def w_M_stopAtLabel : List Cond := .code y_M_stopAtLabel c_M_stopAtLabel 4 (some .int) :: wsA
def w_M_powerOff : List Cond := .code y_M_powerOff c_M_powerOff 2 (some .int) :: wsA
def w_M_isGone : List Cond := .code y_M_isGone c_M_isGone 3 (some .boolean) :: wsA
def w_M_goneIn : List Cond := .code y_M_goneIn c_M_goneIn 4 (some .int) :: wsA
def w_M_gone : List Cond := .code y_M_gone c_M_gone 2 (some .int) :: wsA
def w_M_noDisk : List Cond := .code y_M_noDisk c_M_noDisk 2 (some .boolean) :: wsA
def w_M_status : List Cond := .code y_M_status c_M_status 2 (some .int) :: wsA
def w_M_manyLost : List Cond := .code y_M_manyLost c_M_manyLost 3 (some .int) :: wsA
def w_M_isBlank : List Cond := .code y_M_isBlank c_M_isBlank 2 (some .boolean) :: wsA
def w_M_noBlock : List Cond := .code y_M_noBlock c_M_noBlock 2 (some .boolean) :: wsA
def w_M_rowOf : List Cond := .code y_M_rowOf c_M_rowOf 2 (some .int) :: wsA
def w_M_inRow : List Cond := .code y_M_inRow c_M_inRow 5 (some .int) :: wsA
def w_M_many : List Cond := .code y_M_many c_M_many 3 (some .int) :: wsA
def w_M_use : List Cond := .code y_M_use c_M_use 4 (some .int) :: wsA
def w_M_write : List Cond := .code y_M_write c_M_write 7 (some .int) :: wsA
def w_M_read : List Cond := .code y_M_read c_M_read 3 (some .int) :: wsA
def w_M_copy : List Cond := .code y_M_copy c_M_copy 5 none :: wsA
def w_M_commit : List Cond := .code y_M_commit c_M_commit 6 (some .int) :: wsA
def w_M_place : List Cond := .code y_M_place c_M_place 2 none :: wsA
def w_M_forget : List Cond := .code y_M_forget c_M_forget 3 (some .int) :: wsA
def w_M_lose : List Cond := .code y_M_lose c_M_lose 3 (some .int) :: wsA
def w_M_replace : List Cond := .code y_M_replace c_M_replace 2 (some .int) :: wsA
def w_M_rot : List Cond := .code y_M_rot c_M_rot 3 (some .int) :: wsA
def w_M_fill : List Cond := .code y_M_fill c_M_fill 5 (some .int) :: wsA
def w_M_scrub : List Cond := .code y_M_scrub c_M_scrub 7 (some .int) :: wsA
def w_M_fail : List Cond := .code y_M_fail c_M_fail 1 (some .int) :: wsA
def w_M_writes : List Cond := .code y_M_writes c_M_writes 4 (some .int) :: wsA
def w_M_placed : List Cond := .code y_M_placed c_M_placed 3 (some .int) :: wsA
def w_M_stopped : List Cond := .code y_M_stopped c_M_stopped 2 (some .int) :: wsA
def w_M_mount : List Cond := .code y_M_mount c_M_mount 8 (some .int) :: wsA
def w_M_check : List Cond := .code y_M_check c_M_check 1 (some .int) :: wsA
def w_M_count : List Cond := .code y_M_count c_M_count 4 (some .int) :: wsA
def w_J_rangeCheck : List Cond := .code y_J_rangeCheck c_J_rangeCheck 3 none :: wsA
def w_J_fillJ : List Cond := .code y_J_fillJ c_J_fillJ 5 none :: wsA
def w_J_fillI : List Cond := .code y_J_fillI c_J_fillI 4 none :: wsA
def w_J_fillB : List Cond := .code y_J_fillB c_J_fillB 4 none :: wsA
def w_J_fillR : List Cond := .code y_J_fillR c_J_fillR 5 none :: wsA
theorem goodC {y : MethodName} {b : ByteArray} {n : Nat} {r : Option FieldType} (hc : Cond.code y b n r ∈ wsA) : ∀ w ∈ (Cond.code y b n r :: wsA), w ∈ wsA := fun w h => (List.mem_cons.mp h).elim (fun e => e ▸ hc) id
theorem goodV {own C : String} {idx : Nat} {y : MethodName} {b : ByteArray} {n : Nat} {r : Option FieldType} (h1 : Cond.methodLink own idx y ∈ wsA) (h2 : Cond.instanceMethod y ∈ wsA) (h3 : Cond.selects C y y ∈ wsA) (h4 : Cond.initialized C ∈ wsA) (hc : Cond.code y b n r ∈ wsA) : GoodIn wsA (wsV own idx C y (Cond.code y b n r :: wsA)) := goodA (fun w h => by
  rcases List.mem_append.mp (show w ∈ ([.methodLink own idx y, .instanceMethod y, .selects C y y, .initialized C] : List Cond) ++ (Cond.code y b n r :: wsA) from h) with h | h
  · simp only [List.mem_cons, List.not_mem_nil, or_false] at h
    rcases h with rfl | rfl | rfl | rfl <;> assumption
  · exact goodC hc w h)
theorem goodS {own : String} {idx : Nat} {y : MethodName} {b : ByteArray} {n : Nat} {r : Option FieldType} (h1 : Cond.methodLink own idx y ∈ wsA) (h2 : Cond.static y ∈ wsA) (h4 : Cond.initialized y.cls ∈ wsA) (hc : Cond.code y b n r ∈ wsA) : GoodIn wsA (va_wsS own idx y (Cond.code y b n r :: wsA)) := goodA (fun w h => by
  rcases List.mem_append.mp (show w ∈ ([.methodLink own idx y, .static y, .initialized y.cls] : List Cond) ++ (Cond.code y b n r :: wsA) from h) with h | h
  · simp only [List.mem_cons, List.not_mem_nil, or_false] at h
    rcases h with rfl | rfl | rfl <;> assumption
  · exact goodC hc w h)
theorem wi_W : Cond.initialized R_W ∈ wsA := wd 50 (by decide +kernel) (by decide +kernel)
theorem wi_D : Cond.initialized R_D ∈ wsA := wd 51 (by decide +kernel) (by decide +kernel)
theorem wi_G : Cond.initialized R_G ∈ wsA := wd 52 (by decide +kernel) (by decide +kernel)
theorem wi_L : Cond.initialized R_L ∈ wsA := wd 53 (by decide +kernel) (by decide +kernel)
theorem wi_J : Cond.initialized R_J ∈ wsA := wd 54 (by decide +kernel) (by decide +kernel)
theorem wi_S : Cond.initialized "java/lang/System" ∈ wsA := wd 55 (by decide +kernel) (by decide +kernel)
theorem wi_M : Cond.initialized R_M ∈ wsA := wd 56 (by decide +kernel) (by decide +kernel)
theorem wk_W_7 : Cond.classLink R_W 7 R_D ∈ wsA := wd 57 (by decide +kernel) (by decide +kernel)
theorem wx_D : Cond.instantiable R_D 9 ∈ wsA := wd 58 (by decide +kernel) (by decide +kernel)
theorem wm_W_9 : Cond.methodLink R_W 9 y_D_init ∈ wsA := wd 59 (by decide +kernel) (by decide +kernel)
theorem wn_D_init : Cond.instanceMethod y_D_init ∈ wsA := wd 60 (by decide +kernel) (by decide +kernel)
theorem wc_D_init : Cond.code y_D_init c_D_init 1 none ∈ wsA := wd 61 (by decide +kernel) (by decide +kernel)
theorem wm_D_3 : Cond.methodLink R_D 3 objectInit ∈ wsA := wd 62 (by decide +kernel) (by decide +kernel)
theorem wn_objectInit : Cond.instanceMethod objectInit ∈ wsA := wd 63 (by decide +kernel) (by decide +kernel)
theorem wc_objectInit : Cond.code objectInit ⟨#[0xb1]⟩ 1 none ∈ wsA := wd 64 (by decide +kernel) (by decide +kernel)
theorem wk_D_21 : Cond.classLink R_D 21 R_G ∈ wsA := wd 65 (by decide +kernel) (by decide +kernel)
theorem wx_G : Cond.instantiable R_G 5 ∈ wsA := wd 66 (by decide +kernel) (by decide +kernel)
theorem wn_G_init : Cond.instanceMethod y_G_init ∈ wsA := wd 68 (by decide +kernel) (by decide +kernel)
theorem wc_G_init : Cond.code y_G_init c_G_init 1 none ∈ wsA := wd 69 (by decide +kernel) (by decide +kernel)
theorem wm_G_3 : Cond.methodLink R_G 3 objectInit ∈ wsA := wd 70 (by decide +kernel) (by decide +kernel)
theorem wf_G_9 : Cond.fieldLink R_G 9 "StripeDisk$Group" "block" "[I" ∈ wsA := wd 71 (by decide +kernel) (by decide +kernel)
theorem wf_G_15 : Cond.fieldLink R_G 15 "StripeDisk$Group" "rowOfBlock" "[I" ∈ wsA := wd 72 (by decide +kernel) (by decide +kernel)
theorem wf_G_18 : Cond.fieldLink R_G 18 "StripeDisk$Group" "bytes" "[B" ∈ wsA := wd 73 (by decide +kernel) (by decide +kernel)
theorem wf_G_22 : Cond.fieldLink R_G 22 "StripeDisk$Group" "taken" "I" ∈ wsA := wd 74 (by decide +kernel) (by decide +kernel)
theorem wf_G_26 : Cond.fieldLink R_G 26 "StripeDisk$Group" "rowsTaken" "I" ∈ wsA := wd 75 (by decide +kernel) (by decide +kernel)
theorem wa_int : Cond.arrayClass .int ∈ wsA := wd 87 (by decide +kernel) (by decide +kernel)
theorem wa_long : Cond.arrayClass .long ∈ wsA := wd 88 (by decide +kernel) (by decide +kernel)
theorem wa_byte : Cond.arrayClass .byte ∈ wsA := wd 89 (by decide +kernel) (by decide +kernel)
theorem wk_D_31 : Cond.classLink R_D 31 R_L ∈ wsA := wd 90 (by decide +kernel) (by decide +kernel)
theorem wx_L : Cond.instantiable R_L 7 ∈ wsA := wd 91 (by decide +kernel) (by decide +kernel)
theorem wn_L_init : Cond.instanceMethod y_L_init ∈ wsA := wd 93 (by decide +kernel) (by decide +kernel)
theorem wc_L_init : Cond.code y_L_init c_L_init 1 none ∈ wsA := wd 94 (by decide +kernel) (by decide +kernel)
theorem wm_L_3 : Cond.methodLink R_L 3 objectInit ∈ wsA := wd 95 (by decide +kernel) (by decide +kernel)
theorem wk_L_9 : Cond.classLink R_L 9 "[[I" ∈ wsA := wd 96 (by decide +kernel) (by decide +kernel)
theorem wf_L_11 : Cond.fieldLink R_L 11 "StripeDisk$Labels" "firstHalf" "[[I" ∈ wsA := wd 98 (by decide +kernel) (by decide +kernel)
theorem wf_L_16 : Cond.fieldLink R_L 16 "StripeDisk$Labels" "lastHalf" "[[I" ∈ wsA := wd 99 (by decide +kernel) (by decide +kernel)
theorem wf_L_19 : Cond.fieldLink R_L 19 "StripeDisk$Labels" "told" "[[I" ∈ wsA := wd 100 (by decide +kernel) (by decide +kernel)
theorem wf_L_22 : Cond.fieldLink R_L 22 "StripeDisk$Labels" "number" "[I" ∈ wsA := wd 101 (by decide +kernel) (by decide +kernel)
theorem wf_L_26 : Cond.fieldLink R_L 26 "StripeDisk$Labels" "ofGroup" "[Z" ∈ wsA := wd 102 (by decide +kernel) (by decide +kernel)
theorem wf_L_34 : Cond.fieldLink R_L 34 "StripeDisk$Labels" "made" "I" ∈ wsA := wd 103 (by decide +kernel) (by decide +kernel)
theorem wf_L_30 : Cond.fieldLink R_L 30 "StripeDisk$Labels" "counting" "I" ∈ wsA := wd 104 (by decide +kernel) (by decide +kernel)
theorem wa_boolean : Cond.arrayClass .boolean ∈ wsA := wd 120 (by decide +kernel) (by decide +kernel)
theorem wm_D_38 : Cond.methodLink R_D 38 y_D_layOut ∈ wsA := wd 121 (by decide +kernel) (by decide +kernel)
theorem wn_D_layOut : Cond.instanceMethod y_D_layOut ∈ wsA := wd 123 (by decide +kernel) (by decide +kernel)
theorem wc_D_layOut : Cond.code y_D_layOut c_D_layOut 4 none ∈ wsA := wd 124 (by decide +kernel) (by decide +kernel)
theorem wm_D_173 : Cond.methodLink R_D 173 y_J_fillI ∈ wsA := wd 125 (by decide +kernel) (by decide +kernel)
theorem wt_J_fillI : Cond.static y_J_fillI ∈ wsA := wd 126 (by decide +kernel) (by decide +kernel)
theorem wc_J_fillI : Cond.code y_J_fillI c_J_fillI 4 none ∈ wsA := wd 127 (by decide +kernel) (by decide +kernel)
theorem wm_D_179 : Cond.methodLink R_D 179 y_J_fillJ ∈ wsA := wd 128 (by decide +kernel) (by decide +kernel)
theorem wt_J_fillJ : Cond.static y_J_fillJ ∈ wsA := wd 129 (by decide +kernel) (by decide +kernel)
theorem wc_J_fillJ : Cond.code y_J_fillJ c_J_fillJ 5 none ∈ wsA := wd 130 (by decide +kernel) (by decide +kernel)
theorem wm_D_182 : Cond.methodLink R_D 182 y_J_fillB ∈ wsA := wd 131 (by decide +kernel) (by decide +kernel)
theorem wt_J_fillB : Cond.static y_J_fillB ∈ wsA := wd 132 (by decide +kernel) (by decide +kernel)
theorem wc_J_fillB : Cond.code y_J_fillB c_J_fillB 4 none ∈ wsA := wd 133 (by decide +kernel) (by decide +kernel)
theorem wm_D_109 : Cond.methodLink R_D 109 y_G_clear ∈ wsA := wd 134 (by decide +kernel) (by decide +kernel)
theorem wn_G_clear : Cond.instanceMethod y_G_clear ∈ wsA := wd 135 (by decide +kernel) (by decide +kernel)
theorem ws_G_clear : Cond.selects R_G y_G_clear y_G_clear ∈ wsA := wd 136 (by decide +kernel) (by decide +kernel)
theorem wc_G_clear : Cond.code y_G_clear c_G_clear 1 none ∈ wsA := wd 137 (by decide +kernel) (by decide +kernel)
theorem wm_D_122 : Cond.methodLink R_D 122 y_L_wipe ∈ wsA := wd 138 (by decide +kernel) (by decide +kernel)
theorem wn_L_wipe : Cond.instanceMethod y_L_wipe ∈ wsA := wd 139 (by decide +kernel) (by decide +kernel)
theorem ws_L_wipe : Cond.selects R_L y_L_wipe y_L_wipe ∈ wsA := wd 140 (by decide +kernel) (by decide +kernel)
theorem wc_L_wipe : Cond.code y_L_wipe c_L_wipe 3 none ∈ wsA := wd 141 (by decide +kernel) (by decide +kernel)
theorem wm_D_94 : Cond.methodLink R_D 94 y_L_draft ∈ wsA := wd 142 (by decide +kernel) (by decide +kernel)
theorem wn_L_draft : Cond.instanceMethod y_L_draft ∈ wsA := wd 143 (by decide +kernel) (by decide +kernel)
theorem ws_L_draft : Cond.selects R_L y_L_draft y_L_draft ∈ wsA := wd 144 (by decide +kernel) (by decide +kernel)
theorem wc_L_draft : Cond.code y_L_draft c_L_draft 4 none ∈ wsA := wd 145 (by decide +kernel) (by decide +kernel)
theorem wm_L_37 : Cond.methodLink R_L 37 arraycopyName ∈ wsA := wd 146 (by decide +kernel) (by decide +kernel)
theorem wt_arraycopyName : Cond.static arraycopyName ∈ wsA := wd 147 (by decide +kernel) (by decide +kernel)
theorem wv_arraycopyName : Cond.native arraycopyName ∈ wsA := wd 148 (by decide +kernel) (by decide +kernel)
theorem wm_D_102 : Cond.methodLink R_D 102 y_D_finishLabel ∈ wsA := wd 149 (by decide +kernel) (by decide +kernel)
theorem wn_D_finishLabel : Cond.instanceMethod y_D_finishLabel ∈ wsA := wd 151 (by decide +kernel) (by decide +kernel)
theorem wc_D_finishLabel : Cond.code y_D_finishLabel c_D_finishLabel 1 none ∈ wsA := wd 152 (by decide +kernel) (by decide +kernel)
theorem wk_D_156 : Cond.constantLong R_D 156 6148914691236517205 ∈ wsA := wd 153 (by decide +kernel) (by decide +kernel)
theorem wm_D_185 : Cond.methodLink R_D 185 y_D_writeLabel ∈ wsA := wd 154 (by decide +kernel) (by decide +kernel)
theorem wn_D_writeLabel : Cond.instanceMethod y_D_writeLabel ∈ wsA := wd 156 (by decide +kernel) (by decide +kernel)
theorem wc_D_writeLabel : Cond.code y_D_writeLabel c_D_writeLabel 5 none ∈ wsA := wd 157 (by decide +kernel) (by decide +kernel)
theorem wm_D_191 : Cond.methodLink R_D 191 y_D_partDown ∈ wsA := wd 158 (by decide +kernel) (by decide +kernel)
theorem wt_D_partDown : Cond.static y_D_partDown ∈ wsA := wd 159 (by decide +kernel) (by decide +kernel)
theorem wc_D_partDown : Cond.code y_D_partDown c_D_partDown 3 (some .int) ∈ wsA := wd 160 (by decide +kernel) (by decide +kernel)
theorem wm_D_195 : Cond.methodLink R_D 195 y_L_putDraft ∈ wsA := wd 161 (by decide +kernel) (by decide +kernel)
theorem wn_L_putDraft : Cond.instanceMethod y_L_putDraft ∈ wsA := wd 162 (by decide +kernel) (by decide +kernel)
theorem ws_L_putDraft : Cond.selects R_L y_L_putDraft y_L_putDraft ∈ wsA := wd 163 (by decide +kernel) (by decide +kernel)
theorem wc_L_putDraft : Cond.code y_L_putDraft c_L_putDraft 3 none ∈ wsA := wd 164 (by decide +kernel) (by decide +kernel)
theorem wm_L_43 : Cond.methodLink R_L 43 y_L_put ∈ wsA := wd 165 (by decide +kernel) (by decide +kernel)
theorem wn_L_put : Cond.instanceMethod y_L_put ∈ wsA := wd 167 (by decide +kernel) (by decide +kernel)
theorem wc_L_put : Cond.code y_L_put c_L_put 4 none ∈ wsA := wd 168 (by decide +kernel) (by decide +kernel)
theorem wm_D_188 : Cond.methodLink R_D 188 y_L_draftCounts ∈ wsA := wd 169 (by decide +kernel) (by decide +kernel)
theorem wn_L_draftCounts : Cond.instanceMethod y_L_draftCounts ∈ wsA := wd 170 (by decide +kernel) (by decide +kernel)
theorem ws_L_draftCounts : Cond.selects R_L y_L_draftCounts y_L_draftCounts ∈ wsA := wd 171 (by decide +kernel) (by decide +kernel)
theorem wc_L_draftCounts : Cond.code y_L_draftCounts c_L_draftCounts 1 none ∈ wsA := wd 172 (by decide +kernel) (by decide +kernel)
theorem wf_D_9 : Cond.fieldLink R_D 9 "StripeDisk" "mark" "[I" ∈ wsA := wd 173 (by decide +kernel) (by decide +kernel)
theorem wf_D_13 : Cond.fieldLink R_D 13 "StripeDisk" "rotten" "[J" ∈ wsA := wd 174 (by decide +kernel) (by decide +kernel)
theorem wf_D_17 : Cond.fieldLink R_D 17 "StripeDisk" "kept" "[B" ∈ wsA := wd 175 (by decide +kernel) (by decide +kernel)
theorem wf_D_24 : Cond.fieldLink R_D 24 "StripeDisk" "group" "LStripeDisk$Group;" ∈ wsA := wd 176 (by decide +kernel) (by decide +kernel)
theorem wf_D_28 : Cond.fieldLink R_D 28 "StripeDisk" "journal" "LStripeDisk$Group;" ∈ wsA := wd 177 (by decide +kernel) (by decide +kernel)
theorem wf_D_34 : Cond.fieldLink R_D 34 "StripeDisk" "labels" "LStripeDisk$Labels;" ∈ wsA := wd 178 (by decide +kernel) (by decide +kernel)
theorem wf_D_64 : Cond.fieldLink R_D 64 "StripeDisk" "disks" "I" ∈ wsA := wd 179 (by decide +kernel) (by decide +kernel)
theorem wf_D_170 : Cond.fieldLink R_D 170 "StripeDisk" "rows" "I" ∈ wsA := wd 180 (by decide +kernel) (by decide +kernel)
theorem wf_D_46 : Cond.fieldLink R_D 46 "StripeDisk" "power" "Z" ∈ wsA := wd 181 (by decide +kernel) (by decide +kernel)
theorem wm_W_13 : Cond.methodLink R_W 13 y_D_lay ∈ wsA := wd 201 (by decide +kernel) (by decide +kernel)
theorem wn_D_lay : Cond.instanceMethod y_D_lay ∈ wsA := wd 202 (by decide +kernel) (by decide +kernel)
theorem ws_D_lay : Cond.selects R_D y_D_lay y_D_lay ∈ wsA := wd 203 (by decide +kernel) (by decide +kernel)
theorem wc_D_lay : Cond.code y_D_lay c_D_lay 3 (some .int) ∈ wsA := wd 204 (by decide +kernel) (by decide +kernel)
theorem wm_D_42 : Cond.methodLink R_D 42 y_D_blocks ∈ wsA := wd 205 (by decide +kernel) (by decide +kernel)
theorem wn_D_blocks : Cond.instanceMethod y_D_blocks ∈ wsA := wd 207 (by decide +kernel) (by decide +kernel)
theorem wc_D_blocks : Cond.code y_D_blocks c_D_blocks 1 (some .int) ∈ wsA := wd 208 (by decide +kernel) (by decide +kernel)
theorem wm_W_18 : Cond.methodLink R_W 18 y_D_write ∈ wsA := wd 209 (by decide +kernel) (by decide +kernel)
theorem wn_D_write : Cond.instanceMethod y_D_write ∈ wsA := wd 210 (by decide +kernel) (by decide +kernel)
theorem ws_D_write : Cond.selects R_D y_D_write y_D_write ∈ wsA := wd 211 (by decide +kernel) (by decide +kernel)
theorem wc_D_write : Cond.code y_D_write c_D_write 7 (some .int) ∈ wsA := wd 212 (by decide +kernel) (by decide +kernel)
theorem wm_D_50 : Cond.methodLink R_D 50 y_D_isByte ∈ wsA := wd 213 (by decide +kernel) (by decide +kernel)
theorem wn_D_isByte : Cond.instanceMethod y_D_isByte ∈ wsA := wd 215 (by decide +kernel) (by decide +kernel)
theorem wc_D_isByte : Cond.code y_D_isByte c_D_isByte 3 (some .boolean) ∈ wsA := wd 216 (by decide +kernel) (by decide +kernel)
theorem wm_D_54 : Cond.methodLink R_D 54 y_G_placeOf ∈ wsA := wd 217 (by decide +kernel) (by decide +kernel)
theorem wn_G_placeOf : Cond.instanceMethod y_G_placeOf ∈ wsA := wd 218 (by decide +kernel) (by decide +kernel)
theorem ws_G_placeOf : Cond.selects R_G y_G_placeOf y_G_placeOf ∈ wsA := wd 219 (by decide +kernel) (by decide +kernel)
theorem wc_G_placeOf : Cond.code y_G_placeOf c_G_placeOf 3 (some .int) ∈ wsA := wd 220 (by decide +kernel) (by decide +kernel)
theorem wm_D_58 : Cond.methodLink R_D 58 y_D_rowOf ∈ wsA := wd 221 (by decide +kernel) (by decide +kernel)
theorem wn_D_rowOf : Cond.instanceMethod y_D_rowOf ∈ wsA := wd 223 (by decide +kernel) (by decide +kernel)
theorem wc_D_rowOf : Cond.code y_D_rowOf c_D_rowOf 2 (some .int) ∈ wsA := wd 224 (by decide +kernel) (by decide +kernel)
theorem wm_D_61 : Cond.methodLink R_D 61 y_G_useWithOneMore ∈ wsA := wd 225 (by decide +kernel) (by decide +kernel)
theorem wn_G_useWithOneMore : Cond.instanceMethod y_G_useWithOneMore ∈ wsA := wd 226 (by decide +kernel) (by decide +kernel)
theorem ws_G_useWithOneMore : Cond.selects R_G y_G_useWithOneMore y_G_useWithOneMore ∈ wsA := wd 227 (by decide +kernel) (by decide +kernel)
theorem wc_G_useWithOneMore : Cond.code y_G_useWithOneMore c_G_useWithOneMore 3 (some .int) ∈ wsA := wd 228 (by decide +kernel) (by decide +kernel)
theorem wm_G_29 : Cond.methodLink R_G 29 y_G_firstOf ∈ wsA := wd 229 (by decide +kernel) (by decide +kernel)
theorem wn_G_firstOf : Cond.instanceMethod y_G_firstOf ∈ wsA := wd 231 (by decide +kernel) (by decide +kernel)
theorem wc_G_firstOf : Cond.code y_G_firstOf c_G_firstOf 3 (some .int) ∈ wsA := wd 232 (by decide +kernel) (by decide +kernel)
theorem wm_D_68 : Cond.methodLink R_D 68 y_G_take ∈ wsA := wd 233 (by decide +kernel) (by decide +kernel)
theorem wn_G_take : Cond.instanceMethod y_G_take ∈ wsA := wd 234 (by decide +kernel) (by decide +kernel)
theorem ws_G_take : Cond.selects R_G y_G_take y_G_take ∈ wsA := wd 235 (by decide +kernel) (by decide +kernel)
theorem wc_G_take : Cond.code y_G_take c_G_take 5 (some .int) ∈ wsA := wd 236 (by decide +kernel) (by decide +kernel)
theorem wm_G_33 : Cond.methodLink R_G 33 arraycopyName ∈ wsA := wd 237 (by decide +kernel) (by decide +kernel)
theorem wm_D_72 : Cond.methodLink R_D 72 y_G_set ∈ wsA := wd 238 (by decide +kernel) (by decide +kernel)
theorem wn_G_set : Cond.instanceMethod y_G_set ∈ wsA := wd 239 (by decide +kernel) (by decide +kernel)
theorem ws_G_set : Cond.selects R_G y_G_set y_G_set ∈ wsA := wd 240 (by decide +kernel) (by decide +kernel)
theorem wc_G_set : Cond.code y_G_set c_G_set 6 none ∈ wsA := wd 241 (by decide +kernel) (by decide +kernel)
theorem wm_G_39 : Cond.methodLink R_G 39 y_J_fillR ∈ wsA := wd 242 (by decide +kernel) (by decide +kernel)
theorem wt_J_fillR : Cond.static y_J_fillR ∈ wsA := wd 243 (by decide +kernel) (by decide +kernel)
theorem wc_J_fillR : Cond.code y_J_fillR c_J_fillR 5 none ∈ wsA := wd 244 (by decide +kernel) (by decide +kernel)
theorem wm_J_13 : Cond.methodLink R_J 13 y_J_rangeCheck ∈ wsA := wd 245 (by decide +kernel) (by decide +kernel)
theorem wt_J_rangeCheck : Cond.static y_J_rangeCheck ∈ wsA := wd 246 (by decide +kernel) (by decide +kernel)
theorem wc_J_rangeCheck : Cond.code y_J_rangeCheck c_J_rangeCheck 3 none ∈ wsA := wd 247 (by decide +kernel) (by decide +kernel)
theorem wm_D_76 : Cond.methodLink R_D 76 y_G_use ∈ wsA := wd 248 (by decide +kernel) (by decide +kernel)
theorem wn_G_use : Cond.instanceMethod y_G_use ∈ wsA := wd 249 (by decide +kernel) (by decide +kernel)
theorem ws_G_use : Cond.selects R_G y_G_use y_G_use ∈ wsA := wd 250 (by decide +kernel) (by decide +kernel)
theorem wc_G_use : Cond.code y_G_use c_G_use 1 (some .int) ∈ wsA := wd 251 (by decide +kernel) (by decide +kernel)
theorem wm_W_23 : Cond.methodLink R_W 23 y_D_read ∈ wsA := wd 252 (by decide +kernel) (by decide +kernel)
theorem wn_D_read : Cond.instanceMethod y_D_read ∈ wsA := wd 253 (by decide +kernel) (by decide +kernel)
theorem ws_D_read : Cond.selects R_D y_D_read y_D_read ∈ wsA := wd 254 (by decide +kernel) (by decide +kernel)
theorem wc_D_read : Cond.code y_D_read c_D_read 4 (some .int) ∈ wsA := wd 255 (by decide +kernel) (by decide +kernel)
theorem wm_D_79 : Cond.methodLink R_D 79 y_G_byteAt ∈ wsA := wd 256 (by decide +kernel) (by decide +kernel)
theorem wn_G_byteAt : Cond.instanceMethod y_G_byteAt ∈ wsA := wd 257 (by decide +kernel) (by decide +kernel)
theorem ws_G_byteAt : Cond.selects R_G y_G_byteAt y_G_byteAt ∈ wsA := wd 258 (by decide +kernel) (by decide +kernel)
theorem wc_G_byteAt : Cond.code y_G_byteAt c_G_byteAt 3 (some .int) ∈ wsA := wd 259 (by decide +kernel) (by decide +kernel)
theorem wm_W_29 : Cond.methodLink R_W 29 y_D_commit ∈ wsA := wd 260 (by decide +kernel) (by decide +kernel)
theorem wn_D_commit : Cond.instanceMethod y_D_commit ∈ wsA := wd 261 (by decide +kernel) (by decide +kernel)
theorem ws_D_commit : Cond.selects R_D y_D_commit y_D_commit ∈ wsA := wd 262 (by decide +kernel) (by decide +kernel)
theorem wc_D_commit : Cond.code y_D_commit c_D_commit 5 (some .int) ∈ wsA := wd 263 (by decide +kernel) (by decide +kernel)
theorem wm_D_83 : Cond.methodLink R_D 83 y_G_isEmpty ∈ wsA := wd 264 (by decide +kernel) (by decide +kernel)
theorem wn_G_isEmpty : Cond.instanceMethod y_G_isEmpty ∈ wsA := wd 265 (by decide +kernel) (by decide +kernel)
theorem ws_G_isEmpty : Cond.selects R_G y_G_isEmpty y_G_isEmpty ∈ wsA := wd 266 (by decide +kernel) (by decide +kernel)
theorem wc_G_isEmpty : Cond.code y_G_isEmpty c_G_isEmpty 1 (some .boolean) ∈ wsA := wd 267 (by decide +kernel) (by decide +kernel)
theorem wm_D_87 : Cond.methodLink R_D 87 y_D_powerFails ∈ wsA := wd 268 (by decide +kernel) (by decide +kernel)
theorem wn_D_powerFails : Cond.instanceMethod y_D_powerFails ∈ wsA := wd 270 (by decide +kernel) (by decide +kernel)
theorem wc_D_powerFails : Cond.code y_D_powerFails c_D_powerFails 1 (some .int) ∈ wsA := wd 271 (by decide +kernel) (by decide +kernel)
theorem wm_D_90 : Cond.methodLink R_D 90 y_G_become ∈ wsA := wd 272 (by decide +kernel) (by decide +kernel)
theorem wn_G_become : Cond.instanceMethod y_G_become ∈ wsA := wd 273 (by decide +kernel) (by decide +kernel)
theorem ws_G_become : Cond.selects R_G y_G_become y_G_become ∈ wsA := wd 274 (by decide +kernel) (by decide +kernel)
theorem wc_G_become : Cond.code y_G_become c_G_become 2 none ∈ wsA := wd 275 (by decide +kernel) (by decide +kernel)
theorem wm_D_98 : Cond.methodLink R_D 98 y_D_powerFailsInLabel ∈ wsA := wd 276 (by decide +kernel) (by decide +kernel)
theorem wn_D_powerFailsInLabel : Cond.instanceMethod y_D_powerFailsInLabel ∈ wsA := wd 278 (by decide +kernel) (by decide +kernel)
theorem wc_D_powerFailsInLabel : Cond.code y_D_powerFailsInLabel c_D_powerFailsInLabel 3 (some .int) ∈ wsA := wd 279 (by decide +kernel) (by decide +kernel)
theorem wm_D_105 : Cond.methodLink R_D 105 y_G_keepIn ∈ wsA := wd 280 (by decide +kernel) (by decide +kernel)
theorem wn_G_keepIn : Cond.instanceMethod y_G_keepIn ∈ wsA := wd 281 (by decide +kernel) (by decide +kernel)
theorem ws_G_keepIn : Cond.selects R_G y_G_keepIn y_G_keepIn ∈ wsA := wd 282 (by decide +kernel) (by decide +kernel)
theorem wc_G_keepIn : Cond.code y_G_keepIn c_G_keepIn 3 none ∈ wsA := wd 283 (by decide +kernel) (by decide +kernel)
theorem wm_W_34 : Cond.methodLink R_W 34 y_D_forget ∈ wsA := wd 284 (by decide +kernel) (by decide +kernel)
theorem wn_D_forget : Cond.instanceMethod y_D_forget ∈ wsA := wd 285 (by decide +kernel) (by decide +kernel)
theorem ws_D_forget : Cond.selects R_D y_D_forget y_D_forget ∈ wsA := wd 286 (by decide +kernel) (by decide +kernel)
theorem wc_D_forget : Cond.code y_D_forget c_D_forget 2 (some .int) ∈ wsA := wd 287 (by decide +kernel) (by decide +kernel)
theorem wm_D_112 : Cond.methodLink R_D 112 y_G_size ∈ wsA := wd 288 (by decide +kernel) (by decide +kernel)
theorem wn_G_size : Cond.instanceMethod y_G_size ∈ wsA := wd 289 (by decide +kernel) (by decide +kernel)
theorem ws_G_size : Cond.selects R_G y_G_size y_G_size ∈ wsA := wd 290 (by decide +kernel) (by decide +kernel)
theorem wc_G_size : Cond.code y_G_size c_G_size 1 (some .int) ∈ wsA := wd 291 (by decide +kernel) (by decide +kernel)
theorem wm_W_39 : Cond.methodLink R_W 39 y_D_lose ∈ wsA := wd 292 (by decide +kernel) (by decide +kernel)
theorem wn_D_lose : Cond.instanceMethod y_D_lose ∈ wsA := wd 293 (by decide +kernel) (by decide +kernel)
theorem ws_D_lose : Cond.selects R_D y_D_lose y_D_lose ∈ wsA := wd 294 (by decide +kernel) (by decide +kernel)
theorem wc_D_lose : Cond.code y_D_lose c_D_lose 2 (some .int) ∈ wsA := wd 295 (by decide +kernel) (by decide +kernel)
theorem wm_D_115 : Cond.methodLink R_D 115 y_D_isDisk ∈ wsA := wd 296 (by decide +kernel) (by decide +kernel)
theorem wn_D_isDisk : Cond.instanceMethod y_D_isDisk ∈ wsA := wd 298 (by decide +kernel) (by decide +kernel)
theorem wc_D_isDisk : Cond.code y_D_isDisk c_D_isDisk 2 (some .boolean) ∈ wsA := wd 299 (by decide +kernel) (by decide +kernel)
theorem wm_D_119 : Cond.methodLink R_D 119 y_D_canBeMissed ∈ wsA := wd 300 (by decide +kernel) (by decide +kernel)
theorem wn_D_canBeMissed : Cond.instanceMethod y_D_canBeMissed ∈ wsA := wd 302 (by decide +kernel) (by decide +kernel)
theorem wc_D_canBeMissed : Cond.code y_D_canBeMissed c_D_canBeMissed 3 (some .boolean) ∈ wsA := wd 303 (by decide +kernel) (by decide +kernel)
theorem wm_D_132 : Cond.methodLink R_D 132 y_D_isGone ∈ wsA := wd 304 (by decide +kernel) (by decide +kernel)
theorem wn_D_isGone : Cond.instanceMethod y_D_isGone ∈ wsA := wd 306 (by decide +kernel) (by decide +kernel)
theorem wc_D_isGone : Cond.code y_D_isGone c_D_isGone 3 (some .boolean) ∈ wsA := wd 307 (by decide +kernel) (by decide +kernel)
theorem wm_D_219 : Cond.methodLink R_D 219 y_D_isRotten ∈ wsA := wd 308 (by decide +kernel) (by decide +kernel)
theorem wn_D_isRotten : Cond.instanceMethod y_D_isRotten ∈ wsA := wd 310 (by decide +kernel) (by decide +kernel)
theorem wc_D_isRotten : Cond.code y_D_isRotten c_D_isRotten 3 (some .boolean) ∈ wsA := wd 311 (by decide +kernel) (by decide +kernel)
theorem wm_D_135 : Cond.methodLink R_D 135 y_D_goneIn ∈ wsA := wd 312 (by decide +kernel) (by decide +kernel)
theorem wn_D_goneIn : Cond.instanceMethod y_D_goneIn ∈ wsA := wd 314 (by decide +kernel) (by decide +kernel)
theorem wc_D_goneIn : Cond.code y_D_goneIn c_D_goneIn 4 (some .int) ∈ wsA := wd 315 (by decide +kernel) (by decide +kernel)
theorem wm_D_126 : Cond.methodLink R_D 126 y_D_lostDisks ∈ wsA := wd 316 (by decide +kernel) (by decide +kernel)
theorem wn_D_lostDisks : Cond.instanceMethod y_D_lostDisks ∈ wsA := wd 318 (by decide +kernel) (by decide +kernel)
theorem wc_D_lostDisks : Cond.code y_D_lostDisks c_D_lostDisks 1 (some .int) ∈ wsA := wd 319 (by decide +kernel) (by decide +kernel)
theorem wm_D_222 : Cond.methodLink R_D 222 y_D_disksMarked ∈ wsA := wd 320 (by decide +kernel) (by decide +kernel)
theorem wn_D_disksMarked : Cond.instanceMethod y_D_disksMarked ∈ wsA := wd 322 (by decide +kernel) (by decide +kernel)
theorem wc_D_disksMarked : Cond.code y_D_disksMarked c_D_disksMarked 5 (some .int) ∈ wsA := wd 323 (by decide +kernel) (by decide +kernel)
theorem wm_W_44 : Cond.methodLink R_W 44 y_D_replace ∈ wsA := wd 324 (by decide +kernel) (by decide +kernel)
theorem wn_D_replace : Cond.instanceMethod y_D_replace ∈ wsA := wd 325 (by decide +kernel) (by decide +kernel)
theorem ws_D_replace : Cond.selects R_D y_D_replace y_D_replace ∈ wsA := wd 326 (by decide +kernel) (by decide +kernel)
theorem wc_D_replace : Cond.code y_D_replace c_D_replace 2 (some .int) ∈ wsA := wd 327 (by decide +kernel) (by decide +kernel)
theorem wm_W_48 : Cond.methodLink R_W 48 y_D_rot ∈ wsA := wd 328 (by decide +kernel) (by decide +kernel)
theorem wn_D_rot : Cond.instanceMethod y_D_rot ∈ wsA := wd 329 (by decide +kernel) (by decide +kernel)
theorem ws_D_rot : Cond.selects R_D y_D_rot y_D_rot ∈ wsA := wd 330 (by decide +kernel) (by decide +kernel)
theorem wc_D_rot : Cond.code y_D_rot c_D_rot 4 (some .int) ∈ wsA := wd 331 (by decide +kernel) (by decide +kernel)
theorem wm_D_129 : Cond.methodLink R_D 129 y_D_isRow ∈ wsA := wd 332 (by decide +kernel) (by decide +kernel)
theorem wn_D_isRow : Cond.instanceMethod y_D_isRow ∈ wsA := wd 334 (by decide +kernel) (by decide +kernel)
theorem wc_D_isRow : Cond.code y_D_isRow c_D_isRow 2 (some .boolean) ∈ wsA := wd 335 (by decide +kernel) (by decide +kernel)
theorem wm_W_52 : Cond.methodLink R_W 52 y_D_fill ∈ wsA := wd 336 (by decide +kernel) (by decide +kernel)
theorem wn_D_fill : Cond.instanceMethod y_D_fill ∈ wsA := wd 337 (by decide +kernel) (by decide +kernel)
theorem ws_D_fill : Cond.selects R_D y_D_fill y_D_fill ∈ wsA := wd 338 (by decide +kernel) (by decide +kernel)
theorem wc_D_fill : Cond.code y_D_fill c_D_fill 6 (some .int) ∈ wsA := wd 339 (by decide +kernel) (by decide +kernel)
theorem wm_D_138 : Cond.methodLink R_D 138 y_D_isBlank ∈ wsA := wd 340 (by decide +kernel) (by decide +kernel)
theorem wn_D_isBlank : Cond.instanceMethod y_D_isBlank ∈ wsA := wd 342 (by decide +kernel) (by decide +kernel)
theorem wc_D_isBlank : Cond.code y_D_isBlank c_D_isBlank 2 (some .boolean) ∈ wsA := wd 343 (by decide +kernel) (by decide +kernel)
theorem wm_D_141 : Cond.methodLink R_D 141 y_L_tell ∈ wsA := wd 344 (by decide +kernel) (by decide +kernel)
theorem wn_L_tell : Cond.instanceMethod y_L_tell ∈ wsA := wd 345 (by decide +kernel) (by decide +kernel)
theorem ws_L_tell : Cond.selects R_L y_L_tell y_L_tell ∈ wsA := wd 346 (by decide +kernel) (by decide +kernel)
theorem wc_L_tell : Cond.code y_L_tell c_L_tell 3 none ∈ wsA := wd 347 (by decide +kernel) (by decide +kernel)
theorem wm_W_57 : Cond.methodLink R_W 57 y_D_scrub ∈ wsA := wd 348 (by decide +kernel) (by decide +kernel)
theorem wn_D_scrub : Cond.instanceMethod y_D_scrub ∈ wsA := wd 349 (by decide +kernel) (by decide +kernel)
theorem ws_D_scrub : Cond.selects R_D y_D_scrub y_D_scrub ∈ wsA := wd 350 (by decide +kernel) (by decide +kernel)
theorem wc_D_scrub : Cond.code y_D_scrub c_D_scrub 7 (some .int) ∈ wsA := wd 351 (by decide +kernel) (by decide +kernel)
theorem wm_D_144 : Cond.methodLink R_D 144 y_D_rottenIn ∈ wsA := wd 352 (by decide +kernel) (by decide +kernel)
theorem wn_D_rottenIn : Cond.instanceMethod y_D_rottenIn ∈ wsA := wd 354 (by decide +kernel) (by decide +kernel)
theorem wc_D_rottenIn : Cond.code y_D_rottenIn c_D_rottenIn 4 (some .int) ∈ wsA := wd 355 (by decide +kernel) (by decide +kernel)
theorem wk_D_147 : Cond.constantLong R_D 147 (-1) ∈ wsA := wd 356 (by decide +kernel) (by decide +kernel)
theorem wm_W_61 : Cond.methodLink R_W 61 y_D_mount ∈ wsA := wd 357 (by decide +kernel) (by decide +kernel)
theorem wn_D_mount : Cond.instanceMethod y_D_mount ∈ wsA := wd 358 (by decide +kernel) (by decide +kernel)
theorem ws_D_mount : Cond.selects R_D y_D_mount y_D_mount ∈ wsA := wd 359 (by decide +kernel) (by decide +kernel)
theorem wc_D_mount : Cond.code y_D_mount c_D_mount 5 (some .int) ∈ wsA := wd 360 (by decide +kernel) (by decide +kernel)
theorem wm_D_149 : Cond.methodLink R_D 149 y_L_findCounting ∈ wsA := wd 361 (by decide +kernel) (by decide +kernel)
theorem wn_L_findCounting : Cond.instanceMethod y_L_findCounting ∈ wsA := wd 362 (by decide +kernel) (by decide +kernel)
theorem ws_L_findCounting : Cond.selects R_L y_L_findCounting y_L_findCounting ∈ wsA := wd 363 (by decide +kernel) (by decide +kernel)
theorem wc_L_findCounting : Cond.code y_L_findCounting c_L_findCounting 4 none ∈ wsA := wd 364 (by decide +kernel) (by decide +kernel)
theorem wm_L_47 : Cond.methodLink R_L 47 y_L_has ∈ wsA := wd 365 (by decide +kernel) (by decide +kernel)
theorem wn_L_has : Cond.instanceMethod y_L_has ∈ wsA := wd 367 (by decide +kernel) (by decide +kernel)
theorem wc_L_has : Cond.code y_L_has c_L_has 3 (some .boolean) ∈ wsA := wd 368 (by decide +kernel) (by decide +kernel)
theorem wm_D_152 : Cond.methodLink R_D 152 y_D_writeLabelAgain ∈ wsA := wd 369 (by decide +kernel) (by decide +kernel)
theorem wn_D_writeLabelAgain : Cond.instanceMethod y_D_writeLabelAgain ∈ wsA := wd 371 (by decide +kernel) (by decide +kernel)
theorem wc_D_writeLabelAgain : Cond.code y_D_writeLabelAgain c_D_writeLabelAgain 5 none ∈ wsA := wd 372 (by decide +kernel) (by decide +kernel)
theorem wm_D_198 : Cond.methodLink R_D 198 y_L_hasSome ∈ wsA := wd 373 (by decide +kernel) (by decide +kernel)
theorem wn_L_hasSome : Cond.instanceMethod y_L_hasSome ∈ wsA := wd 374 (by decide +kernel) (by decide +kernel)
theorem ws_L_hasSome : Cond.selects R_L y_L_hasSome y_L_hasSome ∈ wsA := wd 375 (by decide +kernel) (by decide +kernel)
theorem wc_L_hasSome : Cond.code y_L_hasSome c_L_hasSome 2 (some .boolean) ∈ wsA := wd 376 (by decide +kernel) (by decide +kernel)
theorem wm_D_201 : Cond.methodLink R_D 201 y_L_putCounting ∈ wsA := wd 377 (by decide +kernel) (by decide +kernel)
theorem wn_L_putCounting : Cond.instanceMethod y_L_putCounting ∈ wsA := wd 378 (by decide +kernel) (by decide +kernel)
theorem ws_L_putCounting : Cond.selects R_L y_L_putCounting y_L_putCounting ∈ wsA := wd 379 (by decide +kernel) (by decide +kernel)
theorem wc_L_putCounting : Cond.code y_L_putCounting c_L_putCounting 3 none ∈ wsA := wd 380 (by decide +kernel) (by decide +kernel)
theorem wm_D_158 : Cond.methodLink R_D 158 y_D_takeMarksOfLabel ∈ wsA := wd 381 (by decide +kernel) (by decide +kernel)
theorem wn_D_takeMarksOfLabel : Cond.instanceMethod y_D_takeMarksOfLabel ∈ wsA := wd 383 (by decide +kernel) (by decide +kernel)
theorem wc_D_takeMarksOfLabel : Cond.code y_D_takeMarksOfLabel c_D_takeMarksOfLabel 2 none ∈ wsA := wd 384 (by decide +kernel) (by decide +kernel)
theorem wm_D_204 : Cond.methodLink R_D 204 y_L_toldMark ∈ wsA := wd 385 (by decide +kernel) (by decide +kernel)
theorem wn_L_toldMark : Cond.instanceMethod y_L_toldMark ∈ wsA := wd 386 (by decide +kernel) (by decide +kernel)
theorem ws_L_toldMark : Cond.selects R_L y_L_toldMark y_L_toldMark ∈ wsA := wd 387 (by decide +kernel) (by decide +kernel)
theorem wc_L_toldMark : Cond.code y_L_toldMark c_L_toldMark 2 (some .int) ∈ wsA := wd 388 (by decide +kernel) (by decide +kernel)
theorem wm_D_161 : Cond.methodLink R_D 161 y_L_tellsOfGroup ∈ wsA := wd 389 (by decide +kernel) (by decide +kernel)
theorem wn_L_tellsOfGroup : Cond.instanceMethod y_L_tellsOfGroup ∈ wsA := wd 390 (by decide +kernel) (by decide +kernel)
theorem ws_L_tellsOfGroup : Cond.selects R_L y_L_tellsOfGroup y_L_tellsOfGroup ∈ wsA := wd 391 (by decide +kernel) (by decide +kernel)
theorem wc_L_tellsOfGroup : Cond.code y_L_tellsOfGroup c_L_tellsOfGroup 1 (some .boolean) ∈ wsA := wd 392 (by decide +kernel) (by decide +kernel)
theorem wm_D_164 : Cond.methodLink R_D 164 y_D_unitsOfJournal ∈ wsA := wd 393 (by decide +kernel) (by decide +kernel)
theorem wn_D_unitsOfJournal : Cond.instanceMethod y_D_unitsOfJournal ∈ wsA := wd 395 (by decide +kernel) (by decide +kernel)
theorem wc_D_unitsOfJournal : Cond.code y_D_unitsOfJournal c_D_unitsOfJournal 5 (some .int) ∈ wsA := wd 396 (by decide +kernel) (by decide +kernel)
theorem wm_D_207 : Cond.methodLink R_D 207 y_G_rowAt ∈ wsA := wd 397 (by decide +kernel) (by decide +kernel)
theorem wn_G_rowAt : Cond.instanceMethod y_G_rowAt ∈ wsA := wd 398 (by decide +kernel) (by decide +kernel)
theorem ws_G_rowAt : Cond.selects R_G y_G_rowAt y_G_rowAt ∈ wsA := wd 399 (by decide +kernel) (by decide +kernel)
theorem wc_G_rowAt : Cond.code y_G_rowAt c_G_rowAt 2 (some .int) ∈ wsA := wd 400 (by decide +kernel) (by decide +kernel)
theorem wm_D_210 : Cond.methodLink R_D 210 y_G_blockAt ∈ wsA := wd 401 (by decide +kernel) (by decide +kernel)
theorem wn_G_blockAt : Cond.instanceMethod y_G_blockAt ∈ wsA := wd 402 (by decide +kernel) (by decide +kernel)
theorem ws_G_blockAt : Cond.selects R_G y_G_blockAt y_G_blockAt ∈ wsA := wd 403 (by decide +kernel) (by decide +kernel)
theorem wc_G_blockAt : Cond.code y_G_blockAt c_G_blockAt 2 (some .int) ∈ wsA := wd 404 (by decide +kernel) (by decide +kernel)
theorem wm_D_213 : Cond.methodLink R_D 213 y_D_takesUnit ∈ wsA := wd 405 (by decide +kernel) (by decide +kernel)
theorem wn_D_takesUnit : Cond.instanceMethod y_D_takesUnit ∈ wsA := wd 407 (by decide +kernel) (by decide +kernel)
theorem wc_D_takesUnit : Cond.code y_D_takesUnit c_D_takesUnit 3 (some .int) ∈ wsA := wd 408 (by decide +kernel) (by decide +kernel)
theorem wm_D_216 : Cond.methodLink R_D 216 y_G_isFirstOfRow ∈ wsA := wd 409 (by decide +kernel) (by decide +kernel)
theorem wn_G_isFirstOfRow : Cond.instanceMethod y_G_isFirstOfRow ∈ wsA := wd 410 (by decide +kernel) (by decide +kernel)
theorem ws_G_isFirstOfRow : Cond.selects R_G y_G_isFirstOfRow y_G_isFirstOfRow ∈ wsA := wd 411 (by decide +kernel) (by decide +kernel)
theorem wc_G_isFirstOfRow : Cond.code y_G_isFirstOfRow c_G_isFirstOfRow 2 (some .boolean) ∈ wsA := wd 412 (by decide +kernel) (by decide +kernel)
theorem wm_W_65 : Cond.methodLink R_W 65 y_D_fail ∈ wsA := wd 413 (by decide +kernel) (by decide +kernel)
theorem wn_D_fail : Cond.instanceMethod y_D_fail ∈ wsA := wd 414 (by decide +kernel) (by decide +kernel)
theorem ws_D_fail : Cond.selects R_D y_D_fail y_D_fail ∈ wsA := wd 415 (by decide +kernel) (by decide +kernel)
theorem wc_D_fail : Cond.code y_D_fail c_D_fail 1 (some .int) ∈ wsA := wd 416 (by decide +kernel) (by decide +kernel)
theorem wm_W_69 : Cond.methodLink R_W 69 y_D_check ∈ wsA := wd 417 (by decide +kernel) (by decide +kernel)
theorem wn_D_check : Cond.instanceMethod y_D_check ∈ wsA := wd 418 (by decide +kernel) (by decide +kernel)
theorem ws_D_check : Cond.selects R_D y_D_check y_D_check ∈ wsA := wd 419 (by decide +kernel) (by decide +kernel)
theorem wc_D_check : Cond.code y_D_check c_D_check 1 (some .int) ∈ wsA := wd 420 (by decide +kernel) (by decide +kernel)
theorem wm_W_73 : Cond.methodLink R_W 73 y_D_gone ∈ wsA := wd 421 (by decide +kernel) (by decide +kernel)
theorem wn_D_gone : Cond.instanceMethod y_D_gone ∈ wsA := wd 422 (by decide +kernel) (by decide +kernel)
theorem ws_D_gone : Cond.selects R_D y_D_gone y_D_gone ∈ wsA := wd 423 (by decide +kernel) (by decide +kernel)
theorem wc_D_gone : Cond.code y_D_gone c_D_gone 2 (some .int) ∈ wsA := wd 424 (by decide +kernel) (by decide +kernel)
theorem wm_W_77 : Cond.methodLink R_W 77 y_D_status ∈ wsA := wd 425 (by decide +kernel) (by decide +kernel)
theorem wn_D_status : Cond.instanceMethod y_D_status ∈ wsA := wd 426 (by decide +kernel) (by decide +kernel)
theorem ws_D_status : Cond.selects R_D y_D_status y_D_status ∈ wsA := wd 427 (by decide +kernel) (by decide +kernel)
theorem wc_D_status : Cond.code y_D_status c_D_status 2 (some .int) ∈ wsA := wd 428 (by decide +kernel) (by decide +kernel)
theorem wm_W_81 : Cond.methodLink R_W 81 y_D_count ∈ wsA := wd 429 (by decide +kernel) (by decide +kernel)
theorem wn_D_count : Cond.instanceMethod y_D_count ∈ wsA := wd 430 (by decide +kernel) (by decide +kernel)
theorem ws_D_count : Cond.selects R_D y_D_count y_D_count ∈ wsA := wd 431 (by decide +kernel) (by decide +kernel)
theorem wc_D_count : Cond.code y_D_count c_D_count 2 (some .int) ∈ wsA := wd 432 (by decide +kernel) (by decide +kernel)
theorem wm_D_167 : Cond.methodLink R_D 167 y_D_blankDisks ∈ wsA := wd 433 (by decide +kernel) (by decide +kernel)
theorem wn_D_blankDisks : Cond.instanceMethod y_D_blankDisks ∈ wsA := wd 435 (by decide +kernel) (by decide +kernel)
theorem wc_D_blankDisks : Cond.code y_D_blankDisks c_D_blankDisks 1 (some .int) ∈ wsA := wd 436 (by decide +kernel) (by decide +kernel)
theorem wk_W_10 : Cond.classLink R_W 10 R_M ∈ wsA := wd 437 (by decide +kernel) (by decide +kernel)
theorem wx_M : Cond.instantiable R_M 20 ∈ wsA := wd 438 (by decide +kernel) (by decide +kernel)
theorem wm_W_12 : Cond.methodLink R_W 12 y_M_init ∈ wsA := wd 439 (by decide +kernel) (by decide +kernel)
theorem wn_M_init : Cond.instanceMethod y_M_init ∈ wsA := wd 440 (by decide +kernel) (by decide +kernel)
theorem wc_M_init : Cond.code y_M_init c_M_init 2 none ∈ wsA := wd 441 (by decide +kernel) (by decide +kernel)
theorem wm_M_1 : Cond.methodLink R_M 1 objectInit ∈ wsA := wd 442 (by decide +kernel) (by decide +kernel)
theorem wm_M_54 : Cond.methodLink R_M 54 y_M_lay ∈ wsA := wd 443 (by decide +kernel) (by decide +kernel)
theorem wn_M_lay : Cond.instanceMethod y_M_lay ∈ wsA := wd 444 (by decide +kernel) (by decide +kernel)
theorem ws_M_lay : Cond.selects R_M y_M_lay y_M_lay ∈ wsA := wd 445 (by decide +kernel) (by decide +kernel)
theorem wc_M_lay : Cond.code y_M_lay c_M_lay 4 (some .int) ∈ wsA := wd 446 (by decide +kernel) (by decide +kernel)
theorem wm_M_78 : Cond.methodLink R_M 78 y_M_wipe ∈ wsA := wd 447 (by decide +kernel) (by decide +kernel)
theorem wn_M_wipe : Cond.instanceMethod y_M_wipe ∈ wsA := wd 449 (by decide +kernel) (by decide +kernel)
theorem wc_M_wipe : Cond.code y_M_wipe c_M_wipe 3 none ∈ wsA := wd 450 (by decide +kernel) (by decide +kernel)
theorem wm_M_82 : Cond.methodLink R_M 82 y_M_label ∈ wsA := wd 451 (by decide +kernel) (by decide +kernel)
theorem wn_M_label : Cond.instanceMethod y_M_label ∈ wsA := wd 453 (by decide +kernel) (by decide +kernel)
theorem wc_M_label : Cond.code y_M_label c_M_label 2 none ∈ wsA := wd 454 (by decide +kernel) (by decide +kernel)
theorem wm_M_100 : Cond.methodLink R_M 100 y_M_newLabel ∈ wsA := wd 455 (by decide +kernel) (by decide +kernel)
theorem wn_M_newLabel : Cond.instanceMethod y_M_newLabel ∈ wsA := wd 457 (by decide +kernel) (by decide +kernel)
theorem wc_M_newLabel : Cond.code y_M_newLabel c_M_newLabel 4 none ∈ wsA := wd 458 (by decide +kernel) (by decide +kernel)
theorem wm_M_103 : Cond.methodLink R_M 103 y_M_spread ∈ wsA := wd 459 (by decide +kernel) (by decide +kernel)
theorem wn_M_spread : Cond.instanceMethod y_M_spread ∈ wsA := wd 461 (by decide +kernel) (by decide +kernel)
theorem wc_M_spread : Cond.code y_M_spread c_M_spread 10 none ∈ wsA := wd 462 (by decide +kernel) (by decide +kernel)
theorem wm_M_92 : Cond.methodLink R_M 92 y_M_has ∈ wsA := wd 463 (by decide +kernel) (by decide +kernel)
theorem wn_M_has : Cond.instanceMethod y_M_has ∈ wsA := wd 465 (by decide +kernel) (by decide +kernel)
theorem wc_M_has : Cond.code y_M_has c_M_has 4 (some .int) ∈ wsA := wd 466 (by decide +kernel) (by decide +kernel)
theorem wm_M_96 : Cond.methodLink R_M 96 y_M_bitsOf ∈ wsA := wd 467 (by decide +kernel) (by decide +kernel)
theorem wn_M_bitsOf : Cond.instanceMethod y_M_bitsOf ∈ wsA := wd 469 (by decide +kernel) (by decide +kernel)
theorem wc_M_bitsOf : Cond.code y_M_bitsOf c_M_bitsOf 4 (some .int) ∈ wsA := wd 470 (by decide +kernel) (by decide +kernel)
theorem wk_M_90 : Cond.constantLong R_M 90 3 ∈ wsA := wd 471 (by decide +kernel) (by decide +kernel)
theorem wm_M_86 : Cond.methodLink R_M 86 y_M_blocks ∈ wsA := wd 472 (by decide +kernel) (by decide +kernel)
theorem wn_M_blocks : Cond.instanceMethod y_M_blocks ∈ wsA := wd 474 (by decide +kernel) (by decide +kernel)
theorem wc_M_blocks : Cond.code y_M_blocks c_M_blocks 1 (some .int) ∈ wsA := wd 475 (by decide +kernel) (by decide +kernel)
theorem wf_M_58 : Cond.fieldLink R_M 58 "StripeDiskModel" "thrown" "I" ∈ wsA := wd 476 (by decide +kernel) (by decide +kernel)
theorem wf_M_62 : Cond.fieldLink R_M 62 "StripeDiskModel" "n" "I" ∈ wsA := wd 477 (by decide +kernel) (by decide +kernel)
theorem wf_M_65 : Cond.fieldLink R_M 65 "StripeDiskModel" "\x72" "I" ∈ wsA := wd 478 (by decide +kernel) (by decide +kernel)
theorem wf_M_68 : Cond.fieldLink R_M 68 "StripeDiskModel" "off" "Z" ∈ wsA := wd 479 (by decide +kernel) (by decide +kernel)
theorem wf_M_7 : Cond.fieldLink R_M 7 "StripeDiskModel" "now" "[B" ∈ wsA := wd 480 (by decide +kernel) (by decide +kernel)
theorem wf_M_13 : Cond.fieldLink R_M 13 "StripeDiskModel" "kept" "[B" ∈ wsA := wd 481 (by decide +kernel) (by decide +kernel)
theorem wf_M_16 : Cond.fieldLink R_M 16 "StripeDiskModel" "written" "[Z" ∈ wsA := wd 482 (by decide +kernel) (by decide +kernel)
theorem wf_M_20 : Cond.fieldLink R_M 20 "StripeDiskModel" "lost" "[Z" ∈ wsA := wd 483 (by decide +kernel) (by decide +kernel)
theorem wf_M_23 : Cond.fieldLink R_M 23 "StripeDiskModel" "marks" "[I" ∈ wsA := wd 484 (by decide +kernel) (by decide +kernel)
theorem wf_M_27 : Cond.fieldLink R_M 27 "StripeDiskModel" "were" "[I" ∈ wsA := wd 485 (by decide +kernel) (by decide +kernel)
theorem wf_M_30 : Cond.fieldLink R_M 30 "StripeDiskModel" "rotten" "[Z" ∈ wsA := wd 486 (by decide +kernel) (by decide +kernel)
theorem wf_M_33 : Cond.fieldLink R_M 33 "StripeDiskModel" "first" "[I" ∈ wsA := wd 487 (by decide +kernel) (by decide +kernel)
theorem wf_M_36 : Cond.fieldLink R_M 36 "StripeDiskModel" "last" "[I" ∈ wsA := wd 488 (by decide +kernel) (by decide +kernel)
theorem wf_M_72 : Cond.fieldLink R_M 72 "StripeDiskModel" "latest" "I" ∈ wsA := wd 489 (by decide +kernel) (by decide +kernel)
theorem wf_M_75 : Cond.fieldLink R_M 75 "StripeDiskModel" "base" "I" ∈ wsA := wd 490 (by decide +kernel) (by decide +kernel)
theorem wf_M_39 : Cond.fieldLink R_M 39 "StripeDiskModel" "places" "[I" ∈ wsA := wd 491 (by decide +kernel) (by decide +kernel)
theorem wf_M_42 : Cond.fieldLink R_M 42 "StripeDiskModel" "says" "[Z" ∈ wsA := wd 492 (by decide +kernel) (by decide +kernel)
theorem wf_M_45 : Cond.fieldLink R_M 45 "StripeDiskModel" "tells" "[I" ∈ wsA := wd 493 (by decide +kernel) (by decide +kernel)
theorem wf_M_48 : Cond.fieldLink R_M 48 "StripeDiskModel" "journal" "[B" ∈ wsA := wd 494 (by decide +kernel) (by decide +kernel)
theorem wf_M_51 : Cond.fieldLink R_M 51 "StripeDiskModel" "inJournal" "[Z" ∈ wsA := wd 495 (by decide +kernel) (by decide +kernel)
theorem wm_W_17 : Cond.methodLink R_W 17 y_M_lay ∈ wsA := wd 537 (by decide +kernel) (by decide +kernel)
theorem wm_W_76 : Cond.methodLink R_W 76 y_M_gone ∈ wsA := wd 538 (by decide +kernel) (by decide +kernel)
theorem wn_M_gone : Cond.instanceMethod y_M_gone ∈ wsA := wd 539 (by decide +kernel) (by decide +kernel)
theorem ws_M_gone : Cond.selects R_M y_M_gone y_M_gone ∈ wsA := wd 540 (by decide +kernel) (by decide +kernel)
theorem wc_M_gone : Cond.code y_M_gone c_M_gone 2 (some .int) ∈ wsA := wd 541 (by decide +kernel) (by decide +kernel)
theorem wm_M_114 : Cond.methodLink R_M 114 y_M_goneIn ∈ wsA := wd 542 (by decide +kernel) (by decide +kernel)
theorem wn_M_goneIn : Cond.instanceMethod y_M_goneIn ∈ wsA := wd 544 (by decide +kernel) (by decide +kernel)
theorem wc_M_goneIn : Cond.code y_M_goneIn c_M_goneIn 4 (some .int) ∈ wsA := wd 545 (by decide +kernel) (by decide +kernel)
theorem wm_M_110 : Cond.methodLink R_M 110 y_M_isGone ∈ wsA := wd 546 (by decide +kernel) (by decide +kernel)
theorem wn_M_isGone : Cond.instanceMethod y_M_isGone ∈ wsA := wd 548 (by decide +kernel) (by decide +kernel)
theorem wc_M_isGone : Cond.code y_M_isGone c_M_isGone 3 (some .boolean) ∈ wsA := wd 549 (by decide +kernel) (by decide +kernel)
theorem wm_W_80 : Cond.methodLink R_W 80 y_M_status ∈ wsA := wd 550 (by decide +kernel) (by decide +kernel)
theorem wn_M_status : Cond.instanceMethod y_M_status ∈ wsA := wd 551 (by decide +kernel) (by decide +kernel)
theorem ws_M_status : Cond.selects R_M y_M_status y_M_status ∈ wsA := wd 552 (by decide +kernel) (by decide +kernel)
theorem wc_M_status : Cond.code y_M_status c_M_status 2 (some .int) ∈ wsA := wd 553 (by decide +kernel) (by decide +kernel)
theorem wm_M_117 : Cond.methodLink R_M 117 y_M_noDisk ∈ wsA := wd 554 (by decide +kernel) (by decide +kernel)
theorem wn_M_noDisk : Cond.instanceMethod y_M_noDisk ∈ wsA := wd 556 (by decide +kernel) (by decide +kernel)
theorem wc_M_noDisk : Cond.code y_M_noDisk c_M_noDisk 2 (some .boolean) ∈ wsA := wd 557 (by decide +kernel) (by decide +kernel)
theorem wm_W_22 : Cond.methodLink R_W 22 y_M_write ∈ wsA := wd 558 (by decide +kernel) (by decide +kernel)
theorem wn_M_write : Cond.instanceMethod y_M_write ∈ wsA := wd 559 (by decide +kernel) (by decide +kernel)
theorem ws_M_write : Cond.selects R_M y_M_write y_M_write ∈ wsA := wd 560 (by decide +kernel) (by decide +kernel)
theorem wc_M_write : Cond.code y_M_write c_M_write 7 (some .int) ∈ wsA := wd 561 (by decide +kernel) (by decide +kernel)
theorem wm_M_131 : Cond.methodLink R_M 131 y_M_noBlock ∈ wsA := wd 562 (by decide +kernel) (by decide +kernel)
theorem wn_M_noBlock : Cond.instanceMethod y_M_noBlock ∈ wsA := wd 564 (by decide +kernel) (by decide +kernel)
theorem wc_M_noBlock : Cond.code y_M_noBlock c_M_noBlock 2 (some .boolean) ∈ wsA := wd 565 (by decide +kernel) (by decide +kernel)
theorem wm_M_134 : Cond.methodLink R_M 134 y_M_use ∈ wsA := wd 566 (by decide +kernel) (by decide +kernel)
theorem wn_M_use : Cond.instanceMethod y_M_use ∈ wsA := wd 568 (by decide +kernel) (by decide +kernel)
theorem wc_M_use : Cond.code y_M_use c_M_use 4 (some .int) ∈ wsA := wd 569 (by decide +kernel) (by decide +kernel)
theorem wm_M_124 : Cond.methodLink R_M 124 y_M_many ∈ wsA := wd 570 (by decide +kernel) (by decide +kernel)
theorem wn_M_many : Cond.instanceMethod y_M_many ∈ wsA := wd 572 (by decide +kernel) (by decide +kernel)
theorem wc_M_many : Cond.code y_M_many c_M_many 3 (some .int) ∈ wsA := wd 573 (by decide +kernel) (by decide +kernel)
theorem wm_M_127 : Cond.methodLink R_M 127 y_M_inRow ∈ wsA := wd 574 (by decide +kernel) (by decide +kernel)
theorem wn_M_inRow : Cond.instanceMethod y_M_inRow ∈ wsA := wd 576 (by decide +kernel) (by decide +kernel)
theorem wc_M_inRow : Cond.code y_M_inRow c_M_inRow 5 (some .int) ∈ wsA := wd 577 (by decide +kernel) (by decide +kernel)
theorem wm_M_121 : Cond.methodLink R_M 121 y_M_rowOf ∈ wsA := wd 578 (by decide +kernel) (by decide +kernel)
theorem wn_M_rowOf : Cond.instanceMethod y_M_rowOf ∈ wsA := wd 580 (by decide +kernel) (by decide +kernel)
theorem wc_M_rowOf : Cond.code y_M_rowOf c_M_rowOf 2 (some .int) ∈ wsA := wd 581 (by decide +kernel) (by decide +kernel)
theorem wm_W_26 : Cond.methodLink R_W 26 y_M_read ∈ wsA := wd 582 (by decide +kernel) (by decide +kernel)
theorem wn_M_read : Cond.instanceMethod y_M_read ∈ wsA := wd 583 (by decide +kernel) (by decide +kernel)
theorem ws_M_read : Cond.selects R_M y_M_read y_M_read ∈ wsA := wd 584 (by decide +kernel) (by decide +kernel)
theorem wc_M_read : Cond.code y_M_read c_M_read 3 (some .int) ∈ wsA := wd 585 (by decide +kernel) (by decide +kernel)
theorem wm_W_33 : Cond.methodLink R_W 33 y_M_commit ∈ wsA := wd 586 (by decide +kernel) (by decide +kernel)
theorem wn_M_commit : Cond.instanceMethod y_M_commit ∈ wsA := wd 587 (by decide +kernel) (by decide +kernel)
theorem ws_M_commit : Cond.selects R_M y_M_commit y_M_commit ∈ wsA := wd 588 (by decide +kernel) (by decide +kernel)
theorem wc_M_commit : Cond.code y_M_commit c_M_commit 6 (some .int) ∈ wsA := wd 589 (by decide +kernel) (by decide +kernel)
theorem wm_M_107 : Cond.methodLink R_M 107 y_M_powerOff ∈ wsA := wd 590 (by decide +kernel) (by decide +kernel)
theorem wn_M_powerOff : Cond.instanceMethod y_M_powerOff ∈ wsA := wd 592 (by decide +kernel) (by decide +kernel)
theorem wc_M_powerOff : Cond.code y_M_powerOff c_M_powerOff 2 (some .int) ∈ wsA := wd 593 (by decide +kernel) (by decide +kernel)
theorem wm_M_137 : Cond.methodLink R_M 137 y_M_copy ∈ wsA := wd 594 (by decide +kernel) (by decide +kernel)
theorem wn_M_copy : Cond.instanceMethod y_M_copy ∈ wsA := wd 596 (by decide +kernel) (by decide +kernel)
theorem wc_M_copy : Cond.code y_M_copy c_M_copy 5 none ∈ wsA := wd 597 (by decide +kernel) (by decide +kernel)
theorem wm_M_141 : Cond.methodLink R_M 141 y_M_stopAtLabel ∈ wsA := wd 598 (by decide +kernel) (by decide +kernel)
theorem wn_M_stopAtLabel : Cond.instanceMethod y_M_stopAtLabel ∈ wsA := wd 600 (by decide +kernel) (by decide +kernel)
theorem wc_M_stopAtLabel : Cond.code y_M_stopAtLabel c_M_stopAtLabel 4 (some .int) ∈ wsA := wd 601 (by decide +kernel) (by decide +kernel)
theorem wm_M_145 : Cond.methodLink R_M 145 y_M_place ∈ wsA := wd 602 (by decide +kernel) (by decide +kernel)
theorem wn_M_place : Cond.instanceMethod y_M_place ∈ wsA := wd 604 (by decide +kernel) (by decide +kernel)
theorem wc_M_place : Cond.code y_M_place c_M_place 2 none ∈ wsA := wd 605 (by decide +kernel) (by decide +kernel)
theorem wm_W_38 : Cond.methodLink R_W 38 y_M_forget ∈ wsA := wd 606 (by decide +kernel) (by decide +kernel)
theorem wn_M_forget : Cond.instanceMethod y_M_forget ∈ wsA := wd 607 (by decide +kernel) (by decide +kernel)
theorem ws_M_forget : Cond.selects R_M y_M_forget y_M_forget ∈ wsA := wd 608 (by decide +kernel) (by decide +kernel)
theorem wc_M_forget : Cond.code y_M_forget c_M_forget 3 (some .int) ∈ wsA := wd 609 (by decide +kernel) (by decide +kernel)
theorem wm_W_43 : Cond.methodLink R_W 43 y_M_lose ∈ wsA := wd 610 (by decide +kernel) (by decide +kernel)
theorem wn_M_lose : Cond.instanceMethod y_M_lose ∈ wsA := wd 611 (by decide +kernel) (by decide +kernel)
theorem ws_M_lose : Cond.selects R_M y_M_lose y_M_lose ∈ wsA := wd 612 (by decide +kernel) (by decide +kernel)
theorem wc_M_lose : Cond.code y_M_lose c_M_lose 3 (some .int) ∈ wsA := wd 613 (by decide +kernel) (by decide +kernel)
theorem wm_M_148 : Cond.methodLink R_M 148 y_M_manyLost ∈ wsA := wd 614 (by decide +kernel) (by decide +kernel)
theorem wn_M_manyLost : Cond.instanceMethod y_M_manyLost ∈ wsA := wd 616 (by decide +kernel) (by decide +kernel)
theorem wc_M_manyLost : Cond.code y_M_manyLost c_M_manyLost 3 (some .int) ∈ wsA := wd 617 (by decide +kernel) (by decide +kernel)
theorem wm_W_47 : Cond.methodLink R_W 47 y_M_replace ∈ wsA := wd 618 (by decide +kernel) (by decide +kernel)
theorem wn_M_replace : Cond.instanceMethod y_M_replace ∈ wsA := wd 619 (by decide +kernel) (by decide +kernel)
theorem ws_M_replace : Cond.selects R_M y_M_replace y_M_replace ∈ wsA := wd 620 (by decide +kernel) (by decide +kernel)
theorem wc_M_replace : Cond.code y_M_replace c_M_replace 2 (some .int) ∈ wsA := wd 621 (by decide +kernel) (by decide +kernel)
theorem wm_W_51 : Cond.methodLink R_W 51 y_M_rot ∈ wsA := wd 622 (by decide +kernel) (by decide +kernel)
theorem wn_M_rot : Cond.instanceMethod y_M_rot ∈ wsA := wd 623 (by decide +kernel) (by decide +kernel)
theorem ws_M_rot : Cond.selects R_M y_M_rot y_M_rot ∈ wsA := wd 624 (by decide +kernel) (by decide +kernel)
theorem wc_M_rot : Cond.code y_M_rot c_M_rot 3 (some .int) ∈ wsA := wd 625 (by decide +kernel) (by decide +kernel)
theorem wm_W_56 : Cond.methodLink R_W 56 y_M_fill ∈ wsA := wd 626 (by decide +kernel) (by decide +kernel)
theorem wn_M_fill : Cond.instanceMethod y_M_fill ∈ wsA := wd 627 (by decide +kernel) (by decide +kernel)
theorem ws_M_fill : Cond.selects R_M y_M_fill y_M_fill ∈ wsA := wd 628 (by decide +kernel) (by decide +kernel)
theorem wc_M_fill : Cond.code y_M_fill c_M_fill 5 (some .int) ∈ wsA := wd 629 (by decide +kernel) (by decide +kernel)
theorem wm_M_151 : Cond.methodLink R_M 151 y_M_isBlank ∈ wsA := wd 630 (by decide +kernel) (by decide +kernel)
theorem wn_M_isBlank : Cond.instanceMethod y_M_isBlank ∈ wsA := wd 632 (by decide +kernel) (by decide +kernel)
theorem wc_M_isBlank : Cond.code y_M_isBlank c_M_isBlank 2 (some .boolean) ∈ wsA := wd 633 (by decide +kernel) (by decide +kernel)
theorem wm_W_60 : Cond.methodLink R_W 60 y_M_scrub ∈ wsA := wd 634 (by decide +kernel) (by decide +kernel)
theorem wn_M_scrub : Cond.instanceMethod y_M_scrub ∈ wsA := wd 635 (by decide +kernel) (by decide +kernel)
theorem ws_M_scrub : Cond.selects R_M y_M_scrub y_M_scrub ∈ wsA := wd 636 (by decide +kernel) (by decide +kernel)
theorem wc_M_scrub : Cond.code y_M_scrub c_M_scrub 7 (some .int) ∈ wsA := wd 637 (by decide +kernel) (by decide +kernel)
theorem wm_W_68 : Cond.methodLink R_W 68 y_M_fail ∈ wsA := wd 638 (by decide +kernel) (by decide +kernel)
theorem wn_M_fail : Cond.instanceMethod y_M_fail ∈ wsA := wd 639 (by decide +kernel) (by decide +kernel)
theorem ws_M_fail : Cond.selects R_M y_M_fail y_M_fail ∈ wsA := wd 640 (by decide +kernel) (by decide +kernel)
theorem wc_M_fail : Cond.code y_M_fail c_M_fail 1 (some .int) ∈ wsA := wd 641 (by decide +kernel) (by decide +kernel)
theorem wm_W_64 : Cond.methodLink R_W 64 y_M_mount ∈ wsA := wd 642 (by decide +kernel) (by decide +kernel)
theorem wn_M_mount : Cond.instanceMethod y_M_mount ∈ wsA := wd 643 (by decide +kernel) (by decide +kernel)
theorem ws_M_mount : Cond.selects R_M y_M_mount y_M_mount ∈ wsA := wd 644 (by decide +kernel) (by decide +kernel)
theorem wc_M_mount : Cond.code y_M_mount c_M_mount 8 (some .int) ∈ wsA := wd 645 (by decide +kernel) (by decide +kernel)
theorem wm_M_157 : Cond.methodLink R_M 157 y_M_stopped ∈ wsA := wd 646 (by decide +kernel) (by decide +kernel)
theorem wn_M_stopped : Cond.instanceMethod y_M_stopped ∈ wsA := wd 648 (by decide +kernel) (by decide +kernel)
theorem wc_M_stopped : Cond.code y_M_stopped c_M_stopped 2 (some .int) ∈ wsA := wd 649 (by decide +kernel) (by decide +kernel)
theorem wm_M_160 : Cond.methodLink R_M 160 y_M_placed ∈ wsA := wd 650 (by decide +kernel) (by decide +kernel)
theorem wn_M_placed : Cond.instanceMethod y_M_placed ∈ wsA := wd 652 (by decide +kernel) (by decide +kernel)
theorem wc_M_placed : Cond.code y_M_placed c_M_placed 3 (some .int) ∈ wsA := wd 653 (by decide +kernel) (by decide +kernel)
theorem wm_M_154 : Cond.methodLink R_M 154 y_M_writes ∈ wsA := wd 654 (by decide +kernel) (by decide +kernel)
theorem wn_M_writes : Cond.instanceMethod y_M_writes ∈ wsA := wd 656 (by decide +kernel) (by decide +kernel)
theorem wc_M_writes : Cond.code y_M_writes c_M_writes 4 (some .int) ∈ wsA := wd 657 (by decide +kernel) (by decide +kernel)
theorem wm_W_72 : Cond.methodLink R_W 72 y_M_check ∈ wsA := wd 658 (by decide +kernel) (by decide +kernel)
theorem wn_M_check : Cond.instanceMethod y_M_check ∈ wsA := wd 659 (by decide +kernel) (by decide +kernel)
theorem ws_M_check : Cond.selects R_M y_M_check y_M_check ∈ wsA := wd 660 (by decide +kernel) (by decide +kernel)
theorem wc_M_check : Cond.code y_M_check c_M_check 1 (some .int) ∈ wsA := wd 661 (by decide +kernel) (by decide +kernel)
theorem wm_W_84 : Cond.methodLink R_W 84 y_M_count ∈ wsA := wd 662 (by decide +kernel) (by decide +kernel)
theorem wn_M_count : Cond.instanceMethod y_M_count ∈ wsA := wd 663 (by decide +kernel) (by decide +kernel)
theorem ws_M_count : Cond.selects R_M y_M_count y_M_count ∈ wsA := wd 664 (by decide +kernel) (by decide +kernel)
theorem wc_M_count : Cond.code y_M_count c_M_count 4 (some .int) ∈ wsA := wd 665 (by decide +kernel) (by decide +kernel)
theorem wk_W_27 : Cond.constantLong R_W 27 4294967295 ∈ wsA := wd 666 (by decide +kernel) (by decide +kernel)
theorem ws_D_layOut : Cond.selects R_D y_D_layOut y_D_layOut ∈ wsA := wd 0 (by decide +kernel) (by decide +kernel)
theorem ws_D_finishLabel : Cond.selects R_D y_D_finishLabel y_D_finishLabel ∈ wsA := wd 1 (by decide +kernel) (by decide +kernel)
theorem ws_D_writeLabel : Cond.selects R_D y_D_writeLabel y_D_writeLabel ∈ wsA := wd 2 (by decide +kernel) (by decide +kernel)
theorem ws_L_put : Cond.selects R_L y_L_put y_L_put ∈ wsA := wd 3 (by decide +kernel) (by decide +kernel)
theorem ws_D_blocks : Cond.selects R_D y_D_blocks y_D_blocks ∈ wsA := wd 4 (by decide +kernel) (by decide +kernel)
theorem ws_D_isByte : Cond.selects R_D y_D_isByte y_D_isByte ∈ wsA := wd 5 (by decide +kernel) (by decide +kernel)
theorem ws_D_rowOf : Cond.selects R_D y_D_rowOf y_D_rowOf ∈ wsA := wd 6 (by decide +kernel) (by decide +kernel)
theorem ws_G_firstOf : Cond.selects R_G y_G_firstOf y_G_firstOf ∈ wsA := wd 7 (by decide +kernel) (by decide +kernel)
theorem ws_D_powerFails : Cond.selects R_D y_D_powerFails y_D_powerFails ∈ wsA := wd 8 (by decide +kernel) (by decide +kernel)
theorem ws_D_powerFailsInLabel : Cond.selects R_D y_D_powerFailsInLabel y_D_powerFailsInLabel ∈ wsA := wd 9 (by decide +kernel) (by decide +kernel)
theorem ws_D_isDisk : Cond.selects R_D y_D_isDisk y_D_isDisk ∈ wsA := wd 10 (by decide +kernel) (by decide +kernel)
theorem ws_D_canBeMissed : Cond.selects R_D y_D_canBeMissed y_D_canBeMissed ∈ wsA := wd 11 (by decide +kernel) (by decide +kernel)
theorem ws_D_isGone : Cond.selects R_D y_D_isGone y_D_isGone ∈ wsA := wd 12 (by decide +kernel) (by decide +kernel)
theorem ws_D_isRotten : Cond.selects R_D y_D_isRotten y_D_isRotten ∈ wsA := wd 13 (by decide +kernel) (by decide +kernel)
theorem ws_D_goneIn : Cond.selects R_D y_D_goneIn y_D_goneIn ∈ wsA := wd 14 (by decide +kernel) (by decide +kernel)
theorem ws_D_lostDisks : Cond.selects R_D y_D_lostDisks y_D_lostDisks ∈ wsA := wd 15 (by decide +kernel) (by decide +kernel)
theorem ws_D_disksMarked : Cond.selects R_D y_D_disksMarked y_D_disksMarked ∈ wsA := wd 16 (by decide +kernel) (by decide +kernel)
theorem ws_D_isRow : Cond.selects R_D y_D_isRow y_D_isRow ∈ wsA := wd 17 (by decide +kernel) (by decide +kernel)
theorem ws_D_isBlank : Cond.selects R_D y_D_isBlank y_D_isBlank ∈ wsA := wd 18 (by decide +kernel) (by decide +kernel)
theorem ws_D_rottenIn : Cond.selects R_D y_D_rottenIn y_D_rottenIn ∈ wsA := wd 19 (by decide +kernel) (by decide +kernel)
theorem ws_L_has : Cond.selects R_L y_L_has y_L_has ∈ wsA := wd 20 (by decide +kernel) (by decide +kernel)
theorem ws_D_writeLabelAgain : Cond.selects R_D y_D_writeLabelAgain y_D_writeLabelAgain ∈ wsA := wd 21 (by decide +kernel) (by decide +kernel)
theorem ws_D_takeMarksOfLabel : Cond.selects R_D y_D_takeMarksOfLabel y_D_takeMarksOfLabel ∈ wsA := wd 22 (by decide +kernel) (by decide +kernel)
theorem ws_D_unitsOfJournal : Cond.selects R_D y_D_unitsOfJournal y_D_unitsOfJournal ∈ wsA := wd 23 (by decide +kernel) (by decide +kernel)
theorem ws_D_takesUnit : Cond.selects R_D y_D_takesUnit y_D_takesUnit ∈ wsA := wd 24 (by decide +kernel) (by decide +kernel)
theorem ws_D_blankDisks : Cond.selects R_D y_D_blankDisks y_D_blankDisks ∈ wsA := wd 25 (by decide +kernel) (by decide +kernel)
theorem ws_M_wipe : Cond.selects R_M y_M_wipe y_M_wipe ∈ wsA := wd 26 (by decide +kernel) (by decide +kernel)
theorem ws_M_label : Cond.selects R_M y_M_label y_M_label ∈ wsA := wd 27 (by decide +kernel) (by decide +kernel)
theorem ws_M_newLabel : Cond.selects R_M y_M_newLabel y_M_newLabel ∈ wsA := wd 28 (by decide +kernel) (by decide +kernel)
theorem ws_M_spread : Cond.selects R_M y_M_spread y_M_spread ∈ wsA := wd 29 (by decide +kernel) (by decide +kernel)
theorem ws_M_has : Cond.selects R_M y_M_has y_M_has ∈ wsA := wd 30 (by decide +kernel) (by decide +kernel)
theorem ws_M_bitsOf : Cond.selects R_M y_M_bitsOf y_M_bitsOf ∈ wsA := wd 31 (by decide +kernel) (by decide +kernel)
theorem ws_M_blocks : Cond.selects R_M y_M_blocks y_M_blocks ∈ wsA := wd 32 (by decide +kernel) (by decide +kernel)
theorem ws_M_goneIn : Cond.selects R_M y_M_goneIn y_M_goneIn ∈ wsA := wd 33 (by decide +kernel) (by decide +kernel)
theorem ws_M_isGone : Cond.selects R_M y_M_isGone y_M_isGone ∈ wsA := wd 34 (by decide +kernel) (by decide +kernel)
theorem ws_M_noDisk : Cond.selects R_M y_M_noDisk y_M_noDisk ∈ wsA := wd 35 (by decide +kernel) (by decide +kernel)
theorem ws_M_noBlock : Cond.selects R_M y_M_noBlock y_M_noBlock ∈ wsA := wd 36 (by decide +kernel) (by decide +kernel)
theorem ws_M_use : Cond.selects R_M y_M_use y_M_use ∈ wsA := wd 37 (by decide +kernel) (by decide +kernel)
theorem ws_M_many : Cond.selects R_M y_M_many y_M_many ∈ wsA := wd 38 (by decide +kernel) (by decide +kernel)
theorem ws_M_inRow : Cond.selects R_M y_M_inRow y_M_inRow ∈ wsA := wd 39 (by decide +kernel) (by decide +kernel)
theorem ws_M_rowOf : Cond.selects R_M y_M_rowOf y_M_rowOf ∈ wsA := wd 40 (by decide +kernel) (by decide +kernel)
theorem ws_M_powerOff : Cond.selects R_M y_M_powerOff y_M_powerOff ∈ wsA := wd 41 (by decide +kernel) (by decide +kernel)
theorem ws_M_copy : Cond.selects R_M y_M_copy y_M_copy ∈ wsA := wd 42 (by decide +kernel) (by decide +kernel)
theorem ws_M_stopAtLabel : Cond.selects R_M y_M_stopAtLabel y_M_stopAtLabel ∈ wsA := wd 43 (by decide +kernel) (by decide +kernel)
theorem ws_M_place : Cond.selects R_M y_M_place y_M_place ∈ wsA := wd 44 (by decide +kernel) (by decide +kernel)
theorem ws_M_manyLost : Cond.selects R_M y_M_manyLost y_M_manyLost ∈ wsA := wd 45 (by decide +kernel) (by decide +kernel)
theorem ws_M_isBlank : Cond.selects R_M y_M_isBlank y_M_isBlank ∈ wsA := wd 46 (by decide +kernel) (by decide +kernel)
theorem ws_M_stopped : Cond.selects R_M y_M_stopped y_M_stopped ∈ wsA := wd 47 (by decide +kernel) (by decide +kernel)
theorem ws_M_placed : Cond.selects R_M y_M_placed y_M_placed ∈ wsA := wd 48 (by decide +kernel) (by decide +kernel)
theorem ws_M_writes : Cond.selects R_M y_M_writes y_M_writes ∈ wsA := wd 49 (by decide +kernel) (by decide +kernel)
theorem wu_G : ∀ w ∈ u_ws R_G T_G 5, w ∈ wsA := fun w h => by
  have e : u_ws R_G T_G 5 = [76, 78, 80, 82, 84].filterMap (fun i => lw_tbl[i]?) := by decide +kernel
  have g : (u_ws R_G T_G 5).all goodWord = true := by decide +kernel
  have hg := List.all_eq_true.mp g w h
  rw [e] at h
  obtain ⟨i, -, hi⟩ := List.mem_filterMap.mp h
  exact wd i hi hg
theorem wu_L : ∀ w ∈ u_ws R_L T_L 7, w ∈ wsA := fun w h => by
  have e : u_ws R_L T_L 7 = [105, 107, 109, 111, 113, 115, 117].filterMap (fun i => lw_tbl[i]?) := by decide +kernel
  have g : (u_ws R_L T_L 7).all goodWord = true := by decide +kernel
  have hg := List.all_eq_true.mp g w h
  rw [e] at h
  obtain ⟨i, -, hi⟩ := List.mem_filterMap.mp h
  exact wd i hi hg
theorem wu_D : ∀ w ∈ u_ws R_D T_D 9, w ∈ wsA := fun w h => by
  have e : u_ws R_D T_D 9 = [182, 184, 186, 188, 190, 192, 194, 196, 198].filterMap (fun i => lw_tbl[i]?) := by decide +kernel
  have g : (u_ws R_D T_D 9).all goodWord = true := by decide +kernel
  have hg := List.all_eq_true.mp g w h
  rw [e] at h
  obtain ⟨i, -, hi⟩ := List.mem_filterMap.mp h
  exact wd i hi hg
theorem wu_M : ∀ w ∈ u_ws R_M T_M 20, w ∈ wsA := fun w h => by
  have e : u_ws R_M T_M 20 = [496, 498, 500, 502, 504, 506, 508, 510, 512, 514, 516, 518, 520, 522, 524, 526, 528, 530, 532, 534].filterMap (fun i => lw_tbl[i]?) := by decide +kernel
  have g : (u_ws R_M T_M 20).all goodWord = true := by decide +kernel
  have hg := List.all_eq_true.mp g w h
  rw [e] at h
  obtain ⟨i, -, hi⟩ := List.mem_filterMap.mp h
  exact wd i hi hg
end
section
theorem d_G_init_0 : decode c_G_init 0 = .ok (.aload_n 0, 1) := by decide +kernel
theorem d_G_init_1 : decode c_G_init 1 = .ok (.invokespecial 3, 3) := by decide +kernel
theorem d_G_init_4 : decode c_G_init 4 = .ok (.aload_n 0, 1) := by decide +kernel
theorem d_G_init_5 : decode c_G_init 5 = .ok (.bipush 24, 2) := by decide +kernel
theorem d_G_init_7 : decode c_G_init 7 = .ok (.newarray .int, 2) := by decide +kernel
theorem d_G_init_9 : decode c_G_init 9 = .ok (.putfield 9, 3) := by decide +kernel
theorem d_G_init_12 : decode c_G_init 12 = .ok (.aload_n 0, 1) := by decide +kernel
theorem d_G_init_13 : decode c_G_init 13 = .ok (.bipush 24, 2) := by decide +kernel
theorem d_G_init_15 : decode c_G_init 15 = .ok (.newarray .int, 2) := by decide +kernel
theorem d_G_init_17 : decode c_G_init 17 = .ok (.putfield 15, 3) := by decide +kernel
theorem d_G_init_20 : decode c_G_init 20 = .ok (.aload_n 0, 1) := by decide +kernel
theorem d_G_init_21 : decode c_G_init 21 = .ok (.sipush 1536, 3) := by decide +kernel
theorem d_G_init_24 : decode c_G_init 24 = .ok (.newarray .byte, 2) := by decide +kernel
theorem d_G_init_26 : decode c_G_init 26 = .ok (.putfield 18, 3) := by decide +kernel
theorem d_G_init_29 : decode c_G_init 29 = .ok (.return_, 1) := by decide +kernel
theorem d_G_clear_0 : decode c_G_clear 0 = .ok (.aload_n 0, 1) := by decide +kernel
theorem d_G_clear_1 : decode c_G_clear 1 = .ok (.iconst 0, 1) := by decide +kernel
theorem d_G_clear_2 : decode c_G_clear 2 = .ok (.putfield 22, 3) := by decide +kernel
theorem d_G_clear_5 : decode c_G_clear 5 = .ok (.aload_n 0, 1) := by decide +kernel
theorem d_G_clear_6 : decode c_G_clear 6 = .ok (.iconst 0, 1) := by decide +kernel
theorem d_G_clear_7 : decode c_G_clear 7 = .ok (.putfield 26, 3) := by decide +kernel
theorem d_G_clear_10 : decode c_G_clear 10 = .ok (.return_, 1) := by decide +kernel
theorem d_G_isEmpty_0 : decode c_G_isEmpty 0 = .ok (.aload_n 0, 1) := by decide +kernel
theorem d_G_isEmpty_1 : decode c_G_isEmpty 1 = .ok (.getfield 22, 3) := by decide +kernel
theorem d_G_isEmpty_4 : decode c_G_isEmpty 4 = .ok (.ifCond .ne 7, 3) := by decide +kernel
theorem d_G_isEmpty_7 : decode c_G_isEmpty 7 = .ok (.iconst 1, 1) := by decide +kernel
theorem d_G_isEmpty_8 : decode c_G_isEmpty 8 = .ok (.goto 4, 3) := by decide +kernel
theorem d_G_isEmpty_11 : decode c_G_isEmpty 11 = .ok (.iconst 0, 1) := by decide +kernel
theorem d_G_isEmpty_12 : decode c_G_isEmpty 12 = .ok (.ireturn, 1) := by decide +kernel
theorem d_G_size_0 : decode c_G_size 0 = .ok (.aload_n 0, 1) := by decide +kernel
theorem d_G_size_1 : decode c_G_size 1 = .ok (.getfield 22, 3) := by decide +kernel
theorem d_G_size_4 : decode c_G_size 4 = .ok (.ireturn, 1) := by decide +kernel
theorem d_G_blockAt_0 : decode c_G_blockAt 0 = .ok (.aload_n 0, 1) := by decide +kernel
theorem d_G_blockAt_1 : decode c_G_blockAt 1 = .ok (.getfield 9, 3) := by decide +kernel
theorem d_G_blockAt_4 : decode c_G_blockAt 4 = .ok (.iload_n 1, 1) := by decide +kernel
theorem d_G_blockAt_5 : decode c_G_blockAt 5 = .ok (.iaload, 1) := by decide +kernel
theorem d_G_blockAt_6 : decode c_G_blockAt 6 = .ok (.ireturn, 1) := by decide +kernel
theorem d_G_rowAt_0 : decode c_G_rowAt 0 = .ok (.aload_n 0, 1) := by decide +kernel
theorem d_G_rowAt_1 : decode c_G_rowAt 1 = .ok (.getfield 15, 3) := by decide +kernel
theorem d_G_rowAt_4 : decode c_G_rowAt 4 = .ok (.iload_n 1, 1) := by decide +kernel
theorem d_G_rowAt_5 : decode c_G_rowAt 5 = .ok (.iaload, 1) := by decide +kernel
theorem d_G_rowAt_6 : decode c_G_rowAt 6 = .ok (.ireturn, 1) := by decide +kernel
theorem d_G_byteAt_0 : decode c_G_byteAt 0 = .ok (.aload_n 0, 1) := by decide +kernel
theorem d_G_byteAt_1 : decode c_G_byteAt 1 = .ok (.getfield 18, 3) := by decide +kernel
theorem d_G_byteAt_4 : decode c_G_byteAt 4 = .ok (.iload_n 1, 1) := by decide +kernel
theorem d_G_byteAt_5 : decode c_G_byteAt 5 = .ok (.bipush 64, 2) := by decide +kernel
theorem d_G_byteAt_7 : decode c_G_byteAt 7 = .ok (.imul, 1) := by decide +kernel
theorem d_G_byteAt_8 : decode c_G_byteAt 8 = .ok (.iload_n 2, 1) := by decide +kernel
theorem d_G_byteAt_9 : decode c_G_byteAt 9 = .ok (.iadd, 1) := by decide +kernel
theorem d_G_byteAt_10 : decode c_G_byteAt 10 = .ok (.baload, 1) := by decide +kernel
theorem d_G_byteAt_11 : decode c_G_byteAt 11 = .ok (.sipush 255, 3) := by decide +kernel
theorem d_G_byteAt_14 : decode c_G_byteAt 14 = .ok (.iand, 1) := by decide +kernel
theorem d_G_byteAt_15 : decode c_G_byteAt 15 = .ok (.ireturn, 1) := by decide +kernel
theorem d_G_use_0 : decode c_G_use 0 = .ok (.aload_n 0, 1) := by decide +kernel
theorem d_G_use_1 : decode c_G_use 1 = .ok (.getfield 22, 3) := by decide +kernel
theorem d_G_use_4 : decode c_G_use 4 = .ok (.ifCond .ne 7, 3) := by decide +kernel
theorem d_G_use_7 : decode c_G_use 7 = .ok (.iconst 0, 1) := by decide +kernel
theorem d_G_use_8 : decode c_G_use 8 = .ok (.goto 16, 3) := by decide +kernel
theorem d_G_use_11 : decode c_G_use 11 = .ok (.iconst 1, 1) := by decide +kernel
theorem d_G_use_12 : decode c_G_use 12 = .ok (.aload_n 0, 1) := by decide +kernel
theorem d_G_use_13 : decode c_G_use 13 = .ok (.getfield 22, 3) := by decide +kernel
theorem d_G_use_16 : decode c_G_use 16 = .ok (.iadd, 1) := by decide +kernel
theorem d_G_use_17 : decode c_G_use 17 = .ok (.iconst 2, 1) := by decide +kernel
theorem d_G_use_18 : decode c_G_use 18 = .ok (.aload_n 0, 1) := by decide +kernel
theorem d_G_use_19 : decode c_G_use 19 = .ok (.getfield 26, 3) := by decide +kernel
theorem d_G_use_22 : decode c_G_use 22 = .ok (.imul, 1) := by decide +kernel
theorem d_G_use_23 : decode c_G_use 23 = .ok (.iadd, 1) := by decide +kernel
theorem d_G_use_24 : decode c_G_use 24 = .ok (.ireturn, 1) := by decide +kernel
theorem d_G_useWithOneMore_0 : decode c_G_useWithOneMore 0 = .ok (.aload_n 0, 1) := by decide +kernel
theorem d_G_useWithOneMore_1 : decode c_G_useWithOneMore 1 = .ok (.iload_n 1, 1) := by decide +kernel
theorem d_G_useWithOneMore_2 : decode c_G_useWithOneMore 2 = .ok (.invokevirtual 29, 3) := by decide +kernel
theorem d_G_useWithOneMore_5 : decode c_G_useWithOneMore 5 = .ok (.ifCond .ge 12, 3) := by decide +kernel
theorem d_G_useWithOneMore_8 : decode c_G_useWithOneMore 8 = .ok (.aload_n 0, 1) := by decide +kernel
theorem d_G_useWithOneMore_9 : decode c_G_useWithOneMore 9 = .ok (.getfield 26, 3) := by decide +kernel
theorem d_G_useWithOneMore_12 : decode c_G_useWithOneMore 12 = .ok (.iconst 1, 1) := by decide +kernel
theorem d_G_useWithOneMore_13 : decode c_G_useWithOneMore 13 = .ok (.iadd, 1) := by decide +kernel
theorem d_G_useWithOneMore_14 : decode c_G_useWithOneMore 14 = .ok (.goto 7, 3) := by decide +kernel
theorem d_G_useWithOneMore_17 : decode c_G_useWithOneMore 17 = .ok (.aload_n 0, 1) := by decide +kernel
theorem d_G_useWithOneMore_18 : decode c_G_useWithOneMore 18 = .ok (.getfield 26, 3) := by decide +kernel
theorem d_G_useWithOneMore_21 : decode c_G_useWithOneMore 21 = .ok (.istore_n 2, 1) := by decide +kernel
theorem d_G_useWithOneMore_22 : decode c_G_useWithOneMore 22 = .ok (.iconst 1, 1) := by decide +kernel
theorem d_G_useWithOneMore_23 : decode c_G_useWithOneMore 23 = .ok (.aload_n 0, 1) := by decide +kernel
theorem d_G_useWithOneMore_24 : decode c_G_useWithOneMore 24 = .ok (.getfield 22, 3) := by decide +kernel
theorem d_G_useWithOneMore_27 : decode c_G_useWithOneMore 27 = .ok (.iadd, 1) := by decide +kernel
theorem d_G_useWithOneMore_28 : decode c_G_useWithOneMore 28 = .ok (.iconst 1, 1) := by decide +kernel
theorem d_G_useWithOneMore_29 : decode c_G_useWithOneMore 29 = .ok (.iadd, 1) := by decide +kernel
theorem d_G_useWithOneMore_30 : decode c_G_useWithOneMore 30 = .ok (.iconst 2, 1) := by decide +kernel
theorem d_G_useWithOneMore_31 : decode c_G_useWithOneMore 31 = .ok (.iload_n 2, 1) := by decide +kernel
theorem d_G_useWithOneMore_32 : decode c_G_useWithOneMore 32 = .ok (.imul, 1) := by decide +kernel
theorem d_G_useWithOneMore_33 : decode c_G_useWithOneMore 33 = .ok (.iadd, 1) := by decide +kernel
theorem d_G_useWithOneMore_34 : decode c_G_useWithOneMore 34 = .ok (.ireturn, 1) := by decide +kernel
theorem d_G_placeOf_0 : decode c_G_placeOf 0 = .ok (.iconst 0, 1) := by decide +kernel
theorem d_G_placeOf_1 : decode c_G_placeOf 1 = .ok (.istore_n 2, 1) := by decide +kernel
theorem d_G_placeOf_2 : decode c_G_placeOf 2 = .ok (.iload_n 2, 1) := by decide +kernel
theorem d_G_placeOf_3 : decode c_G_placeOf 3 = .ok (.aload_n 0, 1) := by decide +kernel
theorem d_G_placeOf_4 : decode c_G_placeOf 4 = .ok (.getfield 22, 3) := by decide +kernel
theorem d_G_placeOf_7 : decode c_G_placeOf 7 = .ok (.if_icmp .ge 21, 3) := by decide +kernel
theorem d_G_placeOf_10 : decode c_G_placeOf 10 = .ok (.aload_n 0, 1) := by decide +kernel
theorem d_G_placeOf_11 : decode c_G_placeOf 11 = .ok (.getfield 9, 3) := by decide +kernel
theorem d_G_placeOf_14 : decode c_G_placeOf 14 = .ok (.iload_n 2, 1) := by decide +kernel
theorem d_G_placeOf_15 : decode c_G_placeOf 15 = .ok (.iaload, 1) := by decide +kernel
theorem d_G_placeOf_16 : decode c_G_placeOf 16 = .ok (.iload_n 1, 1) := by decide +kernel
theorem d_G_placeOf_17 : decode c_G_placeOf 17 = .ok (.if_icmp .ne 5, 3) := by decide +kernel
theorem d_G_placeOf_20 : decode c_G_placeOf 20 = .ok (.iload_n 2, 1) := by decide +kernel
theorem d_G_placeOf_21 : decode c_G_placeOf 21 = .ok (.ireturn, 1) := by decide +kernel
theorem d_G_placeOf_22 : decode c_G_placeOf 22 = .ok (.iinc 2 1, 3) := by decide +kernel
theorem d_G_placeOf_25 : decode c_G_placeOf 25 = .ok (.goto (-23), 3) := by decide +kernel
theorem d_G_placeOf_28 : decode c_G_placeOf 28 = .ok (.iconst (-1), 1) := by decide +kernel
theorem d_G_placeOf_29 : decode c_G_placeOf 29 = .ok (.ireturn, 1) := by decide +kernel
theorem d_G_isFirstOfRow_0 : decode c_G_isFirstOfRow 0 = .ok (.aload_n 0, 1) := by decide +kernel
theorem d_G_isFirstOfRow_1 : decode c_G_isFirstOfRow 1 = .ok (.aload_n 0, 1) := by decide +kernel
theorem d_G_isFirstOfRow_2 : decode c_G_isFirstOfRow 2 = .ok (.getfield 15, 3) := by decide +kernel
theorem d_G_isFirstOfRow_5 : decode c_G_isFirstOfRow 5 = .ok (.iload_n 1, 1) := by decide +kernel
theorem d_G_isFirstOfRow_6 : decode c_G_isFirstOfRow 6 = .ok (.iaload, 1) := by decide +kernel
theorem d_G_isFirstOfRow_7 : decode c_G_isFirstOfRow 7 = .ok (.invokevirtual 29, 3) := by decide +kernel
theorem d_G_isFirstOfRow_10 : decode c_G_isFirstOfRow 10 = .ok (.iload_n 1, 1) := by decide +kernel
theorem d_G_isFirstOfRow_11 : decode c_G_isFirstOfRow 11 = .ok (.if_icmp .ne 7, 3) := by decide +kernel
theorem d_G_isFirstOfRow_14 : decode c_G_isFirstOfRow 14 = .ok (.iconst 1, 1) := by decide +kernel
theorem d_G_isFirstOfRow_15 : decode c_G_isFirstOfRow 15 = .ok (.goto 4, 3) := by decide +kernel
theorem d_G_isFirstOfRow_18 : decode c_G_isFirstOfRow 18 = .ok (.iconst 0, 1) := by decide +kernel
theorem d_G_isFirstOfRow_19 : decode c_G_isFirstOfRow 19 = .ok (.ireturn, 1) := by decide +kernel
theorem d_G_take_0 : decode c_G_take 0 = .ok (.aload_n 0, 1) := by decide +kernel
theorem d_G_take_1 : decode c_G_take 1 = .ok (.iload_n 2, 1) := by decide +kernel
theorem d_G_take_2 : decode c_G_take 2 = .ok (.invokevirtual 29, 3) := by decide +kernel
theorem d_G_take_5 : decode c_G_take 5 = .ok (.ifCond .ge 13, 3) := by decide +kernel
theorem d_G_take_8 : decode c_G_take 8 = .ok (.aload_n 0, 1) := by decide +kernel
theorem d_G_take_9 : decode c_G_take 9 = .ok (.dup, 1) := by decide +kernel
theorem d_G_take_10 : decode c_G_take 10 = .ok (.getfield 26, 3) := by decide +kernel
theorem d_G_take_13 : decode c_G_take 13 = .ok (.iconst 1, 1) := by decide +kernel
theorem d_G_take_14 : decode c_G_take 14 = .ok (.iadd, 1) := by decide +kernel
theorem d_G_take_15 : decode c_G_take 15 = .ok (.putfield 26, 3) := by decide +kernel
theorem d_G_take_18 : decode c_G_take 18 = .ok (.aload_n 0, 1) := by decide +kernel
theorem d_G_take_19 : decode c_G_take 19 = .ok (.getfield 22, 3) := by decide +kernel
theorem d_G_take_22 : decode c_G_take 22 = .ok (.istore 4, 2) := by decide +kernel
theorem d_G_take_24 : decode c_G_take 24 = .ok (.aload_n 0, 1) := by decide +kernel
theorem d_G_take_25 : decode c_G_take 25 = .ok (.getfield 9, 3) := by decide +kernel
theorem d_G_take_28 : decode c_G_take 28 = .ok (.iload 4, 2) := by decide +kernel
theorem d_G_take_30 : decode c_G_take 30 = .ok (.iload_n 1, 1) := by decide +kernel
theorem d_G_take_31 : decode c_G_take 31 = .ok (.iastore, 1) := by decide +kernel
theorem d_G_take_32 : decode c_G_take 32 = .ok (.aload_n 0, 1) := by decide +kernel
theorem d_G_take_33 : decode c_G_take 33 = .ok (.getfield 15, 3) := by decide +kernel
theorem d_G_take_36 : decode c_G_take 36 = .ok (.iload 4, 2) := by decide +kernel
theorem d_G_take_38 : decode c_G_take 38 = .ok (.iload_n 2, 1) := by decide +kernel
theorem d_G_take_39 : decode c_G_take 39 = .ok (.iastore, 1) := by decide +kernel
theorem d_G_take_40 : decode c_G_take 40 = .ok (.aload_n 3, 1) := by decide +kernel
theorem d_G_take_41 : decode c_G_take 41 = .ok (.iload_n 1, 1) := by decide +kernel
theorem d_G_take_42 : decode c_G_take 42 = .ok (.bipush 64, 2) := by decide +kernel
theorem d_G_take_44 : decode c_G_take 44 = .ok (.imul, 1) := by decide +kernel
theorem d_G_take_45 : decode c_G_take 45 = .ok (.aload_n 0, 1) := by decide +kernel
theorem d_G_take_46 : decode c_G_take 46 = .ok (.getfield 18, 3) := by decide +kernel
theorem d_G_take_49 : decode c_G_take 49 = .ok (.iload 4, 2) := by decide +kernel
theorem d_G_take_51 : decode c_G_take 51 = .ok (.bipush 64, 2) := by decide +kernel
theorem d_G_take_53 : decode c_G_take 53 = .ok (.imul, 1) := by decide +kernel
theorem d_G_take_54 : decode c_G_take 54 = .ok (.bipush 64, 2) := by decide +kernel
theorem d_G_take_56 : decode c_G_take 56 = .ok (.invokestatic 33, 3) := by decide +kernel
theorem d_G_take_59 : decode c_G_take 59 = .ok (.aload_n 0, 1) := by decide +kernel
theorem d_G_take_60 : decode c_G_take 60 = .ok (.dup, 1) := by decide +kernel
theorem d_G_take_61 : decode c_G_take 61 = .ok (.getfield 22, 3) := by decide +kernel
theorem d_G_take_64 : decode c_G_take 64 = .ok (.iconst 1, 1) := by decide +kernel
theorem d_G_take_65 : decode c_G_take 65 = .ok (.iadd, 1) := by decide +kernel
theorem d_G_take_66 : decode c_G_take 66 = .ok (.putfield 22, 3) := by decide +kernel
theorem d_G_take_69 : decode c_G_take 69 = .ok (.iload 4, 2) := by decide +kernel
theorem d_G_take_71 : decode c_G_take 71 = .ok (.ireturn, 1) := by decide +kernel
theorem d_G_set_0 : decode c_G_set 0 = .ok (.iload_n 1, 1) := by decide +kernel
theorem d_G_set_1 : decode c_G_set 1 = .ok (.bipush 64, 2) := by decide +kernel
theorem d_G_set_3 : decode c_G_set 3 = .ok (.imul, 1) := by decide +kernel
theorem d_G_set_4 : decode c_G_set 4 = .ok (.iload_n 2, 1) := by decide +kernel
theorem d_G_set_5 : decode c_G_set 5 = .ok (.iadd, 1) := by decide +kernel
theorem d_G_set_6 : decode c_G_set 6 = .ok (.istore 5, 2) := by decide +kernel
theorem d_G_set_8 : decode c_G_set 8 = .ok (.aload_n 0, 1) := by decide +kernel
theorem d_G_set_9 : decode c_G_set 9 = .ok (.getfield 18, 3) := by decide +kernel
theorem d_G_set_12 : decode c_G_set 12 = .ok (.iload 5, 2) := by decide +kernel
theorem d_G_set_14 : decode c_G_set 14 = .ok (.iload 5, 2) := by decide +kernel
theorem d_G_set_16 : decode c_G_set 16 = .ok (.iload_n 3, 1) := by decide +kernel
theorem d_G_set_17 : decode c_G_set 17 = .ok (.iadd, 1) := by decide +kernel
theorem d_G_set_18 : decode c_G_set 18 = .ok (.iload 4, 2) := by decide +kernel
theorem d_G_set_20 : decode c_G_set 20 = .ok (.i2b, 1) := by decide +kernel
theorem d_G_set_21 : decode c_G_set 21 = .ok (.invokestatic 39, 3) := by decide +kernel
theorem d_G_set_24 : decode c_G_set 24 = .ok (.return_, 1) := by decide +kernel
theorem d_G_become_0 : decode c_G_become 0 = .ok (.aload_n 1, 1) := by decide +kernel
theorem d_G_become_1 : decode c_G_become 1 = .ok (.getfield 9, 3) := by decide +kernel
theorem d_G_become_4 : decode c_G_become 4 = .ok (.iconst 0, 1) := by decide +kernel
theorem d_G_become_5 : decode c_G_become 5 = .ok (.aload_n 0, 1) := by decide +kernel
theorem d_G_become_6 : decode c_G_become 6 = .ok (.getfield 9, 3) := by decide +kernel
theorem d_G_become_9 : decode c_G_become 9 = .ok (.iconst 0, 1) := by decide +kernel
theorem d_G_become_10 : decode c_G_become 10 = .ok (.aload_n 1, 1) := by decide +kernel
theorem d_G_become_11 : decode c_G_become 11 = .ok (.getfield 22, 3) := by decide +kernel
theorem d_G_become_14 : decode c_G_become 14 = .ok (.invokestatic 33, 3) := by decide +kernel
theorem d_G_become_17 : decode c_G_become 17 = .ok (.aload_n 1, 1) := by decide +kernel
theorem d_G_become_18 : decode c_G_become 18 = .ok (.getfield 15, 3) := by decide +kernel
theorem d_G_become_21 : decode c_G_become 21 = .ok (.iconst 0, 1) := by decide +kernel
theorem d_G_become_22 : decode c_G_become 22 = .ok (.aload_n 0, 1) := by decide +kernel
theorem d_G_become_23 : decode c_G_become 23 = .ok (.getfield 15, 3) := by decide +kernel
theorem d_G_become_26 : decode c_G_become 26 = .ok (.iconst 0, 1) := by decide +kernel
theorem d_G_become_27 : decode c_G_become 27 = .ok (.aload_n 1, 1) := by decide +kernel
theorem d_G_become_28 : decode c_G_become 28 = .ok (.getfield 22, 3) := by decide +kernel
theorem d_G_become_31 : decode c_G_become 31 = .ok (.invokestatic 33, 3) := by decide +kernel
theorem d_G_become_34 : decode c_G_become 34 = .ok (.aload_n 1, 1) := by decide +kernel
theorem d_G_become_35 : decode c_G_become 35 = .ok (.getfield 18, 3) := by decide +kernel
theorem d_G_become_38 : decode c_G_become 38 = .ok (.iconst 0, 1) := by decide +kernel
theorem d_G_become_39 : decode c_G_become 39 = .ok (.aload_n 0, 1) := by decide +kernel
theorem d_G_become_40 : decode c_G_become 40 = .ok (.getfield 18, 3) := by decide +kernel
theorem d_G_become_43 : decode c_G_become 43 = .ok (.iconst 0, 1) := by decide +kernel
theorem d_G_become_44 : decode c_G_become 44 = .ok (.aload_n 1, 1) := by decide +kernel
theorem d_G_become_45 : decode c_G_become 45 = .ok (.getfield 22, 3) := by decide +kernel
theorem d_G_become_48 : decode c_G_become 48 = .ok (.bipush 64, 2) := by decide +kernel
theorem d_G_become_50 : decode c_G_become 50 = .ok (.imul, 1) := by decide +kernel
theorem d_G_become_51 : decode c_G_become 51 = .ok (.invokestatic 33, 3) := by decide +kernel
theorem d_G_become_54 : decode c_G_become 54 = .ok (.aload_n 0, 1) := by decide +kernel
theorem d_G_become_55 : decode c_G_become 55 = .ok (.aload_n 1, 1) := by decide +kernel
theorem d_G_become_56 : decode c_G_become 56 = .ok (.getfield 22, 3) := by decide +kernel
theorem d_G_become_59 : decode c_G_become 59 = .ok (.putfield 22, 3) := by decide +kernel
theorem d_G_become_62 : decode c_G_become 62 = .ok (.aload_n 0, 1) := by decide +kernel
theorem d_G_become_63 : decode c_G_become 63 = .ok (.aload_n 1, 1) := by decide +kernel
theorem d_G_become_64 : decode c_G_become 64 = .ok (.getfield 26, 3) := by decide +kernel
theorem d_G_become_67 : decode c_G_become 67 = .ok (.putfield 26, 3) := by decide +kernel
theorem d_G_become_70 : decode c_G_become 70 = .ok (.return_, 1) := by decide +kernel
theorem d_G_keepIn_0 : decode c_G_keepIn 0 = .ok (.iconst 0, 1) := by decide +kernel
theorem d_G_keepIn_1 : decode c_G_keepIn 1 = .ok (.istore_n 2, 1) := by decide +kernel
theorem d_G_keepIn_2 : decode c_G_keepIn 2 = .ok (.iload_n 2, 1) := by decide +kernel
theorem d_G_keepIn_3 : decode c_G_keepIn 3 = .ok (.aload_n 0, 1) := by decide +kernel
theorem d_G_keepIn_4 : decode c_G_keepIn 4 = .ok (.getfield 22, 3) := by decide +kernel
theorem d_G_keepIn_7 : decode c_G_keepIn 7 = .ok (.if_icmp .ge 32, 3) := by decide +kernel
theorem d_G_keepIn_10 : decode c_G_keepIn 10 = .ok (.aload_n 0, 1) := by decide +kernel
theorem d_G_keepIn_11 : decode c_G_keepIn 11 = .ok (.getfield 18, 3) := by decide +kernel
theorem d_G_keepIn_14 : decode c_G_keepIn 14 = .ok (.iload_n 2, 1) := by decide +kernel
theorem d_G_keepIn_15 : decode c_G_keepIn 15 = .ok (.bipush 64, 2) := by decide +kernel
theorem d_G_keepIn_17 : decode c_G_keepIn 17 = .ok (.imul, 1) := by decide +kernel
theorem d_G_keepIn_18 : decode c_G_keepIn 18 = .ok (.aload_n 1, 1) := by decide +kernel
theorem d_G_keepIn_19 : decode c_G_keepIn 19 = .ok (.aload_n 0, 1) := by decide +kernel
theorem d_G_keepIn_20 : decode c_G_keepIn 20 = .ok (.getfield 9, 3) := by decide +kernel
theorem d_G_keepIn_23 : decode c_G_keepIn 23 = .ok (.iload_n 2, 1) := by decide +kernel
theorem d_G_keepIn_24 : decode c_G_keepIn 24 = .ok (.iaload, 1) := by decide +kernel
theorem d_G_keepIn_25 : decode c_G_keepIn 25 = .ok (.bipush 64, 2) := by decide +kernel
theorem d_G_keepIn_27 : decode c_G_keepIn 27 = .ok (.imul, 1) := by decide +kernel
theorem d_G_keepIn_28 : decode c_G_keepIn 28 = .ok (.bipush 64, 2) := by decide +kernel
theorem d_G_keepIn_30 : decode c_G_keepIn 30 = .ok (.invokestatic 33, 3) := by decide +kernel
theorem d_G_keepIn_33 : decode c_G_keepIn 33 = .ok (.iinc 2 1, 3) := by decide +kernel
theorem d_G_keepIn_36 : decode c_G_keepIn 36 = .ok (.goto (-34), 3) := by decide +kernel
theorem d_G_keepIn_39 : decode c_G_keepIn 39 = .ok (.return_, 1) := by decide +kernel
theorem d_G_firstOf_0 : decode c_G_firstOf 0 = .ok (.iconst 0, 1) := by decide +kernel
theorem d_G_firstOf_1 : decode c_G_firstOf 1 = .ok (.istore_n 2, 1) := by decide +kernel
theorem d_G_firstOf_2 : decode c_G_firstOf 2 = .ok (.iload_n 2, 1) := by decide +kernel
theorem d_G_firstOf_3 : decode c_G_firstOf 3 = .ok (.aload_n 0, 1) := by decide +kernel
theorem d_G_firstOf_4 : decode c_G_firstOf 4 = .ok (.getfield 22, 3) := by decide +kernel
theorem d_G_firstOf_7 : decode c_G_firstOf 7 = .ok (.if_icmp .ge 21, 3) := by decide +kernel
theorem d_G_firstOf_10 : decode c_G_firstOf 10 = .ok (.aload_n 0, 1) := by decide +kernel
theorem d_G_firstOf_11 : decode c_G_firstOf 11 = .ok (.getfield 15, 3) := by decide +kernel
theorem d_G_firstOf_14 : decode c_G_firstOf 14 = .ok (.iload_n 2, 1) := by decide +kernel
theorem d_G_firstOf_15 : decode c_G_firstOf 15 = .ok (.iaload, 1) := by decide +kernel
theorem d_G_firstOf_16 : decode c_G_firstOf 16 = .ok (.iload_n 1, 1) := by decide +kernel
theorem d_G_firstOf_17 : decode c_G_firstOf 17 = .ok (.if_icmp .ne 5, 3) := by decide +kernel
theorem d_G_firstOf_20 : decode c_G_firstOf 20 = .ok (.iload_n 2, 1) := by decide +kernel
theorem d_G_firstOf_21 : decode c_G_firstOf 21 = .ok (.ireturn, 1) := by decide +kernel
theorem d_G_firstOf_22 : decode c_G_firstOf 22 = .ok (.iinc 2 1, 3) := by decide +kernel
theorem d_G_firstOf_25 : decode c_G_firstOf 25 = .ok (.goto (-23), 3) := by decide +kernel
theorem d_G_firstOf_28 : decode c_G_firstOf 28 = .ok (.iconst (-1), 1) := by decide +kernel
theorem d_G_firstOf_29 : decode c_G_firstOf 29 = .ok (.ireturn, 1) := by decide +kernel
theorem d_L_init_0 : decode c_L_init 0 = .ok (.aload_n 0, 1) := by decide +kernel
theorem d_L_init_1 : decode c_L_init 1 = .ok (.invokespecial 3, 3) := by decide +kernel
theorem d_L_init_4 : decode c_L_init 4 = .ok (.aload_n 0, 1) := by decide +kernel
theorem d_L_init_5 : decode c_L_init 5 = .ok (.iconst 2, 1) := by decide +kernel
theorem d_L_init_6 : decode c_L_init 6 = .ok (.bipush 8, 2) := by decide +kernel
theorem d_L_init_8 : decode c_L_init 8 = .ok (.multianewarray 9 2, 4) := by decide +kernel
theorem d_L_init_12 : decode c_L_init 12 = .ok (.putfield 11, 3) := by decide +kernel
theorem d_L_init_15 : decode c_L_init 15 = .ok (.aload_n 0, 1) := by decide +kernel
theorem d_L_init_16 : decode c_L_init 16 = .ok (.iconst 2, 1) := by decide +kernel
theorem d_L_init_17 : decode c_L_init 17 = .ok (.bipush 8, 2) := by decide +kernel
theorem d_L_init_19 : decode c_L_init 19 = .ok (.multianewarray 9 2, 4) := by decide +kernel
theorem d_L_init_23 : decode c_L_init 23 = .ok (.putfield 16, 3) := by decide +kernel
theorem d_L_init_26 : decode c_L_init 26 = .ok (.aload_n 0, 1) := by decide +kernel
theorem d_L_init_27 : decode c_L_init 27 = .ok (.iconst 2, 1) := by decide +kernel
theorem d_L_init_28 : decode c_L_init 28 = .ok (.bipush 8, 2) := by decide +kernel
theorem d_L_init_30 : decode c_L_init 30 = .ok (.multianewarray 9 2, 4) := by decide +kernel
theorem d_L_init_34 : decode c_L_init 34 = .ok (.putfield 19, 3) := by decide +kernel
theorem d_L_init_37 : decode c_L_init 37 = .ok (.aload_n 0, 1) := by decide +kernel
theorem d_L_init_38 : decode c_L_init 38 = .ok (.iconst 2, 1) := by decide +kernel
theorem d_L_init_39 : decode c_L_init 39 = .ok (.newarray .int, 2) := by decide +kernel
theorem d_L_init_41 : decode c_L_init 41 = .ok (.putfield 22, 3) := by decide +kernel
theorem d_L_init_44 : decode c_L_init 44 = .ok (.aload_n 0, 1) := by decide +kernel
theorem d_L_init_45 : decode c_L_init 45 = .ok (.iconst 2, 1) := by decide +kernel
theorem d_L_init_46 : decode c_L_init 46 = .ok (.newarray .boolean, 2) := by decide +kernel
theorem d_L_init_48 : decode c_L_init 48 = .ok (.putfield 26, 3) := by decide +kernel
theorem d_L_init_51 : decode c_L_init 51 = .ok (.return_, 1) := by decide +kernel
theorem d_L_draft_0 : decode c_L_draft 0 = .ok (.iconst 1, 1) := by decide +kernel
theorem d_L_draft_1 : decode c_L_draft 1 = .ok (.aload_n 0, 1) := by decide +kernel
theorem d_L_draft_2 : decode c_L_draft 2 = .ok (.getfield 30, 3) := by decide +kernel
theorem d_L_draft_5 : decode c_L_draft 5 = .ok (.isub, 1) := by decide +kernel
theorem d_L_draft_6 : decode c_L_draft 6 = .ok (.istore_n 3, 1) := by decide +kernel
theorem d_L_draft_7 : decode c_L_draft 7 = .ok (.aload_n 0, 1) := by decide +kernel
theorem d_L_draft_8 : decode c_L_draft 8 = .ok (.dup, 1) := by decide +kernel
theorem d_L_draft_9 : decode c_L_draft 9 = .ok (.getfield 34, 3) := by decide +kernel
theorem d_L_draft_12 : decode c_L_draft 12 = .ok (.iconst 1, 1) := by decide +kernel
theorem d_L_draft_13 : decode c_L_draft 13 = .ok (.iadd, 1) := by decide +kernel
theorem d_L_draft_14 : decode c_L_draft 14 = .ok (.putfield 34, 3) := by decide +kernel
theorem d_L_draft_17 : decode c_L_draft 17 = .ok (.aload_n 0, 1) := by decide +kernel
theorem d_L_draft_18 : decode c_L_draft 18 = .ok (.getfield 22, 3) := by decide +kernel
theorem d_L_draft_21 : decode c_L_draft 21 = .ok (.iload_n 3, 1) := by decide +kernel
theorem d_L_draft_22 : decode c_L_draft 22 = .ok (.aload_n 0, 1) := by decide +kernel
theorem d_L_draft_23 : decode c_L_draft 23 = .ok (.getfield 34, 3) := by decide +kernel
theorem d_L_draft_26 : decode c_L_draft 26 = .ok (.iastore, 1) := by decide +kernel
theorem d_L_draft_27 : decode c_L_draft 27 = .ok (.aload_n 0, 1) := by decide +kernel
theorem d_L_draft_28 : decode c_L_draft 28 = .ok (.getfield 26, 3) := by decide +kernel
theorem d_L_draft_31 : decode c_L_draft 31 = .ok (.iload_n 3, 1) := by decide +kernel
theorem d_L_draft_32 : decode c_L_draft 32 = .ok (.iload_n 1, 1) := by decide +kernel
theorem d_L_draft_33 : decode c_L_draft 33 = .ok (.bastore, 1) := by decide +kernel
theorem d_L_draft_34 : decode c_L_draft 34 = .ok (.aload_n 2, 1) := by decide +kernel
theorem d_L_draft_35 : decode c_L_draft 35 = .ok (.iconst 0, 1) := by decide +kernel
theorem d_L_draft_36 : decode c_L_draft 36 = .ok (.aload_n 0, 1) := by decide +kernel
theorem d_L_draft_37 : decode c_L_draft 37 = .ok (.getfield 19, 3) := by decide +kernel
theorem d_L_draft_40 : decode c_L_draft 40 = .ok (.iload_n 3, 1) := by decide +kernel
theorem d_L_draft_41 : decode c_L_draft 41 = .ok (.aaload, 1) := by decide +kernel
theorem d_L_draft_42 : decode c_L_draft 42 = .ok (.iconst 0, 1) := by decide +kernel
theorem d_L_draft_43 : decode c_L_draft 43 = .ok (.bipush 8, 2) := by decide +kernel
theorem d_L_draft_45 : decode c_L_draft 45 = .ok (.invokestatic 37, 3) := by decide +kernel
theorem d_L_draft_48 : decode c_L_draft 48 = .ok (.return_, 1) := by decide +kernel
theorem d_L_tell_0 : decode c_L_tell 0 = .ok (.aload_n 0, 1) := by decide +kernel
theorem d_L_tell_1 : decode c_L_tell 1 = .ok (.getfield 19, 3) := by decide +kernel
theorem d_L_tell_4 : decode c_L_tell 4 = .ok (.iconst 1, 1) := by decide +kernel
theorem d_L_tell_5 : decode c_L_tell 5 = .ok (.aload_n 0, 1) := by decide +kernel
theorem d_L_tell_6 : decode c_L_tell 6 = .ok (.getfield 30, 3) := by decide +kernel
theorem d_L_tell_9 : decode c_L_tell 9 = .ok (.isub, 1) := by decide +kernel
theorem d_L_tell_10 : decode c_L_tell 10 = .ok (.aaload, 1) := by decide +kernel
theorem d_L_tell_11 : decode c_L_tell 11 = .ok (.iload_n 1, 1) := by decide +kernel
theorem d_L_tell_12 : decode c_L_tell 12 = .ok (.iload_n 2, 1) := by decide +kernel
theorem d_L_tell_13 : decode c_L_tell 13 = .ok (.iastore, 1) := by decide +kernel
theorem d_L_tell_14 : decode c_L_tell 14 = .ok (.return_, 1) := by decide +kernel
theorem d_L_draftCounts_0 : decode c_L_draftCounts 0 = .ok (.aload_n 0, 1) := by decide +kernel
theorem d_L_draftCounts_1 : decode c_L_draftCounts 1 = .ok (.iconst 1, 1) := by decide +kernel
theorem d_L_draftCounts_2 : decode c_L_draftCounts 2 = .ok (.aload_n 0, 1) := by decide +kernel
theorem d_L_draftCounts_3 : decode c_L_draftCounts 3 = .ok (.getfield 30, 3) := by decide +kernel
theorem d_L_draftCounts_6 : decode c_L_draftCounts 6 = .ok (.isub, 1) := by decide +kernel
theorem d_L_draftCounts_7 : decode c_L_draftCounts 7 = .ok (.putfield 30, 3) := by decide +kernel
theorem d_L_draftCounts_10 : decode c_L_draftCounts 10 = .ok (.return_, 1) := by decide +kernel
theorem d_L_putDraft_0 : decode c_L_putDraft 0 = .ok (.aload_n 0, 1) := by decide +kernel
theorem d_L_putDraft_1 : decode c_L_putDraft 1 = .ok (.iconst 1, 1) := by decide +kernel
theorem d_L_putDraft_2 : decode c_L_putDraft 2 = .ok (.aload_n 0, 1) := by decide +kernel
theorem d_L_putDraft_3 : decode c_L_putDraft 3 = .ok (.getfield 30, 3) := by decide +kernel
theorem d_L_putDraft_6 : decode c_L_putDraft 6 = .ok (.isub, 1) := by decide +kernel
theorem d_L_putDraft_7 : decode c_L_putDraft 7 = .ok (.iload_n 1, 1) := by decide +kernel
theorem d_L_putDraft_8 : decode c_L_putDraft 8 = .ok (.iload_n 2, 1) := by decide +kernel
theorem d_L_putDraft_9 : decode c_L_putDraft 9 = .ok (.invokevirtual 43, 3) := by decide +kernel
theorem d_L_putDraft_12 : decode c_L_putDraft 12 = .ok (.return_, 1) := by decide +kernel
theorem d_L_putCounting_0 : decode c_L_putCounting 0 = .ok (.aload_n 0, 1) := by decide +kernel
theorem d_L_putCounting_1 : decode c_L_putCounting 1 = .ok (.aload_n 0, 1) := by decide +kernel
theorem d_L_putCounting_2 : decode c_L_putCounting 2 = .ok (.getfield 30, 3) := by decide +kernel
theorem d_L_putCounting_5 : decode c_L_putCounting 5 = .ok (.iload_n 1, 1) := by decide +kernel
theorem d_L_putCounting_6 : decode c_L_putCounting 6 = .ok (.iload_n 2, 1) := by decide +kernel
theorem d_L_putCounting_7 : decode c_L_putCounting 7 = .ok (.invokevirtual 43, 3) := by decide +kernel
theorem d_L_putCounting_10 : decode c_L_putCounting 10 = .ok (.return_, 1) := by decide +kernel
theorem d_L_wipe_0 : decode c_L_wipe 0 = .ok (.iconst 0, 1) := by decide +kernel
theorem d_L_wipe_1 : decode c_L_wipe 1 = .ok (.istore_n 2, 1) := by decide +kernel
theorem d_L_wipe_2 : decode c_L_wipe 2 = .ok (.iload_n 2, 1) := by decide +kernel
theorem d_L_wipe_3 : decode c_L_wipe 3 = .ok (.iconst 2, 1) := by decide +kernel
theorem d_L_wipe_4 : decode c_L_wipe 4 = .ok (.if_icmp .ge 27, 3) := by decide +kernel
theorem d_L_wipe_7 : decode c_L_wipe 7 = .ok (.aload_n 0, 1) := by decide +kernel
theorem d_L_wipe_8 : decode c_L_wipe 8 = .ok (.getfield 11, 3) := by decide +kernel
theorem d_L_wipe_11 : decode c_L_wipe 11 = .ok (.iload_n 2, 1) := by decide +kernel
theorem d_L_wipe_12 : decode c_L_wipe 12 = .ok (.aaload, 1) := by decide +kernel
theorem d_L_wipe_13 : decode c_L_wipe 13 = .ok (.iload_n 1, 1) := by decide +kernel
theorem d_L_wipe_14 : decode c_L_wipe 14 = .ok (.iconst 0, 1) := by decide +kernel
theorem d_L_wipe_15 : decode c_L_wipe 15 = .ok (.iastore, 1) := by decide +kernel
theorem d_L_wipe_16 : decode c_L_wipe 16 = .ok (.aload_n 0, 1) := by decide +kernel
theorem d_L_wipe_17 : decode c_L_wipe 17 = .ok (.getfield 16, 3) := by decide +kernel
theorem d_L_wipe_20 : decode c_L_wipe 20 = .ok (.iload_n 2, 1) := by decide +kernel
theorem d_L_wipe_21 : decode c_L_wipe 21 = .ok (.aaload, 1) := by decide +kernel
theorem d_L_wipe_22 : decode c_L_wipe 22 = .ok (.iload_n 1, 1) := by decide +kernel
theorem d_L_wipe_23 : decode c_L_wipe 23 = .ok (.iconst 0, 1) := by decide +kernel
theorem d_L_wipe_24 : decode c_L_wipe 24 = .ok (.iastore, 1) := by decide +kernel
theorem d_L_wipe_25 : decode c_L_wipe 25 = .ok (.iinc 2 1, 3) := by decide +kernel
theorem d_L_wipe_28 : decode c_L_wipe 28 = .ok (.goto (-26), 3) := by decide +kernel
theorem d_L_wipe_31 : decode c_L_wipe 31 = .ok (.return_, 1) := by decide +kernel
theorem d_L_hasSome_0 : decode c_L_hasSome 0 = .ok (.aload_n 0, 1) := by decide +kernel
theorem d_L_hasSome_1 : decode c_L_hasSome 1 = .ok (.iconst 0, 1) := by decide +kernel
theorem d_L_hasSome_2 : decode c_L_hasSome 2 = .ok (.iload_n 1, 1) := by decide +kernel
theorem d_L_hasSome_3 : decode c_L_hasSome 3 = .ok (.invokevirtual 47, 3) := by decide +kernel
theorem d_L_hasSome_6 : decode c_L_hasSome 6 = .ok (.ifCond .ne 12, 3) := by decide +kernel
theorem d_L_hasSome_9 : decode c_L_hasSome 9 = .ok (.aload_n 0, 1) := by decide +kernel
theorem d_L_hasSome_10 : decode c_L_hasSome 10 = .ok (.iconst 1, 1) := by decide +kernel
theorem d_L_hasSome_11 : decode c_L_hasSome 11 = .ok (.iload_n 1, 1) := by decide +kernel
theorem d_L_hasSome_12 : decode c_L_hasSome 12 = .ok (.invokevirtual 47, 3) := by decide +kernel
theorem d_L_hasSome_15 : decode c_L_hasSome 15 = .ok (.ifCond .eq 7, 3) := by decide +kernel
theorem d_L_hasSome_18 : decode c_L_hasSome 18 = .ok (.iconst 1, 1) := by decide +kernel
theorem d_L_hasSome_19 : decode c_L_hasSome 19 = .ok (.goto 4, 3) := by decide +kernel
theorem d_L_hasSome_22 : decode c_L_hasSome 22 = .ok (.iconst 0, 1) := by decide +kernel
theorem d_L_hasSome_23 : decode c_L_hasSome 23 = .ok (.ireturn, 1) := by decide +kernel
theorem d_L_tellsOfGroup_0 : decode c_L_tellsOfGroup 0 = .ok (.aload_n 0, 1) := by decide +kernel
theorem d_L_tellsOfGroup_1 : decode c_L_tellsOfGroup 1 = .ok (.getfield 26, 3) := by decide +kernel
theorem d_L_tellsOfGroup_4 : decode c_L_tellsOfGroup 4 = .ok (.aload_n 0, 1) := by decide +kernel
theorem d_L_tellsOfGroup_5 : decode c_L_tellsOfGroup 5 = .ok (.getfield 30, 3) := by decide +kernel
theorem d_L_tellsOfGroup_8 : decode c_L_tellsOfGroup 8 = .ok (.baload, 1) := by decide +kernel
theorem d_L_tellsOfGroup_9 : decode c_L_tellsOfGroup 9 = .ok (.ireturn, 1) := by decide +kernel
theorem d_L_toldMark_0 : decode c_L_toldMark 0 = .ok (.aload_n 0, 1) := by decide +kernel
theorem d_L_toldMark_1 : decode c_L_toldMark 1 = .ok (.getfield 19, 3) := by decide +kernel
theorem d_L_toldMark_4 : decode c_L_toldMark 4 = .ok (.aload_n 0, 1) := by decide +kernel
theorem d_L_toldMark_5 : decode c_L_toldMark 5 = .ok (.getfield 30, 3) := by decide +kernel
theorem d_L_toldMark_8 : decode c_L_toldMark 8 = .ok (.aaload, 1) := by decide +kernel
theorem d_L_toldMark_9 : decode c_L_toldMark 9 = .ok (.iload_n 1, 1) := by decide +kernel
theorem d_L_toldMark_10 : decode c_L_toldMark 10 = .ok (.iaload, 1) := by decide +kernel
theorem d_L_toldMark_11 : decode c_L_toldMark 11 = .ok (.ireturn, 1) := by decide +kernel
theorem d_L_findCounting_0 : decode c_L_findCounting 0 = .ok (.iconst 0, 1) := by decide +kernel
theorem d_L_findCounting_1 : decode c_L_findCounting 1 = .ok (.istore_n 1, 1) := by decide +kernel
theorem d_L_findCounting_2 : decode c_L_findCounting 2 = .ok (.iconst 0, 1) := by decide +kernel
theorem d_L_findCounting_3 : decode c_L_findCounting 3 = .ok (.istore_n 2, 1) := by decide +kernel
theorem d_L_findCounting_4 : decode c_L_findCounting 4 = .ok (.iload_n 2, 1) := by decide +kernel
theorem d_L_findCounting_5 : decode c_L_findCounting 5 = .ok (.iconst 2, 1) := by decide +kernel
theorem d_L_findCounting_6 : decode c_L_findCounting 6 = .ok (.if_icmp .ge 58, 3) := by decide +kernel
theorem d_L_findCounting_9 : decode c_L_findCounting 9 = .ok (.iconst 0, 1) := by decide +kernel
theorem d_L_findCounting_10 : decode c_L_findCounting 10 = .ok (.istore_n 3, 1) := by decide +kernel
theorem d_L_findCounting_11 : decode c_L_findCounting 11 = .ok (.iload_n 3, 1) := by decide +kernel
theorem d_L_findCounting_12 : decode c_L_findCounting 12 = .ok (.bipush 8, 2) := by decide +kernel
theorem d_L_findCounting_14 : decode c_L_findCounting 14 = .ok (.if_icmp .ge 44, 3) := by decide +kernel
theorem d_L_findCounting_17 : decode c_L_findCounting 17 = .ok (.aload_n 0, 1) := by decide +kernel
theorem d_L_findCounting_18 : decode c_L_findCounting 18 = .ok (.iload_n 2, 1) := by decide +kernel
theorem d_L_findCounting_19 : decode c_L_findCounting 19 = .ok (.iload_n 3, 1) := by decide +kernel
theorem d_L_findCounting_20 : decode c_L_findCounting 20 = .ok (.invokevirtual 47, 3) := by decide +kernel
theorem d_L_findCounting_23 : decode c_L_findCounting 23 = .ok (.ifCond .eq 29, 3) := by decide +kernel
theorem d_L_findCounting_26 : decode c_L_findCounting 26 = .ok (.aload_n 0, 1) := by decide +kernel
theorem d_L_findCounting_27 : decode c_L_findCounting 27 = .ok (.getfield 11, 3) := by decide +kernel
theorem d_L_findCounting_30 : decode c_L_findCounting 30 = .ok (.iload_n 2, 1) := by decide +kernel
theorem d_L_findCounting_31 : decode c_L_findCounting 31 = .ok (.aaload, 1) := by decide +kernel
theorem d_L_findCounting_32 : decode c_L_findCounting 32 = .ok (.iload_n 3, 1) := by decide +kernel
theorem d_L_findCounting_33 : decode c_L_findCounting 33 = .ok (.iaload, 1) := by decide +kernel
theorem d_L_findCounting_34 : decode c_L_findCounting 34 = .ok (.iload_n 1, 1) := by decide +kernel
theorem d_L_findCounting_35 : decode c_L_findCounting 35 = .ok (.if_icmp .le 17, 3) := by decide +kernel
theorem d_L_findCounting_38 : decode c_L_findCounting 38 = .ok (.aload_n 0, 1) := by decide +kernel
theorem d_L_findCounting_39 : decode c_L_findCounting 39 = .ok (.getfield 11, 3) := by decide +kernel
theorem d_L_findCounting_42 : decode c_L_findCounting 42 = .ok (.iload_n 2, 1) := by decide +kernel
theorem d_L_findCounting_43 : decode c_L_findCounting 43 = .ok (.aaload, 1) := by decide +kernel
theorem d_L_findCounting_44 : decode c_L_findCounting 44 = .ok (.iload_n 3, 1) := by decide +kernel
theorem d_L_findCounting_45 : decode c_L_findCounting 45 = .ok (.iaload, 1) := by decide +kernel
theorem d_L_findCounting_46 : decode c_L_findCounting 46 = .ok (.istore_n 1, 1) := by decide +kernel
theorem d_L_findCounting_47 : decode c_L_findCounting 47 = .ok (.aload_n 0, 1) := by decide +kernel
theorem d_L_findCounting_48 : decode c_L_findCounting 48 = .ok (.iload_n 2, 1) := by decide +kernel
theorem d_L_findCounting_49 : decode c_L_findCounting 49 = .ok (.putfield 30, 3) := by decide +kernel
theorem d_L_findCounting_52 : decode c_L_findCounting 52 = .ok (.iinc 3 1, 3) := by decide +kernel
theorem d_L_findCounting_55 : decode c_L_findCounting 55 = .ok (.goto (-44), 3) := by decide +kernel
theorem d_L_findCounting_58 : decode c_L_findCounting 58 = .ok (.iinc 2 1, 3) := by decide +kernel
theorem d_L_findCounting_61 : decode c_L_findCounting 61 = .ok (.goto (-57), 3) := by decide +kernel
theorem d_L_findCounting_64 : decode c_L_findCounting 64 = .ok (.return_, 1) := by decide +kernel
theorem d_L_has_0 : decode c_L_has 0 = .ok (.aload_n 0, 1) := by decide +kernel
theorem d_L_has_1 : decode c_L_has 1 = .ok (.getfield 11, 3) := by decide +kernel
theorem d_L_has_4 : decode c_L_has 4 = .ok (.iload_n 1, 1) := by decide +kernel
theorem d_L_has_5 : decode c_L_has 5 = .ok (.aaload, 1) := by decide +kernel
theorem d_L_has_6 : decode c_L_has 6 = .ok (.iload_n 2, 1) := by decide +kernel
theorem d_L_has_7 : decode c_L_has 7 = .ok (.iaload, 1) := by decide +kernel
theorem d_L_has_8 : decode c_L_has 8 = .ok (.ifCond .eq 26, 3) := by decide +kernel
theorem d_L_has_11 : decode c_L_has 11 = .ok (.aload_n 0, 1) := by decide +kernel
theorem d_L_has_12 : decode c_L_has 12 = .ok (.getfield 11, 3) := by decide +kernel
theorem d_L_has_15 : decode c_L_has 15 = .ok (.iload_n 1, 1) := by decide +kernel
theorem d_L_has_16 : decode c_L_has 16 = .ok (.aaload, 1) := by decide +kernel
theorem d_L_has_17 : decode c_L_has 17 = .ok (.iload_n 2, 1) := by decide +kernel
theorem d_L_has_18 : decode c_L_has 18 = .ok (.iaload, 1) := by decide +kernel
theorem d_L_has_19 : decode c_L_has 19 = .ok (.aload_n 0, 1) := by decide +kernel
theorem d_L_has_20 : decode c_L_has 20 = .ok (.getfield 16, 3) := by decide +kernel
theorem d_L_has_23 : decode c_L_has 23 = .ok (.iload_n 1, 1) := by decide +kernel
theorem d_L_has_24 : decode c_L_has 24 = .ok (.aaload, 1) := by decide +kernel
theorem d_L_has_25 : decode c_L_has 25 = .ok (.iload_n 2, 1) := by decide +kernel
theorem d_L_has_26 : decode c_L_has 26 = .ok (.iaload, 1) := by decide +kernel
theorem d_L_has_27 : decode c_L_has 27 = .ok (.if_icmp .ne 7, 3) := by decide +kernel
theorem d_L_has_30 : decode c_L_has 30 = .ok (.iconst 1, 1) := by decide +kernel
theorem d_L_has_31 : decode c_L_has 31 = .ok (.goto 4, 3) := by decide +kernel
theorem d_L_has_34 : decode c_L_has 34 = .ok (.iconst 0, 1) := by decide +kernel
theorem d_L_has_35 : decode c_L_has 35 = .ok (.ireturn, 1) := by decide +kernel
theorem d_L_put_0 : decode c_L_put 0 = .ok (.iload_n 3, 1) := by decide +kernel
theorem d_L_put_1 : decode c_L_put 1 = .ok (.iconst 1, 1) := by decide +kernel
theorem d_L_put_2 : decode c_L_put 2 = .ok (.if_icmp .eq 8, 3) := by decide +kernel
theorem d_L_put_5 : decode c_L_put 5 = .ok (.iload_n 3, 1) := by decide +kernel
theorem d_L_put_6 : decode c_L_put 6 = .ok (.iconst 2, 1) := by decide +kernel
theorem d_L_put_7 : decode c_L_put 7 = .ok (.if_icmp .ne 17, 3) := by decide +kernel
theorem d_L_put_10 : decode c_L_put 10 = .ok (.aload_n 0, 1) := by decide +kernel
theorem d_L_put_11 : decode c_L_put 11 = .ok (.getfield 11, 3) := by decide +kernel
theorem d_L_put_14 : decode c_L_put 14 = .ok (.iload_n 1, 1) := by decide +kernel
theorem d_L_put_15 : decode c_L_put 15 = .ok (.aaload, 1) := by decide +kernel
theorem d_L_put_16 : decode c_L_put 16 = .ok (.iload_n 2, 1) := by decide +kernel
theorem d_L_put_17 : decode c_L_put 17 = .ok (.aload_n 0, 1) := by decide +kernel
theorem d_L_put_18 : decode c_L_put 18 = .ok (.getfield 22, 3) := by decide +kernel
theorem d_L_put_21 : decode c_L_put 21 = .ok (.iload_n 1, 1) := by decide +kernel
theorem d_L_put_22 : decode c_L_put 22 = .ok (.iaload, 1) := by decide +kernel
theorem d_L_put_23 : decode c_L_put 23 = .ok (.iastore, 1) := by decide +kernel
theorem d_L_put_24 : decode c_L_put 24 = .ok (.iload_n 3, 1) := by decide +kernel
theorem d_L_put_25 : decode c_L_put 25 = .ok (.iconst 1, 1) := by decide +kernel
theorem d_L_put_26 : decode c_L_put 26 = .ok (.if_icmp .eq 8, 3) := by decide +kernel
theorem d_L_put_29 : decode c_L_put 29 = .ok (.iload_n 3, 1) := by decide +kernel
theorem d_L_put_30 : decode c_L_put 30 = .ok (.iconst 3, 1) := by decide +kernel
theorem d_L_put_31 : decode c_L_put 31 = .ok (.if_icmp .ne 17, 3) := by decide +kernel
theorem d_L_put_34 : decode c_L_put 34 = .ok (.aload_n 0, 1) := by decide +kernel
theorem d_L_put_35 : decode c_L_put 35 = .ok (.getfield 16, 3) := by decide +kernel
theorem d_L_put_38 : decode c_L_put 38 = .ok (.iload_n 1, 1) := by decide +kernel
theorem d_L_put_39 : decode c_L_put 39 = .ok (.aaload, 1) := by decide +kernel
theorem d_L_put_40 : decode c_L_put 40 = .ok (.iload_n 2, 1) := by decide +kernel
theorem d_L_put_41 : decode c_L_put 41 = .ok (.aload_n 0, 1) := by decide +kernel
theorem d_L_put_42 : decode c_L_put 42 = .ok (.getfield 22, 3) := by decide +kernel
theorem d_L_put_45 : decode c_L_put 45 = .ok (.iload_n 1, 1) := by decide +kernel
theorem d_L_put_46 : decode c_L_put 46 = .ok (.iaload, 1) := by decide +kernel
theorem d_L_put_47 : decode c_L_put 47 = .ok (.iastore, 1) := by decide +kernel
theorem d_L_put_48 : decode c_L_put 48 = .ok (.return_, 1) := by decide +kernel
theorem d_J_rangeCheck_0 : decode c_J_rangeCheck 0 = .ok (.iload_n 1, 1) := by decide +kernel
theorem d_J_rangeCheck_1 : decode c_J_rangeCheck 1 = .ok (.iload_n 2, 1) := by decide +kernel
theorem d_J_rangeCheck_2 : decode c_J_rangeCheck 2 = .ok (.if_icmp .le 44, 3) := by decide +kernel
theorem d_J_rangeCheck_5 : decode c_J_rangeCheck 5 = .ok (.new 43, 3) := by decide +kernel
theorem d_J_rangeCheck_8 : decode c_J_rangeCheck 8 = .ok (.dup, 1) := by decide +kernel
theorem d_J_rangeCheck_9 : decode c_J_rangeCheck 9 = .ok (.new 45, 3) := by decide +kernel
theorem d_J_rangeCheck_12 : decode c_J_rangeCheck 12 = .ok (.dup, 1) := by decide +kernel
theorem d_J_rangeCheck_13 : decode c_J_rangeCheck 13 = .ok (.invokespecial 47, 3) := by decide +kernel
theorem d_J_rangeCheck_16 : decode c_J_rangeCheck 16 = .ok (.ldc 48, 2) := by decide +kernel
theorem d_J_rangeCheck_18 : decode c_J_rangeCheck 18 = .ok (.invokevirtual 50, 3) := by decide +kernel
theorem d_J_rangeCheck_21 : decode c_J_rangeCheck 21 = .ok (.iload_n 1, 1) := by decide +kernel
theorem d_J_rangeCheck_22 : decode c_J_rangeCheck 22 = .ok (.invokevirtual 54, 3) := by decide +kernel
theorem d_J_rangeCheck_25 : decode c_J_rangeCheck 25 = .ok (.ldc 57, 2) := by decide +kernel
theorem d_J_rangeCheck_27 : decode c_J_rangeCheck 27 = .ok (.invokevirtual 50, 3) := by decide +kernel
theorem d_J_rangeCheck_30 : decode c_J_rangeCheck 30 = .ok (.iload_n 2, 1) := by decide +kernel
theorem d_J_rangeCheck_31 : decode c_J_rangeCheck 31 = .ok (.invokevirtual 54, 3) := by decide +kernel
theorem d_J_rangeCheck_34 : decode c_J_rangeCheck 34 = .ok (.ldc 59, 2) := by decide +kernel
theorem d_J_rangeCheck_36 : decode c_J_rangeCheck 36 = .ok (.invokevirtual 50, 3) := by decide +kernel
theorem d_J_rangeCheck_39 : decode c_J_rangeCheck 39 = .ok (.invokevirtual 61, 3) := by decide +kernel
theorem d_J_rangeCheck_42 : decode c_J_rangeCheck 42 = .ok (.invokespecial 65, 3) := by decide +kernel
theorem d_J_rangeCheck_45 : decode c_J_rangeCheck 45 = .ok (.athrow, 1) := by decide +kernel
theorem d_J_rangeCheck_46 : decode c_J_rangeCheck 46 = .ok (.iload_n 1, 1) := by decide +kernel
theorem d_J_rangeCheck_47 : decode c_J_rangeCheck 47 = .ok (.ifCond .ge 12, 3) := by decide +kernel
theorem d_J_rangeCheck_50 : decode c_J_rangeCheck 50 = .ok (.new 68, 3) := by decide +kernel
theorem d_J_rangeCheck_53 : decode c_J_rangeCheck 53 = .ok (.dup, 1) := by decide +kernel
theorem d_J_rangeCheck_54 : decode c_J_rangeCheck 54 = .ok (.iload_n 1, 1) := by decide +kernel
theorem d_J_rangeCheck_55 : decode c_J_rangeCheck 55 = .ok (.invokespecial 70, 3) := by decide +kernel
theorem d_J_rangeCheck_58 : decode c_J_rangeCheck 58 = .ok (.athrow, 1) := by decide +kernel
theorem d_J_rangeCheck_59 : decode c_J_rangeCheck 59 = .ok (.iload_n 2, 1) := by decide +kernel
theorem d_J_rangeCheck_60 : decode c_J_rangeCheck 60 = .ok (.iload_n 0, 1) := by decide +kernel
theorem d_J_rangeCheck_61 : decode c_J_rangeCheck 61 = .ok (.if_icmp .le 12, 3) := by decide +kernel
theorem d_J_rangeCheck_64 : decode c_J_rangeCheck 64 = .ok (.new 68, 3) := by decide +kernel
theorem d_J_rangeCheck_67 : decode c_J_rangeCheck 67 = .ok (.dup, 1) := by decide +kernel
theorem d_J_rangeCheck_68 : decode c_J_rangeCheck 68 = .ok (.iload_n 2, 1) := by decide +kernel
theorem d_J_rangeCheck_69 : decode c_J_rangeCheck 69 = .ok (.invokespecial 70, 3) := by decide +kernel
theorem d_J_rangeCheck_72 : decode c_J_rangeCheck 72 = .ok (.athrow, 1) := by decide +kernel
theorem d_J_rangeCheck_73 : decode c_J_rangeCheck 73 = .ok (.return_, 1) := by decide +kernel
theorem d_J_fillJ_0 : decode c_J_fillJ 0 = .ok (.iconst 0, 1) := by decide +kernel
theorem d_J_fillJ_1 : decode c_J_fillJ 1 = .ok (.istore_n 3, 1) := by decide +kernel
theorem d_J_fillJ_2 : decode c_J_fillJ 2 = .ok (.aload_n 0, 1) := by decide +kernel
theorem d_J_fillJ_3 : decode c_J_fillJ 3 = .ok (.arraylength, 1) := by decide +kernel
theorem d_J_fillJ_4 : decode c_J_fillJ 4 = .ok (.istore 4, 2) := by decide +kernel
theorem d_J_fillJ_6 : decode c_J_fillJ 6 = .ok (.iload_n 3, 1) := by decide +kernel
theorem d_J_fillJ_7 : decode c_J_fillJ 7 = .ok (.iload 4, 2) := by decide +kernel
theorem d_J_fillJ_9 : decode c_J_fillJ 9 = .ok (.if_icmp .ge 13, 3) := by decide +kernel
theorem d_J_fillJ_12 : decode c_J_fillJ 12 = .ok (.aload_n 0, 1) := by decide +kernel
theorem d_J_fillJ_13 : decode c_J_fillJ 13 = .ok (.iload_n 3, 1) := by decide +kernel
theorem d_J_fillJ_14 : decode c_J_fillJ 14 = .ok (.lload_n 1, 1) := by decide +kernel
theorem d_J_fillJ_15 : decode c_J_fillJ 15 = .ok (.lastore, 1) := by decide +kernel
theorem d_J_fillJ_16 : decode c_J_fillJ 16 = .ok (.iinc 3 1, 3) := by decide +kernel
theorem d_J_fillJ_19 : decode c_J_fillJ 19 = .ok (.goto (-13), 3) := by decide +kernel
theorem d_J_fillJ_22 : decode c_J_fillJ 22 = .ok (.return_, 1) := by decide +kernel
theorem d_J_fillI_0 : decode c_J_fillI 0 = .ok (.iconst 0, 1) := by decide +kernel
theorem d_J_fillI_1 : decode c_J_fillI 1 = .ok (.istore_n 2, 1) := by decide +kernel
theorem d_J_fillI_2 : decode c_J_fillI 2 = .ok (.aload_n 0, 1) := by decide +kernel
theorem d_J_fillI_3 : decode c_J_fillI 3 = .ok (.arraylength, 1) := by decide +kernel
theorem d_J_fillI_4 : decode c_J_fillI 4 = .ok (.istore_n 3, 1) := by decide +kernel
theorem d_J_fillI_5 : decode c_J_fillI 5 = .ok (.iload_n 2, 1) := by decide +kernel
theorem d_J_fillI_6 : decode c_J_fillI 6 = .ok (.iload_n 3, 1) := by decide +kernel
theorem d_J_fillI_7 : decode c_J_fillI 7 = .ok (.if_icmp .ge 13, 3) := by decide +kernel
theorem d_J_fillI_10 : decode c_J_fillI 10 = .ok (.aload_n 0, 1) := by decide +kernel
theorem d_J_fillI_11 : decode c_J_fillI 11 = .ok (.iload_n 2, 1) := by decide +kernel
theorem d_J_fillI_12 : decode c_J_fillI 12 = .ok (.iload_n 1, 1) := by decide +kernel
theorem d_J_fillI_13 : decode c_J_fillI 13 = .ok (.iastore, 1) := by decide +kernel
theorem d_J_fillI_14 : decode c_J_fillI 14 = .ok (.iinc 2 1, 3) := by decide +kernel
theorem d_J_fillI_17 : decode c_J_fillI 17 = .ok (.goto (-12), 3) := by decide +kernel
theorem d_J_fillI_20 : decode c_J_fillI 20 = .ok (.return_, 1) := by decide +kernel
theorem d_J_fillB_0 : decode c_J_fillB 0 = .ok (.iconst 0, 1) := by decide +kernel
theorem d_J_fillB_1 : decode c_J_fillB 1 = .ok (.istore_n 2, 1) := by decide +kernel
theorem d_J_fillB_2 : decode c_J_fillB 2 = .ok (.aload_n 0, 1) := by decide +kernel
theorem d_J_fillB_3 : decode c_J_fillB 3 = .ok (.arraylength, 1) := by decide +kernel
theorem d_J_fillB_4 : decode c_J_fillB 4 = .ok (.istore_n 3, 1) := by decide +kernel
theorem d_J_fillB_5 : decode c_J_fillB 5 = .ok (.iload_n 2, 1) := by decide +kernel
theorem d_J_fillB_6 : decode c_J_fillB 6 = .ok (.iload_n 3, 1) := by decide +kernel
theorem d_J_fillB_7 : decode c_J_fillB 7 = .ok (.if_icmp .ge 13, 3) := by decide +kernel
theorem d_J_fillB_10 : decode c_J_fillB 10 = .ok (.aload_n 0, 1) := by decide +kernel
theorem d_J_fillB_11 : decode c_J_fillB 11 = .ok (.iload_n 2, 1) := by decide +kernel
theorem d_J_fillB_12 : decode c_J_fillB 12 = .ok (.iload_n 1, 1) := by decide +kernel
theorem d_J_fillB_13 : decode c_J_fillB 13 = .ok (.bastore, 1) := by decide +kernel
theorem d_J_fillB_14 : decode c_J_fillB 14 = .ok (.iinc 2 1, 3) := by decide +kernel
theorem d_J_fillB_17 : decode c_J_fillB 17 = .ok (.goto (-12), 3) := by decide +kernel
theorem d_J_fillB_20 : decode c_J_fillB 20 = .ok (.return_, 1) := by decide +kernel
theorem d_J_fillR_0 : decode c_J_fillR 0 = .ok (.aload_n 0, 1) := by decide +kernel
theorem d_J_fillR_1 : decode c_J_fillR 1 = .ok (.arraylength, 1) := by decide +kernel
theorem d_J_fillR_2 : decode c_J_fillR 2 = .ok (.iload_n 1, 1) := by decide +kernel
theorem d_J_fillR_3 : decode c_J_fillR 3 = .ok (.iload_n 2, 1) := by decide +kernel
theorem d_J_fillR_4 : decode c_J_fillR 4 = .ok (.invokestatic 13, 3) := by decide +kernel
theorem d_J_fillR_7 : decode c_J_fillR 7 = .ok (.iload_n 1, 1) := by decide +kernel
theorem d_J_fillR_8 : decode c_J_fillR 8 = .ok (.istore 4, 2) := by decide +kernel
theorem d_J_fillR_10 : decode c_J_fillR 10 = .ok (.iload 4, 2) := by decide +kernel
theorem d_J_fillR_12 : decode c_J_fillR 12 = .ok (.iload_n 2, 1) := by decide +kernel
theorem d_J_fillR_13 : decode c_J_fillR 13 = .ok (.if_icmp .ge 14, 3) := by decide +kernel
theorem d_J_fillR_16 : decode c_J_fillR 16 = .ok (.aload_n 0, 1) := by decide +kernel
theorem d_J_fillR_17 : decode c_J_fillR 17 = .ok (.iload 4, 2) := by decide +kernel
theorem d_J_fillR_19 : decode c_J_fillR 19 = .ok (.iload_n 3, 1) := by decide +kernel
theorem d_J_fillR_20 : decode c_J_fillR 20 = .ok (.bastore, 1) := by decide +kernel
theorem d_J_fillR_21 : decode c_J_fillR 21 = .ok (.iinc 4 1, 3) := by decide +kernel
theorem d_J_fillR_24 : decode c_J_fillR 24 = .ok (.goto (-14), 3) := by decide +kernel
theorem d_J_fillR_27 : decode c_J_fillR 27 = .ok (.return_, 1) := by decide +kernel
end
section
theorem d_D_init_0 : decode c_D_init 0 = .ok (.aload_n 0, 1) := by decide +kernel
theorem d_D_init_1 : decode c_D_init 1 = .ok (.invokespecial 3, 3) := by decide +kernel
theorem d_D_init_4 : decode c_D_init 4 = .ok (.aload_n 0, 1) := by decide +kernel
theorem d_D_init_5 : decode c_D_init 5 = .ok (.bipush 8, 2) := by decide +kernel
theorem d_D_init_7 : decode c_D_init 7 = .ok (.newarray .int, 2) := by decide +kernel
theorem d_D_init_9 : decode c_D_init 9 = .ok (.putfield 9, 3) := by decide +kernel
theorem d_D_init_12 : decode c_D_init 12 = .ok (.aload_n 0, 1) := by decide +kernel
theorem d_D_init_13 : decode c_D_init 13 = .ok (.bipush 8, 2) := by decide +kernel
theorem d_D_init_15 : decode c_D_init 15 = .ok (.newarray .long, 2) := by decide +kernel
theorem d_D_init_17 : decode c_D_init 17 = .ok (.putfield 13, 3) := by decide +kernel
theorem d_D_init_20 : decode c_D_init 20 = .ok (.aload_n 0, 1) := by decide +kernel
theorem d_D_init_21 : decode c_D_init 21 = .ok (.sipush 13056, 3) := by decide +kernel
theorem d_D_init_24 : decode c_D_init 24 = .ok (.newarray .byte, 2) := by decide +kernel
theorem d_D_init_26 : decode c_D_init 26 = .ok (.putfield 17, 3) := by decide +kernel
theorem d_D_init_29 : decode c_D_init 29 = .ok (.aload_n 0, 1) := by decide +kernel
theorem d_D_init_30 : decode c_D_init 30 = .ok (.new 21, 3) := by decide +kernel
theorem d_D_init_33 : decode c_D_init 33 = .ok (.dup, 1) := by decide +kernel
theorem d_D_init_34 : decode c_D_init 34 = .ok (.invokespecial 23, 3) := by decide +kernel
theorem d_D_init_37 : decode c_D_init 37 = .ok (.putfield 24, 3) := by decide +kernel
theorem d_D_init_40 : decode c_D_init 40 = .ok (.aload_n 0, 1) := by decide +kernel
theorem d_D_init_41 : decode c_D_init 41 = .ok (.new 21, 3) := by decide +kernel
theorem d_D_init_44 : decode c_D_init 44 = .ok (.dup, 1) := by decide +kernel
theorem d_D_init_45 : decode c_D_init 45 = .ok (.invokespecial 23, 3) := by decide +kernel
theorem d_D_init_48 : decode c_D_init 48 = .ok (.putfield 28, 3) := by decide +kernel
theorem d_D_init_51 : decode c_D_init 51 = .ok (.aload_n 0, 1) := by decide +kernel
theorem d_D_init_52 : decode c_D_init 52 = .ok (.new 31, 3) := by decide +kernel
theorem d_D_init_55 : decode c_D_init 55 = .ok (.dup, 1) := by decide +kernel
theorem d_D_init_56 : decode c_D_init 56 = .ok (.invokespecial 33, 3) := by decide +kernel
theorem d_D_init_59 : decode c_D_init 59 = .ok (.putfield 34, 3) := by decide +kernel
theorem d_D_init_62 : decode c_D_init 62 = .ok (.aload_n 0, 1) := by decide +kernel
theorem d_D_init_63 : decode c_D_init 63 = .ok (.iconst 4, 1) := by decide +kernel
theorem d_D_init_64 : decode c_D_init 64 = .ok (.bipush 12, 2) := by decide +kernel
theorem d_D_init_66 : decode c_D_init 66 = .ok (.invokevirtual 38, 3) := by decide +kernel
theorem d_D_init_69 : decode c_D_init 69 = .ok (.return_, 1) := by decide +kernel
theorem d_D_lay_0 : decode c_D_lay 0 = .ok (.iload_n 1, 1) := by decide +kernel
theorem d_D_lay_1 : decode c_D_lay 1 = .ok (.iconst 4, 1) := by decide +kernel
theorem d_D_lay_2 : decode c_D_lay 2 = .ok (.if_icmp .lt 21, 3) := by decide +kernel
theorem d_D_lay_5 : decode c_D_lay 5 = .ok (.iload_n 1, 1) := by decide +kernel
theorem d_D_lay_6 : decode c_D_lay 6 = .ok (.bipush 8, 2) := by decide +kernel
theorem d_D_lay_8 : decode c_D_lay 8 = .ok (.if_icmp .gt 15, 3) := by decide +kernel
theorem d_D_lay_11 : decode c_D_lay 11 = .ok (.iload_n 2, 1) := by decide +kernel
theorem d_D_lay_12 : decode c_D_lay 12 = .ok (.bipush 12, 2) := by decide +kernel
theorem d_D_lay_14 : decode c_D_lay 14 = .ok (.if_icmp .lt 9, 3) := by decide +kernel
theorem d_D_lay_17 : decode c_D_lay 17 = .ok (.iload_n 2, 1) := by decide +kernel
theorem d_D_lay_18 : decode c_D_lay 18 = .ok (.bipush 40, 2) := by decide +kernel
theorem d_D_lay_20 : decode c_D_lay 20 = .ok (.if_icmp .le 5, 3) := by decide +kernel
theorem d_D_lay_23 : decode c_D_lay 23 = .ok (.iconst (-1), 1) := by decide +kernel
theorem d_D_lay_24 : decode c_D_lay 24 = .ok (.ireturn, 1) := by decide +kernel
theorem d_D_lay_25 : decode c_D_lay 25 = .ok (.aload_n 0, 1) := by decide +kernel
theorem d_D_lay_26 : decode c_D_lay 26 = .ok (.iload_n 1, 1) := by decide +kernel
theorem d_D_lay_27 : decode c_D_lay 27 = .ok (.iload_n 2, 1) := by decide +kernel
theorem d_D_lay_28 : decode c_D_lay 28 = .ok (.invokevirtual 38, 3) := by decide +kernel
theorem d_D_lay_31 : decode c_D_lay 31 = .ok (.aload_n 0, 1) := by decide +kernel
theorem d_D_lay_32 : decode c_D_lay 32 = .ok (.invokevirtual 42, 3) := by decide +kernel
theorem d_D_lay_35 : decode c_D_lay 35 = .ok (.ireturn, 1) := by decide +kernel
theorem d_D_write_0 : decode c_D_write 0 = .ok (.aload_n 0, 1) := by decide +kernel
theorem d_D_write_1 : decode c_D_write 1 = .ok (.getfield 46, 3) := by decide +kernel
theorem d_D_write_4 : decode c_D_write 4 = .ok (.ifCond .ne 6, 3) := by decide +kernel
theorem d_D_write_7 : decode c_D_write 7 = .ok (.bipush (-2), 2) := by decide +kernel
theorem d_D_write_9 : decode c_D_write 9 = .ok (.ireturn, 1) := by decide +kernel
theorem d_D_write_10 : decode c_D_write 10 = .ok (.aload_n 0, 1) := by decide +kernel
theorem d_D_write_11 : decode c_D_write 11 = .ok (.iload_n 1, 1) := by decide +kernel
theorem d_D_write_12 : decode c_D_write 12 = .ok (.iload_n 2, 1) := by decide +kernel
theorem d_D_write_13 : decode c_D_write 13 = .ok (.invokevirtual 50, 3) := by decide +kernel
theorem d_D_write_16 : decode c_D_write 16 = .ok (.ifCond .eq 29, 3) := by decide +kernel
theorem d_D_write_19 : decode c_D_write 19 = .ok (.iload_n 3, 1) := by decide +kernel
theorem d_D_write_20 : decode c_D_write 20 = .ok (.iconst 1, 1) := by decide +kernel
theorem d_D_write_21 : decode c_D_write 21 = .ok (.if_icmp .lt 24, 3) := by decide +kernel
theorem d_D_write_24 : decode c_D_write 24 = .ok (.iload_n 3, 1) := by decide +kernel
theorem d_D_write_25 : decode c_D_write 25 = .ok (.bipush 64, 2) := by decide +kernel
theorem d_D_write_27 : decode c_D_write 27 = .ok (.iload_n 2, 1) := by decide +kernel
theorem d_D_write_28 : decode c_D_write 28 = .ok (.isub, 1) := by decide +kernel
theorem d_D_write_29 : decode c_D_write 29 = .ok (.if_icmp .gt 16, 3) := by decide +kernel
theorem d_D_write_32 : decode c_D_write 32 = .ok (.iload 4, 2) := by decide +kernel
theorem d_D_write_34 : decode c_D_write 34 = .ok (.ifCond .lt 11, 3) := by decide +kernel
theorem d_D_write_37 : decode c_D_write 37 = .ok (.iload 4, 2) := by decide +kernel
theorem d_D_write_39 : decode c_D_write 39 = .ok (.sipush 255, 3) := by decide +kernel
theorem d_D_write_42 : decode c_D_write 42 = .ok (.if_icmp .le 5, 3) := by decide +kernel
theorem d_D_write_45 : decode c_D_write 45 = .ok (.iconst (-1), 1) := by decide +kernel
theorem d_D_write_46 : decode c_D_write 46 = .ok (.ireturn, 1) := by decide +kernel
theorem d_D_write_47 : decode c_D_write 47 = .ok (.aload_n 0, 1) := by decide +kernel
theorem d_D_write_48 : decode c_D_write 48 = .ok (.getfield 24, 3) := by decide +kernel
theorem d_D_write_51 : decode c_D_write 51 = .ok (.iload_n 1, 1) := by decide +kernel
theorem d_D_write_52 : decode c_D_write 52 = .ok (.invokevirtual 54, 3) := by decide +kernel
theorem d_D_write_55 : decode c_D_write 55 = .ok (.istore 5, 2) := by decide +kernel
theorem d_D_write_57 : decode c_D_write 57 = .ok (.iload 5, 2) := by decide +kernel
theorem d_D_write_59 : decode c_D_write 59 = .ok (.ifCond .ge 49, 3) := by decide +kernel
theorem d_D_write_62 : decode c_D_write 62 = .ok (.aload_n 0, 1) := by decide +kernel
theorem d_D_write_63 : decode c_D_write 63 = .ok (.iload_n 1, 1) := by decide +kernel
theorem d_D_write_64 : decode c_D_write 64 = .ok (.invokevirtual 58, 3) := by decide +kernel
theorem d_D_write_67 : decode c_D_write 67 = .ok (.istore 6, 2) := by decide +kernel
theorem d_D_write_69 : decode c_D_write 69 = .ok (.aload_n 0, 1) := by decide +kernel
theorem d_D_write_70 : decode c_D_write 70 = .ok (.getfield 24, 3) := by decide +kernel
theorem d_D_write_73 : decode c_D_write 73 = .ok (.iload 6, 2) := by decide +kernel
theorem d_D_write_75 : decode c_D_write 75 = .ok (.invokevirtual 61, 3) := by decide +kernel
theorem d_D_write_78 : decode c_D_write 78 = .ok (.iconst 4, 1) := by decide +kernel
theorem d_D_write_79 : decode c_D_write 79 = .ok (.aload_n 0, 1) := by decide +kernel
theorem d_D_write_80 : decode c_D_write 80 = .ok (.getfield 64, 3) := by decide +kernel
theorem d_D_write_83 : decode c_D_write 83 = .ok (.iconst 2, 1) := by decide +kernel
theorem d_D_write_84 : decode c_D_write 84 = .ok (.isub, 1) := by decide +kernel
theorem d_D_write_85 : decode c_D_write 85 = .ok (.imul, 1) := by decide +kernel
theorem d_D_write_86 : decode c_D_write 86 = .ok (.if_icmp .le 6, 3) := by decide +kernel
theorem d_D_write_89 : decode c_D_write 89 = .ok (.bipush (-3), 2) := by decide +kernel
theorem d_D_write_91 : decode c_D_write 91 = .ok (.ireturn, 1) := by decide +kernel
theorem d_D_write_92 : decode c_D_write 92 = .ok (.aload_n 0, 1) := by decide +kernel
theorem d_D_write_93 : decode c_D_write 93 = .ok (.getfield 24, 3) := by decide +kernel
theorem d_D_write_96 : decode c_D_write 96 = .ok (.iload_n 1, 1) := by decide +kernel
theorem d_D_write_97 : decode c_D_write 97 = .ok (.iload 6, 2) := by decide +kernel
theorem d_D_write_99 : decode c_D_write 99 = .ok (.aload_n 0, 1) := by decide +kernel
theorem d_D_write_100 : decode c_D_write 100 = .ok (.getfield 17, 3) := by decide +kernel
theorem d_D_write_103 : decode c_D_write 103 = .ok (.invokevirtual 68, 3) := by decide +kernel
theorem d_D_write_106 : decode c_D_write 106 = .ok (.istore 5, 2) := by decide +kernel
theorem d_D_write_108 : decode c_D_write 108 = .ok (.aload_n 0, 1) := by decide +kernel
theorem d_D_write_109 : decode c_D_write 109 = .ok (.getfield 24, 3) := by decide +kernel
theorem d_D_write_112 : decode c_D_write 112 = .ok (.iload 5, 2) := by decide +kernel
theorem d_D_write_114 : decode c_D_write 114 = .ok (.iload_n 2, 1) := by decide +kernel
theorem d_D_write_115 : decode c_D_write 115 = .ok (.iload_n 3, 1) := by decide +kernel
theorem d_D_write_116 : decode c_D_write 116 = .ok (.iload 4, 2) := by decide +kernel
theorem d_D_write_118 : decode c_D_write 118 = .ok (.invokevirtual 72, 3) := by decide +kernel
theorem d_D_write_121 : decode c_D_write 121 = .ok (.aload_n 0, 1) := by decide +kernel
theorem d_D_write_122 : decode c_D_write 122 = .ok (.getfield 24, 3) := by decide +kernel
theorem d_D_write_125 : decode c_D_write 125 = .ok (.invokevirtual 76, 3) := by decide +kernel
theorem d_D_write_128 : decode c_D_write 128 = .ok (.ireturn, 1) := by decide +kernel
theorem d_D_read_0 : decode c_D_read 0 = .ok (.aload_n 0, 1) := by decide +kernel
theorem d_D_read_1 : decode c_D_read 1 = .ok (.getfield 46, 3) := by decide +kernel
theorem d_D_read_4 : decode c_D_read 4 = .ok (.ifCond .ne 6, 3) := by decide +kernel
theorem d_D_read_7 : decode c_D_read 7 = .ok (.bipush (-2), 2) := by decide +kernel
theorem d_D_read_9 : decode c_D_read 9 = .ok (.ireturn, 1) := by decide +kernel
theorem d_D_read_10 : decode c_D_read 10 = .ok (.aload_n 0, 1) := by decide +kernel
theorem d_D_read_11 : decode c_D_read 11 = .ok (.iload_n 1, 1) := by decide +kernel
theorem d_D_read_12 : decode c_D_read 12 = .ok (.iload_n 2, 1) := by decide +kernel
theorem d_D_read_13 : decode c_D_read 13 = .ok (.invokevirtual 50, 3) := by decide +kernel
theorem d_D_read_16 : decode c_D_read 16 = .ok (.ifCond .ne 5, 3) := by decide +kernel
theorem d_D_read_19 : decode c_D_read 19 = .ok (.iconst (-1), 1) := by decide +kernel
theorem d_D_read_20 : decode c_D_read 20 = .ok (.ireturn, 1) := by decide +kernel
theorem d_D_read_21 : decode c_D_read 21 = .ok (.aload_n 0, 1) := by decide +kernel
theorem d_D_read_22 : decode c_D_read 22 = .ok (.getfield 24, 3) := by decide +kernel
theorem d_D_read_25 : decode c_D_read 25 = .ok (.iload_n 1, 1) := by decide +kernel
theorem d_D_read_26 : decode c_D_read 26 = .ok (.invokevirtual 54, 3) := by decide +kernel
theorem d_D_read_29 : decode c_D_read 29 = .ok (.istore_n 3, 1) := by decide +kernel
theorem d_D_read_30 : decode c_D_read 30 = .ok (.iload_n 3, 1) := by decide +kernel
theorem d_D_read_31 : decode c_D_read 31 = .ok (.ifCond .ge 21, 3) := by decide +kernel
theorem d_D_read_34 : decode c_D_read 34 = .ok (.aload_n 0, 1) := by decide +kernel
theorem d_D_read_35 : decode c_D_read 35 = .ok (.getfield 17, 3) := by decide +kernel
theorem d_D_read_38 : decode c_D_read 38 = .ok (.iload_n 1, 1) := by decide +kernel
theorem d_D_read_39 : decode c_D_read 39 = .ok (.bipush 64, 2) := by decide +kernel
theorem d_D_read_41 : decode c_D_read 41 = .ok (.imul, 1) := by decide +kernel
theorem d_D_read_42 : decode c_D_read 42 = .ok (.iload_n 2, 1) := by decide +kernel
theorem d_D_read_43 : decode c_D_read 43 = .ok (.iadd, 1) := by decide +kernel
theorem d_D_read_44 : decode c_D_read 44 = .ok (.baload, 1) := by decide +kernel
theorem d_D_read_45 : decode c_D_read 45 = .ok (.sipush 255, 3) := by decide +kernel
theorem d_D_read_48 : decode c_D_read 48 = .ok (.iand, 1) := by decide +kernel
theorem d_D_read_49 : decode c_D_read 49 = .ok (.goto 12, 3) := by decide +kernel
theorem d_D_read_52 : decode c_D_read 52 = .ok (.aload_n 0, 1) := by decide +kernel
theorem d_D_read_53 : decode c_D_read 53 = .ok (.getfield 24, 3) := by decide +kernel
theorem d_D_read_56 : decode c_D_read 56 = .ok (.iload_n 3, 1) := by decide +kernel
theorem d_D_read_57 : decode c_D_read 57 = .ok (.iload_n 2, 1) := by decide +kernel
theorem d_D_read_58 : decode c_D_read 58 = .ok (.invokevirtual 79, 3) := by decide +kernel
theorem d_D_read_61 : decode c_D_read 61 = .ok (.ireturn, 1) := by decide +kernel
theorem d_D_commit_0 : decode c_D_commit 0 = .ok (.aload_n 0, 1) := by decide +kernel
theorem d_D_commit_1 : decode c_D_commit 1 = .ok (.getfield 46, 3) := by decide +kernel
theorem d_D_commit_4 : decode c_D_commit 4 = .ok (.ifCond .ne 6, 3) := by decide +kernel
theorem d_D_commit_7 : decode c_D_commit 7 = .ok (.bipush (-2), 2) := by decide +kernel
theorem d_D_commit_9 : decode c_D_commit 9 = .ok (.ireturn, 1) := by decide +kernel
theorem d_D_commit_10 : decode c_D_commit 10 = .ok (.iload_n 1, 1) := by decide +kernel
theorem d_D_commit_11 : decode c_D_commit 11 = .ok (.ifCond .lt 8, 3) := by decide +kernel
theorem d_D_commit_14 : decode c_D_commit 14 = .ok (.iload_n 1, 1) := by decide +kernel
theorem d_D_commit_15 : decode c_D_commit 15 = .ok (.iconst 4, 1) := by decide +kernel
theorem d_D_commit_16 : decode c_D_commit 16 = .ok (.if_icmp .le 5, 3) := by decide +kernel
theorem d_D_commit_19 : decode c_D_commit 19 = .ok (.iconst (-1), 1) := by decide +kernel
theorem d_D_commit_20 : decode c_D_commit 20 = .ok (.ireturn, 1) := by decide +kernel
theorem d_D_commit_21 : decode c_D_commit 21 = .ok (.aload_n 0, 1) := by decide +kernel
theorem d_D_commit_22 : decode c_D_commit 22 = .ok (.getfield 24, 3) := by decide +kernel
theorem d_D_commit_25 : decode c_D_commit 25 = .ok (.invokevirtual 83, 3) := by decide +kernel
theorem d_D_commit_28 : decode c_D_commit 28 = .ok (.ifCond .eq 5, 3) := by decide +kernel
theorem d_D_commit_31 : decode c_D_commit 31 = .ok (.iconst 0, 1) := by decide +kernel
theorem d_D_commit_32 : decode c_D_commit 32 = .ok (.ireturn, 1) := by decide +kernel
theorem d_D_commit_33 : decode c_D_commit 33 = .ok (.iload_n 1, 1) := by decide +kernel
theorem d_D_commit_34 : decode c_D_commit 34 = .ok (.iconst 1, 1) := by decide +kernel
theorem d_D_commit_35 : decode c_D_commit 35 = .ok (.if_icmp .ne 8, 3) := by decide +kernel
theorem d_D_commit_38 : decode c_D_commit 38 = .ok (.aload_n 0, 1) := by decide +kernel
theorem d_D_commit_39 : decode c_D_commit 39 = .ok (.invokevirtual 87, 3) := by decide +kernel
theorem d_D_commit_42 : decode c_D_commit 42 = .ok (.ireturn, 1) := by decide +kernel
theorem d_D_commit_43 : decode c_D_commit 43 = .ok (.aload_n 0, 1) := by decide +kernel
theorem d_D_commit_44 : decode c_D_commit 44 = .ok (.getfield 28, 3) := by decide +kernel
theorem d_D_commit_47 : decode c_D_commit 47 = .ok (.aload_n 0, 1) := by decide +kernel
theorem d_D_commit_48 : decode c_D_commit 48 = .ok (.getfield 24, 3) := by decide +kernel
theorem d_D_commit_51 : decode c_D_commit 51 = .ok (.invokevirtual 90, 3) := by decide +kernel
theorem d_D_commit_54 : decode c_D_commit 54 = .ok (.aload_n 0, 1) := by decide +kernel
theorem d_D_commit_55 : decode c_D_commit 55 = .ok (.getfield 34, 3) := by decide +kernel
theorem d_D_commit_58 : decode c_D_commit 58 = .ok (.iconst 1, 1) := by decide +kernel
theorem d_D_commit_59 : decode c_D_commit 59 = .ok (.aload_n 0, 1) := by decide +kernel
theorem d_D_commit_60 : decode c_D_commit 60 = .ok (.getfield 9, 3) := by decide +kernel
theorem d_D_commit_63 : decode c_D_commit 63 = .ok (.invokevirtual 94, 3) := by decide +kernel
theorem d_D_commit_66 : decode c_D_commit 66 = .ok (.iload_n 1, 1) := by decide +kernel
theorem d_D_commit_67 : decode c_D_commit 67 = .ok (.iconst 2, 1) := by decide +kernel
theorem d_D_commit_68 : decode c_D_commit 68 = .ok (.if_icmp .ne 9, 3) := by decide +kernel
theorem d_D_commit_71 : decode c_D_commit 71 = .ok (.aload_n 0, 1) := by decide +kernel
theorem d_D_commit_72 : decode c_D_commit 72 = .ok (.lload_n 2, 1) := by decide +kernel
theorem d_D_commit_73 : decode c_D_commit 73 = .ok (.invokevirtual 98, 3) := by decide +kernel
theorem d_D_commit_76 : decode c_D_commit 76 = .ok (.ireturn, 1) := by decide +kernel
theorem d_D_commit_77 : decode c_D_commit 77 = .ok (.aload_n 0, 1) := by decide +kernel
theorem d_D_commit_78 : decode c_D_commit 78 = .ok (.invokevirtual 102, 3) := by decide +kernel
theorem d_D_commit_81 : decode c_D_commit 81 = .ok (.iload_n 1, 1) := by decide +kernel
theorem d_D_commit_82 : decode c_D_commit 82 = .ok (.iconst 3, 1) := by decide +kernel
theorem d_D_commit_83 : decode c_D_commit 83 = .ok (.if_icmp .ne 8, 3) := by decide +kernel
theorem d_D_commit_86 : decode c_D_commit 86 = .ok (.aload_n 0, 1) := by decide +kernel
theorem d_D_commit_87 : decode c_D_commit 87 = .ok (.invokevirtual 87, 3) := by decide +kernel
theorem d_D_commit_90 : decode c_D_commit 90 = .ok (.ireturn, 1) := by decide +kernel
theorem d_D_commit_91 : decode c_D_commit 91 = .ok (.aload_n 0, 1) := by decide +kernel
theorem d_D_commit_92 : decode c_D_commit 92 = .ok (.getfield 28, 3) := by decide +kernel
theorem d_D_commit_95 : decode c_D_commit 95 = .ok (.aload_n 0, 1) := by decide +kernel
theorem d_D_commit_96 : decode c_D_commit 96 = .ok (.getfield 17, 3) := by decide +kernel
theorem d_D_commit_99 : decode c_D_commit 99 = .ok (.invokevirtual 105, 3) := by decide +kernel
theorem d_D_commit_102 : decode c_D_commit 102 = .ok (.aload_n 0, 1) := by decide +kernel
theorem d_D_commit_103 : decode c_D_commit 103 = .ok (.getfield 34, 3) := by decide +kernel
theorem d_D_commit_106 : decode c_D_commit 106 = .ok (.iconst 0, 1) := by decide +kernel
theorem d_D_commit_107 : decode c_D_commit 107 = .ok (.aload_n 0, 1) := by decide +kernel
theorem d_D_commit_108 : decode c_D_commit 108 = .ok (.getfield 9, 3) := by decide +kernel
theorem d_D_commit_111 : decode c_D_commit 111 = .ok (.invokevirtual 94, 3) := by decide +kernel
theorem d_D_commit_114 : decode c_D_commit 114 = .ok (.iload_n 1, 1) := by decide +kernel
theorem d_D_commit_115 : decode c_D_commit 115 = .ok (.iconst 4, 1) := by decide +kernel
theorem d_D_commit_116 : decode c_D_commit 116 = .ok (.if_icmp .ne 9, 3) := by decide +kernel
theorem d_D_commit_119 : decode c_D_commit 119 = .ok (.aload_n 0, 1) := by decide +kernel
theorem d_D_commit_120 : decode c_D_commit 120 = .ok (.lload_n 2, 1) := by decide +kernel
theorem d_D_commit_121 : decode c_D_commit 121 = .ok (.invokevirtual 98, 3) := by decide +kernel
theorem d_D_commit_124 : decode c_D_commit 124 = .ok (.ireturn, 1) := by decide +kernel
theorem d_D_commit_125 : decode c_D_commit 125 = .ok (.aload_n 0, 1) := by decide +kernel
theorem d_D_commit_126 : decode c_D_commit 126 = .ok (.invokevirtual 102, 3) := by decide +kernel
theorem d_D_commit_129 : decode c_D_commit 129 = .ok (.aload_n 0, 1) := by decide +kernel
theorem d_D_commit_130 : decode c_D_commit 130 = .ok (.getfield 24, 3) := by decide +kernel
theorem d_D_commit_133 : decode c_D_commit 133 = .ok (.invokevirtual 76, 3) := by decide +kernel
theorem d_D_commit_136 : decode c_D_commit 136 = .ok (.istore 4, 2) := by decide +kernel
theorem d_D_commit_138 : decode c_D_commit 138 = .ok (.aload_n 0, 1) := by decide +kernel
theorem d_D_commit_139 : decode c_D_commit 139 = .ok (.getfield 24, 3) := by decide +kernel
theorem d_D_commit_142 : decode c_D_commit 142 = .ok (.invokevirtual 109, 3) := by decide +kernel
theorem d_D_commit_145 : decode c_D_commit 145 = .ok (.iload 4, 2) := by decide +kernel
theorem d_D_commit_147 : decode c_D_commit 147 = .ok (.ireturn, 1) := by decide +kernel
theorem d_D_forget_0 : decode c_D_forget 0 = .ok (.aload_n 0, 1) := by decide +kernel
theorem d_D_forget_1 : decode c_D_forget 1 = .ok (.getfield 46, 3) := by decide +kernel
theorem d_D_forget_4 : decode c_D_forget 4 = .ok (.ifCond .ne 6, 3) := by decide +kernel
theorem d_D_forget_7 : decode c_D_forget 7 = .ok (.bipush (-2), 2) := by decide +kernel
theorem d_D_forget_9 : decode c_D_forget 9 = .ok (.ireturn, 1) := by decide +kernel
theorem d_D_forget_10 : decode c_D_forget 10 = .ok (.aload_n 0, 1) := by decide +kernel
theorem d_D_forget_11 : decode c_D_forget 11 = .ok (.getfield 24, 3) := by decide +kernel
theorem d_D_forget_14 : decode c_D_forget 14 = .ok (.invokevirtual 112, 3) := by decide +kernel
theorem d_D_forget_17 : decode c_D_forget 17 = .ok (.istore_n 1, 1) := by decide +kernel
theorem d_D_forget_18 : decode c_D_forget 18 = .ok (.aload_n 0, 1) := by decide +kernel
theorem d_D_forget_19 : decode c_D_forget 19 = .ok (.getfield 24, 3) := by decide +kernel
theorem d_D_forget_22 : decode c_D_forget 22 = .ok (.invokevirtual 109, 3) := by decide +kernel
theorem d_D_forget_25 : decode c_D_forget 25 = .ok (.iload_n 1, 1) := by decide +kernel
theorem d_D_forget_26 : decode c_D_forget 26 = .ok (.ireturn, 1) := by decide +kernel
theorem d_D_lose_0 : decode c_D_lose 0 = .ok (.aload_n 0, 1) := by decide +kernel
theorem d_D_lose_1 : decode c_D_lose 1 = .ok (.iload_n 1, 1) := by decide +kernel
theorem d_D_lose_2 : decode c_D_lose 2 = .ok (.invokevirtual 115, 3) := by decide +kernel
theorem d_D_lose_5 : decode c_D_lose 5 = .ok (.ifCond .eq 13, 3) := by decide +kernel
theorem d_D_lose_8 : decode c_D_lose 8 = .ok (.aload_n 0, 1) := by decide +kernel
theorem d_D_lose_9 : decode c_D_lose 9 = .ok (.getfield 9, 3) := by decide +kernel
theorem d_D_lose_12 : decode c_D_lose 12 = .ok (.iload_n 1, 1) := by decide +kernel
theorem d_D_lose_13 : decode c_D_lose 13 = .ok (.iaload, 1) := by decide +kernel
theorem d_D_lose_14 : decode c_D_lose 14 = .ok (.iconst (-1), 1) := by decide +kernel
theorem d_D_lose_15 : decode c_D_lose 15 = .ok (.if_icmp .ne 5, 3) := by decide +kernel
theorem d_D_lose_18 : decode c_D_lose 18 = .ok (.iconst (-1), 1) := by decide +kernel
theorem d_D_lose_19 : decode c_D_lose 19 = .ok (.ireturn, 1) := by decide +kernel
theorem d_D_lose_20 : decode c_D_lose 20 = .ok (.aload_n 0, 1) := by decide +kernel
theorem d_D_lose_21 : decode c_D_lose 21 = .ok (.iload_n 1, 1) := by decide +kernel
theorem d_D_lose_22 : decode c_D_lose 22 = .ok (.invokevirtual 119, 3) := by decide +kernel
theorem d_D_lose_25 : decode c_D_lose 25 = .ok (.ifCond .ne 6, 3) := by decide +kernel
theorem d_D_lose_28 : decode c_D_lose 28 = .ok (.bipush (-3), 2) := by decide +kernel
theorem d_D_lose_30 : decode c_D_lose 30 = .ok (.ireturn, 1) := by decide +kernel
theorem d_D_lose_31 : decode c_D_lose 31 = .ok (.aload_n 0, 1) := by decide +kernel
theorem d_D_lose_32 : decode c_D_lose 32 = .ok (.getfield 9, 3) := by decide +kernel
theorem d_D_lose_35 : decode c_D_lose 35 = .ok (.iload_n 1, 1) := by decide +kernel
theorem d_D_lose_36 : decode c_D_lose 36 = .ok (.iconst (-1), 1) := by decide +kernel
theorem d_D_lose_37 : decode c_D_lose 37 = .ok (.iastore, 1) := by decide +kernel
theorem d_D_lose_38 : decode c_D_lose 38 = .ok (.aload_n 0, 1) := by decide +kernel
theorem d_D_lose_39 : decode c_D_lose 39 = .ok (.getfield 13, 3) := by decide +kernel
theorem d_D_lose_42 : decode c_D_lose 42 = .ok (.iload_n 1, 1) := by decide +kernel
theorem d_D_lose_43 : decode c_D_lose 43 = .ok (.lconst 0, 1) := by decide +kernel
theorem d_D_lose_44 : decode c_D_lose 44 = .ok (.lastore, 1) := by decide +kernel
theorem d_D_lose_45 : decode c_D_lose 45 = .ok (.aload_n 0, 1) := by decide +kernel
theorem d_D_lose_46 : decode c_D_lose 46 = .ok (.getfield 34, 3) := by decide +kernel
theorem d_D_lose_49 : decode c_D_lose 49 = .ok (.iload_n 1, 1) := by decide +kernel
theorem d_D_lose_50 : decode c_D_lose 50 = .ok (.invokevirtual 122, 3) := by decide +kernel
theorem d_D_lose_53 : decode c_D_lose 53 = .ok (.aload_n 0, 1) := by decide +kernel
theorem d_D_lose_54 : decode c_D_lose 54 = .ok (.invokevirtual 126, 3) := by decide +kernel
theorem d_D_lose_57 : decode c_D_lose 57 = .ok (.ireturn, 1) := by decide +kernel
theorem d_D_replace_0 : decode c_D_replace 0 = .ok (.aload_n 0, 1) := by decide +kernel
theorem d_D_replace_1 : decode c_D_replace 1 = .ok (.iload_n 1, 1) := by decide +kernel
theorem d_D_replace_2 : decode c_D_replace 2 = .ok (.invokevirtual 115, 3) := by decide +kernel
theorem d_D_replace_5 : decode c_D_replace 5 = .ok (.ifCond .eq 13, 3) := by decide +kernel
theorem d_D_replace_8 : decode c_D_replace 8 = .ok (.aload_n 0, 1) := by decide +kernel
theorem d_D_replace_9 : decode c_D_replace 9 = .ok (.getfield 9, 3) := by decide +kernel
theorem d_D_replace_12 : decode c_D_replace 12 = .ok (.iload_n 1, 1) := by decide +kernel
theorem d_D_replace_13 : decode c_D_replace 13 = .ok (.iaload, 1) := by decide +kernel
theorem d_D_replace_14 : decode c_D_replace 14 = .ok (.iconst (-1), 1) := by decide +kernel
theorem d_D_replace_15 : decode c_D_replace 15 = .ok (.if_icmp .eq 5, 3) := by decide +kernel
theorem d_D_replace_18 : decode c_D_replace 18 = .ok (.iconst (-1), 1) := by decide +kernel
theorem d_D_replace_19 : decode c_D_replace 19 = .ok (.ireturn, 1) := by decide +kernel
theorem d_D_replace_20 : decode c_D_replace 20 = .ok (.aload_n 0, 1) := by decide +kernel
theorem d_D_replace_21 : decode c_D_replace 21 = .ok (.getfield 9, 3) := by decide +kernel
theorem d_D_replace_24 : decode c_D_replace 24 = .ok (.iload_n 1, 1) := by decide +kernel
theorem d_D_replace_25 : decode c_D_replace 25 = .ok (.iconst 0, 1) := by decide +kernel
theorem d_D_replace_26 : decode c_D_replace 26 = .ok (.iastore, 1) := by decide +kernel
theorem d_D_replace_27 : decode c_D_replace 27 = .ok (.aload_n 0, 1) := by decide +kernel
theorem d_D_replace_28 : decode c_D_replace 28 = .ok (.getfield 46, 3) := by decide +kernel
theorem d_D_replace_31 : decode c_D_replace 31 = .ok (.ifCond .eq 19, 3) := by decide +kernel
theorem d_D_replace_34 : decode c_D_replace 34 = .ok (.aload_n 0, 1) := by decide +kernel
theorem d_D_replace_35 : decode c_D_replace 35 = .ok (.getfield 34, 3) := by decide +kernel
theorem d_D_replace_38 : decode c_D_replace 38 = .ok (.iconst 0, 1) := by decide +kernel
theorem d_D_replace_39 : decode c_D_replace 39 = .ok (.aload_n 0, 1) := by decide +kernel
theorem d_D_replace_40 : decode c_D_replace 40 = .ok (.getfield 9, 3) := by decide +kernel
theorem d_D_replace_43 : decode c_D_replace 43 = .ok (.invokevirtual 94, 3) := by decide +kernel
theorem d_D_replace_46 : decode c_D_replace 46 = .ok (.aload_n 0, 1) := by decide +kernel
theorem d_D_replace_47 : decode c_D_replace 47 = .ok (.invokevirtual 102, 3) := by decide +kernel
theorem d_D_replace_50 : decode c_D_replace 50 = .ok (.iconst 0, 1) := by decide +kernel
theorem d_D_replace_51 : decode c_D_replace 51 = .ok (.ireturn, 1) := by decide +kernel
theorem d_D_rot_0 : decode c_D_rot 0 = .ok (.aload_n 0, 1) := by decide +kernel
theorem d_D_rot_1 : decode c_D_rot 1 = .ok (.iload_n 1, 1) := by decide +kernel
theorem d_D_rot_2 : decode c_D_rot 2 = .ok (.invokevirtual 115, 3) := by decide +kernel
theorem d_D_rot_5 : decode c_D_rot 5 = .ok (.ifCond .eq 20, 3) := by decide +kernel
theorem d_D_rot_8 : decode c_D_rot 8 = .ok (.aload_n 0, 1) := by decide +kernel
theorem d_D_rot_9 : decode c_D_rot 9 = .ok (.iload_n 2, 1) := by decide +kernel
theorem d_D_rot_10 : decode c_D_rot 10 = .ok (.invokevirtual 129, 3) := by decide +kernel
theorem d_D_rot_13 : decode c_D_rot 13 = .ok (.ifCond .eq 12, 3) := by decide +kernel
theorem d_D_rot_16 : decode c_D_rot 16 = .ok (.aload_n 0, 1) := by decide +kernel
theorem d_D_rot_17 : decode c_D_rot 17 = .ok (.iload_n 1, 1) := by decide +kernel
theorem d_D_rot_18 : decode c_D_rot 18 = .ok (.iload_n 2, 1) := by decide +kernel
theorem d_D_rot_19 : decode c_D_rot 19 = .ok (.invokevirtual 132, 3) := by decide +kernel
theorem d_D_rot_22 : decode c_D_rot 22 = .ok (.ifCond .eq 5, 3) := by decide +kernel
theorem d_D_rot_25 : decode c_D_rot 25 = .ok (.iconst (-1), 1) := by decide +kernel
theorem d_D_rot_26 : decode c_D_rot 26 = .ok (.ireturn, 1) := by decide +kernel
theorem d_D_rot_27 : decode c_D_rot 27 = .ok (.aload_n 0, 1) := by decide +kernel
theorem d_D_rot_28 : decode c_D_rot 28 = .ok (.iload_n 2, 1) := by decide +kernel
theorem d_D_rot_29 : decode c_D_rot 29 = .ok (.invokevirtual 135, 3) := by decide +kernel
theorem d_D_rot_32 : decode c_D_rot 32 = .ok (.istore_n 3, 1) := by decide +kernel
theorem d_D_rot_33 : decode c_D_rot 33 = .ok (.iload_n 3, 1) := by decide +kernel
theorem d_D_rot_34 : decode c_D_rot 34 = .ok (.iconst 2, 1) := by decide +kernel
theorem d_D_rot_35 : decode c_D_rot 35 = .ok (.if_icmp .lt 6, 3) := by decide +kernel
theorem d_D_rot_38 : decode c_D_rot 38 = .ok (.bipush (-3), 2) := by decide +kernel
theorem d_D_rot_40 : decode c_D_rot 40 = .ok (.ireturn, 1) := by decide +kernel
theorem d_D_rot_41 : decode c_D_rot 41 = .ok (.aload_n 0, 1) := by decide +kernel
theorem d_D_rot_42 : decode c_D_rot 42 = .ok (.getfield 13, 3) := by decide +kernel
theorem d_D_rot_45 : decode c_D_rot 45 = .ok (.iload_n 1, 1) := by decide +kernel
theorem d_D_rot_46 : decode c_D_rot 46 = .ok (.dup2, 1) := by decide +kernel
theorem d_D_rot_47 : decode c_D_rot 47 = .ok (.laload, 1) := by decide +kernel
theorem d_D_rot_48 : decode c_D_rot 48 = .ok (.lconst 1, 1) := by decide +kernel
theorem d_D_rot_49 : decode c_D_rot 49 = .ok (.iload_n 2, 1) := by decide +kernel
theorem d_D_rot_50 : decode c_D_rot 50 = .ok (.lshl, 1) := by decide +kernel
theorem d_D_rot_51 : decode c_D_rot 51 = .ok (.lor, 1) := by decide +kernel
theorem d_D_rot_52 : decode c_D_rot 52 = .ok (.lastore, 1) := by decide +kernel
theorem d_D_rot_53 : decode c_D_rot 53 = .ok (.iload_n 3, 1) := by decide +kernel
theorem d_D_rot_54 : decode c_D_rot 54 = .ok (.iconst 1, 1) := by decide +kernel
theorem d_D_rot_55 : decode c_D_rot 55 = .ok (.iadd, 1) := by decide +kernel
theorem d_D_rot_56 : decode c_D_rot 56 = .ok (.ireturn, 1) := by decide +kernel
theorem d_D_fill_0 : decode c_D_fill 0 = .ok (.aload_n 0, 1) := by decide +kernel
theorem d_D_fill_1 : decode c_D_fill 1 = .ok (.getfield 46, 3) := by decide +kernel
theorem d_D_fill_4 : decode c_D_fill 4 = .ok (.ifCond .ne 6, 3) := by decide +kernel
theorem d_D_fill_7 : decode c_D_fill 7 = .ok (.bipush (-2), 2) := by decide +kernel
theorem d_D_fill_9 : decode c_D_fill 9 = .ok (.ireturn, 1) := by decide +kernel
theorem d_D_fill_10 : decode c_D_fill 10 = .ok (.aload_n 0, 1) := by decide +kernel
theorem d_D_fill_11 : decode c_D_fill 11 = .ok (.iload_n 1, 1) := by decide +kernel
theorem d_D_fill_12 : decode c_D_fill 12 = .ok (.invokevirtual 115, 3) := by decide +kernel
theorem d_D_fill_15 : decode c_D_fill 15 = .ok (.ifCond .eq 20, 3) := by decide +kernel
theorem d_D_fill_18 : decode c_D_fill 18 = .ok (.aload_n 0, 1) := by decide +kernel
theorem d_D_fill_19 : decode c_D_fill 19 = .ok (.iload_n 1, 1) := by decide +kernel
theorem d_D_fill_20 : decode c_D_fill 20 = .ok (.invokevirtual 138, 3) := by decide +kernel
theorem d_D_fill_23 : decode c_D_fill 23 = .ok (.ifCond .eq 12, 3) := by decide +kernel
theorem d_D_fill_26 : decode c_D_fill 26 = .ok (.iload_n 2, 1) := by decide +kernel
theorem d_D_fill_27 : decode c_D_fill 27 = .ok (.ifCond .lt 8, 3) := by decide +kernel
theorem d_D_fill_30 : decode c_D_fill 30 = .ok (.iload_n 2, 1) := by decide +kernel
theorem d_D_fill_31 : decode c_D_fill 31 = .ok (.iconst 2, 1) := by decide +kernel
theorem d_D_fill_32 : decode c_D_fill 32 = .ok (.if_icmp .le 5, 3) := by decide +kernel
theorem d_D_fill_35 : decode c_D_fill 35 = .ok (.iconst (-1), 1) := by decide +kernel
theorem d_D_fill_36 : decode c_D_fill 36 = .ok (.ireturn, 1) := by decide +kernel
theorem d_D_fill_37 : decode c_D_fill 37 = .ok (.iload_n 2, 1) := by decide +kernel
theorem d_D_fill_38 : decode c_D_fill 38 = .ok (.iconst 1, 1) := by decide +kernel
theorem d_D_fill_39 : decode c_D_fill 39 = .ok (.if_icmp .ne 8, 3) := by decide +kernel
theorem d_D_fill_42 : decode c_D_fill 42 = .ok (.aload_n 0, 1) := by decide +kernel
theorem d_D_fill_43 : decode c_D_fill 43 = .ok (.invokevirtual 87, 3) := by decide +kernel
theorem d_D_fill_46 : decode c_D_fill 46 = .ok (.ireturn, 1) := by decide +kernel
theorem d_D_fill_47 : decode c_D_fill 47 = .ok (.aload_n 0, 1) := by decide +kernel
theorem d_D_fill_48 : decode c_D_fill 48 = .ok (.getfield 9, 3) := by decide +kernel
theorem d_D_fill_51 : decode c_D_fill 51 = .ok (.iload_n 1, 1) := by decide +kernel
theorem d_D_fill_52 : decode c_D_fill 52 = .ok (.iaload, 1) := by decide +kernel
theorem d_D_fill_53 : decode c_D_fill 53 = .ok (.iconst 1, 1) := by decide +kernel
theorem d_D_fill_54 : decode c_D_fill 54 = .ok (.iadd, 1) := by decide +kernel
theorem d_D_fill_55 : decode c_D_fill 55 = .ok (.istore 5, 2) := by decide +kernel
theorem d_D_fill_57 : decode c_D_fill 57 = .ok (.aload_n 0, 1) := by decide +kernel
theorem d_D_fill_58 : decode c_D_fill 58 = .ok (.getfield 34, 3) := by decide +kernel
theorem d_D_fill_61 : decode c_D_fill 61 = .ok (.iconst 0, 1) := by decide +kernel
theorem d_D_fill_62 : decode c_D_fill 62 = .ok (.aload_n 0, 1) := by decide +kernel
theorem d_D_fill_63 : decode c_D_fill 63 = .ok (.getfield 9, 3) := by decide +kernel
theorem d_D_fill_66 : decode c_D_fill 66 = .ok (.invokevirtual 94, 3) := by decide +kernel
theorem d_D_fill_69 : decode c_D_fill 69 = .ok (.aload_n 0, 1) := by decide +kernel
theorem d_D_fill_70 : decode c_D_fill 70 = .ok (.getfield 34, 3) := by decide +kernel
theorem d_D_fill_73 : decode c_D_fill 73 = .ok (.iload_n 1, 1) := by decide +kernel
theorem d_D_fill_74 : decode c_D_fill 74 = .ok (.iload 5, 2) := by decide +kernel
theorem d_D_fill_76 : decode c_D_fill 76 = .ok (.invokevirtual 141, 3) := by decide +kernel
theorem d_D_fill_79 : decode c_D_fill 79 = .ok (.iload_n 2, 1) := by decide +kernel
theorem d_D_fill_80 : decode c_D_fill 80 = .ok (.iconst 2, 1) := by decide +kernel
theorem d_D_fill_81 : decode c_D_fill 81 = .ok (.if_icmp .ne 9, 3) := by decide +kernel
theorem d_D_fill_84 : decode c_D_fill 84 = .ok (.aload_n 0, 1) := by decide +kernel
theorem d_D_fill_85 : decode c_D_fill 85 = .ok (.lload_n 3, 1) := by decide +kernel
theorem d_D_fill_86 : decode c_D_fill 86 = .ok (.invokevirtual 98, 3) := by decide +kernel
theorem d_D_fill_89 : decode c_D_fill 89 = .ok (.ireturn, 1) := by decide +kernel
theorem d_D_fill_90 : decode c_D_fill 90 = .ok (.aload_n 0, 1) := by decide +kernel
theorem d_D_fill_91 : decode c_D_fill 91 = .ok (.invokevirtual 102, 3) := by decide +kernel
theorem d_D_fill_94 : decode c_D_fill 94 = .ok (.aload_n 0, 1) := by decide +kernel
theorem d_D_fill_95 : decode c_D_fill 95 = .ok (.getfield 9, 3) := by decide +kernel
theorem d_D_fill_98 : decode c_D_fill 98 = .ok (.iload_n 1, 1) := by decide +kernel
theorem d_D_fill_99 : decode c_D_fill 99 = .ok (.iload 5, 2) := by decide +kernel
theorem d_D_fill_101 : decode c_D_fill 101 = .ok (.iastore, 1) := by decide +kernel
theorem d_D_fill_102 : decode c_D_fill 102 = .ok (.iload 5, 2) := by decide +kernel
theorem d_D_fill_104 : decode c_D_fill 104 = .ok (.ireturn, 1) := by decide +kernel
theorem d_D_scrub_0 : decode c_D_scrub 0 = .ok (.aload_n 0, 1) := by decide +kernel
theorem d_D_scrub_1 : decode c_D_scrub 1 = .ok (.getfield 46, 3) := by decide +kernel
theorem d_D_scrub_4 : decode c_D_scrub 4 = .ok (.ifCond .ne 6, 3) := by decide +kernel
theorem d_D_scrub_7 : decode c_D_scrub 7 = .ok (.bipush (-2), 2) := by decide +kernel
theorem d_D_scrub_9 : decode c_D_scrub 9 = .ok (.ireturn, 1) := by decide +kernel
theorem d_D_scrub_10 : decode c_D_scrub 10 = .ok (.aload_n 0, 1) := by decide +kernel
theorem d_D_scrub_11 : decode c_D_scrub 11 = .ok (.iload_n 1, 1) := by decide +kernel
theorem d_D_scrub_12 : decode c_D_scrub 12 = .ok (.invokevirtual 129, 3) := by decide +kernel
theorem d_D_scrub_15 : decode c_D_scrub 15 = .ok (.ifCond .eq 12, 3) := by decide +kernel
theorem d_D_scrub_18 : decode c_D_scrub 18 = .ok (.iload_n 2, 1) := by decide +kernel
theorem d_D_scrub_19 : decode c_D_scrub 19 = .ok (.ifCond .lt 8, 3) := by decide +kernel
theorem d_D_scrub_22 : decode c_D_scrub 22 = .ok (.iload_n 2, 1) := by decide +kernel
theorem d_D_scrub_23 : decode c_D_scrub 23 = .ok (.iconst 1, 1) := by decide +kernel
theorem d_D_scrub_24 : decode c_D_scrub 24 = .ok (.if_icmp .le 5, 3) := by decide +kernel
theorem d_D_scrub_27 : decode c_D_scrub 27 = .ok (.iconst (-1), 1) := by decide +kernel
theorem d_D_scrub_28 : decode c_D_scrub 28 = .ok (.ireturn, 1) := by decide +kernel
theorem d_D_scrub_29 : decode c_D_scrub 29 = .ok (.aload_n 0, 1) := by decide +kernel
theorem d_D_scrub_30 : decode c_D_scrub 30 = .ok (.iload_n 1, 1) := by decide +kernel
theorem d_D_scrub_31 : decode c_D_scrub 31 = .ok (.invokevirtual 144, 3) := by decide +kernel
theorem d_D_scrub_34 : decode c_D_scrub 34 = .ok (.istore 5, 2) := by decide +kernel
theorem d_D_scrub_36 : decode c_D_scrub 36 = .ok (.iload 5, 2) := by decide +kernel
theorem d_D_scrub_38 : decode c_D_scrub 38 = .ok (.ifCond .ne 5, 3) := by decide +kernel
theorem d_D_scrub_41 : decode c_D_scrub 41 = .ok (.iconst 0, 1) := by decide +kernel
theorem d_D_scrub_42 : decode c_D_scrub 42 = .ok (.ireturn, 1) := by decide +kernel
theorem d_D_scrub_43 : decode c_D_scrub 43 = .ok (.iload_n 2, 1) := by decide +kernel
theorem d_D_scrub_44 : decode c_D_scrub 44 = .ok (.iconst 1, 1) := by decide +kernel
theorem d_D_scrub_45 : decode c_D_scrub 45 = .ok (.if_icmp .ne 8, 3) := by decide +kernel
theorem d_D_scrub_48 : decode c_D_scrub 48 = .ok (.aload_n 0, 1) := by decide +kernel
theorem d_D_scrub_49 : decode c_D_scrub 49 = .ok (.invokevirtual 87, 3) := by decide +kernel
theorem d_D_scrub_52 : decode c_D_scrub 52 = .ok (.ireturn, 1) := by decide +kernel
theorem d_D_scrub_53 : decode c_D_scrub 53 = .ok (.iconst 0, 1) := by decide +kernel
theorem d_D_scrub_54 : decode c_D_scrub 54 = .ok (.istore 6, 2) := by decide +kernel
theorem d_D_scrub_56 : decode c_D_scrub 56 = .ok (.iload 6, 2) := by decide +kernel
theorem d_D_scrub_58 : decode c_D_scrub 58 = .ok (.aload_n 0, 1) := by decide +kernel
theorem d_D_scrub_59 : decode c_D_scrub 59 = .ok (.getfield 64, 3) := by decide +kernel
theorem d_D_scrub_62 : decode c_D_scrub 62 = .ok (.if_icmp .ge 26, 3) := by decide +kernel
theorem d_D_scrub_65 : decode c_D_scrub 65 = .ok (.aload_n 0, 1) := by decide +kernel
theorem d_D_scrub_66 : decode c_D_scrub 66 = .ok (.getfield 13, 3) := by decide +kernel
theorem d_D_scrub_69 : decode c_D_scrub 69 = .ok (.iload 6, 2) := by decide +kernel
theorem d_D_scrub_71 : decode c_D_scrub 71 = .ok (.dup2, 1) := by decide +kernel
theorem d_D_scrub_72 : decode c_D_scrub 72 = .ok (.laload, 1) := by decide +kernel
theorem d_D_scrub_73 : decode c_D_scrub 73 = .ok (.lconst 1, 1) := by decide +kernel
theorem d_D_scrub_74 : decode c_D_scrub 74 = .ok (.iload_n 1, 1) := by decide +kernel
theorem d_D_scrub_75 : decode c_D_scrub 75 = .ok (.lshl, 1) := by decide +kernel
theorem d_D_scrub_76 : decode c_D_scrub 76 = .ok (.ldc2_w 147, 3) := by decide +kernel
theorem d_D_scrub_79 : decode c_D_scrub 79 = .ok (.lxor, 1) := by decide +kernel
theorem d_D_scrub_80 : decode c_D_scrub 80 = .ok (.land, 1) := by decide +kernel
theorem d_D_scrub_81 : decode c_D_scrub 81 = .ok (.lastore, 1) := by decide +kernel
theorem d_D_scrub_82 : decode c_D_scrub 82 = .ok (.iinc 6 1, 3) := by decide +kernel
theorem d_D_scrub_85 : decode c_D_scrub 85 = .ok (.goto (-29), 3) := by decide +kernel
theorem d_D_scrub_88 : decode c_D_scrub 88 = .ok (.iload 5, 2) := by decide +kernel
theorem d_D_scrub_90 : decode c_D_scrub 90 = .ok (.ireturn, 1) := by decide +kernel
theorem d_D_mount_0 : decode c_D_mount 0 = .ok (.aload_n 0, 1) := by decide +kernel
theorem d_D_mount_1 : decode c_D_mount 1 = .ok (.getfield 46, 3) := by decide +kernel
theorem d_D_mount_4 : decode c_D_mount 4 = .ok (.ifCond .ne 12, 3) := by decide +kernel
theorem d_D_mount_7 : decode c_D_mount 7 = .ok (.iload_n 1, 1) := by decide +kernel
theorem d_D_mount_8 : decode c_D_mount 8 = .ok (.ifCond .lt 8, 3) := by decide +kernel
theorem d_D_mount_11 : decode c_D_mount 11 = .ok (.iload_n 1, 1) := by decide +kernel
theorem d_D_mount_12 : decode c_D_mount 12 = .ok (.iconst 3, 1) := by decide +kernel
theorem d_D_mount_13 : decode c_D_mount 13 = .ok (.if_icmp .le 5, 3) := by decide +kernel
theorem d_D_mount_16 : decode c_D_mount 16 = .ok (.iconst (-1), 1) := by decide +kernel
theorem d_D_mount_17 : decode c_D_mount 17 = .ok (.ireturn, 1) := by decide +kernel
theorem d_D_mount_18 : decode c_D_mount 18 = .ok (.aload_n 0, 1) := by decide +kernel
theorem d_D_mount_19 : decode c_D_mount 19 = .ok (.getfield 34, 3) := by decide +kernel
theorem d_D_mount_22 : decode c_D_mount 22 = .ok (.invokevirtual 149, 3) := by decide +kernel
theorem d_D_mount_25 : decode c_D_mount 25 = .ok (.iload_n 1, 1) := by decide +kernel
theorem d_D_mount_26 : decode c_D_mount 26 = .ok (.iconst 1, 1) := by decide +kernel
theorem d_D_mount_27 : decode c_D_mount 27 = .ok (.if_icmp .ne 11, 3) := by decide +kernel
theorem d_D_mount_30 : decode c_D_mount 30 = .ok (.aload_n 0, 1) := by decide +kernel
theorem d_D_mount_31 : decode c_D_mount 31 = .ok (.lload_n 2, 1) := by decide +kernel
theorem d_D_mount_32 : decode c_D_mount 32 = .ok (.invokevirtual 152, 3) := by decide +kernel
theorem d_D_mount_35 : decode c_D_mount 35 = .ok (.bipush (-2), 2) := by decide +kernel
theorem d_D_mount_37 : decode c_D_mount 37 = .ok (.ireturn, 1) := by decide +kernel
theorem d_D_mount_38 : decode c_D_mount 38 = .ok (.aload_n 0, 1) := by decide +kernel
theorem d_D_mount_39 : decode c_D_mount 39 = .ok (.ldc2_w 156, 3) := by decide +kernel
theorem d_D_mount_42 : decode c_D_mount 42 = .ok (.invokevirtual 152, 3) := by decide +kernel
theorem d_D_mount_45 : decode c_D_mount 45 = .ok (.aload_n 0, 1) := by decide +kernel
theorem d_D_mount_46 : decode c_D_mount 46 = .ok (.invokevirtual 158, 3) := by decide +kernel
theorem d_D_mount_49 : decode c_D_mount 49 = .ok (.iconst 0, 1) := by decide +kernel
theorem d_D_mount_50 : decode c_D_mount 50 = .ok (.istore 4, 2) := by decide +kernel
theorem d_D_mount_52 : decode c_D_mount 52 = .ok (.aload_n 0, 1) := by decide +kernel
theorem d_D_mount_53 : decode c_D_mount 53 = .ok (.getfield 34, 3) := by decide +kernel
theorem d_D_mount_56 : decode c_D_mount 56 = .ok (.invokevirtual 161, 3) := by decide +kernel
theorem d_D_mount_59 : decode c_D_mount 59 = .ok (.ifCond .eq 28, 3) := by decide +kernel
theorem d_D_mount_62 : decode c_D_mount 62 = .ok (.iload_n 1, 1) := by decide +kernel
theorem d_D_mount_63 : decode c_D_mount 63 = .ok (.iconst 2, 1) := by decide +kernel
theorem d_D_mount_64 : decode c_D_mount 64 = .ok (.if_icmp .ne 6, 3) := by decide +kernel
theorem d_D_mount_67 : decode c_D_mount 67 = .ok (.bipush (-2), 2) := by decide +kernel
theorem d_D_mount_69 : decode c_D_mount 69 = .ok (.ireturn, 1) := by decide +kernel
theorem d_D_mount_70 : decode c_D_mount 70 = .ok (.aload_n 0, 1) := by decide +kernel
theorem d_D_mount_71 : decode c_D_mount 71 = .ok (.getfield 28, 3) := by decide +kernel
theorem d_D_mount_74 : decode c_D_mount 74 = .ok (.aload_n 0, 1) := by decide +kernel
theorem d_D_mount_75 : decode c_D_mount 75 = .ok (.getfield 17, 3) := by decide +kernel
theorem d_D_mount_78 : decode c_D_mount 78 = .ok (.invokevirtual 105, 3) := by decide +kernel
theorem d_D_mount_81 : decode c_D_mount 81 = .ok (.aload_n 0, 1) := by decide +kernel
theorem d_D_mount_82 : decode c_D_mount 82 = .ok (.invokevirtual 164, 3) := by decide +kernel
theorem d_D_mount_85 : decode c_D_mount 85 = .ok (.istore 4, 2) := by decide +kernel
theorem d_D_mount_87 : decode c_D_mount 87 = .ok (.aload_n 0, 1) := by decide +kernel
theorem d_D_mount_88 : decode c_D_mount 88 = .ok (.getfield 34, 3) := by decide +kernel
theorem d_D_mount_91 : decode c_D_mount 91 = .ok (.iconst 0, 1) := by decide +kernel
theorem d_D_mount_92 : decode c_D_mount 92 = .ok (.aload_n 0, 1) := by decide +kernel
theorem d_D_mount_93 : decode c_D_mount 93 = .ok (.getfield 9, 3) := by decide +kernel
theorem d_D_mount_96 : decode c_D_mount 96 = .ok (.invokevirtual 94, 3) := by decide +kernel
theorem d_D_mount_99 : decode c_D_mount 99 = .ok (.iload_n 1, 1) := by decide +kernel
theorem d_D_mount_100 : decode c_D_mount 100 = .ok (.iconst 3, 1) := by decide +kernel
theorem d_D_mount_101 : decode c_D_mount 101 = .ok (.if_icmp .ne 9, 3) := by decide +kernel
theorem d_D_mount_104 : decode c_D_mount 104 = .ok (.aload_n 0, 1) := by decide +kernel
theorem d_D_mount_105 : decode c_D_mount 105 = .ok (.lload_n 2, 1) := by decide +kernel
theorem d_D_mount_106 : decode c_D_mount 106 = .ok (.invokevirtual 98, 3) := by decide +kernel
theorem d_D_mount_109 : decode c_D_mount 109 = .ok (.ireturn, 1) := by decide +kernel
theorem d_D_mount_110 : decode c_D_mount 110 = .ok (.aload_n 0, 1) := by decide +kernel
theorem d_D_mount_111 : decode c_D_mount 111 = .ok (.invokevirtual 102, 3) := by decide +kernel
theorem d_D_mount_114 : decode c_D_mount 114 = .ok (.aload_n 0, 1) := by decide +kernel
theorem d_D_mount_115 : decode c_D_mount 115 = .ok (.iconst 1, 1) := by decide +kernel
theorem d_D_mount_116 : decode c_D_mount 116 = .ok (.putfield 46, 3) := by decide +kernel
theorem d_D_mount_119 : decode c_D_mount 119 = .ok (.iload 4, 2) := by decide +kernel
theorem d_D_mount_121 : decode c_D_mount 121 = .ok (.ireturn, 1) := by decide +kernel
theorem d_D_fail_0 : decode c_D_fail 0 = .ok (.aload_n 0, 1) := by decide +kernel
theorem d_D_fail_1 : decode c_D_fail 1 = .ok (.getfield 46, 3) := by decide +kernel
theorem d_D_fail_4 : decode c_D_fail 4 = .ok (.ifCond .ne 6, 3) := by decide +kernel
theorem d_D_fail_7 : decode c_D_fail 7 = .ok (.bipush (-2), 2) := by decide +kernel
theorem d_D_fail_9 : decode c_D_fail 9 = .ok (.ireturn, 1) := by decide +kernel
theorem d_D_fail_10 : decode c_D_fail 10 = .ok (.aload_n 0, 1) := by decide +kernel
theorem d_D_fail_11 : decode c_D_fail 11 = .ok (.invokevirtual 87, 3) := by decide +kernel
theorem d_D_fail_14 : decode c_D_fail 14 = .ok (.pop, 1) := by decide +kernel
theorem d_D_fail_15 : decode c_D_fail 15 = .ok (.iconst 0, 1) := by decide +kernel
theorem d_D_fail_16 : decode c_D_fail 16 = .ok (.ireturn, 1) := by decide +kernel
theorem d_D_check_0 : decode c_D_check 0 = .ok (.aload_n 0, 1) := by decide +kernel
theorem d_D_check_1 : decode c_D_check 1 = .ok (.getfield 46, 3) := by decide +kernel
theorem d_D_check_4 : decode c_D_check 4 = .ok (.ifCond .eq 7, 3) := by decide +kernel
theorem d_D_check_7 : decode c_D_check 7 = .ok (.iconst 0, 1) := by decide +kernel
theorem d_D_check_8 : decode c_D_check 8 = .ok (.goto 5, 3) := by decide +kernel
theorem d_D_check_11 : decode c_D_check 11 = .ok (.bipush (-2), 2) := by decide +kernel
theorem d_D_check_13 : decode c_D_check 13 = .ok (.ireturn, 1) := by decide +kernel
theorem d_D_gone_0 : decode c_D_gone 0 = .ok (.aload_n 0, 1) := by decide +kernel
theorem d_D_gone_1 : decode c_D_gone 1 = .ok (.iload_n 1, 1) := by decide +kernel
theorem d_D_gone_2 : decode c_D_gone 2 = .ok (.invokevirtual 129, 3) := by decide +kernel
theorem d_D_gone_5 : decode c_D_gone 5 = .ok (.ifCond .eq 11, 3) := by decide +kernel
theorem d_D_gone_8 : decode c_D_gone 8 = .ok (.aload_n 0, 1) := by decide +kernel
theorem d_D_gone_9 : decode c_D_gone 9 = .ok (.iload_n 1, 1) := by decide +kernel
theorem d_D_gone_10 : decode c_D_gone 10 = .ok (.invokevirtual 135, 3) := by decide +kernel
theorem d_D_gone_13 : decode c_D_gone 13 = .ok (.goto 4, 3) := by decide +kernel
theorem d_D_gone_16 : decode c_D_gone 16 = .ok (.iconst (-1), 1) := by decide +kernel
theorem d_D_gone_17 : decode c_D_gone 17 = .ok (.ireturn, 1) := by decide +kernel
theorem d_D_status_0 : decode c_D_status 0 = .ok (.aload_n 0, 1) := by decide +kernel
theorem d_D_status_1 : decode c_D_status 1 = .ok (.iload_n 1, 1) := by decide +kernel
theorem d_D_status_2 : decode c_D_status 2 = .ok (.invokevirtual 115, 3) := by decide +kernel
theorem d_D_status_5 : decode c_D_status 5 = .ok (.ifCond .eq 12, 3) := by decide +kernel
theorem d_D_status_8 : decode c_D_status 8 = .ok (.aload_n 0, 1) := by decide +kernel
theorem d_D_status_9 : decode c_D_status 9 = .ok (.getfield 9, 3) := by decide +kernel
theorem d_D_status_12 : decode c_D_status 12 = .ok (.iload_n 1, 1) := by decide +kernel
theorem d_D_status_13 : decode c_D_status 13 = .ok (.iaload, 1) := by decide +kernel
theorem d_D_status_14 : decode c_D_status 14 = .ok (.goto 5, 3) := by decide +kernel
theorem d_D_status_17 : decode c_D_status 17 = .ok (.bipush (-3), 2) := by decide +kernel
theorem d_D_status_19 : decode c_D_status 19 = .ok (.ireturn, 1) := by decide +kernel
theorem d_D_count_0 : decode c_D_count 0 = .ok (.aload_n 0, 1) := by decide +kernel
theorem d_D_count_1 : decode c_D_count 1 = .ok (.getfield 46, 3) := by decide +kernel
theorem d_D_count_4 : decode c_D_count 4 = .ok (.ifCond .ne 6, 3) := by decide +kernel
theorem d_D_count_7 : decode c_D_count 7 = .ok (.bipush (-2), 2) := by decide +kernel
theorem d_D_count_9 : decode c_D_count 9 = .ok (.ireturn, 1) := by decide +kernel
theorem d_D_count_10 : decode c_D_count 10 = .ok (.iload_n 1, 1) := by decide +kernel
theorem d_D_count_11 : decode c_D_count 11 = .ok (.tableswitch 64 0 4 #[33, 38, 46, 54, 59], 33) := by decide +kernel
theorem d_D_count_44 : decode c_D_count 44 = .ok (.aload_n 0, 1) := by decide +kernel
theorem d_D_count_45 : decode c_D_count 45 = .ok (.invokevirtual 42, 3) := by decide +kernel
theorem d_D_count_48 : decode c_D_count 48 = .ok (.ireturn, 1) := by decide +kernel
theorem d_D_count_49 : decode c_D_count 49 = .ok (.aload_n 0, 1) := by decide +kernel
theorem d_D_count_50 : decode c_D_count 50 = .ok (.getfield 24, 3) := by decide +kernel
theorem d_D_count_53 : decode c_D_count 53 = .ok (.invokevirtual 76, 3) := by decide +kernel
theorem d_D_count_56 : decode c_D_count 56 = .ok (.ireturn, 1) := by decide +kernel
theorem d_D_count_57 : decode c_D_count 57 = .ok (.aload_n 0, 1) := by decide +kernel
theorem d_D_count_58 : decode c_D_count 58 = .ok (.getfield 24, 3) := by decide +kernel
theorem d_D_count_61 : decode c_D_count 61 = .ok (.invokevirtual 112, 3) := by decide +kernel
theorem d_D_count_64 : decode c_D_count 64 = .ok (.ireturn, 1) := by decide +kernel
theorem d_D_count_65 : decode c_D_count 65 = .ok (.aload_n 0, 1) := by decide +kernel
theorem d_D_count_66 : decode c_D_count 66 = .ok (.invokevirtual 126, 3) := by decide +kernel
theorem d_D_count_69 : decode c_D_count 69 = .ok (.ireturn, 1) := by decide +kernel
theorem d_D_count_70 : decode c_D_count 70 = .ok (.aload_n 0, 1) := by decide +kernel
theorem d_D_count_71 : decode c_D_count 71 = .ok (.invokevirtual 167, 3) := by decide +kernel
theorem d_D_count_74 : decode c_D_count 74 = .ok (.ireturn, 1) := by decide +kernel
theorem d_D_count_75 : decode c_D_count 75 = .ok (.iconst (-1), 1) := by decide +kernel
theorem d_D_count_76 : decode c_D_count 76 = .ok (.ireturn, 1) := by decide +kernel
theorem d_D_layOut_0 : decode c_D_layOut 0 = .ok (.aload_n 0, 1) := by decide +kernel
theorem d_D_layOut_1 : decode c_D_layOut 1 = .ok (.iload_n 1, 1) := by decide +kernel
theorem d_D_layOut_2 : decode c_D_layOut 2 = .ok (.putfield 64, 3) := by decide +kernel
theorem d_D_layOut_5 : decode c_D_layOut 5 = .ok (.aload_n 0, 1) := by decide +kernel
theorem d_D_layOut_6 : decode c_D_layOut 6 = .ok (.iload_n 2, 1) := by decide +kernel
theorem d_D_layOut_7 : decode c_D_layOut 7 = .ok (.putfield 170, 3) := by decide +kernel
theorem d_D_layOut_10 : decode c_D_layOut 10 = .ok (.aload_n 0, 1) := by decide +kernel
theorem d_D_layOut_11 : decode c_D_layOut 11 = .ok (.iconst 1, 1) := by decide +kernel
theorem d_D_layOut_12 : decode c_D_layOut 12 = .ok (.putfield 46, 3) := by decide +kernel
theorem d_D_layOut_15 : decode c_D_layOut 15 = .ok (.aload_n 0, 1) := by decide +kernel
theorem d_D_layOut_16 : decode c_D_layOut 16 = .ok (.getfield 9, 3) := by decide +kernel
theorem d_D_layOut_19 : decode c_D_layOut 19 = .ok (.iload_n 2, 1) := by decide +kernel
theorem d_D_layOut_20 : decode c_D_layOut 20 = .ok (.invokestatic 173, 3) := by decide +kernel
theorem d_D_layOut_23 : decode c_D_layOut 23 = .ok (.aload_n 0, 1) := by decide +kernel
theorem d_D_layOut_24 : decode c_D_layOut 24 = .ok (.getfield 13, 3) := by decide +kernel
theorem d_D_layOut_27 : decode c_D_layOut 27 = .ok (.lconst 0, 1) := by decide +kernel
theorem d_D_layOut_28 : decode c_D_layOut 28 = .ok (.invokestatic 179, 3) := by decide +kernel
theorem d_D_layOut_31 : decode c_D_layOut 31 = .ok (.aload_n 0, 1) := by decide +kernel
theorem d_D_layOut_32 : decode c_D_layOut 32 = .ok (.getfield 17, 3) := by decide +kernel
theorem d_D_layOut_35 : decode c_D_layOut 35 = .ok (.iconst 0, 1) := by decide +kernel
theorem d_D_layOut_36 : decode c_D_layOut 36 = .ok (.invokestatic 182, 3) := by decide +kernel
theorem d_D_layOut_39 : decode c_D_layOut 39 = .ok (.aload_n 0, 1) := by decide +kernel
theorem d_D_layOut_40 : decode c_D_layOut 40 = .ok (.getfield 24, 3) := by decide +kernel
theorem d_D_layOut_43 : decode c_D_layOut 43 = .ok (.invokevirtual 109, 3) := by decide +kernel
theorem d_D_layOut_46 : decode c_D_layOut 46 = .ok (.iconst 0, 1) := by decide +kernel
theorem d_D_layOut_47 : decode c_D_layOut 47 = .ok (.istore_n 3, 1) := by decide +kernel
theorem d_D_layOut_48 : decode c_D_layOut 48 = .ok (.iload_n 3, 1) := by decide +kernel
theorem d_D_layOut_49 : decode c_D_layOut 49 = .ok (.bipush 8, 2) := by decide +kernel
theorem d_D_layOut_51 : decode c_D_layOut 51 = .ok (.if_icmp .ge 17, 3) := by decide +kernel
theorem d_D_layOut_54 : decode c_D_layOut 54 = .ok (.aload_n 0, 1) := by decide +kernel
theorem d_D_layOut_55 : decode c_D_layOut 55 = .ok (.getfield 34, 3) := by decide +kernel
theorem d_D_layOut_58 : decode c_D_layOut 58 = .ok (.iload_n 3, 1) := by decide +kernel
theorem d_D_layOut_59 : decode c_D_layOut 59 = .ok (.invokevirtual 122, 3) := by decide +kernel
theorem d_D_layOut_62 : decode c_D_layOut 62 = .ok (.iinc 3 1, 3) := by decide +kernel
theorem d_D_layOut_65 : decode c_D_layOut 65 = .ok (.goto (-17), 3) := by decide +kernel
theorem d_D_layOut_68 : decode c_D_layOut 68 = .ok (.aload_n 0, 1) := by decide +kernel
theorem d_D_layOut_69 : decode c_D_layOut 69 = .ok (.getfield 34, 3) := by decide +kernel
theorem d_D_layOut_72 : decode c_D_layOut 72 = .ok (.iconst 0, 1) := by decide +kernel
theorem d_D_layOut_73 : decode c_D_layOut 73 = .ok (.aload_n 0, 1) := by decide +kernel
theorem d_D_layOut_74 : decode c_D_layOut 74 = .ok (.getfield 9, 3) := by decide +kernel
theorem d_D_layOut_77 : decode c_D_layOut 77 = .ok (.invokevirtual 94, 3) := by decide +kernel
theorem d_D_layOut_80 : decode c_D_layOut 80 = .ok (.aload_n 0, 1) := by decide +kernel
theorem d_D_layOut_81 : decode c_D_layOut 81 = .ok (.invokevirtual 102, 3) := by decide +kernel
theorem d_D_layOut_84 : decode c_D_layOut 84 = .ok (.return_, 1) := by decide +kernel
theorem d_D_powerFails_0 : decode c_D_powerFails 0 = .ok (.aload_n 0, 1) := by decide +kernel
theorem d_D_powerFails_1 : decode c_D_powerFails 1 = .ok (.iconst 0, 1) := by decide +kernel
theorem d_D_powerFails_2 : decode c_D_powerFails 2 = .ok (.putfield 46, 3) := by decide +kernel
theorem d_D_powerFails_5 : decode c_D_powerFails 5 = .ok (.aload_n 0, 1) := by decide +kernel
theorem d_D_powerFails_6 : decode c_D_powerFails 6 = .ok (.getfield 24, 3) := by decide +kernel
theorem d_D_powerFails_9 : decode c_D_powerFails 9 = .ok (.invokevirtual 109, 3) := by decide +kernel
theorem d_D_powerFails_12 : decode c_D_powerFails 12 = .ok (.bipush (-2), 2) := by decide +kernel
theorem d_D_powerFails_14 : decode c_D_powerFails 14 = .ok (.ireturn, 1) := by decide +kernel
theorem d_D_powerFailsInLabel_0 : decode c_D_powerFailsInLabel 0 = .ok (.aload_n 0, 1) := by decide +kernel
theorem d_D_powerFailsInLabel_1 : decode c_D_powerFailsInLabel 1 = .ok (.lload_n 1, 1) := by decide +kernel
theorem d_D_powerFailsInLabel_2 : decode c_D_powerFailsInLabel 2 = .ok (.invokevirtual 185, 3) := by decide +kernel
theorem d_D_powerFailsInLabel_5 : decode c_D_powerFailsInLabel 5 = .ok (.aload_n 0, 1) := by decide +kernel
theorem d_D_powerFailsInLabel_6 : decode c_D_powerFailsInLabel 6 = .ok (.invokevirtual 87, 3) := by decide +kernel
theorem d_D_powerFailsInLabel_9 : decode c_D_powerFailsInLabel 9 = .ok (.ireturn, 1) := by decide +kernel
theorem d_D_finishLabel_0 : decode c_D_finishLabel 0 = .ok (.aload_n 0, 1) := by decide +kernel
theorem d_D_finishLabel_1 : decode c_D_finishLabel 1 = .ok (.ldc2_w 156, 3) := by decide +kernel
theorem d_D_finishLabel_4 : decode c_D_finishLabel 4 = .ok (.invokevirtual 185, 3) := by decide +kernel
theorem d_D_finishLabel_7 : decode c_D_finishLabel 7 = .ok (.aload_n 0, 1) := by decide +kernel
theorem d_D_finishLabel_8 : decode c_D_finishLabel 8 = .ok (.getfield 34, 3) := by decide +kernel
theorem d_D_finishLabel_11 : decode c_D_finishLabel 11 = .ok (.invokevirtual 188, 3) := by decide +kernel
theorem d_D_finishLabel_14 : decode c_D_finishLabel 14 = .ok (.return_, 1) := by decide +kernel
theorem d_D_writeLabel_0 : decode c_D_writeLabel 0 = .ok (.iconst 0, 1) := by decide +kernel
theorem d_D_writeLabel_1 : decode c_D_writeLabel 1 = .ok (.istore_n 3, 1) := by decide +kernel
theorem d_D_writeLabel_2 : decode c_D_writeLabel 2 = .ok (.iconst 0, 1) := by decide +kernel
theorem d_D_writeLabel_3 : decode c_D_writeLabel 3 = .ok (.istore 4, 2) := by decide +kernel
theorem d_D_writeLabel_5 : decode c_D_writeLabel 5 = .ok (.iload 4, 2) := by decide +kernel
theorem d_D_writeLabel_7 : decode c_D_writeLabel 7 = .ok (.aload_n 0, 1) := by decide +kernel
theorem d_D_writeLabel_8 : decode c_D_writeLabel 8 = .ok (.getfield 64, 3) := by decide +kernel
theorem d_D_writeLabel_11 : decode c_D_writeLabel 11 = .ok (.if_icmp .ge 37, 3) := by decide +kernel
theorem d_D_writeLabel_14 : decode c_D_writeLabel 14 = .ok (.aload_n 0, 1) := by decide +kernel
theorem d_D_writeLabel_15 : decode c_D_writeLabel 15 = .ok (.getfield 9, 3) := by decide +kernel
theorem d_D_writeLabel_18 : decode c_D_writeLabel 18 = .ok (.iload 4, 2) := by decide +kernel
theorem d_D_writeLabel_20 : decode c_D_writeLabel 20 = .ok (.iaload, 1) := by decide +kernel
theorem d_D_writeLabel_21 : decode c_D_writeLabel 21 = .ok (.iconst (-1), 1) := by decide +kernel
theorem d_D_writeLabel_22 : decode c_D_writeLabel 22 = .ok (.if_icmp .eq 20, 3) := by decide +kernel
theorem d_D_writeLabel_25 : decode c_D_writeLabel 25 = .ok (.aload_n 0, 1) := by decide +kernel
theorem d_D_writeLabel_26 : decode c_D_writeLabel 26 = .ok (.getfield 34, 3) := by decide +kernel
theorem d_D_writeLabel_29 : decode c_D_writeLabel 29 = .ok (.iload 4, 2) := by decide +kernel
theorem d_D_writeLabel_31 : decode c_D_writeLabel 31 = .ok (.lload_n 1, 1) := by decide +kernel
theorem d_D_writeLabel_32 : decode c_D_writeLabel 32 = .ok (.iload_n 3, 1) := by decide +kernel
theorem d_D_writeLabel_33 : decode c_D_writeLabel 33 = .ok (.invokestatic 191, 3) := by decide +kernel
theorem d_D_writeLabel_36 : decode c_D_writeLabel 36 = .ok (.invokevirtual 195, 3) := by decide +kernel
theorem d_D_writeLabel_39 : decode c_D_writeLabel 39 = .ok (.iinc 3 1, 3) := by decide +kernel
theorem d_D_writeLabel_42 : decode c_D_writeLabel 42 = .ok (.iinc 4 1, 3) := by decide +kernel
theorem d_D_writeLabel_45 : decode c_D_writeLabel 45 = .ok (.goto (-40), 3) := by decide +kernel
theorem d_D_writeLabel_48 : decode c_D_writeLabel 48 = .ok (.return_, 1) := by decide +kernel
theorem d_D_writeLabelAgain_0 : decode c_D_writeLabelAgain 0 = .ok (.iconst 0, 1) := by decide +kernel
theorem d_D_writeLabelAgain_1 : decode c_D_writeLabelAgain 1 = .ok (.istore_n 3, 1) := by decide +kernel
theorem d_D_writeLabelAgain_2 : decode c_D_writeLabelAgain 2 = .ok (.iconst 0, 1) := by decide +kernel
theorem d_D_writeLabelAgain_3 : decode c_D_writeLabelAgain 3 = .ok (.istore 4, 2) := by decide +kernel
theorem d_D_writeLabelAgain_5 : decode c_D_writeLabelAgain 5 = .ok (.iload 4, 2) := by decide +kernel
theorem d_D_writeLabelAgain_7 : decode c_D_writeLabelAgain 7 = .ok (.aload_n 0, 1) := by decide +kernel
theorem d_D_writeLabelAgain_8 : decode c_D_writeLabelAgain 8 = .ok (.getfield 64, 3) := by decide +kernel
theorem d_D_writeLabelAgain_11 : decode c_D_writeLabelAgain 11 = .ok (.if_icmp .ge 38, 3) := by decide +kernel
theorem d_D_writeLabelAgain_14 : decode c_D_writeLabelAgain 14 = .ok (.aload_n 0, 1) := by decide +kernel
theorem d_D_writeLabelAgain_15 : decode c_D_writeLabelAgain 15 = .ok (.getfield 34, 3) := by decide +kernel
theorem d_D_writeLabelAgain_18 : decode c_D_writeLabelAgain 18 = .ok (.iload 4, 2) := by decide +kernel
theorem d_D_writeLabelAgain_20 : decode c_D_writeLabelAgain 20 = .ok (.invokevirtual 198, 3) := by decide +kernel
theorem d_D_writeLabelAgain_23 : decode c_D_writeLabelAgain 23 = .ok (.ifCond .eq 20, 3) := by decide +kernel
theorem d_D_writeLabelAgain_26 : decode c_D_writeLabelAgain 26 = .ok (.aload_n 0, 1) := by decide +kernel
theorem d_D_writeLabelAgain_27 : decode c_D_writeLabelAgain 27 = .ok (.getfield 34, 3) := by decide +kernel
theorem d_D_writeLabelAgain_30 : decode c_D_writeLabelAgain 30 = .ok (.iload 4, 2) := by decide +kernel
theorem d_D_writeLabelAgain_32 : decode c_D_writeLabelAgain 32 = .ok (.lload_n 1, 1) := by decide +kernel
theorem d_D_writeLabelAgain_33 : decode c_D_writeLabelAgain 33 = .ok (.iload_n 3, 1) := by decide +kernel
theorem d_D_writeLabelAgain_34 : decode c_D_writeLabelAgain 34 = .ok (.invokestatic 191, 3) := by decide +kernel
theorem d_D_writeLabelAgain_37 : decode c_D_writeLabelAgain 37 = .ok (.invokevirtual 201, 3) := by decide +kernel
theorem d_D_writeLabelAgain_40 : decode c_D_writeLabelAgain 40 = .ok (.iinc 3 1, 3) := by decide +kernel
theorem d_D_writeLabelAgain_43 : decode c_D_writeLabelAgain 43 = .ok (.iinc 4 1, 3) := by decide +kernel
theorem d_D_writeLabelAgain_46 : decode c_D_writeLabelAgain 46 = .ok (.goto (-41), 3) := by decide +kernel
theorem d_D_writeLabelAgain_49 : decode c_D_writeLabelAgain 49 = .ok (.return_, 1) := by decide +kernel
theorem d_D_partDown_0 : decode c_D_partDown 0 = .ok (.lload_n 0, 1) := by decide +kernel
theorem d_D_partDown_1 : decode c_D_partDown 1 = .ok (.iconst 2, 1) := by decide +kernel
theorem d_D_partDown_2 : decode c_D_partDown 2 = .ok (.iload_n 2, 1) := by decide +kernel
theorem d_D_partDown_3 : decode c_D_partDown 3 = .ok (.imul, 1) := by decide +kernel
theorem d_D_partDown_4 : decode c_D_partDown 4 = .ok (.lushr, 1) := by decide +kernel
theorem d_D_partDown_5 : decode c_D_partDown 5 = .ok (.l2i, 1) := by decide +kernel
theorem d_D_partDown_6 : decode c_D_partDown 6 = .ok (.iconst 3, 1) := by decide +kernel
theorem d_D_partDown_7 : decode c_D_partDown 7 = .ok (.iand, 1) := by decide +kernel
theorem d_D_partDown_8 : decode c_D_partDown 8 = .ok (.ireturn, 1) := by decide +kernel
theorem d_D_takeMarksOfLabel_0 : decode c_D_takeMarksOfLabel 0 = .ok (.iconst 0, 1) := by decide +kernel
theorem d_D_takeMarksOfLabel_1 : decode c_D_takeMarksOfLabel 1 = .ok (.istore_n 1, 1) := by decide +kernel
theorem d_D_takeMarksOfLabel_2 : decode c_D_takeMarksOfLabel 2 = .ok (.iload_n 1, 1) := by decide +kernel
theorem d_D_takeMarksOfLabel_3 : decode c_D_takeMarksOfLabel 3 = .ok (.aload_n 0, 1) := by decide +kernel
theorem d_D_takeMarksOfLabel_4 : decode c_D_takeMarksOfLabel 4 = .ok (.getfield 64, 3) := by decide +kernel
theorem d_D_takeMarksOfLabel_7 : decode c_D_takeMarksOfLabel 7 = .ok (.if_icmp .ge 48, 3) := by decide +kernel
theorem d_D_takeMarksOfLabel_10 : decode c_D_takeMarksOfLabel 10 = .ok (.aload_n 0, 1) := by decide +kernel
theorem d_D_takeMarksOfLabel_11 : decode c_D_takeMarksOfLabel 11 = .ok (.getfield 9, 3) := by decide +kernel
theorem d_D_takeMarksOfLabel_14 : decode c_D_takeMarksOfLabel 14 = .ok (.iload_n 1, 1) := by decide +kernel
theorem d_D_takeMarksOfLabel_15 : decode c_D_takeMarksOfLabel 15 = .ok (.iaload, 1) := by decide +kernel
theorem d_D_takeMarksOfLabel_16 : decode c_D_takeMarksOfLabel 16 = .ok (.iconst (-1), 1) := by decide +kernel
theorem d_D_takeMarksOfLabel_17 : decode c_D_takeMarksOfLabel 17 = .ok (.if_icmp .eq 32, 3) := by decide +kernel
theorem d_D_takeMarksOfLabel_20 : decode c_D_takeMarksOfLabel 20 = .ok (.aload_n 0, 1) := by decide +kernel
theorem d_D_takeMarksOfLabel_21 : decode c_D_takeMarksOfLabel 21 = .ok (.getfield 9, 3) := by decide +kernel
theorem d_D_takeMarksOfLabel_24 : decode c_D_takeMarksOfLabel 24 = .ok (.iload_n 1, 1) := by decide +kernel
theorem d_D_takeMarksOfLabel_25 : decode c_D_takeMarksOfLabel 25 = .ok (.aload_n 0, 1) := by decide +kernel
theorem d_D_takeMarksOfLabel_26 : decode c_D_takeMarksOfLabel 26 = .ok (.getfield 34, 3) := by decide +kernel
theorem d_D_takeMarksOfLabel_29 : decode c_D_takeMarksOfLabel 29 = .ok (.iload_n 1, 1) := by decide +kernel
theorem d_D_takeMarksOfLabel_30 : decode c_D_takeMarksOfLabel 30 = .ok (.invokevirtual 198, 3) := by decide +kernel
theorem d_D_takeMarksOfLabel_33 : decode c_D_takeMarksOfLabel 33 = .ok (.ifCond .eq 14, 3) := by decide +kernel
theorem d_D_takeMarksOfLabel_36 : decode c_D_takeMarksOfLabel 36 = .ok (.aload_n 0, 1) := by decide +kernel
theorem d_D_takeMarksOfLabel_37 : decode c_D_takeMarksOfLabel 37 = .ok (.getfield 34, 3) := by decide +kernel
theorem d_D_takeMarksOfLabel_40 : decode c_D_takeMarksOfLabel 40 = .ok (.iload_n 1, 1) := by decide +kernel
theorem d_D_takeMarksOfLabel_41 : decode c_D_takeMarksOfLabel 41 = .ok (.invokevirtual 204, 3) := by decide +kernel
theorem d_D_takeMarksOfLabel_44 : decode c_D_takeMarksOfLabel 44 = .ok (.goto 4, 3) := by decide +kernel
theorem d_D_takeMarksOfLabel_47 : decode c_D_takeMarksOfLabel 47 = .ok (.iconst 0, 1) := by decide +kernel
theorem d_D_takeMarksOfLabel_48 : decode c_D_takeMarksOfLabel 48 = .ok (.iastore, 1) := by decide +kernel
theorem d_D_takeMarksOfLabel_49 : decode c_D_takeMarksOfLabel 49 = .ok (.iinc 1 1, 3) := by decide +kernel
theorem d_D_takeMarksOfLabel_52 : decode c_D_takeMarksOfLabel 52 = .ok (.goto (-50), 3) := by decide +kernel
theorem d_D_takeMarksOfLabel_55 : decode c_D_takeMarksOfLabel 55 = .ok (.return_, 1) := by decide +kernel
theorem d_D_unitsOfJournal_0 : decode c_D_unitsOfJournal 0 = .ok (.iconst 0, 1) := by decide +kernel
theorem d_D_unitsOfJournal_1 : decode c_D_unitsOfJournal 1 = .ok (.istore_n 1, 1) := by decide +kernel
theorem d_D_unitsOfJournal_2 : decode c_D_unitsOfJournal 2 = .ok (.iconst 0, 1) := by decide +kernel
theorem d_D_unitsOfJournal_3 : decode c_D_unitsOfJournal 3 = .ok (.istore_n 2, 1) := by decide +kernel
theorem d_D_unitsOfJournal_4 : decode c_D_unitsOfJournal 4 = .ok (.iload_n 2, 1) := by decide +kernel
theorem d_D_unitsOfJournal_5 : decode c_D_unitsOfJournal 5 = .ok (.aload_n 0, 1) := by decide +kernel
theorem d_D_unitsOfJournal_6 : decode c_D_unitsOfJournal 6 = .ok (.getfield 28, 3) := by decide +kernel
theorem d_D_unitsOfJournal_9 : decode c_D_unitsOfJournal 9 = .ok (.invokevirtual 112, 3) := by decide +kernel
theorem d_D_unitsOfJournal_12 : decode c_D_unitsOfJournal 12 = .ok (.if_icmp .ge 74, 3) := by decide +kernel
theorem d_D_unitsOfJournal_15 : decode c_D_unitsOfJournal 15 = .ok (.aload_n 0, 1) := by decide +kernel
theorem d_D_unitsOfJournal_16 : decode c_D_unitsOfJournal 16 = .ok (.getfield 28, 3) := by decide +kernel
theorem d_D_unitsOfJournal_19 : decode c_D_unitsOfJournal 19 = .ok (.iload_n 2, 1) := by decide +kernel
theorem d_D_unitsOfJournal_20 : decode c_D_unitsOfJournal 20 = .ok (.invokevirtual 207, 3) := by decide +kernel
theorem d_D_unitsOfJournal_23 : decode c_D_unitsOfJournal 23 = .ok (.istore_n 3, 1) := by decide +kernel
theorem d_D_unitsOfJournal_24 : decode c_D_unitsOfJournal 24 = .ok (.aload_n 0, 1) := by decide +kernel
theorem d_D_unitsOfJournal_25 : decode c_D_unitsOfJournal 25 = .ok (.getfield 28, 3) := by decide +kernel
theorem d_D_unitsOfJournal_28 : decode c_D_unitsOfJournal 28 = .ok (.iload_n 2, 1) := by decide +kernel
theorem d_D_unitsOfJournal_29 : decode c_D_unitsOfJournal 29 = .ok (.invokevirtual 210, 3) := by decide +kernel
theorem d_D_unitsOfJournal_32 : decode c_D_unitsOfJournal 32 = .ok (.aload_n 0, 1) := by decide +kernel
theorem d_D_unitsOfJournal_33 : decode c_D_unitsOfJournal 33 = .ok (.getfield 64, 3) := by decide +kernel
theorem d_D_unitsOfJournal_36 : decode c_D_unitsOfJournal 36 = .ok (.iconst 2, 1) := by decide +kernel
theorem d_D_unitsOfJournal_37 : decode c_D_unitsOfJournal 37 = .ok (.isub, 1) := by decide +kernel
theorem d_D_unitsOfJournal_38 : decode c_D_unitsOfJournal 38 = .ok (.irem, 1) := by decide +kernel
theorem d_D_unitsOfJournal_39 : decode c_D_unitsOfJournal 39 = .ok (.istore 4, 2) := by decide +kernel
theorem d_D_unitsOfJournal_41 : decode c_D_unitsOfJournal 41 = .ok (.iload_n 1, 1) := by decide +kernel
theorem d_D_unitsOfJournal_42 : decode c_D_unitsOfJournal 42 = .ok (.aload_n 0, 1) := by decide +kernel
theorem d_D_unitsOfJournal_43 : decode c_D_unitsOfJournal 43 = .ok (.iload_n 3, 1) := by decide +kernel
theorem d_D_unitsOfJournal_44 : decode c_D_unitsOfJournal 44 = .ok (.iconst 2, 1) := by decide +kernel
theorem d_D_unitsOfJournal_45 : decode c_D_unitsOfJournal 45 = .ok (.iload 4, 2) := by decide +kernel
theorem d_D_unitsOfJournal_47 : decode c_D_unitsOfJournal 47 = .ok (.iadd, 1) := by decide +kernel
theorem d_D_unitsOfJournal_48 : decode c_D_unitsOfJournal 48 = .ok (.invokevirtual 213, 3) := by decide +kernel
theorem d_D_unitsOfJournal_51 : decode c_D_unitsOfJournal 51 = .ok (.iadd, 1) := by decide +kernel
theorem d_D_unitsOfJournal_52 : decode c_D_unitsOfJournal 52 = .ok (.istore_n 1, 1) := by decide +kernel
theorem d_D_unitsOfJournal_53 : decode c_D_unitsOfJournal 53 = .ok (.aload_n 0, 1) := by decide +kernel
theorem d_D_unitsOfJournal_54 : decode c_D_unitsOfJournal 54 = .ok (.getfield 28, 3) := by decide +kernel
theorem d_D_unitsOfJournal_57 : decode c_D_unitsOfJournal 57 = .ok (.iload_n 2, 1) := by decide +kernel
theorem d_D_unitsOfJournal_58 : decode c_D_unitsOfJournal 58 = .ok (.invokevirtual 216, 3) := by decide +kernel
theorem d_D_unitsOfJournal_61 : decode c_D_unitsOfJournal 61 = .ok (.ifCond .eq 19, 3) := by decide +kernel
theorem d_D_unitsOfJournal_64 : decode c_D_unitsOfJournal 64 = .ok (.iload_n 1, 1) := by decide +kernel
theorem d_D_unitsOfJournal_65 : decode c_D_unitsOfJournal 65 = .ok (.aload_n 0, 1) := by decide +kernel
theorem d_D_unitsOfJournal_66 : decode c_D_unitsOfJournal 66 = .ok (.iload_n 3, 1) := by decide +kernel
theorem d_D_unitsOfJournal_67 : decode c_D_unitsOfJournal 67 = .ok (.iconst 0, 1) := by decide +kernel
theorem d_D_unitsOfJournal_68 : decode c_D_unitsOfJournal 68 = .ok (.invokevirtual 213, 3) := by decide +kernel
theorem d_D_unitsOfJournal_71 : decode c_D_unitsOfJournal 71 = .ok (.aload_n 0, 1) := by decide +kernel
theorem d_D_unitsOfJournal_72 : decode c_D_unitsOfJournal 72 = .ok (.iload_n 3, 1) := by decide +kernel
theorem d_D_unitsOfJournal_73 : decode c_D_unitsOfJournal 73 = .ok (.iconst 1, 1) := by decide +kernel
theorem d_D_unitsOfJournal_74 : decode c_D_unitsOfJournal 74 = .ok (.invokevirtual 213, 3) := by decide +kernel
theorem d_D_unitsOfJournal_77 : decode c_D_unitsOfJournal 77 = .ok (.iadd, 1) := by decide +kernel
theorem d_D_unitsOfJournal_78 : decode c_D_unitsOfJournal 78 = .ok (.iadd, 1) := by decide +kernel
theorem d_D_unitsOfJournal_79 : decode c_D_unitsOfJournal 79 = .ok (.istore_n 1, 1) := by decide +kernel
theorem d_D_unitsOfJournal_80 : decode c_D_unitsOfJournal 80 = .ok (.iinc 2 1, 3) := by decide +kernel
theorem d_D_unitsOfJournal_83 : decode c_D_unitsOfJournal 83 = .ok (.goto (-79), 3) := by decide +kernel
theorem d_D_unitsOfJournal_86 : decode c_D_unitsOfJournal 86 = .ok (.iload_n 1, 1) := by decide +kernel
theorem d_D_unitsOfJournal_87 : decode c_D_unitsOfJournal 87 = .ok (.ireturn, 1) := by decide +kernel
theorem d_D_takesUnit_0 : decode c_D_takesUnit 0 = .ok (.aload_n 0, 1) := by decide +kernel
theorem d_D_takesUnit_1 : decode c_D_takesUnit 1 = .ok (.getfield 9, 3) := by decide +kernel
theorem d_D_takesUnit_4 : decode c_D_takesUnit 4 = .ok (.iload_n 1, 1) := by decide +kernel
theorem d_D_takesUnit_5 : decode c_D_takesUnit 5 = .ok (.iload_n 2, 1) := by decide +kernel
theorem d_D_takesUnit_6 : decode c_D_takesUnit 6 = .ok (.iadd, 1) := by decide +kernel
theorem d_D_takesUnit_7 : decode c_D_takesUnit 7 = .ok (.aload_n 0, 1) := by decide +kernel
theorem d_D_takesUnit_8 : decode c_D_takesUnit 8 = .ok (.getfield 64, 3) := by decide +kernel
theorem d_D_takesUnit_11 : decode c_D_takesUnit 11 = .ok (.irem, 1) := by decide +kernel
theorem d_D_takesUnit_12 : decode c_D_takesUnit 12 = .ok (.iaload, 1) := by decide +kernel
theorem d_D_takesUnit_13 : decode c_D_takesUnit 13 = .ok (.iload_n 1, 1) := by decide +kernel
theorem d_D_takesUnit_14 : decode c_D_takesUnit 14 = .ok (.if_icmp .le 7, 3) := by decide +kernel
theorem d_D_takesUnit_17 : decode c_D_takesUnit 17 = .ok (.iconst 1, 1) := by decide +kernel
theorem d_D_takesUnit_18 : decode c_D_takesUnit 18 = .ok (.goto 4, 3) := by decide +kernel
theorem d_D_takesUnit_21 : decode c_D_takesUnit 21 = .ok (.iconst 0, 1) := by decide +kernel
theorem d_D_takesUnit_22 : decode c_D_takesUnit 22 = .ok (.ireturn, 1) := by decide +kernel
theorem d_D_blocks_0 : decode c_D_blocks 0 = .ok (.aload_n 0, 1) := by decide +kernel
theorem d_D_blocks_1 : decode c_D_blocks 1 = .ok (.getfield 64, 3) := by decide +kernel
theorem d_D_blocks_4 : decode c_D_blocks 4 = .ok (.iconst 2, 1) := by decide +kernel
theorem d_D_blocks_5 : decode c_D_blocks 5 = .ok (.isub, 1) := by decide +kernel
theorem d_D_blocks_6 : decode c_D_blocks 6 = .ok (.aload_n 0, 1) := by decide +kernel
theorem d_D_blocks_7 : decode c_D_blocks 7 = .ok (.getfield 170, 3) := by decide +kernel
theorem d_D_blocks_10 : decode c_D_blocks 10 = .ok (.bipush 6, 2) := by decide +kernel
theorem d_D_blocks_12 : decode c_D_blocks 12 = .ok (.isub, 1) := by decide +kernel
theorem d_D_blocks_13 : decode c_D_blocks 13 = .ok (.imul, 1) := by decide +kernel
theorem d_D_blocks_14 : decode c_D_blocks 14 = .ok (.ireturn, 1) := by decide +kernel
theorem d_D_rowOf_0 : decode c_D_rowOf 0 = .ok (.bipush 6, 2) := by decide +kernel
theorem d_D_rowOf_2 : decode c_D_rowOf 2 = .ok (.iload_n 1, 1) := by decide +kernel
theorem d_D_rowOf_3 : decode c_D_rowOf 3 = .ok (.aload_n 0, 1) := by decide +kernel
theorem d_D_rowOf_4 : decode c_D_rowOf 4 = .ok (.getfield 64, 3) := by decide +kernel
theorem d_D_rowOf_7 : decode c_D_rowOf 7 = .ok (.iconst 2, 1) := by decide +kernel
theorem d_D_rowOf_8 : decode c_D_rowOf 8 = .ok (.isub, 1) := by decide +kernel
theorem d_D_rowOf_9 : decode c_D_rowOf 9 = .ok (.idiv, 1) := by decide +kernel
theorem d_D_rowOf_10 : decode c_D_rowOf 10 = .ok (.iadd, 1) := by decide +kernel
theorem d_D_rowOf_11 : decode c_D_rowOf 11 = .ok (.ireturn, 1) := by decide +kernel
theorem d_D_isByte_0 : decode c_D_isByte 0 = .ok (.iload_n 1, 1) := by decide +kernel
theorem d_D_isByte_1 : decode c_D_isByte 1 = .ok (.ifCond .lt 25, 3) := by decide +kernel
theorem d_D_isByte_4 : decode c_D_isByte 4 = .ok (.iload_n 1, 1) := by decide +kernel
theorem d_D_isByte_5 : decode c_D_isByte 5 = .ok (.aload_n 0, 1) := by decide +kernel
theorem d_D_isByte_6 : decode c_D_isByte 6 = .ok (.invokevirtual 42, 3) := by decide +kernel
theorem d_D_isByte_9 : decode c_D_isByte 9 = .ok (.if_icmp .ge 17, 3) := by decide +kernel
theorem d_D_isByte_12 : decode c_D_isByte 12 = .ok (.iload_n 2, 1) := by decide +kernel
theorem d_D_isByte_13 : decode c_D_isByte 13 = .ok (.ifCond .lt 13, 3) := by decide +kernel
theorem d_D_isByte_16 : decode c_D_isByte 16 = .ok (.iload_n 2, 1) := by decide +kernel
theorem d_D_isByte_17 : decode c_D_isByte 17 = .ok (.bipush 64, 2) := by decide +kernel
theorem d_D_isByte_19 : decode c_D_isByte 19 = .ok (.if_icmp .ge 7, 3) := by decide +kernel
theorem d_D_isByte_22 : decode c_D_isByte 22 = .ok (.iconst 1, 1) := by decide +kernel
theorem d_D_isByte_23 : decode c_D_isByte 23 = .ok (.goto 4, 3) := by decide +kernel
theorem d_D_isByte_26 : decode c_D_isByte 26 = .ok (.iconst 0, 1) := by decide +kernel
theorem d_D_isByte_27 : decode c_D_isByte 27 = .ok (.ireturn, 1) := by decide +kernel
theorem d_D_isDisk_0 : decode c_D_isDisk 0 = .ok (.iload_n 1, 1) := by decide +kernel
theorem d_D_isDisk_1 : decode c_D_isDisk 1 = .ok (.ifCond .lt 15, 3) := by decide +kernel
theorem d_D_isDisk_4 : decode c_D_isDisk 4 = .ok (.iload_n 1, 1) := by decide +kernel
theorem d_D_isDisk_5 : decode c_D_isDisk 5 = .ok (.aload_n 0, 1) := by decide +kernel
theorem d_D_isDisk_6 : decode c_D_isDisk 6 = .ok (.getfield 64, 3) := by decide +kernel
theorem d_D_isDisk_9 : decode c_D_isDisk 9 = .ok (.if_icmp .ge 7, 3) := by decide +kernel
theorem d_D_isDisk_12 : decode c_D_isDisk 12 = .ok (.iconst 1, 1) := by decide +kernel
theorem d_D_isDisk_13 : decode c_D_isDisk 13 = .ok (.goto 4, 3) := by decide +kernel
theorem d_D_isDisk_16 : decode c_D_isDisk 16 = .ok (.iconst 0, 1) := by decide +kernel
theorem d_D_isDisk_17 : decode c_D_isDisk 17 = .ok (.ireturn, 1) := by decide +kernel
theorem d_D_isRow_0 : decode c_D_isRow 0 = .ok (.iload_n 1, 1) := by decide +kernel
theorem d_D_isRow_1 : decode c_D_isRow 1 = .ok (.iconst 2, 1) := by decide +kernel
theorem d_D_isRow_2 : decode c_D_isRow 2 = .ok (.if_icmp .lt 15, 3) := by decide +kernel
theorem d_D_isRow_5 : decode c_D_isRow 5 = .ok (.iload_n 1, 1) := by decide +kernel
theorem d_D_isRow_6 : decode c_D_isRow 6 = .ok (.aload_n 0, 1) := by decide +kernel
theorem d_D_isRow_7 : decode c_D_isRow 7 = .ok (.getfield 170, 3) := by decide +kernel
theorem d_D_isRow_10 : decode c_D_isRow 10 = .ok (.if_icmp .ge 7, 3) := by decide +kernel
theorem d_D_isRow_13 : decode c_D_isRow 13 = .ok (.iconst 1, 1) := by decide +kernel
theorem d_D_isRow_14 : decode c_D_isRow 14 = .ok (.goto 4, 3) := by decide +kernel
theorem d_D_isRow_17 : decode c_D_isRow 17 = .ok (.iconst 0, 1) := by decide +kernel
theorem d_D_isRow_18 : decode c_D_isRow 18 = .ok (.ireturn, 1) := by decide +kernel
theorem d_D_isBlank_0 : decode c_D_isBlank 0 = .ok (.aload_n 0, 1) := by decide +kernel
theorem d_D_isBlank_1 : decode c_D_isBlank 1 = .ok (.getfield 9, 3) := by decide +kernel
theorem d_D_isBlank_4 : decode c_D_isBlank 4 = .ok (.iload_n 1, 1) := by decide +kernel
theorem d_D_isBlank_5 : decode c_D_isBlank 5 = .ok (.iaload, 1) := by decide +kernel
theorem d_D_isBlank_6 : decode c_D_isBlank 6 = .ok (.iconst (-1), 1) := by decide +kernel
theorem d_D_isBlank_7 : decode c_D_isBlank 7 = .ok (.if_icmp .eq 20, 3) := by decide +kernel
theorem d_D_isBlank_10 : decode c_D_isBlank 10 = .ok (.aload_n 0, 1) := by decide +kernel
theorem d_D_isBlank_11 : decode c_D_isBlank 11 = .ok (.getfield 9, 3) := by decide +kernel
theorem d_D_isBlank_14 : decode c_D_isBlank 14 = .ok (.iload_n 1, 1) := by decide +kernel
theorem d_D_isBlank_15 : decode c_D_isBlank 15 = .ok (.iaload, 1) := by decide +kernel
theorem d_D_isBlank_16 : decode c_D_isBlank 16 = .ok (.aload_n 0, 1) := by decide +kernel
theorem d_D_isBlank_17 : decode c_D_isBlank 17 = .ok (.getfield 170, 3) := by decide +kernel
theorem d_D_isBlank_20 : decode c_D_isBlank 20 = .ok (.if_icmp .ge 7, 3) := by decide +kernel
theorem d_D_isBlank_23 : decode c_D_isBlank 23 = .ok (.iconst 1, 1) := by decide +kernel
theorem d_D_isBlank_24 : decode c_D_isBlank 24 = .ok (.goto 4, 3) := by decide +kernel
theorem d_D_isBlank_27 : decode c_D_isBlank 27 = .ok (.iconst 0, 1) := by decide +kernel
theorem d_D_isBlank_28 : decode c_D_isBlank 28 = .ok (.ireturn, 1) := by decide +kernel
theorem d_D_isRotten_0 : decode c_D_isRotten 0 = .ok (.aload_n 0, 1) := by decide +kernel
theorem d_D_isRotten_1 : decode c_D_isRotten 1 = .ok (.getfield 13, 3) := by decide +kernel
theorem d_D_isRotten_4 : decode c_D_isRotten 4 = .ok (.iload_n 1, 1) := by decide +kernel
theorem d_D_isRotten_5 : decode c_D_isRotten 5 = .ok (.laload, 1) := by decide +kernel
theorem d_D_isRotten_6 : decode c_D_isRotten 6 = .ok (.iload_n 2, 1) := by decide +kernel
theorem d_D_isRotten_7 : decode c_D_isRotten 7 = .ok (.lushr, 1) := by decide +kernel
theorem d_D_isRotten_8 : decode c_D_isRotten 8 = .ok (.lconst 1, 1) := by decide +kernel
theorem d_D_isRotten_9 : decode c_D_isRotten 9 = .ok (.land, 1) := by decide +kernel
theorem d_D_isRotten_10 : decode c_D_isRotten 10 = .ok (.lconst 0, 1) := by decide +kernel
theorem d_D_isRotten_11 : decode c_D_isRotten 11 = .ok (.lcmp, 1) := by decide +kernel
theorem d_D_isRotten_12 : decode c_D_isRotten 12 = .ok (.ifCond .eq 7, 3) := by decide +kernel
theorem d_D_isRotten_15 : decode c_D_isRotten 15 = .ok (.iconst 1, 1) := by decide +kernel
theorem d_D_isRotten_16 : decode c_D_isRotten 16 = .ok (.goto 4, 3) := by decide +kernel
theorem d_D_isRotten_19 : decode c_D_isRotten 19 = .ok (.iconst 0, 1) := by decide +kernel
theorem d_D_isRotten_20 : decode c_D_isRotten 20 = .ok (.ireturn, 1) := by decide +kernel
theorem d_D_isGone_0 : decode c_D_isGone 0 = .ok (.aload_n 0, 1) := by decide +kernel
theorem d_D_isGone_1 : decode c_D_isGone 1 = .ok (.getfield 9, 3) := by decide +kernel
theorem d_D_isGone_4 : decode c_D_isGone 4 = .ok (.iload_n 1, 1) := by decide +kernel
theorem d_D_isGone_5 : decode c_D_isGone 5 = .ok (.iaload, 1) := by decide +kernel
theorem d_D_isGone_6 : decode c_D_isGone 6 = .ok (.iload_n 2, 1) := by decide +kernel
theorem d_D_isGone_7 : decode c_D_isGone 7 = .ok (.if_icmp .le 12, 3) := by decide +kernel
theorem d_D_isGone_10 : decode c_D_isGone 10 = .ok (.aload_n 0, 1) := by decide +kernel
theorem d_D_isGone_11 : decode c_D_isGone 11 = .ok (.iload_n 1, 1) := by decide +kernel
theorem d_D_isGone_12 : decode c_D_isGone 12 = .ok (.iload_n 2, 1) := by decide +kernel
theorem d_D_isGone_13 : decode c_D_isGone 13 = .ok (.invokevirtual 219, 3) := by decide +kernel
theorem d_D_isGone_16 : decode c_D_isGone 16 = .ok (.ifCond .eq 7, 3) := by decide +kernel
theorem d_D_isGone_19 : decode c_D_isGone 19 = .ok (.iconst 1, 1) := by decide +kernel
theorem d_D_isGone_20 : decode c_D_isGone 20 = .ok (.goto 4, 3) := by decide +kernel
theorem d_D_isGone_23 : decode c_D_isGone 23 = .ok (.iconst 0, 1) := by decide +kernel
theorem d_D_isGone_24 : decode c_D_isGone 24 = .ok (.ireturn, 1) := by decide +kernel
theorem d_D_goneIn_0 : decode c_D_goneIn 0 = .ok (.iconst 0, 1) := by decide +kernel
theorem d_D_goneIn_1 : decode c_D_goneIn 1 = .ok (.istore_n 2, 1) := by decide +kernel
theorem d_D_goneIn_2 : decode c_D_goneIn 2 = .ok (.iconst 0, 1) := by decide +kernel
theorem d_D_goneIn_3 : decode c_D_goneIn 3 = .ok (.istore_n 3, 1) := by decide +kernel
theorem d_D_goneIn_4 : decode c_D_goneIn 4 = .ok (.iload_n 3, 1) := by decide +kernel
theorem d_D_goneIn_5 : decode c_D_goneIn 5 = .ok (.aload_n 0, 1) := by decide +kernel
theorem d_D_goneIn_6 : decode c_D_goneIn 6 = .ok (.getfield 64, 3) := by decide +kernel
theorem d_D_goneIn_9 : decode c_D_goneIn 9 = .ok (.if_icmp .ge 21, 3) := by decide +kernel
theorem d_D_goneIn_12 : decode c_D_goneIn 12 = .ok (.aload_n 0, 1) := by decide +kernel
theorem d_D_goneIn_13 : decode c_D_goneIn 13 = .ok (.iload_n 3, 1) := by decide +kernel
theorem d_D_goneIn_14 : decode c_D_goneIn 14 = .ok (.iload_n 1, 1) := by decide +kernel
theorem d_D_goneIn_15 : decode c_D_goneIn 15 = .ok (.invokevirtual 132, 3) := by decide +kernel
theorem d_D_goneIn_18 : decode c_D_goneIn 18 = .ok (.ifCond .eq 6, 3) := by decide +kernel
theorem d_D_goneIn_21 : decode c_D_goneIn 21 = .ok (.iinc 2 1, 3) := by decide +kernel
theorem d_D_goneIn_24 : decode c_D_goneIn 24 = .ok (.iinc 3 1, 3) := by decide +kernel
theorem d_D_goneIn_27 : decode c_D_goneIn 27 = .ok (.goto (-23), 3) := by decide +kernel
theorem d_D_goneIn_30 : decode c_D_goneIn 30 = .ok (.iload_n 2, 1) := by decide +kernel
theorem d_D_goneIn_31 : decode c_D_goneIn 31 = .ok (.ireturn, 1) := by decide +kernel
theorem d_D_rottenIn_0 : decode c_D_rottenIn 0 = .ok (.iconst 0, 1) := by decide +kernel
theorem d_D_rottenIn_1 : decode c_D_rottenIn 1 = .ok (.istore_n 2, 1) := by decide +kernel
theorem d_D_rottenIn_2 : decode c_D_rottenIn 2 = .ok (.iconst 0, 1) := by decide +kernel
theorem d_D_rottenIn_3 : decode c_D_rottenIn 3 = .ok (.istore_n 3, 1) := by decide +kernel
theorem d_D_rottenIn_4 : decode c_D_rottenIn 4 = .ok (.iload_n 3, 1) := by decide +kernel
theorem d_D_rottenIn_5 : decode c_D_rottenIn 5 = .ok (.aload_n 0, 1) := by decide +kernel
theorem d_D_rottenIn_6 : decode c_D_rottenIn 6 = .ok (.getfield 64, 3) := by decide +kernel
theorem d_D_rottenIn_9 : decode c_D_rottenIn 9 = .ok (.if_icmp .ge 21, 3) := by decide +kernel
theorem d_D_rottenIn_12 : decode c_D_rottenIn 12 = .ok (.aload_n 0, 1) := by decide +kernel
theorem d_D_rottenIn_13 : decode c_D_rottenIn 13 = .ok (.iload_n 3, 1) := by decide +kernel
theorem d_D_rottenIn_14 : decode c_D_rottenIn 14 = .ok (.iload_n 1, 1) := by decide +kernel
theorem d_D_rottenIn_15 : decode c_D_rottenIn 15 = .ok (.invokevirtual 219, 3) := by decide +kernel
theorem d_D_rottenIn_18 : decode c_D_rottenIn 18 = .ok (.ifCond .eq 6, 3) := by decide +kernel
theorem d_D_rottenIn_21 : decode c_D_rottenIn 21 = .ok (.iinc 2 1, 3) := by decide +kernel
theorem d_D_rottenIn_24 : decode c_D_rottenIn 24 = .ok (.iinc 3 1, 3) := by decide +kernel
theorem d_D_rottenIn_27 : decode c_D_rottenIn 27 = .ok (.goto (-23), 3) := by decide +kernel
theorem d_D_rottenIn_30 : decode c_D_rottenIn 30 = .ok (.iload_n 2, 1) := by decide +kernel
theorem d_D_rottenIn_31 : decode c_D_rottenIn 31 = .ok (.ireturn, 1) := by decide +kernel
theorem d_D_canBeMissed_0 : decode c_D_canBeMissed 0 = .ok (.iconst 2, 1) := by decide +kernel
theorem d_D_canBeMissed_1 : decode c_D_canBeMissed 1 = .ok (.istore_n 2, 1) := by decide +kernel
theorem d_D_canBeMissed_2 : decode c_D_canBeMissed 2 = .ok (.iload_n 2, 1) := by decide +kernel
theorem d_D_canBeMissed_3 : decode c_D_canBeMissed 3 = .ok (.aload_n 0, 1) := by decide +kernel
theorem d_D_canBeMissed_4 : decode c_D_canBeMissed 4 = .ok (.getfield 170, 3) := by decide +kernel
theorem d_D_canBeMissed_7 : decode c_D_canBeMissed 7 = .ok (.if_icmp .ge 29, 3) := by decide +kernel
theorem d_D_canBeMissed_10 : decode c_D_canBeMissed 10 = .ok (.aload_n 0, 1) := by decide +kernel
theorem d_D_canBeMissed_11 : decode c_D_canBeMissed 11 = .ok (.iload_n 1, 1) := by decide +kernel
theorem d_D_canBeMissed_12 : decode c_D_canBeMissed 12 = .ok (.iload_n 2, 1) := by decide +kernel
theorem d_D_canBeMissed_13 : decode c_D_canBeMissed 13 = .ok (.invokevirtual 132, 3) := by decide +kernel
theorem d_D_canBeMissed_16 : decode c_D_canBeMissed 16 = .ok (.ifCond .ne 14, 3) := by decide +kernel
theorem d_D_canBeMissed_19 : decode c_D_canBeMissed 19 = .ok (.aload_n 0, 1) := by decide +kernel
theorem d_D_canBeMissed_20 : decode c_D_canBeMissed 20 = .ok (.iload_n 2, 1) := by decide +kernel
theorem d_D_canBeMissed_21 : decode c_D_canBeMissed 21 = .ok (.invokevirtual 135, 3) := by decide +kernel
theorem d_D_canBeMissed_24 : decode c_D_canBeMissed 24 = .ok (.iconst 2, 1) := by decide +kernel
theorem d_D_canBeMissed_25 : decode c_D_canBeMissed 25 = .ok (.if_icmp .lt 5, 3) := by decide +kernel
theorem d_D_canBeMissed_28 : decode c_D_canBeMissed 28 = .ok (.iconst 0, 1) := by decide +kernel
theorem d_D_canBeMissed_29 : decode c_D_canBeMissed 29 = .ok (.ireturn, 1) := by decide +kernel
theorem d_D_canBeMissed_30 : decode c_D_canBeMissed 30 = .ok (.iinc 2 1, 3) := by decide +kernel
theorem d_D_canBeMissed_33 : decode c_D_canBeMissed 33 = .ok (.goto (-31), 3) := by decide +kernel
theorem d_D_canBeMissed_36 : decode c_D_canBeMissed 36 = .ok (.iconst 1, 1) := by decide +kernel
theorem d_D_canBeMissed_37 : decode c_D_canBeMissed 37 = .ok (.ireturn, 1) := by decide +kernel
theorem d_D_lostDisks_0 : decode c_D_lostDisks 0 = .ok (.aload_n 0, 1) := by decide +kernel
theorem d_D_lostDisks_1 : decode c_D_lostDisks 1 = .ok (.iconst (-1), 1) := by decide +kernel
theorem d_D_lostDisks_2 : decode c_D_lostDisks 2 = .ok (.iconst (-1), 1) := by decide +kernel
theorem d_D_lostDisks_3 : decode c_D_lostDisks 3 = .ok (.invokevirtual 222, 3) := by decide +kernel
theorem d_D_lostDisks_6 : decode c_D_lostDisks 6 = .ok (.ireturn, 1) := by decide +kernel
theorem d_D_blankDisks_0 : decode c_D_blankDisks 0 = .ok (.aload_n 0, 1) := by decide +kernel
theorem d_D_blankDisks_1 : decode c_D_blankDisks 1 = .ok (.iconst 0, 1) := by decide +kernel
theorem d_D_blankDisks_2 : decode c_D_blankDisks 2 = .ok (.aload_n 0, 1) := by decide +kernel
theorem d_D_blankDisks_3 : decode c_D_blankDisks 3 = .ok (.getfield 170, 3) := by decide +kernel
theorem d_D_blankDisks_6 : decode c_D_blankDisks 6 = .ok (.iconst 1, 1) := by decide +kernel
theorem d_D_blankDisks_7 : decode c_D_blankDisks 7 = .ok (.isub, 1) := by decide +kernel
theorem d_D_blankDisks_8 : decode c_D_blankDisks 8 = .ok (.invokevirtual 222, 3) := by decide +kernel
theorem d_D_blankDisks_11 : decode c_D_blankDisks 11 = .ok (.ireturn, 1) := by decide +kernel
theorem d_D_disksMarked_0 : decode c_D_disksMarked 0 = .ok (.iconst 0, 1) := by decide +kernel
theorem d_D_disksMarked_1 : decode c_D_disksMarked 1 = .ok (.istore_n 3, 1) := by decide +kernel
theorem d_D_disksMarked_2 : decode c_D_disksMarked 2 = .ok (.iconst 0, 1) := by decide +kernel
theorem d_D_disksMarked_3 : decode c_D_disksMarked 3 = .ok (.istore 4, 2) := by decide +kernel
theorem d_D_disksMarked_5 : decode c_D_disksMarked 5 = .ok (.iload 4, 2) := by decide +kernel
theorem d_D_disksMarked_7 : decode c_D_disksMarked 7 = .ok (.aload_n 0, 1) := by decide +kernel
theorem d_D_disksMarked_8 : decode c_D_disksMarked 8 = .ok (.getfield 64, 3) := by decide +kernel
theorem d_D_disksMarked_11 : decode c_D_disksMarked 11 = .ok (.if_icmp .ge 34, 3) := by decide +kernel
theorem d_D_disksMarked_14 : decode c_D_disksMarked 14 = .ok (.aload_n 0, 1) := by decide +kernel
theorem d_D_disksMarked_15 : decode c_D_disksMarked 15 = .ok (.getfield 9, 3) := by decide +kernel
theorem d_D_disksMarked_18 : decode c_D_disksMarked 18 = .ok (.iload 4, 2) := by decide +kernel
theorem d_D_disksMarked_20 : decode c_D_disksMarked 20 = .ok (.iaload, 1) := by decide +kernel
theorem d_D_disksMarked_21 : decode c_D_disksMarked 21 = .ok (.iload_n 1, 1) := by decide +kernel
theorem d_D_disksMarked_22 : decode c_D_disksMarked 22 = .ok (.if_icmp .lt 17, 3) := by decide +kernel
theorem d_D_disksMarked_25 : decode c_D_disksMarked 25 = .ok (.aload_n 0, 1) := by decide +kernel
theorem d_D_disksMarked_26 : decode c_D_disksMarked 26 = .ok (.getfield 9, 3) := by decide +kernel
theorem d_D_disksMarked_29 : decode c_D_disksMarked 29 = .ok (.iload 4, 2) := by decide +kernel
theorem d_D_disksMarked_31 : decode c_D_disksMarked 31 = .ok (.iaload, 1) := by decide +kernel
theorem d_D_disksMarked_32 : decode c_D_disksMarked 32 = .ok (.iload_n 2, 1) := by decide +kernel
theorem d_D_disksMarked_33 : decode c_D_disksMarked 33 = .ok (.if_icmp .gt 6, 3) := by decide +kernel
theorem d_D_disksMarked_36 : decode c_D_disksMarked 36 = .ok (.iinc 3 1, 3) := by decide +kernel
theorem d_D_disksMarked_39 : decode c_D_disksMarked 39 = .ok (.iinc 4 1, 3) := by decide +kernel
theorem d_D_disksMarked_42 : decode c_D_disksMarked 42 = .ok (.goto (-37), 3) := by decide +kernel
theorem d_D_disksMarked_45 : decode c_D_disksMarked 45 = .ok (.iload_n 3, 1) := by decide +kernel
theorem d_D_disksMarked_46 : decode c_D_disksMarked 46 = .ok (.ireturn, 1) := by decide +kernel
end
section
/-! base: worlds whose cells stay where they are; calls that change a part of the world -/
/-- the addresses of a world -/
def kx_A (ws : va_W) : Nat → Prop := fun q => ∃ (k : Nat) (e : va_E), ws[k]? = some (q, e)
theorem kx_A.in {ws : va_W} {k : Nat} {q : Nat × va_E} (h : ws[k]? = some q) : kx_A ws q.1 := ⟨k, q.2, h⟩
/-- a contract's start: the world, the tables, the addresses apart -/
abbrev kx_Pc (D : va_G) (cl : List vw_C) (tys : List (ClassId × FieldType)) (ws : va_W) (av : List Value) : Array Value → State → Prop := va_Pc av (fun U => va_P D cl ws U.heap ∧ va_K D cl tys U ∧ va_D (fun _ => True) ws)
/-- its end: the answer, the new world, nothing else changed -/
def kx_Q (D : va_G) (cl : List vw_C) (ws ws' : va_W) (r : Option Value) : Array Value → State → Outcome → State → Prop := fun _ st o t => o = .returned r ∧ va_P D cl ws' t.heap ∧ va_F (kx_A ws) st t
/-- the end of a method that only reads -/
def kx_R (r : Option Value) : Array Value → State → Outcome → State → Prop := fun _ st o t => o = .returned r ∧ t.heap = st.heap
theorem kx_blind {D : va_G} {cl : List vw_C} {tys : List (ClassId × FieldType)} {ws : va_W} {av : List Value} : FrameBlind (kx_Pc D cl tys ws av) := fun a U g mk q => by
  obtain ⟨q0, qP, qK, qD⟩ := q
  exact ⟨q0, qP, va_K.moved (u := U) (U := U.calling g mk a) (Vm.Alike.refl U.vm) qK, qD⟩
theorem kx_D.self {A : Nat → Prop} {ws : va_W} (h : va_D A ws) : va_D (kx_A ws) ws := ⟨h.1, fun _ _ hk => kx_A.in hk⟩
/-- worlds of the same addresses -/
theorem kx_D.eq {A : Nat → Prop} {ws ws2 : va_W} (h : va_D A ws) (ha : ws2.map (·.1) = ws.map (·.1)) : va_D A ws2 := by
  have at' : ∀ (k : Nat) (q : Nat × va_E), ws2[k]? = some q → ∃ q', ws[k]? = some q' ∧ q'.1 = q.1 := by
    intro k q hk
    have h1 : (ws2.map (·.1))[k]? = some q.1 := by rw [List.getElem?_map, hk]; rfl
    rw [ha, List.getElem?_map] at h1
    cases hq : ws[k]? with
    | none => rw [hq] at h1; cases h1
    | some q' => rw [hq] at h1; exact ⟨q', rfl, Option.some.inj h1⟩
  refine ⟨fun i j p q hi hj hpq => ?_, fun k q hk => ?_⟩
  · obtain ⟨p', h1, e1⟩ := at' i p hi
    obtain ⟨q', h2, e2⟩ := at' j q hj
    exact h.1 i j p' q' h1 h2 (by rw [e1, e2, hpq])
  · obtain ⟨q', h1, e1⟩ := at' k q hk
    rw [← e1]
    exact h.2 k q' h1
/-- some cells of a world are replaced -/
def kx_set : va_W → List Nat → va_W → va_W
  | ws, i :: is, x :: xs => kx_set (ws.set i x) is xs
  | ws, _, _ => ws
theorem kx_set_at : ∀ (is : List Nat) (w1 ws : va_W) (k : Nat) (q : Nat × va_E), (kx_set ws is w1)[k]? = some q → (∃ j : Nat, w1[j]? = some q) ∨ (ws[k]? = some q ∧ ∀ j : Nat, j < w1.length → is[j]? ≠ some k)
  | [], w1, ws, k, q, h => Or.inr ⟨by simpa [kx_set] using h, fun j _ => by simp⟩
  | i :: is, [], ws, k, q, h => Or.inr ⟨by simpa [kx_set] using h, fun j hj => by simp at hj⟩
  | i :: is, x :: xs, ws, k, q, h => by
    have h' : (kx_set (ws.set i x) is xs)[k]? = some q := h
    rcases kx_set_at is xs (ws.set i x) k q h' with ⟨j, hj⟩ | ⟨h1, h2⟩
    · exact Or.inl ⟨j + 1, by simpa using hj⟩
    · by_cases hk : i = k
      · subst hk
        by_cases hl : i < ws.length
        · rw [List.getElem?_set_self hl] at h1
          exact Or.inl ⟨0, by simpa using h1⟩
        · rw [List.getElem?_eq_none (by rw [List.length_set]; omega)] at h1
          cases h1
      · rw [List.getElem?_set_ne hk] at h1
        refine Or.inr ⟨h1, fun j hj => ?_⟩
        cases j with
        | zero => simpa using hk
        | succ j => simpa using h2 j (by simpa using hj)
theorem kx_join {A : Nat → Prop} {D : va_G} {cl : List vw_C} {ws wc w1 ws2 : va_W} {H H1 : Heap} (hP : va_P D cl ws H) (hD : va_D A ws) (is : List Nat) (hC : is.map (fun i => ws[i]?) = wc.map some) (hlen : w1.length = wc.length) (h2 : kx_set ws is w1 = ws2)
    (hk : ∀ q : Nat, q < H.size → ¬ kx_A wc q → H1[q]? = H[q]?) (hP1 : va_P D cl w1 H1) : va_P D cl ws2 H1 := by
  subst h2
  intro k q hq
  rcases kx_set_at is w1 ws k q hq with ⟨j, hj⟩ | ⟨h1, h2⟩
  · exact hP1 j q hj
  · refine (hP k q h1).kept (hk q.1 ((hP k q h1).lt) ?_)
    rintro ⟨k2, e, h3⟩
    obtain ⟨i, h4, h5⟩ := va_in_of is hC h3
    have hki := hD.1 k i q (q.1, e) h1 h5 rfl
    subst hki
    refine h2 k2 ?_ h4
    rw [hlen]
    exact (List.getElem?_eq_some_iff.mp h3).1
theorem kx_sub {D : va_G} {cl : List vw_C} {ws wc : va_W} {H : Heap} (hP : va_P D cl ws H) (is : List Nat) (hC : is.map (fun i => ws[i]?) = wc.map some) : va_P D cl wc H := by
  intro k q hq
  obtain ⟨i, -, h5⟩ := va_in_of is hC hq
  exact hP i q h5
theorem kx_free {A : Nat → Prop} {ws wc : va_W} (hD : va_D A ws) (is : List Nat) (hC : is.map (fun i => ws[i]?) = wc.map some) : ∀ q, kx_A wc q → A q := by
  rintro q ⟨k, e, h⟩
  obtain ⟨i, -, h5⟩ := va_in_of is hC h
  exact hD.2 i _ h5
section KXC
variable {p : Program} {l : Launch} {e : Env} {R : Room} {s : State} {m : MethodId} {args : Array Value} {below : List Frame} {meth : Method} {c : Code} {H : Heap} {locs : List Loc} {cells slots : Nat} {Q : State → Prop}
variable {pc : Nat} {ls : Array Slot} {rest st0 : List Value} {A : Nat → Prop} {H0 : Heap} {D : va_G} {cl : List vw_C} {tys : List (ClassId × FieldType)} {ws wc w1 ws2 : va_W} {r : Option Value}
variable {y : MethodName} {bytes cc : ByteArray} {maxL nL n index : Nat} {ret : Option FieldType} {wy : List Cond} {rm : Room} {Ts : List Cond} {own C : String} {b : Addr} {As : List Value}
/-- behind a call that changes the cells wc alone -/
theorem kx_go {av : Array Value} (hr : va_Run p l e R s m args below meth c H locs cells slots 0 0 (F0 m pc ls st0) rest (kx_Q D cl wc w1 r av) (kx_A wc)) (hP : va_P D cl ws H) (hD : va_D A ws) (hS : va_S A H0 H locs) (is : List Nat) (hC : is.map (fun i => ws[i]?) = wc.map some) (hlen : w1.length = wc.length) (h2 : kx_set ws is w1 = ws2) (hadr : ws2.map (·.1) = ws.map (·.1))
    (kk : ∀ (H1 : Heap) (locs1 : List Loc), va_P D cl ws2 H1 → va_D A ws2 → va_S A H0 H1 locs1 → W p l e R s m args below meth c H1 locs1 cells slots Q (F0 m (pc + 3) ls (r.toList ++ rest))) : W p l e R s m args below meth c H locs cells slots Q (F0 m pc ls st0) := by
  intro T hT X
  obtain ⟨v, st₀, t, T', L, h0, X', hL, e1, e2, ⟨hv, hP1, hz, hk⟩, st⟩ := hr T hT X
  cases hv
  rw [h0] at hz hk
  have hF := kx_free hD is hC
  obtain ⟨t2, a1, b1⟩ := kk T'.heap (locs ++ L) (kx_join hP hD is hC hlen h2 (fun q h1 h3 => by rw [e1]; exact hk q h1 h3) (by rw [e1]; exact hP1)) (kx_D.eq hD hadr)
    ⟨Nat.le_trans hS.1 (by rw [e1]; exact hz), fun q h1 h3 => by rw [e1, hk q (Nat.lt_of_lt_of_le h1 hS.1) (fun z => h3 (hF q z))]; exact hS.2.1 q h1 h3, fun q hq => by
      rcases List.mem_append.mp hq with h | h
      · exact hS.2.2 q h
      · exact hF _ (hL q h)⟩ T' rfl X'
  exact ⟨t2, st t2 a1, b1⟩
/-- behind a call that only reads -/
theorem kx_goR {av : Array Value} (hr : va_Run p l e R s m args below meth c H locs cells slots 0 0 (F0 m pc ls st0) rest (kx_R r av) (fun _ => False))
    (kk : W p l e R s m args below meth c H locs cells slots Q (F0 m (pc + 3) ls (r.toList ++ rest))) : W p l e R s m args below meth c H locs cells slots Q (F0 m pc ls st0) := by
  intro T hT X
  obtain ⟨v, st₀, t, T', L, h0, X', hL, e1, e2, ⟨hv, hh⟩, st⟩ := hr T hT X
  cases hv
  obtain ⟨t2, a1, b1⟩ := kk T' (by rw [e1, hh, h0]) (Stand.forget X' (fun q h => (hL q h).elim))
  exact ⟨t2, st t2 a1, b1⟩
theorem kx_preV {ci : Nat} {fs : List Value} {qc : vw_C} (hK : va_K D cl tys s) (hP : va_P D cl ws H) (hD : va_D A ws) (is : List Nat) (hnd : va_nd is = true) (hC : is.map (fun i => ws[i]?) = wc.map some) (q0 : Nat) (he : wc[q0]? = some (b, .inr (ci, fs))) (hc : cl[ci]? = some qc) : PreV s H qc.1 b (kx_Pc D cl tys wc (.ref b :: As)) As :=
  ⟨kx_blind, va_recv hK (kx_sub hP is hC) hc he, fun U hU hW => ⟨rfl, by rw [hU]; exact kx_sub hP is hC, va_K.moved hW.alike hK, (hD.sub is hnd hC).weaken (fun _ _ _ _ => trivial)⟩⟩
theorem kx_preS (hK : va_K D cl tys s) (hP : va_P D cl ws H) (hD : va_D A ws) (is : List Nat) (hnd : va_nd is = true) (hC : is.map (fun i => ws[i]?) = wc.map some) : PreS s H (kx_Pc D cl tys wc As) As :=
  ⟨kx_blind, fun U hU hW => ⟨rfl, by rw [hU]; exact kx_sub hP is hC, va_K.moved hW.alike hK, (hD.sub is hnd hC).weaken (fun _ _ _ _ => trivial)⟩⟩
/-- invokevirtual, the callee changes cells of the places is -/
theorem kx_V {ci : Nat} {fs : List Value} {T : u_T} {N : Nat} (S : CallFix p m c cc nL s args Ts own) (hM : Met l y wy rm (kx_Pc D cl tys wc (.ref b :: As)) (kx_Q D cl wc w1 r) 0 0 (kx_A wc)) (cw : CallW R s args own C index y bytes maxL ret wy rm 0 0 n) (hf : cells ≤ R.cells ∧ slots ≤ R.slots)
    (hK : va_K D cl tys s) (hP : va_P D cl ws H) (hD : va_D A ws) (hS : va_S A H0 H locs) (is : List Nat) (hnd : va_nd is = true) (hC : is.map (fun i => ws[i]?) = wc.map some) (q0 : Nat) (he : wc[q0]? = some (b, .inr (ci, fs))) (hc : cl[ci]? = some (C, T, N)) (hlen : w1.length = wc.length) (h2 : kx_set ws is w1 = ws2) (hadr : ws2.map (·.1) = ws.map (·.1))
    (hn : As.length = n) (hsz : ls.size = nL) (hst : st0 = As.reverse ++ .ref b :: rest) (hW : (rest.map fun v => v.category).sum ≤ 8) (hdg : decode cc pc = .ok (.invokevirtual index, 3))
    (kk : ∀ (H1 : Heap) (locs1 : List Loc), va_P D cl ws2 H1 → va_D A ws2 → va_S A H0 H1 locs1 → W p l e R s m args below meth c H1 locs1 cells slots Q (F0 m (pc + 3) ls (r.toList ++ rest))) : W p l e R s m args below meth c H locs cells slots Q (F0 m pc ls st0) :=
  kx_go (va_runV S hM cw (kx_preV hK hP hD is hnd hC q0 he hc) rfl hn hsz hst (lv_room hW) hdg hf) hP hD hS is hC hlen h2 hadr kk
/-- invokevirtual, the callee only reads -/
theorem kx_VR {ci : Nat} {fs : List Value} {T : u_T} {N : Nat} (S : CallFix p m c cc nL s args Ts own) (hM : Met l y wy rm (kx_Pc D cl tys wc (.ref b :: As)) (kx_R r) 0 0 (fun _ => False)) (cw : CallW R s args own C index y bytes maxL ret wy rm 0 0 n) (hf : cells ≤ R.cells ∧ slots ≤ R.slots)
    (hK : va_K D cl tys s) (hP : va_P D cl ws H) (hD : va_D A ws) (is : List Nat) (hnd : va_nd is = true) (hC : is.map (fun i => ws[i]?) = wc.map some) (q0 : Nat) (he : wc[q0]? = some (b, .inr (ci, fs))) (hc : cl[ci]? = some (C, T, N))
    (hn : As.length = n) (hsz : ls.size = nL) (hst : st0 = As.reverse ++ .ref b :: rest) (hW : (rest.map fun v => v.category).sum ≤ 8) (hdg : decode cc pc = .ok (.invokevirtual index, 3))
    (kk : W p l e R s m args below meth c H locs cells slots Q (F0 m (pc + 3) ls (r.toList ++ rest))) : W p l e R s m args below meth c H locs cells slots Q (F0 m pc ls st0) :=
  kx_goR (va_runV S hM cw (kx_preV hK hP hD is hnd hC q0 he hc) rfl hn hsz hst (lv_room hW) hdg hf) kk
/-- invokestatic -/
theorem kx_S (S : CallFix p m c cc nL s args Ts own) (hM : Met l y wy rm (kx_Pc D cl tys wc As) (kx_Q D cl wc w1 r) 0 0 (kx_A wc)) (cw : CallB R s args own index y bytes maxL ret wy rm 0 0 n ∧ (Cond.static y).before args s = true) (hf : cells ≤ R.cells ∧ slots ≤ R.slots)
    (hK : va_K D cl tys s) (hP : va_P D cl ws H) (hD : va_D A ws) (hS : va_S A H0 H locs) (is : List Nat) (hnd : va_nd is = true) (hC : is.map (fun i => ws[i]?) = wc.map some) (hlen : w1.length = wc.length) (h2 : kx_set ws is w1 = ws2) (hadr : ws2.map (·.1) = ws.map (·.1))
    (hn : As.length = n) (hsz : ls.size = nL) (hst : st0 = As.reverse ++ rest) (hW : (rest.map fun v => v.category).sum ≤ 8) (hdg : decode cc pc = .ok (.invokestatic index, 3))
    (kk : ∀ (H1 : Heap) (locs1 : List Loc), va_P D cl ws2 H1 → va_D A ws2 → va_S A H0 H1 locs1 → W p l e R s m args below meth c H1 locs1 cells slots Q (F0 m (pc + 3) ls (r.toList ++ rest))) : W p l e R s m args below meth c H locs cells slots Q (F0 m pc ls st0) :=
  kx_go (va_runS S hM cw (kx_preS hK hP hD is hnd hC) rfl hn hsz hst (lv_room hW) hdg hf) hP hD hS is hC hlen h2 hadr kk
theorem kx_SR (S : CallFix p m c cc nL s args Ts own) (hM : Met l y wy rm (kx_Pc D cl tys wc As) (kx_R r) 0 0 (fun _ => False)) (cw : CallB R s args own index y bytes maxL ret wy rm 0 0 n ∧ (Cond.static y).before args s = true) (hf : cells ≤ R.cells ∧ slots ≤ R.slots)
    (hK : va_K D cl tys s) (hP : va_P D cl ws H) (hD : va_D A ws) (is : List Nat) (hnd : va_nd is = true) (hC : is.map (fun i => ws[i]?) = wc.map some)
    (hn : As.length = n) (hsz : ls.size = nL) (hst : st0 = As.reverse ++ rest) (hW : (rest.map fun v => v.category).sum ≤ 8) (hdg : decode cc pc = .ok (.invokestatic index, 3))
    (kk : W p l e R s m args below meth c H locs cells slots Q (F0 m (pc + 3) ls (r.toList ++ rest))) : W p l e R s m args below meth c H locs cells slots Q (F0 m pc ls st0) :=
  kx_goR (va_runS S hM cw (kx_preS hK hP hD is hnd hC) rfl hn hsz hst (lv_room hW) hdg hf) kk
end KXC
section KXR
variable {p : Program} {l : Launch} {e : Env} {R : Room} {s : State} {m : MethodId} {args : Array Value} {below : List Frame} {meth : Method} {c : Code} {H : Heap} {locs : List Loc} {cells slots : Nat} {Q : State → Prop}
variable {cc : ByteArray} {pc : Nat} {ls : Array Slot} {rest : List Value} {D : va_G} {cl : List vw_C} {A : Nat → Prop} {a : Nat} {tys : List (ClassId × FieldType)} {ws : va_W} {H0 : Heap}
/-- a row of an array of arrays -/
theorem kx_ald (hexec : p.tables.exec = Jvm.exec) (hb : c.code = cc) (hK : va_K D cl tys s) (hP : va_P D cl ws H) (q0 t0 : Nat) {cA : ClassId} {t : FieldType} {n : Nat} {f : Nat → Option Nat} (ha : ws[q0]? = some (a, .inl (cA, n, .inr (.inr (.inr (.inr f)))))) (ht : tys[t0]? = some (cA, .array t)) {i : Int32} (hin : vp_in i n) {v : Nat} (hv : f i.toNatClampNeg = some v) (hdg : decode cc pc = .ok (.aaload, 1))
    (kk : W p l e R s m args below meth c H locs cells slots Q (F0 m (pc + 1) ls (.ref v :: rest))) : W p l e R s m args below meth c H locs cells slots Q (F0 m pc ls (.int i :: .ref a :: rest)) := by
  have hlt : i.toNatClampNeg < n := Nat.not_le.mp fun q => hin (Or.inr q)
  have e1 : va_rf (f i.toNatClampNeg) = .ref v := by rw [hv]; rfl
  exact W.aald (v := .ref v) (ty := .array t) hexec hb (hP q0 _ ha) ((hK.2 t0 _ ht).1 n (fun j => va_rf (f j))) rfl (fun q => by cases q) (by show ¬ (i < 0 ∨ (arrV _ _ _).slots.size ≤ _); rw [arrV_size]; exact hin) (by show (arrV _ _ _).slots[_]? = _; rw [arrV_read _ _ hlt, e1]) rfl rfl hdg kk
theorem kx_RA {U : State} {c1 c2 : ClassId} {ty : FieldType} (h1 : va_RA U c1 ty) (h2 : va_RA U c2 ty) : c1 = c2 := by
  cases ty with
  | object C =>
    obtain ⟨_, _, _, _, _, e1⟩ := h1
    obtain ⟨_, _, _, _, _, e2⟩ := h2
    exact Option.some.inj (e1.symm.trans e2)
  | _ => exact Option.some.inj ((show U.vm.findClass _ = some c1 from h1).symm.trans (show U.vm.findClass _ = some c2 from h2))
/-- a new array of a class that the tables name already -/
theorem kx_newa (hexec : p.tables.exec = Jvm.exec) (hb : c.code = cc) {atype : ArrayType} (harr : (Cond.arrayClass (newarray.typeOf atype)).before args s = true) {ty : FieldType} (hty : newarray.typeOf atype = ty) (hK : va_K D cl tys s) (hP : va_P D cl ws H) (hD : va_D A ws) (hS : va_S A H0 H locs) (hA : ∀ q, H0.size ≤ q → A q) (t0 : Nat) {c0 : ClassId} (ht : tys[t0]? = some (c0, ty))
    {n : Int32} {N' : Nat} {a0 : vp_A} (ha : ∀ cA : ClassId, vp_cell cA a0 = arrV cA N' (fun _ => defaultValue ty)) (hn : ¬ n < 0) (hN : n.toNatClampNeg = N') (hbytes : N' * componentBytes ty ≤ 536870912) (hcells : cells + 1 ≤ R.cells) (hslots : slots + N' ≤ R.slots) (hdg : decode cc pc = .ok (.newarray atype, 2))
    (kk : ∀ (q : Nat) (H1 : Heap), va_P D cl (ws ++ [(q, .inl (c0, a0))]) H1 → va_D A (ws ++ [(q, .inl (c0, a0))]) → va_S A H0 H1 locs →
      W p l e R s m args below meth c H1 locs (cells + 1) (slots + N') Q (F0 m (pc + 2) ls (.ref q :: rest))) : W p l e R s m args below meth c H locs cells slots Q (F0 m pc ls (.int n :: rest)) := by
  refine va_newa hexec hb harr hty hK hP hD hS hA ha hn hN hbytes hcells hslots hdg (fun q cA H1 hK2 hP2 hD2 hS2 => ?_)
  have h1 := (hK2.2 tys.length (cA, ty) (by rw [List.getElem?_append_right (Nat.le_refl _)]; simp)).2
  have h2 := (hK.2 t0 (c0, ty) ht).2
  have e1 : cA = c0 := kx_RA h1 h2
  subst e1
  exact kk q H1 hP2 hD2 hS2
end KXR
section KXI
variable {p : Program} {l : Launch} {e : Env} {R : Room} {s : State} {m : MethodId} {args : Array Value} {below : List Frame} {meth : Method} {c : Code} {H : Heap} {locs : List Loc} {cells slots : Nat} {Q : State → Prop}
variable {cc : ByteArray} {pc : Nat} {ls : Array Slot} {rest : List Value} {D : va_G} {cl : List vw_C} {A : Nat → Prop} {a : Nat} {tys : List (ClassId × FieldType)} {ws ws' : va_W} {H0 : Heap}
theorem kx_iald (hexec : p.tables.exec = Jvm.exec) (hb : c.code = cc) (hK : va_K D cl tys s) (hP : va_P D cl ws H) (q0 t0 : Nat) {cA : ClassId} {n : Nat} {f : Nat → Int32} (ha : ws[q0]? = some (a, .inl (cA, n, .inl f))) (ht : tys[t0]? = some (cA, .int)) {i : Int32} (k : Nat) (hi : i = nI k) (hk : k < n) (hn : n < 2147483648) (hdg : decode cc pc = .ok (.iaload, 1))
    (kk : W p l e R s m args below meth c H locs cells slots Q (F0 m (pc + 1) ls (.int (f k) :: rest))) : W p l e R s m args below meth c H locs cells slots Q (F0 m pc ls (.int i :: .ref a :: rest)) := by
  subst hi
  refine va_iald hexec hb hK hP q0 t0 ha ht (vp_in_nI hk hn) hdg ?_
  rw [nI_clamp (show k < 2 ^ 31 by omega)]
  exact kk
theorem kx_bald (hexec : p.tables.exec = Jvm.exec) (hb : c.code = cc) (hK : va_K D cl tys s) (hP : va_P D cl ws H) (q0 t0 : Nat) {cA : ClassId} {n : Nat} {f : Nat → Int32} (ha : ws[q0]? = some (a, .inl (cA, n, .inl f))) (ht : tys[t0]? = some (cA, .byte)) {i : Int32} (k : Nat) (hi : i = nI k) (hk : k < n) (hn : n < 2147483648) (hdg : decode cc pc = .ok (.baload, 1))
    (kk : W p l e R s m args below meth c H locs cells slots Q (F0 m (pc + 1) ls (.int (f k) :: rest))) : W p l e R s m args below meth c H locs cells slots Q (F0 m pc ls (.int i :: .ref a :: rest)) := by
  subst hi
  refine va_bald hexec hb hK hP q0 t0 ha ht (vp_in_nI hk hn) hdg ?_
  rw [nI_clamp (show k < 2 ^ 31 by omega)]
  exact kk
theorem kx_zald (hexec : p.tables.exec = Jvm.exec) (hb : c.code = cc) (hK : va_K D cl tys s) (hP : va_P D cl ws H) (q0 t0 : Nat) {cA : ClassId} {n : Nat} {f : Nat → Int32} (ha : ws[q0]? = some (a, .inl (cA, n, .inl f))) (ht : tys[t0]? = some (cA, .boolean)) {i : Int32} (k : Nat) (hi : i = nI k) (hk : k < n) (hn : n < 2147483648) (hdg : decode cc pc = .ok (.baload, 1))
    (kk : W p l e R s m args below meth c H locs cells slots Q (F0 m (pc + 1) ls (.int (f k) :: rest))) : W p l e R s m args below meth c H locs cells slots Q (F0 m pc ls (.int i :: .ref a :: rest)) := by
  subst hi
  refine va_zald hexec hb hK hP q0 t0 ha ht (vp_in_nI hk hn) hdg ?_
  rw [nI_clamp (show k < 2 ^ 31 by omega)]
  exact kk
theorem kx_lald (hexec : p.tables.exec = Jvm.exec) (hb : c.code = cc) (hK : va_K D cl tys s) (hP : va_P D cl ws H) (q0 t0 : Nat) {cA : ClassId} {n : Nat} {f : Nat → Int64} (ha : ws[q0]? = some (a, .inl (cA, n, .inr (.inl f)))) (ht : tys[t0]? = some (cA, .long)) {i : Int32} (k : Nat) (hi : i = nI k) (hk : k < n) (hn : n < 2147483648) (hdg : decode cc pc = .ok (.laload, 1))
    (kk : W p l e R s m args below meth c H locs cells slots Q (F0 m (pc + 1) ls (.long (f k) :: rest))) : W p l e R s m args below meth c H locs cells slots Q (F0 m pc ls (.int i :: .ref a :: rest)) := by
  subst hi
  refine va_lald hexec hb hK hP q0 t0 ha ht (vp_in_nI hk hn) hdg ?_
  rw [nI_clamp (show k < 2 ^ 31 by omega)]
  exact kk
theorem kx_aald (hexec : p.tables.exec = Jvm.exec) (hb : c.code = cc) (hK : va_K D cl tys s) (hP : va_P D cl ws H) (q0 t0 : Nat) {cA : ClassId} {t : FieldType} {n : Nat} {f : Nat → Option Nat} (ha : ws[q0]? = some (a, .inl (cA, n, .inr (.inr (.inr (.inr f)))))) (ht : tys[t0]? = some (cA, .array t)) {i : Int32} (k : Nat) (hi : i = nI k) (hk : k < n) (hn : n < 2147483648) {v : Nat} (hv : f k = some v) (hdg : decode cc pc = .ok (.aaload, 1))
    (kk : W p l e R s m args below meth c H locs cells slots Q (F0 m (pc + 1) ls (.ref v :: rest))) : W p l e R s m args below meth c H locs cells slots Q (F0 m pc ls (.int i :: .ref a :: rest)) := by
  subst hi
  exact kx_ald hexec hb hK hP q0 t0 ha ht (vp_in_nI hk hn) (by rw [nI_clamp (show k < 2 ^ 31 by omega)]; exact hv) hdg kk
theorem kx_iast (hexec : p.tables.exec = Jvm.exec) (hb : c.code = cc) (hK : va_K D cl tys s) (hP : va_P D cl ws H) (hD : va_D A ws) (hS : va_S A H0 H locs) (q0 t0 : Nat) {cA : ClassId} {n : Nat} {f : Nat → Int32} (ha : ws[q0]? = some (a, .inl (cA, n, .inl f))) (ht : tys[t0]? = some (cA, .int)) {i x : Int32} (k : Nat) (hi : i = nI k) (hk : k < n) (hn : n < 2147483648) (h2 : ws.set q0 (a, .inl (cA, n, .inl (upd f k x))) = ws') (hdg : decode cc pc = .ok (.iastore, 1))
    (kk : ∀ (H1 : Heap) (locs1 : List Loc), va_P D cl ws' H1 → va_D A ws' → va_S A H0 H1 locs1 → W p l e R s m args below meth c H1 locs1 cells slots Q (F0 m (pc + 1) ls rest)) : W p l e R s m args below meth c H locs cells slots Q (F0 m pc ls (.int x :: .int i :: .ref a :: rest)) := by
  subst hi; subst h2
  refine va_iast hexec hb hK hP hD hS q0 t0 ha ht (vp_in_nI hk hn) hdg ?_
  rw [nI_clamp (show k < 2 ^ 31 by omega)]
  exact kk
theorem kx_bast (hexec : p.tables.exec = Jvm.exec) (hb : c.code = cc) (hK : va_K D cl tys s) (hP : va_P D cl ws H) (hD : va_D A ws) (hS : va_S A H0 H locs) (q0 t0 : Nat) {cA : ClassId} {n : Nat} {f : Nat → Int32} (ha : ws[q0]? = some (a, .inl (cA, n, .inl f))) (ht : tys[t0]? = some (cA, .byte)) {i x : Int32} (k : Nat) (hi : i = nI k) (hk : k < n) (hn : n < 2147483648) (h2 : ws.set q0 (a, .inl (cA, n, .inl (upd f k (vp_nar .byte x)))) = ws') (hdg : decode cc pc = .ok (.bastore, 1))
    (kk : ∀ (H1 : Heap) (locs1 : List Loc), va_P D cl ws' H1 → va_D A ws' → va_S A H0 H1 locs1 → W p l e R s m args below meth c H1 locs1 cells slots Q (F0 m (pc + 1) ls rest)) : W p l e R s m args below meth c H locs cells slots Q (F0 m pc ls (.int x :: .int i :: .ref a :: rest)) := by
  subst hi; subst h2
  refine va_bast hexec hb hK hP hD hS q0 t0 ha ht (vp_in_nI hk hn) hdg ?_
  rw [nI_clamp (show k < 2 ^ 31 by omega)]
  exact kk
theorem kx_zast (hexec : p.tables.exec = Jvm.exec) (hb : c.code = cc) (hK : va_K D cl tys s) (hP : va_P D cl ws H) (hD : va_D A ws) (hS : va_S A H0 H locs) (q0 t0 : Nat) {cA : ClassId} {n : Nat} {f : Nat → Int32} (ha : ws[q0]? = some (a, .inl (cA, n, .inl f))) (ht : tys[t0]? = some (cA, .boolean)) {i x : Int32} (k : Nat) (hi : i = nI k) (hk : k < n) (hn : n < 2147483648) (hx : vp_nar .boolean x = x) (h2 : ws.set q0 (a, .inl (cA, n, .inl (upd f k x))) = ws') (hdg : decode cc pc = .ok (.bastore, 1))
    (kk : ∀ (H1 : Heap) (locs1 : List Loc), va_P D cl ws' H1 → va_D A ws' → va_S A H0 H1 locs1 → W p l e R s m args below meth c H1 locs1 cells slots Q (F0 m (pc + 1) ls rest)) : W p l e R s m args below meth c H locs cells slots Q (F0 m pc ls (.int x :: .int i :: .ref a :: rest)) := by
  subst hi; subst h2
  refine va_zast hexec hb hK hP hD hS q0 t0 ha ht (vp_in_nI hk hn) hdg ?_
  rw [nI_clamp (show k < 2 ^ 31 by omega), hx]
  exact kk
theorem kx_last (hexec : p.tables.exec = Jvm.exec) (hb : c.code = cc) (hK : va_K D cl tys s) (hP : va_P D cl ws H) (hD : va_D A ws) (hS : va_S A H0 H locs) (q0 t0 : Nat) {cA : ClassId} {n : Nat} {f : Nat → Int64} (ha : ws[q0]? = some (a, .inl (cA, n, .inr (.inl f)))) (ht : tys[t0]? = some (cA, .long)) {i : Int32} {x : Int64} (k : Nat) (hi : i = nI k) (hk : k < n) (hn : n < 2147483648) (h2 : ws.set q0 (a, .inl (cA, n, .inr (.inl (vp_updL f k x)))) = ws') (hdg : decode cc pc = .ok (.lastore, 1))
    (kk : ∀ (H1 : Heap) (locs1 : List Loc), va_P D cl ws' H1 → va_D A ws' → va_S A H0 H1 locs1 → W p l e R s m args below meth c H1 locs1 cells slots Q (F0 m (pc + 1) ls rest)) : W p l e R s m args below meth c H locs cells slots Q (F0 m pc ls (.long x :: .int i :: .ref a :: rest)) := by
  subst hi; subst h2
  refine va_last hexec hb hK hP hD hS q0 t0 ha ht (vp_in_nI hk hn) hdg ?_
  rw [nI_clamp (show k < 2 ^ 31 by omega)]
  exact kk
end KXI
theorem kx_Ri {v w : Int32} {args : Array Value} {s t : State} (h : v = w) (ht : t.heap = s.heap) : kx_R (some (.int w)) args s (.returned (some (.int v))) t := ⟨by rw [h], ht⟩
theorem kx_Qi {D : va_G} {cl : List vw_C} {ws ws' ws1 : va_W} {A : Nat → Prop} {H : Heap} {locs : List Loc} {v w : Int32} {args : Array Value} {s t : State} (h : v = w) (ht : t.heap = H) (hP : va_P D cl ws1 H) (hw : ws1 = ws') (hS : va_S A s.heap H locs) (hA : A = kx_A ws) : kx_Q D cl ws ws' (some (.int w)) args s (.returned (some (.int v))) t := ⟨by rw [h], by rw [ht, ← hw]; exact hP, by subst hA; exact hS.F ht⟩
theorem kx_Qv {D : va_G} {cl : List vw_C} {ws ws' ws1 : va_W} {A : Nat → Prop} {H : Heap} {locs : List Loc} {args : Array Value} {s t : State} (ht : t.heap = H) (hP : va_P D cl ws1 H) (hw : ws1 = ws') (hS : va_S A s.heap H locs) (hA : A = kx_A ws) : kx_Q D cl ws ws' none args s (.returned none) t := ⟨rfl, by rw [ht, ← hw]; exact hP, by subst hA; exact hS.F ht⟩
section KXP
variable {p : Program} {l : Launch} {e : Env} {R : Room} {s : State} {m : MethodId} {args : Array Value} {below : List Frame} {meth : Method} {c : Code} {H : Heap} {locs : List Loc} {cells slots : Nat} {Q : State → Prop}
variable {cc : ByteArray} {pc : Nat} {ls : Array Slot} {rest : List Value} {D : va_G} {cl : List vw_C} {A : Nat → Prop} {a : Nat} {tys : List (ClassId × FieldType)} {ws ws' : va_W} {H0 : Heap}
theorem kx_put (hexec : p.tables.exec = Jvm.exec) (hb : c.code = cc) {own ref C : String} {T : u_T} {N ci index : Nat} {Ts : List Cond} (hts : ∀ w ∈ Ts, w.before args s = true) (hin : ∀ w ∈ u_ws C T N, w ∈ Ts) (ty0 : Nat → FieldType) (hty : ∀ k, k < N → parseFieldDescriptor (T k).2.2.1 = some (ty0 k)) (hnm : ∀ a, a < N → ∀ b, b < N → a ≠ b → (T a).2.1 ≠ (T b).2.1) (hown : s.vm.findClass own = some m.cls) (hK : va_K D cl tys s) (hP : va_P D cl ws H) (hD : va_D A ws) (hS0 : va_S A H0 H locs) (q0 : Nat) {fs : List Value} (he : ws[q0]? = some (a, .inr (ci, fs))) (hc : cl[ci]? = some (C, T, N)) (k : Nat) (hk : k < N) (hlink : (Cond.fieldLink own index ref (T k).2.1 (T k).2.2.1).before args s = true) (hsame : ∀ x, s.fieldFound? (T k).1 (T k).2.1 (T k).2.2.1 = some x → s.fieldFound? ref (T k).2.1 (T k).2.2.1 = some x) (hfin : (T k).2.2.2 = false) {ty : FieldType} {v : Value} (hd : parseFieldDescriptor (T k).2.2.1 = some ty) (hn : narrow ty v = v) (hfit : fits ty v = true) (hl : k < fs.length) (h2 : ws.set q0 (a, .inr (ci, fs.set k v)) = ws')
    (hdg : decode cc pc = .ok (.putfield index, 3)) (kk : ∀ (H1 : Heap) (locs1 : List Loc), va_P D cl ws' H1 → va_D A ws' → va_S A H0 H1 locs1 → W p l e R s m args below meth c H1 locs1 cells slots Q (F0 m (pc + 3) ls rest)) : W p l e R s m args below meth c H locs cells slots Q (F0 m pc ls (v :: .ref a :: rest)) := by
  subst h2
  exact va_put hexec hb hts hin ty0 hty hnm hown hK hP hD hS0 q0 he hc k hk hlink hsame hfin hd hn hfit hl hdg kk
theorem kx_putF (hexec : p.tables.exec = Jvm.exec) (hb : c.code = cc) {own ref C : String} {T : u_T} {N ci index : Nat} {Ts : List Cond} (hts : ∀ w ∈ Ts, w.before args s = true) (hin : ∀ w ∈ u_ws C T N, w ∈ Ts) (ty0 : Nat → FieldType) (hty : ∀ k, k < N → parseFieldDescriptor (T k).2.2.1 = some (ty0 k)) (hnm : ∀ a, a < N → ∀ b, b < N → a ≠ b → (T a).2.1 ≠ (T b).2.1) (hown : s.vm.findClass own = some m.cls) (hK : va_K D cl tys s) (hP : va_P D cl ws H) (hD : va_D A ws) (hS0 : va_S A H0 H locs) (q0 : Nat) {fs : List Value} (he : ws[q0]? = some (a, .inr (ci, fs))) (hc : cl[ci]? = some (C, T, N)) (k : Nat) (hk : k < N) (hlink : (Cond.fieldLink own index ref (T k).2.1 (T k).2.2.1).before args s = true) (hsame : ∀ x, s.fieldFound? (T k).1 (T k).2.1 (T k).2.2.1 = some x → s.fieldFound? ref (T k).2.1 (T k).2.2.1 = some x) (hfin : (T k).2.2.2 = true) (hin2 : meth.name = "<init>") (hdecl : (T k).1 = own) {ty : FieldType} {v : Value} (hd : parseFieldDescriptor (T k).2.2.1 = some ty) (hn : narrow ty v = v) (hfit : fits ty v = true) (hl : k < fs.length) (h2 : ws.set q0 (a, .inr (ci, fs.set k v)) = ws')
    (hdg : decode cc pc = .ok (.putfield index, 3)) (kk : ∀ (H1 : Heap) (locs1 : List Loc), va_P D cl ws' H1 → va_D A ws' → va_S A H0 H1 locs1 → W p l e R s m args below meth c H1 locs1 cells slots Q (F0 m (pc + 3) ls rest)) : W p l e R s m args below meth c H locs cells slots Q (F0 m pc ls (v :: .ref a :: rest)) := by
  subst h2
  exact va_putF hexec hb hts hin ty0 hty hnm hown hK hP hD hS0 q0 he hc k hk hlink hsame hfin hin2 hdecl hd hn hfit hl hdg kk
end KXP
section KXCP
variable {p : Program} {l : Launch} {e : Env} {R : Room} {s : State} {m : MethodId} {args : Array Value} {below : List Frame} {meth : Method} {c : Code} {H : Heap} {locs : List Loc} {cells slots : Nat} {Q : State → Prop}
variable {cc : ByteArray} {pc : Nat} {ls : Array Slot} {rest : List Value} {D : va_G} {cl : List vw_C} {A : Nat → Prop} {a : Nat} {tys : List (ClassId × FieldType)} {ws ws' : va_W} {H0 : Heap}
theorem kx_copy (hexec : p.tables.exec = Jvm.exec) (hb : c.code = cc) (hml : c.maxLocals = ls.size) {own : String} {index : Nat} (hown : s.vm.findClass own = some m.cls) (hlink : (Cond.methodLink own index arraycopyName).before args s = true) (hnat : (Cond.native arraycopyName).before args s = true) (hstat : (Cond.static arraycopyName).before args s = true) (hini : (Cond.initialized "java/lang/System").before args s = true)
    (hK : va_K D cl tys s) (hP : va_P D cl ws H) (hD : va_D A ws) (hS : va_S A H0 H locs) (q0 q1 t0 t1 : Nat) {a0 : Nat} {c0 c1 : ClassId} {n0 n1 : Nat} {f g : Nat → Int32} {ty : FieldType} (ha0 : ws[q0]? = some (a0, .inl (c0, n0, .inl f))) (ha1 : ws[q1]? = some (a, .inl (c1, n1, .inl g))) (ht0 : tys[t0]? = some (c0, ty)) (ht1 : tys[t1]? = some (c1, ty)) (hprim : refKind ty = false)
    {sp dp n : Int32} (ks kd kn : Nat) (e1 : sp = nI ks) (e2 : dp = nI kd) (e3 : n = nI kn) (h4 : ks + kn ≤ n0) (h5 : kd + kn ≤ n1) (b0 : n0 < 2147483648) (b1 : n1 < 2147483648) (hfit : ∀ i, i < kn → fits ty (.int (f (ks + i))) = true) (h2 : ws.set q1 (a, .inl (c1, n1, .inl (va_cpy f g ks kd kn))) = ws')
    (hframes : 1 ≤ R.frames) (hlocals : (rest.map fun v => v.category).sum + (nativeFrameWords "java/lang/System" "arraycopy" 5 + 11) ≤ R.locals) (hdg : decode cc pc = .ok (.invokestatic index, 3))
    (kk : ∀ (H1 : Heap) (locs1 : List Loc), va_P D cl ws' H1 → va_D A ws' → va_S A H0 H1 locs1 → W p l e R s m args below meth c H1 locs1 cells slots Q (F0 m (pc + 3) ls rest)) : W p l e R s m args below meth c H locs cells slots Q (F0 m pc ls (.int n :: .int dp :: .ref a :: .int sp :: .ref a0 :: rest)) := by
  subst e1; subst e2; subst e3; subst h2
  have c1' : (nI ks).toNatClampNeg = ks := nI_clamp (by omega)
  have c2' : (nI kd).toNatClampNeg = kd := nI_clamp (by omega)
  have c3' : (nI kn).toNatClampNeg = kn := nI_clamp (by omega)
  refine va_copyi hexec hb hml hown hlink hnat hstat hini hK hP hD hS q0 q1 t0 t1 ha0 ha1 ht0 ht1 hprim (nI_pos (by omega)) (nI_pos (by omega)) (nI_pos (by omega)) (by rw [c1', c3']; exact h4) (by rw [c2', c3']; exact h5) (fun i hi => by rw [c1']; exact hfit i (by rw [c3'] at hi; exact hi)) hframes hlocals hdg ?_
  rw [c1', c2', c3']
  exact kk
end KXCP
section KXW
variable {p : Program} {l : Launch} {e : Env} {R : Room} {s : State} {m : MethodId} {args : Array Value} {below : List Frame} {meth : Method} {c : Code} {H : Heap} {locs : List Loc} {cells slots : Nat} {Q : State → Prop}
variable {pc : Nat} {ls : Array Slot} {rest st0 : List Value} {A : Nat → Prop} {H0 : Heap} {D : va_G} {cl : List vw_C} {tys : List (ClassId × FieldType)} {ws w1 : va_W} {r : Option Value}
variable {y : MethodName} {bytes cc : ByteArray} {maxL nL n index : Nat} {ret : Option FieldType} {wy : List Cond} {rm : Room} {Ts : List Cond} {own C : String} {b : Addr} {As : List Value}
/-- invokevirtual, the callee takes the whole world and gives it back changed -/
theorem kx_VW {ci : Nat} {fs : List Value} {T : u_T} {N : Nat} (S : CallFix p m c cc nL s args Ts own) (hM : Met l y wy rm (kx_Pc D cl tys ws (.ref b :: As)) (kx_Q D cl ws w1 r) 0 0 (kx_A ws)) (cw : CallW R s args own C index y bytes maxL ret wy rm 0 0 n) (hf : cells ≤ R.cells ∧ slots ≤ R.slots)
    (hK : va_K D cl tys s) (hP : va_P D cl ws H) (hD : va_D A ws) (hS : va_S A H0 H locs) (q0 : Nat) (he : ws[q0]? = some (b, .inr (ci, fs))) (hc : cl[ci]? = some (C, T, N)) (hadr : w1.map (·.1) = ws.map (·.1))
    (hn : As.length = n) (hsz : ls.size = nL) (hst : st0 = As.reverse ++ .ref b :: rest) (hW : (rest.map fun v => v.category).sum ≤ 8) (hdg : decode cc pc = .ok (.invokevirtual index, 3))
    (kk : ∀ (H1 : Heap) (locs1 : List Loc), va_P D cl w1 H1 → va_D A w1 → va_S A H0 H1 locs1 → W p l e R s m args below meth c H1 locs1 cells slots Q (F0 m (pc + 3) ls (r.toList ++ rest))) : W p l e R s m args below meth c H locs cells slots Q (F0 m pc ls st0) := by
  have hr := va_runV (R := R) (below := below) (meth := meth) (e := e) (locs := locs) (cells := cells) (slots := slots) (g := F0 m pc ls st0) (rest := rest) S hM cw ⟨kx_blind, va_recv hK hP hc he, fun U hU hW => ⟨rfl, by rw [hU]; exact hP, va_K.moved hW.alike hK, hD.weaken (fun _ _ _ _ => trivial)⟩⟩ rfl hn hsz hst (lv_room hW) hdg hf
  intro T hT X
  obtain ⟨v, st₀, t, T', L, h0, X', hL, e1, e2, ⟨hv, hP1, hz, hk⟩, st⟩ := hr T hT X
  cases hv
  rw [h0] at hz hk
  have hF : ∀ q, kx_A ws q → A q := fun q ⟨k, e, h⟩ => hD.2 k _ h
  obtain ⟨t2, a1, b1⟩ := kk T'.heap (locs ++ L) (by rw [e1]; exact hP1) (kx_D.eq hD hadr)
    ⟨Nat.le_trans hS.1 (by rw [e1]; exact hz), fun q h1 h3 => by rw [e1, hk q (Nat.lt_of_lt_of_le h1 hS.1) (fun z => h3 (hF q z))]; exact hS.2.1 q h1 h3, fun q hq => by
      rcases List.mem_append.mp hq with h | h
      · exact hS.2.2 q h
      · exact hF _ (hL q h)⟩ T' rfl X'
  exact ⟨t2, st t2 a1, b1⟩
/-- the same, the callee only reads -/
theorem kx_VRW {ci : Nat} {fs : List Value} {T : u_T} {N : Nat} (S : CallFix p m c cc nL s args Ts own) (hM : Met l y wy rm (kx_Pc D cl tys ws (.ref b :: As)) (kx_R r) 0 0 (fun _ => False)) (cw : CallW R s args own C index y bytes maxL ret wy rm 0 0 n) (hf : cells ≤ R.cells ∧ slots ≤ R.slots)
    (hK : va_K D cl tys s) (hP : va_P D cl ws H) (hD : va_D A ws) (q0 : Nat) (he : ws[q0]? = some (b, .inr (ci, fs))) (hc : cl[ci]? = some (C, T, N))
    (hn : As.length = n) (hsz : ls.size = nL) (hst : st0 = As.reverse ++ .ref b :: rest) (hW : (rest.map fun v => v.category).sum ≤ 8) (hdg : decode cc pc = .ok (.invokevirtual index, 3))
    (kk : W p l e R s m args below meth c H locs cells slots Q (F0 m (pc + 3) ls (r.toList ++ rest))) : W p l e R s m args below meth c H locs cells slots Q (F0 m pc ls st0) :=
  kx_goR (va_runV S hM cw ⟨kx_blind, va_recv hK hP hc he, fun U hU hW => ⟨rfl, by rw [hU]; exact hP, va_K.moved hW.alike hK, hD.weaken (fun _ _ _ _ => trivial)⟩⟩ rfl hn hsz hst (lv_room hW) hdg hf) kk
end KXW
end
section
/-- the array classes: int, long, byte, boolean, int[] -/
abbrev tyL (k5 : Nat → ClassId) : List (ClassId × FieldType) := [(k5 0, .int), (k5 1, .long), (k5 2, .byte), (k5 3, .boolean), (k5 4, .array .int)]
/-! the class's state as numbers and functions; what its methods do to it -/
/-- a group: taken, rowsTaken, block, rowOfBlock, bytes -/
abbrev GG : Type := Int32 × Int32 × (Nat → Int32) × (Nat → Int32) × (Nat → Int32)
/-- labels: scalars (0 made, 1 counting), arrays (0, 1 firstHalf, 2, 3 lastHalf, 4, 5 told, 6 number, 7 ofGroup) -/
abbrev LL : Type := (Nat → Int32) × (Nat → Nat → Int32)
/-- the rest: disks, rows, power, mark, rotten, kept -/
abbrev PP : Type := Int32 × Int32 × Int32 × (Nat → Int32) × (Nat → Int64) × (Nat → Int32)
abbrev SS : Type := PP × GG × GG × LL
def bI (b : Bool) : Int32 := if b then 1 else 0
def oI (o : Option Nat) : Int32 := match o with | some i => nI i | none => -1
/-- the first place below t where f is x -/
def gFind (f : Nat → Int32) (x : Int32) : Nat → Option Nat
  | 0 => none
  | t + 1 => match gFind f x t with
    | some i => some i
    | none => if f t = x then some t else none
theorem gFind_none {f : Nat → Int32} {x : Int32} : ∀ {t : Nat}, (∀ j, j < t → ¬ f j = x) → gFind f x t = none
  | 0, _ => rfl
  | t + 1, h => by
    rw [gFind, gFind_none (fun j hj => h j (by omega))]
    simp [h t (by omega)]
theorem gFind_some {f : Nat → Int32} {x : Int32} {i : Nat} (hi : f i = x) (h : ∀ j, j < i → ¬ f j = x) : ∀ {t : Nat}, i < t → gFind f x t = some i
  | 0, hlt => absurd hlt (by omega)
  | t + 1, hlt => by
    rw [gFind]
    rcases Nat.lt_or_ge i t with q | q
    · rw [gFind_some hi h q]
    · have e : i = t := by omega
      subst e
      rw [gFind_none h]
      simp [hi]
theorem gFind_not {f : Nat → Int32} {x : Int32} : ∀ {t : Nat}, gFind f x t = none → ∀ j, j < t → ¬ f j = x
  | 0, _, j, hj => absurd hj (by omega)
  | t + 1, h, j, hj => by
    rw [gFind] at h
    cases hg : gFind f x t with
    | some k => rw [hg] at h; simp at h
    | none =>
      rw [hg] at h
      by_cases hx : f t = x
      · simp [hx] at h
      · rcases Nat.lt_or_ge j t with q | q
        · exact gFind_not hg j q
        · have e : j = t := by omega
          subst e
          exact hx
theorem gFind_spec {f : Nat → Int32} {x : Int32} : ∀ {t i : Nat}, gFind f x t = some i → i < t ∧ f i = x ∧ ∀ j, j < i → ¬ f j = x
  | 0, i, h => by simp [gFind] at h
  | t + 1, i, h => by
    rw [gFind] at h
    cases hg : gFind f x t with
    | some k =>
      rw [hg] at h
      have e : k = i := by simpa using h
      subst e
      obtain ⟨h1, h2, h3⟩ := gFind_spec hg
      exact ⟨by omega, h2, h3⟩
    | none =>
      rw [hg] at h
      by_cases hx : f t = x
      · have e : t = i := by simpa [hx] using h
        subst e
        exact ⟨by omega, hx, fun j hj => gFind_not hg j hj⟩
      · simp [hx] at h
/-- n places from a on filled with v -/
def fillF (f : Nat → Int32) (v : Int32) (a : Nat) : Nat → Nat → Int32
  | 0 => f
  | n + 1 => upd (fillF f v a n) (a + n) v
def fill0 (f : Nat → Int32) (v : Int32) : Nat → Nat → Int32
  | 0 => f
  | n + 1 => upd (fill0 f v n) n v
def fillL (f : Nat → Int64) (v : Int64) : Nat → Nat → Int64
  | 0 => f
  | n + 1 => vp_updL (fillL f v n) n v
theorem fillF_at {f : Nat → Int32} {v : Int32} {a : Nat} : ∀ (n j : Nat), fillF f v a n j = if a ≤ j ∧ j < a + n then v else f j
  | 0, j => by rw [if_neg (by omega)]; rfl
  | n + 1, j => by
    show upd (fillF f v a n) (a + n) v j = _
    by_cases e : j = a + n
    · subst e; rw [pk_us, if_pos (by omega)]
    · rw [pk_un e, fillF_at n j]
      by_cases h : a ≤ j ∧ j < a + n
      · rw [if_pos h, if_pos (by omega)]
      · rw [if_neg h, if_neg (by omega)]
theorem fill0_at {f : Nat → Int32} {v : Int32} : ∀ (n j : Nat), fill0 f v n j = if j < n then v else f j
  | 0, j => by rw [if_neg (by omega)]; rfl
  | n + 1, j => by
    show upd (fill0 f v n) n v j = _
    by_cases e : j = n
    · subst e; rw [pk_us, if_pos (by omega)]
    · rw [pk_un e, fill0_at n j]
      by_cases h : j < n
      · rw [if_pos h, if_pos (by omega)]
      · rw [if_neg h, if_neg (by omega)]
theorem fillL_at {f : Nat → Int64} {v : Int64} : ∀ (n j : Nat), fillL f v n j = if j < n then v else f j
  | 0, j => by rw [if_neg (by omega)]; rfl
  | n + 1, j => by
    show vp_updL (fillL f v n) n v j = _
    by_cases e : j = n
    · subst e; rw [pk_uLs, if_pos (by omega)]
    · rw [pk_uLn e, fillL_at n j]
      by_cases h : j < n
      · rw [if_pos h, if_pos (by omega)]
      · rw [if_neg h, if_neg (by omega)]
/-- how many of the first n have p -/
def cnt (p : Nat → Bool) : Nat → Nat
  | 0 => 0
  | n + 1 => cnt p n + (if p n then 1 else 0)
theorem cnt_le (p : Nat → Bool) : ∀ n, cnt p n ≤ n
  | 0 => Nat.le_refl 0
  | n + 1 => by
    have := cnt_le p n
    rw [cnt]
    split <;> omega
theorem cnt_congr {p q : Nat → Bool} : ∀ {n : Nat}, (∀ j, j < n → p j = q j) → cnt p n = cnt q n
  | 0, _ => rfl
  | n + 1, h => by rw [cnt, cnt, cnt_congr (fun j hj => h j (by omega)), h n (by omega)]
/-! labels -/
def gr2 (x y : Nat) : Nat → Option Nat := fun j => if j = 0 then some x else if j = 1 then some y else none
def lDraft (w : Nat) (tg : Int32) (fm : Nat → Int32) (L : LL) : LL := (va_up L.1 0 (L.1 0 + 1), va_up (va_up (va_up L.2 6 (upd (L.2 6) w (L.1 0 + 1))) 7 (upd (L.2 7) w tg)) (4 + w) (va_cpy fm (L.2 (4 + w)) 0 0 8))
def lTell (w d : Nat) (mk : Int32) (L : LL) : LL := (L.1, va_up L.2 (4 + w) (upd (L.2 (4 + w)) d mk))
def lCounts (L : LL) : LL := (va_up L.1 1 (1 - L.1 1), L.2)
def lP1 (w d : Nat) (part : Int32) (L : LL) : LL := if part = 1 ∨ part = 2 then (L.1, va_up L.2 w (upd (L.2 w) d (L.2 6 w))) else L
def lP2 (w d : Nat) (part : Int32) (L : LL) : LL := if part = 1 ∨ part = 3 then (L.1, va_up L.2 (2 + w) (upd (L.2 (2 + w)) d (L.2 6 w))) else L
def lPut (w d : Nat) (part : Int32) (L : LL) : LL := lP2 w d part (lP1 w d part L)
def lWipe (d : Nat) (L : LL) : LL := (L.1, va_up (va_up (va_up (va_up L.2 0 (upd (L.2 0) d 0)) 2 (upd (L.2 2) d 0)) 1 (upd (L.2 1) d 0)) 3 (upd (L.2 3) d 0))
def lHas (w d : Nat) (L : LL) : Bool := decide (¬ L.2 w d = 0) && decide (L.2 w d = L.2 (2 + w) d)
def lSome (d : Nat) (L : LL) : Bool := lHas 0 d L || lHas 1 d L
def lScan (L : LL) (w : Nat) : Nat → Int32 × Int32 → Int32 × Int32
  | 0, x => x
  | n + 1, x => if lHas w n L = true ∧ (lScan L w n x).1 < L.2 w n then (L.2 w n, nI w) else lScan L w n x
def lFind (L : LL) : LL := (va_up L.1 1 (lScan L 1 8 (lScan L 0 8 (0, L.1 1))).2, L.2)
/-! the class: what its private methods compute -/
def rBit (x : Int64) (row : Int32) : Bool := !decide (((x.toUInt64 >>> (row.toInt64.toUInt64 &&& Int64.toUInt64 63)).toInt64 &&& 1) = 0)
abbrev pMk (P : PP) : Nat → Int32 := P.2.2.2.1
abbrev pRt (P : PP) : Nat → Int64 := P.2.2.2.2.1
abbrev pKp (P : PP) : Nat → Int32 := P.2.2.2.2.2
def pPow (v : Int32) (P : PP) : PP := (P.1, P.2.1, v, P.2.2.2)
def pMark (f : Nat → Int32) (P : PP) : PP := (P.1, P.2.1, P.2.2.1, f, P.2.2.2.2)
def pRot (f : Nat → Int64) (P : PP) : PP := (P.1, P.2.1, P.2.2.1, P.2.2.2.1, f, P.2.2.2.2.2)
def pKeep (f : Nat → Int32) (P : PP) : PP := (P.1, P.2.1, P.2.2.1, P.2.2.2.1, P.2.2.2.2.1, f)
def pGone (P : PP) (d : Nat) (row : Int32) : Bool := decide (pMk P d ≤ row) || rBit (pRt P d) row
def pGoneIn (P : PP) (row : Int32) (n : Nat) : Nat := cnt (fun d => pGone P d row) n
def pRotIn (P : PP) (row : Int32) (n : Nat) : Nat := cnt (fun d => rBit (pRt P d) row) n
def pMarked (P : PP) (lo hi : Int32) (n : Nat) : Nat := cnt (fun d => decide (lo ≤ pMk P d) && decide (pMk P d ≤ hi)) n
def pPart (bits : Int64) (u : Nat) : Int32 := (bits.toUInt64 >>> ((2 * nI u).toInt64.toUInt64 &&& Int64.toUInt64 63)).toInt64.toInt32 &&& 3
/-- a label written on the first d disks that are not lost: the halves, and how many were under way -/
def pWrite (P : PP) (bits : Int64) (w : Nat) : Nat → LL → LL × Nat
  | 0, L => (L, 0)
  | d + 1, L => if pMk P d = -1 then pWrite P bits w d L else (lPut w d (pPart bits (pWrite P bits w d L).2) (pWrite P bits w d L).1, (pWrite P bits w d L).2 + 1)
/-- the label that counts written again on the first d disks that have some label -/
def pAgain (bits : Int64) (w : Nat) : Nat → LL → LL × Nat
  | 0, L => (L, 0)
  | d + 1, L => if lSome d (pAgain bits w d L).1 = true then (lPut w d (pPart bits (pAgain bits w d L).2) (pAgain bits w d L).1, (pAgain bits w d L).2 + 1) else pAgain bits w d L
/-- marks as the label of row w tells them -/
def pTold (P : PP) (L : LL) (w n : Nat) : Nat → Int32 := fun d => if d < n ∧ ¬ pMk P d = -1 then (if lSome d L = true then L.2 (4 + w) d else 0) else pMk P d
def gUse (G : GG) : Int32 := if G.1 = 0 then 0 else 1 + G.1 + 2 * G.2.1
def gClear (G : GG) : GG := (0, 0, G.2.2)
def gMore (G : GG) (t : Nat) (row : Int32) : Int32 := 1 + G.1 + 1 + 2 * (if oI (gFind G.2.2.2.1 row t) < 0 then G.2.1 + 1 else G.2.1)
def gTake (b t : Nat) (row : Int32) (kp : Nat → Int32) (G : GG) : GG := (G.1 + 1, (if oI (gFind G.2.2.2.1 row t) < 0 then G.2.1 + 1 else G.2.1), upd G.2.2.1 t (nI b), upd G.2.2.2.1 t row, va_cpy kp G.2.2.2.2 (b * 64) (t * 64) 64)
def gSet (k n : Nat) (v : Int32) (G : GG) : GG := (G.1, G.2.1, G.2.2.1, G.2.2.2.1, fillF G.2.2.2.2 (vp_nar .byte v) k n)
def gBecome (t : Nat) (O G : GG) : GG := (O.1, O.2.1, va_cpy O.2.2.1 G.2.2.1 0 0 t, va_cpy O.2.2.2.1 G.2.2.2.1 0 0 t, va_cpy O.2.2.2.2 G.2.2.2.2 0 0 (t * 64))
/-- the blocks of the first t places laid into the kept bytes -/
def gKeep (G : GG) : Nat → (Nat → Int32) → Nat → Int32
  | 0, kp => kp
  | t + 1, kp => va_cpy G.2.2.2.2 (gKeep G t kp) (t * 64) ((G.2.2.1 t).toNatClampNeg * 64) 64
theorem bI_0 {b : Bool} : bI b = 0 ↔ b = false := by cases b <;> decide
theorem bI_f {b : Bool} (h : bI b = 0) : b = false := bI_0.mp h
theorem bI_t {b : Bool} (h : ¬ bI b = 0) : b = true := by cases b with | true => rfl | false => exact absurd rfl h
theorem cnt_t {p : Nat → Bool} {n : Nat} (h : p n = true) : nI (cnt p n) + 1 = nI (cnt p (n + 1)) := by rw [nI_1, cnt, if_pos h]
theorem cnt_f {p : Nat → Bool} {n : Nat} (h : p n = false) : cnt p (n + 1) = cnt p n := by rw [cnt, h]; rfl
theorem lP1_sc (w d : Nat) (part : Int32) (L : LL) : (lP1 w d part L).1 = L.1 := by unfold lP1; split <;> rfl
theorem lP2_sc (w d : Nat) (part : Int32) (L : LL) : (lP2 w d part L).1 = L.1 := by unfold lP2; split <;> rfl
theorem lPut_sc (w d : Nat) (part : Int32) (L : LL) : (lPut w d part L).1 = L.1 := by unfold lPut; rw [lP2_sc, lP1_sc]
theorem pWrite_sc (P : PP) (bits : Int64) (w : Nat) (L : LL) : ∀ d, (pWrite P bits w d L).1.1 = L.1
  | 0 => rfl
  | d + 1 => by
    rw [pWrite]
    split
    · exact pWrite_sc P bits w L d
    · rw [lPut_sc]; exact pWrite_sc P bits w L d
theorem pAgain_sc (bits : Int64) (w : Nat) (L : LL) : ∀ d, (pAgain bits w d L).1.1 = L.1
  | 0 => rfl
  | d + 1 => by
    rw [pAgain]
    split
    · rw [lPut_sc]; exact pAgain_sc bits w L d
    · exact pAgain_sc bits w L d
/-- whether no row of the first m (from 2 on) lacks two others -/
def pMiss (P : PP) (d n : Nat) : Nat → Bool
  | 0 => true
  | m + 1 => pMiss P d n m && (pGone P d (nI (2 + m)) || decide (nI (pGoneIn P (nI (2 + m)) n) < 2))
theorem pMiss_f {P : PP} {d n m : Nat} (h : pMiss P d n m = false) : ∀ k, m ≤ k → pMiss P d n k = false
  | 0, hk => by
    have e : m = 0 := by omega
    rw [e] at h; exact h
  | k + 1, hk => by
    rcases Nat.lt_or_ge k m with q | q
    · have e : m = k + 1 := by omega
      rw [e] at h; exact h
    · rw [pMiss, pMiss_f h k q]; rfl
/-- 1 if unit u of row t is on a disk that is there up to t -/
def tU (P : PP) (n t u : Nat) : Int32 := if pMk P ((t + u) % n) ≤ nI t then 0 else 1
def jRow (J : GG) (k : Nat) : Nat := (J.2.2.2.1 k).toNatClampNeg
def jBlk (J : GG) (k : Nat) : Nat := (J.2.2.1 k).toNatClampNeg
/-- the units that mounting writes for the first k places of the journal -/
def jU (P : PP) (J : GG) (n t : Nat) : Nat → Int32
  | 0 => 0
  | k + 1 => if oI (gFind J.2.2.2.1 (J.2.2.2.1 k) t) = nI k then (jU P J n t k + tU P n (jRow J k) (2 + jBlk J k % (n - 2))) + (tU P n (jRow J k) 0 + tU P n (jRow J k) 1) else jU P J n t k + tU P n (jRow J k) (2 + jBlk J k % (n - 2))
/-- marks as the label of row w tells them, of the first d disks -/
def pTake (L : LL) (w : Nat) (mk : Nat → Int32) : Nat → Nat → Int32
  | 0 => mk
  | d + 1 => if pTake L w mk d d = -1 then pTake L w mk d else upd (pTake L w mk d) d (if lSome d L = true then L.2 (4 + w) d else 0)
/-- labels of the first d disks wiped -/
def lWipes (L : LL) : Nat → LL
  | 0 => L
  | d + 1 => lWipe d (lWipes L d)
theorem lWipes_sc (L : LL) : ∀ d, (lWipes L d).1 = L.1
  | 0 => rfl
  | d + 1 => lWipes_sc L d
/-- a label written wholly on all disks that are not lost, and then it counts -/
def pFinish (P : PP) (w n : Nat) (L : LL) : LL := lCounts (pWrite P 6148914691236517205 w n L).1
/-- rotten bits of a row cleared on the first d disks -/
def pScrub (f : Nat → Int64) (row : Int32) : Nat → Nat → Int64
  | 0 => f
  | d + 1 => vp_updL (pScrub f row d) d ((pScrub f row d) d &&& ((1 <<< (row.toInt64 &&& 63)) ^^^ (-1)))
def pLay (x y : Int32) (P : PP) : PP := (x, y, 1, fill0 (pMk P) y 8, fillL (pRt P) 0 8, fill0 (pKp P) (vp_nar .byte 0) 13056)
def lLay (P : PP) (w n : Nat) (L : LL) : LL := pFinish P w n (lDraft w 0 (pMk P) (lWipes L 8))
theorem clamp_nI {x : Int32} (h : ¬ x < 0) : x = nI x.toNatClampNeg := by
  obtain ⟨j, hj, e⟩ := nI_of h
  rw [e, nI_clamp hj]
theorem clamp_lt {x : Int32} {n : Nat} (h : ¬ x < 0) (h2 : ¬ nI n ≤ x) (hn : n < 2147483648) : x.toNatClampNeg < n := by
  obtain ⟨j, hj, e⟩ := nI_of h
  rw [e, nI_clamp hj]
  rw [e] at h2
  rcases Nat.lt_or_ge j n with q | q
  · exact q
  · exact absurd (nI_le q hj) h2
/-- a disk's number -/
theorem isD {d x : Int32} {n : Nat} (h : decide (¬ d < 0 ∧ ¬ x ≤ d) = true) (hx : x = nI n) (hn : n < 2147483648) : d = nI d.toNatClampNeg ∧ d.toNatClampNeg < n := by
  have h := of_decide_eq_true h
  rw [hx] at h
  exact ⟨clamp_nI h.1, clamp_lt h.1 h.2 hn⟩
/-- a group as it must be: its number, its bytes, its blocks and rows -/
def GI (G : GG) (t : Nat) : Prop := G.1 = nI t ∧ t ≤ 24 ∧ sb_Fit G.2.2.2.2 ∧ (∀ j, j < t → G.2.2.1 j = nI (jBlk G j) ∧ jBlk G j < 204) ∧ ∀ j, j < t → G.2.2.2.1 j = nI (jRow G j) ∧ jRow G j < 40
theorem GI_become {O G : GG} {t : Nat} {u : Nat} (hO : GI O t) (hG : GI G u) : GI (gBecome t O G) t := by
  obtain ⟨h1, h2, h3, h4, h5⟩ := hO
  refine ⟨h1, h2, sb_fitC h3 hG.2.2.1, fun j hj => ?_, fun j hj => ?_⟩
  · have e : (gBecome t O G).2.2.1 j = O.2.2.1 j := by
      show va_cpy O.2.2.1 G.2.2.1 0 0 t j = _
      rw [pk_cpy_in (by omega) (by omega), show 0 + (j - 0) = j by omega]
    unfold jBlk
    rw [e]; exact h4 j hj
  · have e : (gBecome t O G).2.2.2.1 j = O.2.2.2.1 j := by
      show va_cpy O.2.2.2.1 G.2.2.2.1 0 0 t j = _
      rw [pk_cpy_in (by omega) (by omega), show 0 + (j - 0) = j by omega]
    unfold jRow
    rw [e]; exact h5 j hj
theorem GI_clear {G : GG} {t : Nat} (h : GI G t) : GI (gClear G) 0 := ⟨rfl, by omega, h.2.2.1, fun j hj => absurd hj (by omega), fun j hj => absurd hj (by omega)⟩
theorem lay_n {x : Int32} (h1 : ¬ x < 4) (h2 : ¬ 8 < x) : x = nI x.toNatClampNeg ∧ 4 ≤ x.toNatClampNeg ∧ x.toNatClampNeg ≤ 8 := by
  have h0 : ¬ x < 0 := fun z => h1 (Int32.lt_trans z (by decide))
  obtain ⟨j, hj, e⟩ := nI_of h0
  have ej : (nI j).toNatClampNeg = j := nI_clamp hj
  rw [e, ej]
  rw [e] at h1 h2
  refine ⟨rfl, ?_, ?_⟩
  · exact Nat.not_lt.mp (fun z => h1 (nI_lt (b := 4) z (by omega)))
  · exact Nat.not_lt.mp (fun z => h2 (nI_lt (a := 8) z hj))
theorem isB {X Y b t : Int32} {n r : Nat} (h : decide (¬ b < 0 ∧ ¬ (X - 2) * (Y - 6) ≤ b ∧ ¬ t < 0 ∧ ¬ 64 ≤ t) = true) (hX : X = nI n) (hY : Y = nI r) (h4 : 4 ≤ n) (h8 : n ≤ 8) (h12 : 12 ≤ r) (h40 : r ≤ 40) :
    b = nI b.toNatClampNeg ∧ t = nI t.toNatClampNeg ∧ b.toNatClampNeg < (n - 2) * (r - 6) ∧ t.toNatClampNeg < 64 ∧ b.toNatClampNeg < 204 := by
  obtain ⟨h1, h2, h3, h5⟩ := of_decide_eq_true h
  have e : (X - 2) * (Y - 6) = nI ((n - 2) * (r - 6)) := by
    rw [hX, hY, show (nI n - 2) = nI (n - 2) from pk_sub (a := n) (b := 2) (by omega), show (nI r - 6) = nI (r - 6) from pk_sub (a := r) (b := 6) (by omega)]
    exact pk_mul _ _
  have hm : (n - 2) * (r - 6) ≤ 204 := Nat.le_trans (Nat.mul_le_mul (show n - 2 ≤ 6 by omega) (show r - 6 ≤ 34 by omega)) (by decide)
  rw [e] at h2
  have hb := clamp_lt h1 h2 (by omega)
  have ht := clamp_lt (n := 64) h3 h5 (by omega)
  exact ⟨clamp_nI h1, clamp_nI h3, hb, ht, by omega⟩
theorem idx64 {b t : Int32} {β α m : Nat} (hb : b = nI β) (ht : t = nI α) (h1 : β < m) (h2 : α < 64) (hm : m ≤ 1000000) : b * 64 + t = nI (b * 64 + t).toNatClampNeg ∧ (b * 64 + t).toNatClampNeg = β * 64 + α := by
  have e : b * 64 + t = nI (β * 64 + α) := by
    rw [hb, ht, show nI β * 64 = nI (β * 64) from pk_mul β 64]; exact nI_add _ _
  rw [e, nI_clamp (show β * 64 + α < 2 ^ 31 by omega)]
  exact ⟨rfl, rfl⟩
theorem oI_ge {o : Option Nat} (h : 0 ≤ oI o) : ∃ p, o = some p := by
  cases o with
  | some p => exact ⟨p, rfl⟩
  | none => exact absurd h (by decide)
end
section
set_option maxHeartbeats 4000000 in
set_option maxRecDepth 100000 in
theorem k_J_fillI (l : Launch) (dC : Nat → ClassId) (dI : Nat → Nat → Nat) (k5 : Nat → ClassId) (h0 n : Nat) (hn : n < 1000000) (f : Nat → Int32) (v : Int32) : Met l y_J_fillI w_J_fillI ({ frames := 0, cells := 0, slots := 0, locals := 0 }) (kx_Pc (dC, dI) clA (tyL k5) ([(h0, .inl ((k5 0), n, .inl f))]) [.ref h0, .int v]) (kx_Q (dC, dI) clA ([(h0, .inl ((k5 0), n, .inl f))]) ([(h0, .inl ((k5 0), n, .inl (fill0 f v n)))]) none) 0 0 (kx_A ([(h0, .inl ((k5 0), n, .inl f))])) := by
  refine Met.ofW (cc := c_J_fillI) (maxL := 4) (ret := none) (by decide) rfl ?_
  intro p e s m args below meth c s₁ B hml hv
  obtain ⟨rfl, hP, hK, hD0⟩ := hv
  have hx := B.exec
  have hb := B.bytes
  have hr := B.returns
  have hts : ∀ w ∈ wsA, w.before _ s = true := fun w h => atoms_spec (ws := w_J_fillI) B.pre w (List.mem_cons_of_mem _ h)
  have hown : s.vm.findClass R_J = some m.cls := findClass_of_methodNamed B.named
  have hlocks := B.notSynchronized
  have hD := kx_D.self hD0
  have hS : va_S (kx_A ([(h0, .inl ((k5 0), n, .inl f))])) s.heap s.heap [] := va_S.rf
  have hl := lv_entry ([.ref h0, .int v]) (n := 4) (Nat.le_of_ble_eq_true rfl)
  rw [lg_entry_eq]
  generalize (lg_sl ([.ref h0, .int v]) ++ List.replicate (4 - (lg_sl ([.ref h0, .int v])).length) Slot.unset).toArray = ls at hl ⊢
  have hl : lv_has ls 4 [(0, .ref h0), (1, .int v)] := hl
  refine lv_iconst (v := 0) hx hb d_J_fillI_0 (by decide) ?_
  refine lv_istore_n (lv' := [(2, .int 0), (0, .ref h0), (1, .int v)]) hx hb d_J_fillI_1 rfl hl (by decide) rfl (fun ls hl => ?_)
  refine lv_aload_n hx hb d_J_fillI_2 rfl (lv_at hl 1 rfl) ?_
  refine va_alen (v := nI n) hx hb hK hP 0 0 rfl rfl rfl d_J_fillI_3 ?_
  refine lv_istore_n (lv' := [(3, .int (nI n)), (2, .int 0), (0, .ref h0), (1, .int v)]) hx hb d_J_fillI_4 rfl hl (by decide) rfl (fun ls hl => ?_)
  have lp : ∀ (q9 i : Nat) (H : Heap) (locs : List Loc) (ls : Array Slot), i + q9 = n → va_P (dC, dI) clA [(h0, .inl ((k5 0), n, .inl (fill0 f v i)))] H → va_D (kx_A ([(h0, .inl ((k5 0), n, .inl f))])) [(h0, .inl ((k5 0), n, .inl (fill0 f v i)))] → va_S (kx_A ([(h0, .inl ((k5 0), n, .inl f))])) s.heap H locs → lv_has ls 4 [(3, .int (nI n)), (2, .int (nI i)), (0, .ref h0), (1, .int v)] → W p l e (headSpec w_J_fillI ({ frames := 0, cells := 0, slots := 0, locals := 0 })).room s m ([.ref h0, .int v] : List Value).toArray below meth c H locs 0 0 (MQ below (kx_Q (dC, dI) clA ([(h0, .inl ((k5 0), n, .inl f))]) ([(h0, .inl ((k5 0), n, .inl (fill0 f v n)))]) none) ([.ref h0, .int v] : List Value).toArray s 0 0 (kx_A ([(h0, .inl ((k5 0), n, .inl f))]))) (F0 m 5 ls []) := by
    intro q9
    induction q9 with
    | zero =>
      intro i H locs ls hi hP hD hS hl
      have hi : n = i := by omega
      subst hi
      refine lv_iload_n hx hb d_J_fillI_5 rfl (lv_at hl 1 rfl) ?_
      refine lv_iload_n hx hb d_J_fillI_6 rfl (lv_at hl 0 rfl) ?_
      refine lv_icmp_ge (tgt := 20) hx hb d_J_fillI_7 (by decide) (fun hc => ?_) (fun hc => ?_)
      · exact W.vret hx hb hr (fun t ht hW => kx_Qv ht hP (rfl) hS rfl) hS.2.2 d_J_fillI_20
      · exact absurd (by exact nI_le (by omega) (by omega)) hc
    | succ q9 ih =>
      intro i H locs ls hi hP hD hS hl
      refine lv_iload_n hx hb d_J_fillI_5 rfl (lv_at hl 1 rfl) ?_
      refine lv_iload_n hx hb d_J_fillI_6 rfl (lv_at hl 0 rfl) ?_
      refine lv_icmp_ge (tgt := 20) hx hb d_J_fillI_7 (by decide) (fun hc => ?_) (fun hc => ?_)
      · exact absurd hc (by exact nI_ge (by omega) (by omega))
      · refine lv_aload_n hx hb d_J_fillI_10 rfl (lv_at hl 2 rfl) ?_
        refine lv_iload_n hx hb d_J_fillI_11 rfl (lv_at hl 1 rfl) ?_
        refine lv_iload_n hx hb d_J_fillI_12 rfl (lv_at hl 3 rfl) ?_
        refine kx_iast (ws' := [(h0, .inl ((k5 0), n, .inl (fill0 f v (i + 1))))]) hx hb hK hP hD hS 0 0 rfl rfl i (rfl) (by omega) (by omega) rfl d_J_fillI_13 (fun H locs hP hD hS => ?_)
        refine lv_iinc (v := nI (i + 1)) (lv' := [(2, .int (nI (i + 1))), (3, .int (nI n)), (0, .ref h0), (1, .int v)]) hx hb d_J_fillI_14 hl (k := 1) rfl (nI_1 i) (by decide) rfl (fun ls hl => ?_)
        refine lv_goto (tgt := 5) hx hb d_J_fillI_17 (by decide) ?_
        exact ih (i + 1) H locs ls (by omega) hP hD hS (lv_sub hl [1, 0, 2, 3] rfl)
  exact lp n 0 s.heap [] ls (by omega) hP hD hS (lv_sub hl [0, 1, 2, 3] rfl)
set_option maxHeartbeats 4000000 in
set_option maxRecDepth 100000 in
theorem k_J_fillJ (l : Launch) (dC : Nat → ClassId) (dI : Nat → Nat → Nat) (k5 : Nat → ClassId) (h0 n : Nat) (hn : n < 1000000) (f : Nat → Int64) (v : Int64) : Met l y_J_fillJ w_J_fillJ ({ frames := 0, cells := 0, slots := 0, locals := 0 }) (kx_Pc (dC, dI) clA (tyL k5) ([(h0, .inl ((k5 1), n, .inr (.inl f)))]) [.ref h0, .long v]) (kx_Q (dC, dI) clA ([(h0, .inl ((k5 1), n, .inr (.inl f)))]) ([(h0, .inl ((k5 1), n, .inr (.inl (fillL f v n))))]) none) 0 0 (kx_A ([(h0, .inl ((k5 1), n, .inr (.inl f)))])) := by
  refine Met.ofW (cc := c_J_fillJ) (maxL := 5) (ret := none) (by decide) rfl ?_
  intro p e s m args below meth c s₁ B hml hv
  obtain ⟨rfl, hP, hK, hD0⟩ := hv
  have hx := B.exec
  have hb := B.bytes
  have hr := B.returns
  have hts : ∀ w ∈ wsA, w.before _ s = true := fun w h => atoms_spec (ws := w_J_fillJ) B.pre w (List.mem_cons_of_mem _ h)
  have hown : s.vm.findClass R_J = some m.cls := findClass_of_methodNamed B.named
  have hlocks := B.notSynchronized
  have hD := kx_D.self hD0
  have hS : va_S (kx_A ([(h0, .inl ((k5 1), n, .inr (.inl f)))])) s.heap s.heap [] := va_S.rf
  have hl := lv_entry ([.ref h0, .long v]) (n := 5) (Nat.le_of_ble_eq_true rfl)
  rw [lg_entry_eq]
  generalize (lg_sl ([.ref h0, .long v]) ++ List.replicate (5 - (lg_sl ([.ref h0, .long v])).length) Slot.unset).toArray = ls at hl ⊢
  have hl : lv_has ls 5 [(0, .ref h0), (1, .long v)] := hl
  refine lv_iconst (v := 0) hx hb d_J_fillJ_0 (by decide) ?_
  refine lv_istore_n (lv' := [(3, .int 0), (0, .ref h0), (1, .long v)]) hx hb d_J_fillJ_1 rfl hl (by decide) rfl (fun ls hl => ?_)
  refine lv_aload_n hx hb d_J_fillJ_2 rfl (lv_at hl 1 rfl) ?_
  refine va_alen (v := nI n) hx hb hK hP 0 1 rfl rfl rfl d_J_fillJ_3 ?_
  refine lv_istore (lv' := [(4, .int (nI n)), (3, .int 0), (0, .ref h0), (1, .long v)]) hx hb d_J_fillJ_4 hl (by decide) rfl (fun ls hl => ?_)
  have lp : ∀ (q9 i : Nat) (H : Heap) (locs : List Loc) (ls : Array Slot), i + q9 = n → va_P (dC, dI) clA [(h0, .inl ((k5 1), n, .inr (.inl (fillL f v i))))] H → va_D (kx_A ([(h0, .inl ((k5 1), n, .inr (.inl f)))])) [(h0, .inl ((k5 1), n, .inr (.inl (fillL f v i))))] → va_S (kx_A ([(h0, .inl ((k5 1), n, .inr (.inl f)))])) s.heap H locs → lv_has ls 5 [(4, .int (nI n)), (3, .int (nI i)), (0, .ref h0), (1, .long v)] → W p l e (headSpec w_J_fillJ ({ frames := 0, cells := 0, slots := 0, locals := 0 })).room s m ([.ref h0, .long v] : List Value).toArray below meth c H locs 0 0 (MQ below (kx_Q (dC, dI) clA ([(h0, .inl ((k5 1), n, .inr (.inl f)))]) ([(h0, .inl ((k5 1), n, .inr (.inl (fillL f v n))))]) none) ([.ref h0, .long v] : List Value).toArray s 0 0 (kx_A ([(h0, .inl ((k5 1), n, .inr (.inl f)))]))) (F0 m 6 ls []) := by
    intro q9
    induction q9 with
    | zero =>
      intro i H locs ls hi hP hD hS hl
      have hi : n = i := by omega
      subst hi
      refine lv_iload_n hx hb d_J_fillJ_6 rfl (lv_at hl 1 rfl) ?_
      refine lv_iload hx hb d_J_fillJ_7 (lv_at hl 0 rfl) ?_
      refine lv_icmp_ge (tgt := 22) hx hb d_J_fillJ_9 (by decide) (fun hc => ?_) (fun hc => ?_)
      · exact W.vret hx hb hr (fun t ht hW => kx_Qv ht hP (rfl) hS rfl) hS.2.2 d_J_fillJ_22
      · exact absurd (by exact nI_le (by omega) (by omega)) hc
    | succ q9 ih =>
      intro i H locs ls hi hP hD hS hl
      refine lv_iload_n hx hb d_J_fillJ_6 rfl (lv_at hl 1 rfl) ?_
      refine lv_iload hx hb d_J_fillJ_7 (lv_at hl 0 rfl) ?_
      refine lv_icmp_ge (tgt := 22) hx hb d_J_fillJ_9 (by decide) (fun hc => ?_) (fun hc => ?_)
      · exact absurd hc (by exact nI_ge (by omega) (by omega))
      · refine lv_aload_n hx hb d_J_fillJ_12 rfl (lv_at hl 2 rfl) ?_
        refine lv_iload_n hx hb d_J_fillJ_13 rfl (lv_at hl 1 rfl) ?_
        refine lv_lload_n hx hb d_J_fillJ_14 rfl (lv_at hl 3 rfl) ?_
        refine kx_last (ws' := [(h0, .inl ((k5 1), n, .inr (.inl (fillL f v (i + 1)))))]) hx hb hK hP hD hS 0 1 rfl rfl i (rfl) (by omega) (by omega) rfl d_J_fillJ_15 (fun H locs hP hD hS => ?_)
        refine lv_iinc (v := nI (i + 1)) (lv' := [(3, .int (nI (i + 1))), (4, .int (nI n)), (0, .ref h0), (1, .long v)]) hx hb d_J_fillJ_16 hl (k := 1) rfl (nI_1 i) (by decide) rfl (fun ls hl => ?_)
        refine lv_goto (tgt := 6) hx hb d_J_fillJ_19 (by decide) ?_
        exact ih (i + 1) H locs ls (by omega) hP hD hS (lv_sub hl [1, 0, 2, 3] rfl)
  exact lp n 0 s.heap [] ls (by omega) hP hD hS (lv_sub hl [0, 1, 2, 3] rfl)
set_option maxHeartbeats 4000000 in
set_option maxRecDepth 100000 in
theorem k_J_fillB (l : Launch) (dC : Nat → ClassId) (dI : Nat → Nat → Nat) (k5 : Nat → ClassId) (h0 n : Nat) (hn : n < 1000000) (f : Nat → Int32) (v : Int32) : Met l y_J_fillB w_J_fillB ({ frames := 0, cells := 0, slots := 0, locals := 0 }) (kx_Pc (dC, dI) clA (tyL k5) ([(h0, .inl ((k5 2), n, .inl f))]) [.ref h0, .int v]) (kx_Q (dC, dI) clA ([(h0, .inl ((k5 2), n, .inl f))]) ([(h0, .inl ((k5 2), n, .inl (fill0 f (vp_nar .byte v) n)))]) none) 0 0 (kx_A ([(h0, .inl ((k5 2), n, .inl f))])) := by
  refine Met.ofW (cc := c_J_fillB) (maxL := 4) (ret := none) (by decide) rfl ?_
  intro p e s m args below meth c s₁ B hml hv
  obtain ⟨rfl, hP, hK, hD0⟩ := hv
  have hx := B.exec
  have hb := B.bytes
  have hr := B.returns
  have hts : ∀ w ∈ wsA, w.before _ s = true := fun w h => atoms_spec (ws := w_J_fillB) B.pre w (List.mem_cons_of_mem _ h)
  have hown : s.vm.findClass R_J = some m.cls := findClass_of_methodNamed B.named
  have hlocks := B.notSynchronized
  have hD := kx_D.self hD0
  have hS : va_S (kx_A ([(h0, .inl ((k5 2), n, .inl f))])) s.heap s.heap [] := va_S.rf
  have hl := lv_entry ([.ref h0, .int v]) (n := 4) (Nat.le_of_ble_eq_true rfl)
  rw [lg_entry_eq]
  generalize (lg_sl ([.ref h0, .int v]) ++ List.replicate (4 - (lg_sl ([.ref h0, .int v])).length) Slot.unset).toArray = ls at hl ⊢
  have hl : lv_has ls 4 [(0, .ref h0), (1, .int v)] := hl
  refine lv_iconst (v := 0) hx hb d_J_fillB_0 (by decide) ?_
  refine lv_istore_n (lv' := [(2, .int 0), (0, .ref h0), (1, .int v)]) hx hb d_J_fillB_1 rfl hl (by decide) rfl (fun ls hl => ?_)
  refine lv_aload_n hx hb d_J_fillB_2 rfl (lv_at hl 1 rfl) ?_
  refine va_alen (v := nI n) hx hb hK hP 0 2 rfl rfl rfl d_J_fillB_3 ?_
  refine lv_istore_n (lv' := [(3, .int (nI n)), (2, .int 0), (0, .ref h0), (1, .int v)]) hx hb d_J_fillB_4 rfl hl (by decide) rfl (fun ls hl => ?_)
  have lp : ∀ (q9 i : Nat) (H : Heap) (locs : List Loc) (ls : Array Slot), i + q9 = n → va_P (dC, dI) clA [(h0, .inl ((k5 2), n, .inl (fill0 f (vp_nar .byte v) i)))] H → va_D (kx_A ([(h0, .inl ((k5 2), n, .inl f))])) [(h0, .inl ((k5 2), n, .inl (fill0 f (vp_nar .byte v) i)))] → va_S (kx_A ([(h0, .inl ((k5 2), n, .inl f))])) s.heap H locs → lv_has ls 4 [(3, .int (nI n)), (2, .int (nI i)), (0, .ref h0), (1, .int v)] → W p l e (headSpec w_J_fillB ({ frames := 0, cells := 0, slots := 0, locals := 0 })).room s m ([.ref h0, .int v] : List Value).toArray below meth c H locs 0 0 (MQ below (kx_Q (dC, dI) clA ([(h0, .inl ((k5 2), n, .inl f))]) ([(h0, .inl ((k5 2), n, .inl (fill0 f (vp_nar .byte v) n)))]) none) ([.ref h0, .int v] : List Value).toArray s 0 0 (kx_A ([(h0, .inl ((k5 2), n, .inl f))]))) (F0 m 5 ls []) := by
    intro q9
    induction q9 with
    | zero =>
      intro i H locs ls hi hP hD hS hl
      have hi : n = i := by omega
      subst hi
      refine lv_iload_n hx hb d_J_fillB_5 rfl (lv_at hl 1 rfl) ?_
      refine lv_iload_n hx hb d_J_fillB_6 rfl (lv_at hl 0 rfl) ?_
      refine lv_icmp_ge (tgt := 20) hx hb d_J_fillB_7 (by decide) (fun hc => ?_) (fun hc => ?_)
      · exact W.vret hx hb hr (fun t ht hW => kx_Qv ht hP (rfl) hS rfl) hS.2.2 d_J_fillB_20
      · exact absurd (by exact nI_le (by omega) (by omega)) hc
    | succ q9 ih =>
      intro i H locs ls hi hP hD hS hl
      refine lv_iload_n hx hb d_J_fillB_5 rfl (lv_at hl 1 rfl) ?_
      refine lv_iload_n hx hb d_J_fillB_6 rfl (lv_at hl 0 rfl) ?_
      refine lv_icmp_ge (tgt := 20) hx hb d_J_fillB_7 (by decide) (fun hc => ?_) (fun hc => ?_)
      · exact absurd hc (by exact nI_ge (by omega) (by omega))
      · refine lv_aload_n hx hb d_J_fillB_10 rfl (lv_at hl 2 rfl) ?_
        refine lv_iload_n hx hb d_J_fillB_11 rfl (lv_at hl 1 rfl) ?_
        refine lv_iload_n hx hb d_J_fillB_12 rfl (lv_at hl 3 rfl) ?_
        refine kx_bast (ws' := [(h0, .inl ((k5 2), n, .inl (fill0 f (vp_nar .byte v) (i + 1))))]) hx hb hK hP hD hS 0 2 rfl rfl i (rfl) (by omega) (by omega) rfl d_J_fillB_13 (fun H locs hP hD hS => ?_)
        refine lv_iinc (v := nI (i + 1)) (lv' := [(2, .int (nI (i + 1))), (3, .int (nI n)), (0, .ref h0), (1, .int v)]) hx hb d_J_fillB_14 hl (k := 1) rfl (nI_1 i) (by decide) rfl (fun ls hl => ?_)
        refine lv_goto (tgt := 5) hx hb d_J_fillB_17 (by decide) ?_
        exact ih (i + 1) H locs ls (by omega) hP hD hS (lv_sub hl [1, 0, 2, 3] rfl)
  exact lp n 0 s.heap [] ls (by omega) hP hD hS (lv_sub hl [0, 1, 2, 3] rfl)
set_option maxHeartbeats 4000000 in
set_option maxRecDepth 100000 in
theorem k_J_rangeCheck (l : Launch) (dC : Nat → ClassId) (dI : Nat → Nat → Nat) (k5 : Nat → ClassId) (n a b : Nat) (hab : a ≤ b) (hbn : b ≤ n) (hn : n < 1000000) : Met l y_J_rangeCheck w_J_rangeCheck ({ frames := 0, cells := 0, slots := 0, locals := 0 }) (kx_Pc (dC, dI) clA (tyL k5) ([]) [.int (nI n), .int (nI a), .int (nI b)]) (kx_R none) 0 0 (fun _ => False) := by
  refine Met.ofW (cc := c_J_rangeCheck) (maxL := 3) (ret := none) (by decide) rfl ?_
  intro p e s m args below meth c s₁ B hml hv
  obtain ⟨rfl, hP, hK, hD0⟩ := hv
  have hx := B.exec
  have hb := B.bytes
  have hr := B.returns
  have hts : ∀ w ∈ wsA, w.before _ s = true := fun w h => atoms_spec (ws := w_J_rangeCheck) B.pre w (List.mem_cons_of_mem _ h)
  have hown : s.vm.findClass R_J = some m.cls := findClass_of_methodNamed B.named
  have hlocks := B.notSynchronized
  have hD := kx_D.self hD0
  have hS : va_S (kx_A ([])) s.heap s.heap [] := va_S.rf
  have hl := lv_entry ([.int (nI n), .int (nI a), .int (nI b)]) (n := 3) (Nat.le_of_ble_eq_true rfl)
  rw [lg_entry_eq]
  generalize (lg_sl ([.int (nI n), .int (nI a), .int (nI b)]) ++ List.replicate (3 - (lg_sl ([.int (nI n), .int (nI a), .int (nI b)])).length) Slot.unset).toArray = ls at hl ⊢
  have hl : lv_has ls 3 [(0, .int (nI n)), (1, .int (nI a)), (2, .int (nI b))] := hl
  refine lv_iload_n hx hb d_J_rangeCheck_0 rfl (lv_at hl 1 rfl) ?_
  refine lv_iload_n hx hb d_J_rangeCheck_1 rfl (lv_at hl 2 rfl) ?_
  refine lv_icmp_le (tgt := 46) hx hb d_J_rangeCheck_2 (by decide) (fun hc_1 => ?_) (fun hc_1 => ?_)
  · refine lv_iload_n hx hb d_J_rangeCheck_46 rfl (lv_at hl 1 rfl) ?_
    refine lv_if_ge (tgt := 59) hx hb d_J_rangeCheck_47 (by decide) (fun hc_2 => ?_) (fun hc_2 => ?_)
    · refine lv_iload_n hx hb d_J_rangeCheck_59 rfl (lv_at hl 2 rfl) ?_
      refine lv_iload_n hx hb d_J_rangeCheck_60 rfl (lv_at hl 0 rfl) ?_
      refine lv_icmp_le (tgt := 73) hx hb d_J_rangeCheck_61 (by decide) (fun hc_3 => ?_) (fun hc_3 => ?_)
      · exact W.vret hx hb hr (fun t ht hW => ⟨rfl, ht⟩) (fun _ h => absurd h List.not_mem_nil) d_J_rangeCheck_73
      · exact absurd (nI_le hbn (by omega)) hc_3
    · exact absurd (nI_pos' (by omega)) hc_2
  · exact absurd (nI_le hab (by omega)) hc_1
set_option maxHeartbeats 4000000 in
set_option maxRecDepth 100000 in
theorem k_J_fillR (l : Launch) (dC : Nat → ClassId) (dI : Nat → Nat → Nat) (k5 : Nat → ClassId) (h0 n a k : Nat) (hab : a + k ≤ n) (hn : n < 1000000) (f : Nat → Int32) (v : Int32) : Met l y_J_fillR w_J_fillR ({ frames := 1, cells := 0, slots := 0, locals := 22 }) (kx_Pc (dC, dI) clA (tyL k5) ([(h0, .inl ((k5 2), n, .inl f))]) [.ref h0, .int (nI a), .int (nI (a + k)), .int v]) (kx_Q (dC, dI) clA ([(h0, .inl ((k5 2), n, .inl f))]) ([(h0, .inl ((k5 2), n, .inl (fillF f (vp_nar .byte v) a k)))]) none) 0 0 (kx_A ([(h0, .inl ((k5 2), n, .inl f))])) := by
  refine Met.ofW (cc := c_J_fillR) (maxL := 5) (ret := none) (by decide) rfl ?_
  intro p e s m args below meth c s₁ B hml hv
  obtain ⟨rfl, hP, hK, hD0⟩ := hv
  have hx := B.exec
  have hb := B.bytes
  have hr := B.returns
  have hts : ∀ w ∈ wsA, w.before _ s = true := fun w h => atoms_spec (ws := w_J_fillR) B.pre w (List.mem_cons_of_mem _ h)
  have hown : s.vm.findClass R_J = some m.cls := findClass_of_methodNamed B.named
  have hlocks := B.notSynchronized
  have hD := kx_D.self hD0
  have hS : va_S (kx_A ([(h0, .inl ((k5 2), n, .inl f))])) s.heap s.heap [] := va_S.rf
  have hl := lv_entry ([.ref h0, .int (nI a), .int (nI (a + k)), .int v]) (n := 5) (Nat.le_of_ble_eq_true rfl)
  rw [lg_entry_eq]
  generalize (lg_sl ([.ref h0, .int (nI a), .int (nI (a + k)), .int v]) ++ List.replicate (5 - (lg_sl ([.ref h0, .int (nI a), .int (nI (a + k)), .int v])).length) Slot.unset).toArray = ls at hl ⊢
  have hl : lv_has ls 5 [(0, .ref h0), (1, .int (nI a)), (2, .int (nI (a + k))), (3, .int v)] := hl
  refine lv_aload_n hx hb d_J_fillR_0 rfl (lv_at hl 0 rfl) ?_
  refine va_alen (v := nI n) hx hb hK hP 0 2 rfl rfl rfl d_J_fillR_1 ?_
  refine lv_iload_n hx hb d_J_fillR_2 rfl (lv_at hl 1 rfl) ?_
  refine lv_iload_n hx hb d_J_fillR_3 rfl (lv_at hl 2 rfl) ?_
  refine kx_SR (As := [.int (nI n), .int (nI a), .int (nI (a + k))]) (rest := []) ⟨hx, hb, hml, hown, hts⟩ (k_J_rangeCheck l dC dI k5 n a (a + k) (by omega) hab hn) (va_cwS 3 hts (goodS wm_J_13 wt_J_rangeCheck wi_J wc_J_rangeCheck) rfl rfl rfl (by decide +kernel) ⟨Nat.le_of_ble_eq_true rfl, Nat.le_of_ble_eq_true rfl⟩) ⟨Nat.zero_le _, Nat.zero_le _⟩ hK hP hD [] (by decide) rfl rfl hl.1 rfl (Nat.le_of_ble_eq_true rfl) d_J_fillR_4 ?_
  refine W.eq (g2 := F0 m 7 ls []) rfl ?_
  refine lv_iload_n hx hb d_J_fillR_7 rfl (lv_at hl 1 rfl) ?_
  refine lv_istore (lv' := [(4, .int (nI a)), (0, .ref h0), (1, .int (nI a)), (2, .int (nI (a + k))), (3, .int v)]) hx hb d_J_fillR_8 hl (by decide) rfl (fun ls hl => ?_)
  have lp : ∀ (q9 i : Nat) (H : Heap) (locs : List Loc) (ls : Array Slot), i + q9 = k → va_P (dC, dI) clA [(h0, .inl ((k5 2), n, .inl (fillF f (vp_nar .byte v) a i)))] H → va_D (kx_A ([(h0, .inl ((k5 2), n, .inl f))])) [(h0, .inl ((k5 2), n, .inl (fillF f (vp_nar .byte v) a i)))] → va_S (kx_A ([(h0, .inl ((k5 2), n, .inl f))])) s.heap H locs → lv_has ls 5 [(4, .int (nI (a + i))), (0, .ref h0), (1, .int (nI a)), (2, .int (nI (a + k))), (3, .int v)] → W p l e (headSpec w_J_fillR ({ frames := 1, cells := 0, slots := 0, locals := 22 })).room s m ([.ref h0, .int (nI a), .int (nI (a + k)), .int v] : List Value).toArray below meth c H locs 0 0 (MQ below (kx_Q (dC, dI) clA ([(h0, .inl ((k5 2), n, .inl f))]) ([(h0, .inl ((k5 2), n, .inl (fillF f (vp_nar .byte v) a k)))]) none) ([.ref h0, .int (nI a), .int (nI (a + k)), .int v] : List Value).toArray s 0 0 (kx_A ([(h0, .inl ((k5 2), n, .inl f))]))) (F0 m 10 ls []) := by
    intro q9
    induction q9 with
    | zero =>
      intro i H locs ls hi hP hD hS hl
      have hi : k = i := by omega
      subst hi
      refine lv_iload hx hb d_J_fillR_10 (lv_at hl 0 rfl) ?_
      refine lv_iload_n hx hb d_J_fillR_12 rfl (lv_at hl 3 rfl) ?_
      refine lv_icmp_ge (tgt := 27) hx hb d_J_fillR_13 (by decide) (fun hc => ?_) (fun hc => ?_)
      · exact W.vret hx hb hr (fun t ht hW => kx_Qv ht hP (rfl) hS rfl) hS.2.2 d_J_fillR_27
      · exact absurd (by exact nI_le (by omega) (by omega)) hc
    | succ q9 ih =>
      intro i H locs ls hi hP hD hS hl
      refine lv_iload hx hb d_J_fillR_10 (lv_at hl 0 rfl) ?_
      refine lv_iload_n hx hb d_J_fillR_12 rfl (lv_at hl 3 rfl) ?_
      refine lv_icmp_ge (tgt := 27) hx hb d_J_fillR_13 (by decide) (fun hc => ?_) (fun hc => ?_)
      · exact absurd hc (by exact nI_ge (by omega) (by omega))
      · refine lv_aload_n hx hb d_J_fillR_16 rfl (lv_at hl 1 rfl) ?_
        refine lv_iload hx hb d_J_fillR_17 (lv_at hl 0 rfl) ?_
        refine lv_iload_n hx hb d_J_fillR_19 rfl (lv_at hl 4 rfl) ?_
        refine kx_bast (ws' := [(h0, .inl ((k5 2), n, .inl (fillF f (vp_nar .byte v) a (i + 1))))]) hx hb hK hP hD hS 0 2 rfl rfl (a + i) (rfl) (by omega) (by omega) rfl d_J_fillR_20 (fun H locs hP hD hS => ?_)
        refine lv_iinc (v := nI (a + (i + 1))) (lv' := [(4, .int (nI (a + (i + 1)))), (0, .ref h0), (1, .int (nI a)), (2, .int (nI (a + k))), (3, .int v)]) hx hb d_J_fillR_21 hl (k := 0) rfl (nI_1 (a + i)) (by decide) rfl (fun ls hl => ?_)
        refine lv_goto (tgt := 10) hx hb d_J_fillR_24 (by decide) ?_
        exact ih (i + 1) H locs ls (by omega) hP hD hS (lv_sub hl [0, 1, 2, 3, 4] rfl)
  exact lp k 0 s.heap [] ls (by omega) hP hD hS (lv_sub hl [0, 1, 2, 3, 4] rfl)
end
section
set_option maxHeartbeats 4000000 in
set_option maxRecDepth 100000 in
theorem k_G_isEmpty (l : Launch) (dC : Nat → ClassId) (dI : Nat → Nat → Nat) (k5 : Nat → ClassId) (h0 h1 h2 h3 : Nat) (tk rt : Int32) (fb fr fy : Nat → Int32)  : Met l y_G_isEmpty w_G_isEmpty ({ frames := 0, cells := 0, slots := 0, locals := 0 }) (kx_Pc (dC, dI) clA (tyL k5) ([(h0, .inr (0, [.ref h1, .ref h2, .ref h3, .int tk, .int rt])), (h1, .inl ((k5 0), 24, .inl fb)), (h2, .inl ((k5 0), 24, .inl fr)), (h3, .inl ((k5 2), 1536, .inl fy))]) [.ref h0]) (kx_R (some (.int (bI (decide (tk = 0)))))) 0 0 (fun _ => False) := by
  refine Met.ofW (cc := c_G_isEmpty) (maxL := 1) (ret := (some .boolean)) (by decide) rfl ?_
  intro p e s m args below meth c s₁ B hml hv
  obtain ⟨rfl, hP, hK, hD0⟩ := hv
  have hx := B.exec
  have hb := B.bytes
  have hr := B.returns
  have hts : ∀ w ∈ wsA, w.before _ s = true := fun w h => atoms_spec (ws := w_G_isEmpty) B.pre w (List.mem_cons_of_mem _ h)
  have hown : s.vm.findClass R_G = some m.cls := findClass_of_methodNamed B.named
  have hlocks := B.notSynchronized
  have hD := kx_D.self hD0
  have hS : va_S (kx_A ([(h0, .inr (0, [.ref h1, .ref h2, .ref h3, .int tk, .int rt])), (h1, .inl ((k5 0), 24, .inl fb)), (h2, .inl ((k5 0), 24, .inl fr)), (h3, .inl ((k5 2), 1536, .inl fy))])) s.heap s.heap [] := va_S.rf
  have hl := lv_entry ([.ref h0]) (n := 1) (Nat.le_of_ble_eq_true rfl)
  rw [lg_entry_eq]
  generalize (lg_sl ([.ref h0]) ++ List.replicate (1 - (lg_sl ([.ref h0])).length) Slot.unset).toArray = ls at hl ⊢
  have hl : lv_has ls 1 [(0, .ref h0)] := hl
  refine lv_aload_n hx hb d_G_isEmpty_0 rfl (lv_at hl 0 rfl) ?_
  refine va_get (D := (dC, dI)) (ci := 0) (v := .int tk) (C := R_G) (T := T_G) (N := 5) hx hb hts wu_G hown hK hP 0 rfl rfl 3 (by decide) (hts _ wf_G_22) (fun _ h9 => h9) rfl d_G_isEmpty_1 ?_
  refine lv_if_ne (tgt := 11) hx hb d_G_isEmpty_4 (by decide) (fun hc_1 => ?_) (fun hc_1 => ?_)
  · refine lv_iconst (v := 0) hx hb d_G_isEmpty_11 (by decide) ?_
    exact W.zret (v := 0) hx hb hr rfl (fun t ht hW => kx_Ri (by simp [bI, hc_1]) ht) (fun _ h => absurd h List.not_mem_nil) d_G_isEmpty_12
  · refine lv_iconst (v := 1) hx hb d_G_isEmpty_7 (by decide) ?_
    refine lv_goto (tgt := 12) hx hb d_G_isEmpty_8 (by decide) ?_
    exact W.zret (v := 1) hx hb hr rfl (fun t ht hW => kx_Ri (by simp [bI, hc_1]) ht) (fun _ h => absurd h List.not_mem_nil) d_G_isEmpty_12
set_option maxHeartbeats 4000000 in
set_option maxRecDepth 100000 in
theorem k_G_size (l : Launch) (dC : Nat → ClassId) (dI : Nat → Nat → Nat) (k5 : Nat → ClassId) (h0 h1 h2 h3 : Nat) (tk rt : Int32) (fb fr fy : Nat → Int32)  : Met l y_G_size w_G_size ({ frames := 0, cells := 0, slots := 0, locals := 0 }) (kx_Pc (dC, dI) clA (tyL k5) ([(h0, .inr (0, [.ref h1, .ref h2, .ref h3, .int tk, .int rt])), (h1, .inl ((k5 0), 24, .inl fb)), (h2, .inl ((k5 0), 24, .inl fr)), (h3, .inl ((k5 2), 1536, .inl fy))]) [.ref h0]) (kx_R (some (.int tk))) 0 0 (fun _ => False) := by
  refine Met.ofW (cc := c_G_size) (maxL := 1) (ret := (some .int)) (by decide) rfl ?_
  intro p e s m args below meth c s₁ B hml hv
  obtain ⟨rfl, hP, hK, hD0⟩ := hv
  have hx := B.exec
  have hb := B.bytes
  have hr := B.returns
  have hts : ∀ w ∈ wsA, w.before _ s = true := fun w h => atoms_spec (ws := w_G_size) B.pre w (List.mem_cons_of_mem _ h)
  have hown : s.vm.findClass R_G = some m.cls := findClass_of_methodNamed B.named
  have hlocks := B.notSynchronized
  have hD := kx_D.self hD0
  have hS : va_S (kx_A ([(h0, .inr (0, [.ref h1, .ref h2, .ref h3, .int tk, .int rt])), (h1, .inl ((k5 0), 24, .inl fb)), (h2, .inl ((k5 0), 24, .inl fr)), (h3, .inl ((k5 2), 1536, .inl fy))])) s.heap s.heap [] := va_S.rf
  have hl := lv_entry ([.ref h0]) (n := 1) (Nat.le_of_ble_eq_true rfl)
  rw [lg_entry_eq]
  generalize (lg_sl ([.ref h0]) ++ List.replicate (1 - (lg_sl ([.ref h0])).length) Slot.unset).toArray = ls at hl ⊢
  have hl : lv_has ls 1 [(0, .ref h0)] := hl
  refine lv_aload_n hx hb d_G_size_0 rfl (lv_at hl 0 rfl) ?_
  refine va_get (D := (dC, dI)) (ci := 0) (v := .int tk) (C := R_G) (T := T_G) (N := 5) hx hb hts wu_G hown hK hP 0 rfl rfl 3 (by decide) (hts _ wf_G_22) (fun _ h9 => h9) rfl d_G_size_1 ?_
  exact W.iret (v := tk) hx hb hr (fun t ht hW => kx_Ri (rfl) ht) (fun _ h => absurd h List.not_mem_nil) d_G_size_4
set_option maxHeartbeats 4000000 in
set_option maxRecDepth 100000 in
theorem k_G_blockAt (l : Launch) (dC : Nat → ClassId) (dI : Nat → Nat → Nat) (k5 : Nat → ClassId) (h0 h1 h2 h3 : Nat) (tk rt : Int32) (fb fr fy : Nat → Int32) (pl : Int32) (k : Nat) (hk : k < 24) (ek : pl = nI k) : Met l y_G_blockAt w_G_blockAt ({ frames := 0, cells := 0, slots := 0, locals := 0 }) (kx_Pc (dC, dI) clA (tyL k5) ([(h0, .inr (0, [.ref h1, .ref h2, .ref h3, .int tk, .int rt])), (h1, .inl ((k5 0), 24, .inl fb)), (h2, .inl ((k5 0), 24, .inl fr)), (h3, .inl ((k5 2), 1536, .inl fy))]) [.ref h0, .int pl]) (kx_R (some (.int (fb k)))) 0 0 (fun _ => False) := by
  refine Met.ofW (cc := c_G_blockAt) (maxL := 2) (ret := (some .int)) (by decide) rfl ?_
  intro p e s m args below meth c s₁ B hml hv
  obtain ⟨rfl, hP, hK, hD0⟩ := hv
  have hx := B.exec
  have hb := B.bytes
  have hr := B.returns
  have hts : ∀ w ∈ wsA, w.before _ s = true := fun w h => atoms_spec (ws := w_G_blockAt) B.pre w (List.mem_cons_of_mem _ h)
  have hown : s.vm.findClass R_G = some m.cls := findClass_of_methodNamed B.named
  have hlocks := B.notSynchronized
  have hD := kx_D.self hD0
  have hS : va_S (kx_A ([(h0, .inr (0, [.ref h1, .ref h2, .ref h3, .int tk, .int rt])), (h1, .inl ((k5 0), 24, .inl fb)), (h2, .inl ((k5 0), 24, .inl fr)), (h3, .inl ((k5 2), 1536, .inl fy))])) s.heap s.heap [] := va_S.rf
  have hl := lv_entry ([.ref h0, .int pl]) (n := 2) (Nat.le_of_ble_eq_true rfl)
  rw [lg_entry_eq]
  generalize (lg_sl ([.ref h0, .int pl]) ++ List.replicate (2 - (lg_sl ([.ref h0, .int pl])).length) Slot.unset).toArray = ls at hl ⊢
  have hl : lv_has ls 2 [(0, .ref h0), (1, .int pl)] := hl
  refine lv_aload_n hx hb d_G_blockAt_0 rfl (lv_at hl 0 rfl) ?_
  refine va_get (D := (dC, dI)) (ci := 0) (v := .ref h1) (C := R_G) (T := T_G) (N := 5) hx hb hts wu_G hown hK hP 0 rfl rfl 0 (by decide) (hts _ wf_G_9) (fun _ h9 => h9) rfl d_G_blockAt_1 ?_
  refine lv_iload_n hx hb d_G_blockAt_4 rfl (lv_at hl 1 rfl) ?_
  refine kx_iald hx hb hK hP 1 0 rfl rfl k (ek) (by omega) (by omega) d_G_blockAt_5 ?_
  exact W.iret (v := (fb k)) hx hb hr (fun t ht hW => kx_Ri (rfl) ht) (fun _ h => absurd h List.not_mem_nil) d_G_blockAt_6
set_option maxHeartbeats 4000000 in
set_option maxRecDepth 100000 in
theorem k_G_rowAt (l : Launch) (dC : Nat → ClassId) (dI : Nat → Nat → Nat) (k5 : Nat → ClassId) (h0 h1 h2 h3 : Nat) (tk rt : Int32) (fb fr fy : Nat → Int32) (pl : Int32) (k : Nat) (hk : k < 24) (ek : pl = nI k) : Met l y_G_rowAt w_G_rowAt ({ frames := 0, cells := 0, slots := 0, locals := 0 }) (kx_Pc (dC, dI) clA (tyL k5) ([(h0, .inr (0, [.ref h1, .ref h2, .ref h3, .int tk, .int rt])), (h1, .inl ((k5 0), 24, .inl fb)), (h2, .inl ((k5 0), 24, .inl fr)), (h3, .inl ((k5 2), 1536, .inl fy))]) [.ref h0, .int pl]) (kx_R (some (.int (fr k)))) 0 0 (fun _ => False) := by
  refine Met.ofW (cc := c_G_rowAt) (maxL := 2) (ret := (some .int)) (by decide) rfl ?_
  intro p e s m args below meth c s₁ B hml hv
  obtain ⟨rfl, hP, hK, hD0⟩ := hv
  have hx := B.exec
  have hb := B.bytes
  have hr := B.returns
  have hts : ∀ w ∈ wsA, w.before _ s = true := fun w h => atoms_spec (ws := w_G_rowAt) B.pre w (List.mem_cons_of_mem _ h)
  have hown : s.vm.findClass R_G = some m.cls := findClass_of_methodNamed B.named
  have hlocks := B.notSynchronized
  have hD := kx_D.self hD0
  have hS : va_S (kx_A ([(h0, .inr (0, [.ref h1, .ref h2, .ref h3, .int tk, .int rt])), (h1, .inl ((k5 0), 24, .inl fb)), (h2, .inl ((k5 0), 24, .inl fr)), (h3, .inl ((k5 2), 1536, .inl fy))])) s.heap s.heap [] := va_S.rf
  have hl := lv_entry ([.ref h0, .int pl]) (n := 2) (Nat.le_of_ble_eq_true rfl)
  rw [lg_entry_eq]
  generalize (lg_sl ([.ref h0, .int pl]) ++ List.replicate (2 - (lg_sl ([.ref h0, .int pl])).length) Slot.unset).toArray = ls at hl ⊢
  have hl : lv_has ls 2 [(0, .ref h0), (1, .int pl)] := hl
  refine lv_aload_n hx hb d_G_rowAt_0 rfl (lv_at hl 0 rfl) ?_
  refine va_get (D := (dC, dI)) (ci := 0) (v := .ref h2) (C := R_G) (T := T_G) (N := 5) hx hb hts wu_G hown hK hP 0 rfl rfl 1 (by decide) (hts _ wf_G_15) (fun _ h9 => h9) rfl d_G_rowAt_1 ?_
  refine lv_iload_n hx hb d_G_rowAt_4 rfl (lv_at hl 1 rfl) ?_
  refine kx_iald hx hb hK hP 2 0 rfl rfl k (ek) (by omega) (by omega) d_G_rowAt_5 ?_
  exact W.iret (v := (fr k)) hx hb hr (fun t ht hW => kx_Ri (rfl) ht) (fun _ h => absurd h List.not_mem_nil) d_G_rowAt_6
set_option maxHeartbeats 4000000 in
set_option maxRecDepth 100000 in
theorem k_G_byteAt (l : Launch) (dC : Nat → ClassId) (dI : Nat → Nat → Nat) (k5 : Nat → ClassId) (h0 h1 h2 h3 : Nat) (tk rt : Int32) (fb fr fy : Nat → Int32) (pl at0 : Int32) (k : Nat) (hk : k < 1536) (ek : pl * 64 + at0 = nI k) : Met l y_G_byteAt w_G_byteAt ({ frames := 0, cells := 0, slots := 0, locals := 0 }) (kx_Pc (dC, dI) clA (tyL k5) ([(h0, .inr (0, [.ref h1, .ref h2, .ref h3, .int tk, .int rt])), (h1, .inl ((k5 0), 24, .inl fb)), (h2, .inl ((k5 0), 24, .inl fr)), (h3, .inl ((k5 2), 1536, .inl fy))]) [.ref h0, .int pl, .int at0]) (kx_R (some (.int (fy k &&& 255)))) 0 0 (fun _ => False) := by
  refine Met.ofW (cc := c_G_byteAt) (maxL := 3) (ret := (some .int)) (by decide) rfl ?_
  intro p e s m args below meth c s₁ B hml hv
  obtain ⟨rfl, hP, hK, hD0⟩ := hv
  have hx := B.exec
  have hb := B.bytes
  have hr := B.returns
  have hts : ∀ w ∈ wsA, w.before _ s = true := fun w h => atoms_spec (ws := w_G_byteAt) B.pre w (List.mem_cons_of_mem _ h)
  have hown : s.vm.findClass R_G = some m.cls := findClass_of_methodNamed B.named
  have hlocks := B.notSynchronized
  have hD := kx_D.self hD0
  have hS : va_S (kx_A ([(h0, .inr (0, [.ref h1, .ref h2, .ref h3, .int tk, .int rt])), (h1, .inl ((k5 0), 24, .inl fb)), (h2, .inl ((k5 0), 24, .inl fr)), (h3, .inl ((k5 2), 1536, .inl fy))])) s.heap s.heap [] := va_S.rf
  have hl := lv_entry ([.ref h0, .int pl, .int at0]) (n := 3) (Nat.le_of_ble_eq_true rfl)
  rw [lg_entry_eq]
  generalize (lg_sl ([.ref h0, .int pl, .int at0]) ++ List.replicate (3 - (lg_sl ([.ref h0, .int pl, .int at0])).length) Slot.unset).toArray = ls at hl ⊢
  have hl : lv_has ls 3 [(0, .ref h0), (1, .int pl), (2, .int at0)] := hl
  refine lv_aload_n hx hb d_G_byteAt_0 rfl (lv_at hl 0 rfl) ?_
  refine va_get (D := (dC, dI)) (ci := 0) (v := .ref h3) (C := R_G) (T := T_G) (N := 5) hx hb hts wu_G hown hK hP 0 rfl rfl 2 (by decide) (hts _ wf_G_18) (fun _ h9 => h9) rfl d_G_byteAt_1 ?_
  refine lv_iload_n hx hb d_G_byteAt_4 rfl (lv_at hl 1 rfl) ?_
  refine lv_bipush (v := 64) hx hb d_G_byteAt_5 (by decide) ?_
  refine lv_imul hx hb d_G_byteAt_7 ?_
  refine lv_iload_n hx hb d_G_byteAt_8 rfl (lv_at hl 2 rfl) ?_
  refine lv_iadd hx hb d_G_byteAt_9 ?_
  refine kx_bald hx hb hK hP 3 2 rfl rfl k (ek) (by omega) (by omega) d_G_byteAt_10 ?_
  refine lv_sipush (v := 255) hx hb d_G_byteAt_11 (by decide) ?_
  refine lv_iand hx hb d_G_byteAt_14 ?_
  exact W.iret (v := ((fy k) &&& 255)) hx hb hr (fun t ht hW => kx_Ri (rfl) ht) (fun _ h => absurd h List.not_mem_nil) d_G_byteAt_15
set_option maxHeartbeats 4000000 in
set_option maxRecDepth 100000 in
theorem k_G_use (l : Launch) (dC : Nat → ClassId) (dI : Nat → Nat → Nat) (k5 : Nat → ClassId) (h0 h1 h2 h3 : Nat) (tk rt : Int32) (fb fr fy : Nat → Int32)  : Met l y_G_use w_G_use ({ frames := 0, cells := 0, slots := 0, locals := 0 }) (kx_Pc (dC, dI) clA (tyL k5) ([(h0, .inr (0, [.ref h1, .ref h2, .ref h3, .int tk, .int rt])), (h1, .inl ((k5 0), 24, .inl fb)), (h2, .inl ((k5 0), 24, .inl fr)), (h3, .inl ((k5 2), 1536, .inl fy))]) [.ref h0]) (kx_R (some (.int (if tk = 0 then 0 else 1 + tk + 2 * rt)))) 0 0 (fun _ => False) := by
  refine Met.ofW (cc := c_G_use) (maxL := 1) (ret := (some .int)) (by decide) rfl ?_
  intro p e s m args below meth c s₁ B hml hv
  obtain ⟨rfl, hP, hK, hD0⟩ := hv
  have hx := B.exec
  have hb := B.bytes
  have hr := B.returns
  have hts : ∀ w ∈ wsA, w.before _ s = true := fun w h => atoms_spec (ws := w_G_use) B.pre w (List.mem_cons_of_mem _ h)
  have hown : s.vm.findClass R_G = some m.cls := findClass_of_methodNamed B.named
  have hlocks := B.notSynchronized
  have hD := kx_D.self hD0
  have hS : va_S (kx_A ([(h0, .inr (0, [.ref h1, .ref h2, .ref h3, .int tk, .int rt])), (h1, .inl ((k5 0), 24, .inl fb)), (h2, .inl ((k5 0), 24, .inl fr)), (h3, .inl ((k5 2), 1536, .inl fy))])) s.heap s.heap [] := va_S.rf
  have hl := lv_entry ([.ref h0]) (n := 1) (Nat.le_of_ble_eq_true rfl)
  rw [lg_entry_eq]
  generalize (lg_sl ([.ref h0]) ++ List.replicate (1 - (lg_sl ([.ref h0])).length) Slot.unset).toArray = ls at hl ⊢
  have hl : lv_has ls 1 [(0, .ref h0)] := hl
  refine lv_aload_n hx hb d_G_use_0 rfl (lv_at hl 0 rfl) ?_
  refine va_get (D := (dC, dI)) (ci := 0) (v := .int tk) (C := R_G) (T := T_G) (N := 5) hx hb hts wu_G hown hK hP 0 rfl rfl 3 (by decide) (hts _ wf_G_22) (fun _ h9 => h9) rfl d_G_use_1 ?_
  refine lv_if_ne (tgt := 11) hx hb d_G_use_4 (by decide) (fun hc_1 => ?_) (fun hc_1 => ?_)
  · refine lv_iconst (v := 1) hx hb d_G_use_11 (by decide) ?_
    refine lv_aload_n hx hb d_G_use_12 rfl (lv_at hl 0 rfl) ?_
    refine va_get (D := (dC, dI)) (ci := 0) (v := .int tk) (C := R_G) (T := T_G) (N := 5) hx hb hts wu_G hown hK hP 0 rfl rfl 3 (by decide) (hts _ wf_G_22) (fun _ h9 => h9) rfl d_G_use_13 ?_
    refine lv_iadd hx hb d_G_use_16 ?_
    refine lv_iconst (v := 2) hx hb d_G_use_17 (by decide) ?_
    refine lv_aload_n hx hb d_G_use_18 rfl (lv_at hl 0 rfl) ?_
    refine va_get (D := (dC, dI)) (ci := 0) (v := .int rt) (C := R_G) (T := T_G) (N := 5) hx hb hts wu_G hown hK hP 0 rfl rfl 4 (by decide) (hts _ wf_G_26) (fun _ h9 => h9) rfl d_G_use_19 ?_
    refine lv_imul hx hb d_G_use_22 ?_
    refine lv_iadd hx hb d_G_use_23 ?_
    exact W.iret (v := ((1 + tk) + (2 * rt))) hx hb hr (fun t ht hW => kx_Ri (by simp [hc_1]) ht) (fun _ h => absurd h List.not_mem_nil) d_G_use_24
  · refine lv_iconst (v := 0) hx hb d_G_use_7 (by decide) ?_
    refine lv_goto (tgt := 24) hx hb d_G_use_8 (by decide) ?_
    exact W.iret (v := 0) hx hb hr (fun t ht hW => kx_Ri (by simp [hc_1]) ht) (fun _ h => absurd h List.not_mem_nil) d_G_use_24
set_option maxHeartbeats 4000000 in
set_option maxRecDepth 100000 in
theorem k_G_clear (l : Launch) (dC : Nat → ClassId) (dI : Nat → Nat → Nat) (k5 : Nat → ClassId) (h0 h1 h2 h3 : Nat) (tk rt : Int32) (fb fr fy : Nat → Int32)  : Met l y_G_clear w_G_clear ({ frames := 0, cells := 0, slots := 0, locals := 0 }) (kx_Pc (dC, dI) clA (tyL k5) ([(h0, .inr (0, [.ref h1, .ref h2, .ref h3, .int tk, .int rt])), (h1, .inl ((k5 0), 24, .inl fb)), (h2, .inl ((k5 0), 24, .inl fr)), (h3, .inl ((k5 2), 1536, .inl fy))]) [.ref h0]) (kx_Q (dC, dI) clA ([(h0, .inr (0, [.ref h1, .ref h2, .ref h3, .int tk, .int rt])), (h1, .inl ((k5 0), 24, .inl fb)), (h2, .inl ((k5 0), 24, .inl fr)), (h3, .inl ((k5 2), 1536, .inl fy))]) ([(h0, .inr (0, [.ref h1, .ref h2, .ref h3, .int 0, .int 0])), (h1, .inl ((k5 0), 24, .inl fb)), (h2, .inl ((k5 0), 24, .inl fr)), (h3, .inl ((k5 2), 1536, .inl fy))]) none) 0 0 (kx_A ([(h0, .inr (0, [.ref h1, .ref h2, .ref h3, .int tk, .int rt])), (h1, .inl ((k5 0), 24, .inl fb)), (h2, .inl ((k5 0), 24, .inl fr)), (h3, .inl ((k5 2), 1536, .inl fy))])) := by
  refine Met.ofW (cc := c_G_clear) (maxL := 1) (ret := none) (by decide) rfl ?_
  intro p e s m args below meth c s₁ B hml hv
  obtain ⟨rfl, hP, hK, hD0⟩ := hv
  have hx := B.exec
  have hb := B.bytes
  have hr := B.returns
  have hts : ∀ w ∈ wsA, w.before _ s = true := fun w h => atoms_spec (ws := w_G_clear) B.pre w (List.mem_cons_of_mem _ h)
  have hown : s.vm.findClass R_G = some m.cls := findClass_of_methodNamed B.named
  have hlocks := B.notSynchronized
  have hD := kx_D.self hD0
  have hS : va_S (kx_A ([(h0, .inr (0, [.ref h1, .ref h2, .ref h3, .int tk, .int rt])), (h1, .inl ((k5 0), 24, .inl fb)), (h2, .inl ((k5 0), 24, .inl fr)), (h3, .inl ((k5 2), 1536, .inl fy))])) s.heap s.heap [] := va_S.rf
  have hl := lv_entry ([.ref h0]) (n := 1) (Nat.le_of_ble_eq_true rfl)
  rw [lg_entry_eq]
  generalize (lg_sl ([.ref h0]) ++ List.replicate (1 - (lg_sl ([.ref h0])).length) Slot.unset).toArray = ls at hl ⊢
  have hl : lv_has ls 1 [(0, .ref h0)] := hl
  refine lv_aload_n hx hb d_G_clear_0 rfl (lv_at hl 0 rfl) ?_
  refine lv_iconst (v := 0) hx hb d_G_clear_1 (by decide) ?_
  refine kx_put (ws' := [(h0, .inr (0, [.ref h1, .ref h2, .ref h3, .int 0, .int rt])), (h1, .inl ((k5 0), 24, .inl fb)), (h2, .inl ((k5 0), 24, .inl fr)), (h3, .inl ((k5 2), 1536, .inl fy))]) (D := (dC, dI)) (ci := 0) (v := .int 0) (ty := .int) (C := R_G) (T := T_G) (N := 5) hx hb hts wu_G ty_G ok_G nm_G hown hK hP hD hS 0 rfl rfl 3 (by decide) (hts _ wf_G_22) (fun _ h9 => h9) rfl (by decide +kernel) rfl rfl (Nat.le_of_ble_eq_true rfl) rfl d_G_clear_2 (fun H locs hP hD hS => ?_)
  refine lv_aload_n hx hb d_G_clear_5 rfl (lv_at hl 0 rfl) ?_
  refine lv_iconst (v := 0) hx hb d_G_clear_6 (by decide) ?_
  refine kx_put (ws' := [(h0, .inr (0, [.ref h1, .ref h2, .ref h3, .int 0, .int 0])), (h1, .inl ((k5 0), 24, .inl fb)), (h2, .inl ((k5 0), 24, .inl fr)), (h3, .inl ((k5 2), 1536, .inl fy))]) (D := (dC, dI)) (ci := 0) (v := .int 0) (ty := .int) (C := R_G) (T := T_G) (N := 5) hx hb hts wu_G ty_G ok_G nm_G hown hK hP hD hS 0 rfl rfl 4 (by decide) (hts _ wf_G_26) (fun _ h9 => h9) rfl (by decide +kernel) rfl rfl (Nat.le_of_ble_eq_true rfl) rfl d_G_clear_7 (fun H locs hP hD hS => ?_)
  exact W.vret hx hb hr (fun t ht hW => kx_Qv ht hP (rfl) hS rfl) hS.2.2 d_G_clear_10
set_option maxHeartbeats 4000000 in
set_option maxRecDepth 100000 in
theorem k_G_placeOf (l : Launch) (dC : Nat → ClassId) (dI : Nat → Nat → Nat) (k5 : Nat → ClassId) (h0 h1 h2 h3 : Nat) (tk rt : Int32) (fb fr fy : Nat → Int32) (t : Nat) (ht : t ≤ 24) (x : Int32) (etk : tk = nI t) : Met l y_G_placeOf w_G_placeOf ({ frames := 0, cells := 0, slots := 0, locals := 0 }) (kx_Pc (dC, dI) clA (tyL k5) ([(h0, .inr (0, [.ref h1, .ref h2, .ref h3, .int tk, .int rt])), (h1, .inl ((k5 0), 24, .inl fb)), (h2, .inl ((k5 0), 24, .inl fr)), (h3, .inl ((k5 2), 1536, .inl fy))]) [.ref h0, .int x]) (kx_R (some (.int (oI (gFind fb x t))))) 0 0 (fun _ => False) := by
  refine Met.ofW (cc := c_G_placeOf) (maxL := 3) (ret := (some .int)) (by decide) rfl ?_
  intro p e s m args below meth c s₁ B hml hv
  obtain ⟨rfl, hP, hK, hD0⟩ := hv
  have hx := B.exec
  have hb := B.bytes
  have hr := B.returns
  have hts : ∀ w ∈ wsA, w.before _ s = true := fun w h => atoms_spec (ws := w_G_placeOf) B.pre w (List.mem_cons_of_mem _ h)
  have hown : s.vm.findClass R_G = some m.cls := findClass_of_methodNamed B.named
  have hlocks := B.notSynchronized
  have hD := kx_D.self hD0
  have hS : va_S (kx_A ([(h0, .inr (0, [.ref h1, .ref h2, .ref h3, .int tk, .int rt])), (h1, .inl ((k5 0), 24, .inl fb)), (h2, .inl ((k5 0), 24, .inl fr)), (h3, .inl ((k5 2), 1536, .inl fy))])) s.heap s.heap [] := va_S.rf
  have hl := lv_entry ([.ref h0, .int x]) (n := 3) (Nat.le_of_ble_eq_true rfl)
  rw [lg_entry_eq]
  generalize (lg_sl ([.ref h0, .int x]) ++ List.replicate (3 - (lg_sl ([.ref h0, .int x])).length) Slot.unset).toArray = ls at hl ⊢
  have hl : lv_has ls 3 [(0, .ref h0), (1, .int x)] := hl
  refine lv_iconst (v := 0) hx hb d_G_placeOf_0 (by decide) ?_
  refine lv_istore_n (lv' := [(2, .int 0), (0, .ref h0), (1, .int x)]) hx hb d_G_placeOf_1 rfl hl (by decide) rfl (fun ls hl => ?_)
  have lp : ∀ (n i : Nat) (ls : Array Slot), i + n = t → (∀ j, j < i → ¬ fb j = x) → lv_has ls 3 [(2, .int (nI i)), (0, .ref h0), (1, .int x)] → W p l e (headSpec w_G_placeOf ({ frames := 0, cells := 0, slots := 0, locals := 0 })).room s m ([.ref h0, .int x] : List Value).toArray below meth c s.heap [] 0 0 (MQ below (kx_R (some (.int (oI (gFind fb x t))))) ([.ref h0, .int x] : List Value).toArray s 0 0 (fun _ => False)) (F0 m 2 ls []) := by
    intro n
    induction n with
    | zero =>
      intro i ls hi hno hl
      have hi : i = t := by omega
      subst hi
      refine lv_iload_n hx hb d_G_placeOf_2 rfl (lv_at hl 0 rfl) ?_
      refine lv_aload_n hx hb d_G_placeOf_3 rfl (lv_at hl 1 rfl) ?_
      refine va_get (D := (dC, dI)) (ci := 0) (v := .int tk) (C := R_G) (T := T_G) (N := 5) hx hb hts wu_G hown hK hP 0 rfl rfl 3 (by decide) (hts _ wf_G_22) (fun _ h9 => h9) rfl d_G_placeOf_4 ?_
      refine lv_icmp_ge (tgt := 28) hx hb d_G_placeOf_7 (by decide) (fun hc => ?_) (fun hc => ?_)
      · refine lv_iconst (v := (-1)) hx hb d_G_placeOf_28 (by decide) ?_
        exact W.iret (v := (-1)) hx hb hr (fun t ht hW => kx_Ri (by rw [gFind_none hno]; rfl) ht) (fun _ h => absurd h List.not_mem_nil) d_G_placeOf_29
      · exact absurd (by rw [etk]; exact nI_le (Nat.le_refl i) (by omega)) hc
    | succ n ih =>
      intro i ls hi hno hl
      refine lv_iload_n hx hb d_G_placeOf_2 rfl (lv_at hl 0 rfl) ?_
      refine lv_aload_n hx hb d_G_placeOf_3 rfl (lv_at hl 1 rfl) ?_
      refine va_get (D := (dC, dI)) (ci := 0) (v := .int tk) (C := R_G) (T := T_G) (N := 5) hx hb hts wu_G hown hK hP 0 rfl rfl 3 (by decide) (hts _ wf_G_22) (fun _ h9 => h9) rfl d_G_placeOf_4 ?_
      refine lv_icmp_ge (tgt := 28) hx hb d_G_placeOf_7 (by decide) (fun hc => ?_) (fun hc => ?_)
      · exact absurd hc (by rw [etk]; exact nI_ge (by omega) (by omega))
      · refine lv_aload_n hx hb d_G_placeOf_10 rfl (lv_at hl 1 rfl) ?_
        refine va_get (D := (dC, dI)) (ci := 0) (v := .ref h1) (C := R_G) (T := T_G) (N := 5) hx hb hts wu_G hown hK hP 0 rfl rfl 0 (by decide) (hts _ wf_G_9) (fun _ h9 => h9) rfl d_G_placeOf_11 ?_
        refine lv_iload_n hx hb d_G_placeOf_14 rfl (lv_at hl 0 rfl) ?_
        refine kx_iald hx hb hK hP 1 0 rfl rfl i (rfl) (by omega) (by omega) d_G_placeOf_15 ?_
        refine lv_iload_n hx hb d_G_placeOf_16 rfl (lv_at hl 2 rfl) ?_
        refine lv_icmp_ne (tgt := 22) hx hb d_G_placeOf_17 (by decide) (fun hd => ?_) (fun hd => ?_)
        · refine lv_iinc (v := nI (i + 1)) (lv' := [(2, .int (nI (i + 1))), (0, .ref h0), (1, .int x)]) hx hb d_G_placeOf_22 hl (k := 0) rfl (nI_1 i) (by decide) rfl (fun ls hl => ?_)
          refine lv_goto (tgt := 2) hx hb d_G_placeOf_25 (by decide) ?_
          exact ih (i + 1) ls (by omega) (lt_s hno hd) hl
        · refine lv_iload_n hx hb d_G_placeOf_20 rfl (lv_at hl 0 rfl) ?_
          exact W.iret (v := (nI i)) hx hb hr (fun t ht hW => kx_Ri (by rw [gFind_some hd hno (by omega)]; rfl) ht) (fun _ h => absurd h List.not_mem_nil) d_G_placeOf_21
  exact lp t 0 ls (by omega) (fun j hj => absurd hj (by omega)) (lv_sub hl [0, 1, 2] rfl)
set_option maxHeartbeats 4000000 in
set_option maxRecDepth 100000 in
theorem k_G_firstOf (l : Launch) (dC : Nat → ClassId) (dI : Nat → Nat → Nat) (k5 : Nat → ClassId) (h0 h1 h2 h3 : Nat) (tk rt : Int32) (fb fr fy : Nat → Int32) (t : Nat) (ht : t ≤ 24) (x : Int32) (etk : tk = nI t) : Met l y_G_firstOf w_G_firstOf ({ frames := 0, cells := 0, slots := 0, locals := 0 }) (kx_Pc (dC, dI) clA (tyL k5) ([(h0, .inr (0, [.ref h1, .ref h2, .ref h3, .int tk, .int rt])), (h1, .inl ((k5 0), 24, .inl fb)), (h2, .inl ((k5 0), 24, .inl fr)), (h3, .inl ((k5 2), 1536, .inl fy))]) [.ref h0, .int x]) (kx_R (some (.int (oI (gFind fr x t))))) 0 0 (fun _ => False) := by
  refine Met.ofW (cc := c_G_firstOf) (maxL := 3) (ret := (some .int)) (by decide) rfl ?_
  intro p e s m args below meth c s₁ B hml hv
  obtain ⟨rfl, hP, hK, hD0⟩ := hv
  have hx := B.exec
  have hb := B.bytes
  have hr := B.returns
  have hts : ∀ w ∈ wsA, w.before _ s = true := fun w h => atoms_spec (ws := w_G_firstOf) B.pre w (List.mem_cons_of_mem _ h)
  have hown : s.vm.findClass R_G = some m.cls := findClass_of_methodNamed B.named
  have hlocks := B.notSynchronized
  have hD := kx_D.self hD0
  have hS : va_S (kx_A ([(h0, .inr (0, [.ref h1, .ref h2, .ref h3, .int tk, .int rt])), (h1, .inl ((k5 0), 24, .inl fb)), (h2, .inl ((k5 0), 24, .inl fr)), (h3, .inl ((k5 2), 1536, .inl fy))])) s.heap s.heap [] := va_S.rf
  have hl := lv_entry ([.ref h0, .int x]) (n := 3) (Nat.le_of_ble_eq_true rfl)
  rw [lg_entry_eq]
  generalize (lg_sl ([.ref h0, .int x]) ++ List.replicate (3 - (lg_sl ([.ref h0, .int x])).length) Slot.unset).toArray = ls at hl ⊢
  have hl : lv_has ls 3 [(0, .ref h0), (1, .int x)] := hl
  refine lv_iconst (v := 0) hx hb d_G_firstOf_0 (by decide) ?_
  refine lv_istore_n (lv' := [(2, .int 0), (0, .ref h0), (1, .int x)]) hx hb d_G_firstOf_1 rfl hl (by decide) rfl (fun ls hl => ?_)
  have lp : ∀ (n i : Nat) (ls : Array Slot), i + n = t → (∀ j, j < i → ¬ fr j = x) → lv_has ls 3 [(2, .int (nI i)), (0, .ref h0), (1, .int x)] → W p l e (headSpec w_G_firstOf ({ frames := 0, cells := 0, slots := 0, locals := 0 })).room s m ([.ref h0, .int x] : List Value).toArray below meth c s.heap [] 0 0 (MQ below (kx_R (some (.int (oI (gFind fr x t))))) ([.ref h0, .int x] : List Value).toArray s 0 0 (fun _ => False)) (F0 m 2 ls []) := by
    intro n
    induction n with
    | zero =>
      intro i ls hi hno hl
      have hi : i = t := by omega
      subst hi
      refine lv_iload_n hx hb d_G_firstOf_2 rfl (lv_at hl 0 rfl) ?_
      refine lv_aload_n hx hb d_G_firstOf_3 rfl (lv_at hl 1 rfl) ?_
      refine va_get (D := (dC, dI)) (ci := 0) (v := .int tk) (C := R_G) (T := T_G) (N := 5) hx hb hts wu_G hown hK hP 0 rfl rfl 3 (by decide) (hts _ wf_G_22) (fun _ h9 => h9) rfl d_G_firstOf_4 ?_
      refine lv_icmp_ge (tgt := 28) hx hb d_G_firstOf_7 (by decide) (fun hc => ?_) (fun hc => ?_)
      · refine lv_iconst (v := (-1)) hx hb d_G_firstOf_28 (by decide) ?_
        exact W.iret (v := (-1)) hx hb hr (fun t ht hW => kx_Ri (by rw [gFind_none hno]; rfl) ht) (fun _ h => absurd h List.not_mem_nil) d_G_firstOf_29
      · exact absurd (by rw [etk]; exact nI_le (Nat.le_refl i) (by omega)) hc
    | succ n ih =>
      intro i ls hi hno hl
      refine lv_iload_n hx hb d_G_firstOf_2 rfl (lv_at hl 0 rfl) ?_
      refine lv_aload_n hx hb d_G_firstOf_3 rfl (lv_at hl 1 rfl) ?_
      refine va_get (D := (dC, dI)) (ci := 0) (v := .int tk) (C := R_G) (T := T_G) (N := 5) hx hb hts wu_G hown hK hP 0 rfl rfl 3 (by decide) (hts _ wf_G_22) (fun _ h9 => h9) rfl d_G_firstOf_4 ?_
      refine lv_icmp_ge (tgt := 28) hx hb d_G_firstOf_7 (by decide) (fun hc => ?_) (fun hc => ?_)
      · exact absurd hc (by rw [etk]; exact nI_ge (by omega) (by omega))
      · refine lv_aload_n hx hb d_G_firstOf_10 rfl (lv_at hl 1 rfl) ?_
        refine va_get (D := (dC, dI)) (ci := 0) (v := .ref h2) (C := R_G) (T := T_G) (N := 5) hx hb hts wu_G hown hK hP 0 rfl rfl 1 (by decide) (hts _ wf_G_15) (fun _ h9 => h9) rfl d_G_firstOf_11 ?_
        refine lv_iload_n hx hb d_G_firstOf_14 rfl (lv_at hl 0 rfl) ?_
        refine kx_iald hx hb hK hP 2 0 rfl rfl i (rfl) (by omega) (by omega) d_G_firstOf_15 ?_
        refine lv_iload_n hx hb d_G_firstOf_16 rfl (lv_at hl 2 rfl) ?_
        refine lv_icmp_ne (tgt := 22) hx hb d_G_firstOf_17 (by decide) (fun hd => ?_) (fun hd => ?_)
        · refine lv_iinc (v := nI (i + 1)) (lv' := [(2, .int (nI (i + 1))), (0, .ref h0), (1, .int x)]) hx hb d_G_firstOf_22 hl (k := 0) rfl (nI_1 i) (by decide) rfl (fun ls hl => ?_)
          refine lv_goto (tgt := 2) hx hb d_G_firstOf_25 (by decide) ?_
          exact ih (i + 1) ls (by omega) (lt_s hno hd) hl
        · refine lv_iload_n hx hb d_G_firstOf_20 rfl (lv_at hl 0 rfl) ?_
          exact W.iret (v := (nI i)) hx hb hr (fun t ht hW => kx_Ri (by rw [gFind_some hd hno (by omega)]; rfl) ht) (fun _ h => absurd h List.not_mem_nil) d_G_firstOf_21
  exact lp t 0 ls (by omega) (fun j hj => absurd hj (by omega)) (lv_sub hl [0, 1, 2] rfl)
set_option maxHeartbeats 4000000 in
set_option maxRecDepth 100000 in
theorem k_G_useWithOneMore (l : Launch) (dC : Nat → ClassId) (dI : Nat → Nat → Nat) (k5 : Nat → ClassId) (h0 h1 h2 h3 : Nat) (tk rt : Int32) (fb fr fy : Nat → Int32) (t : Nat) (ht : t ≤ 24) (x : Int32) (etk : tk = nI t) : Met l y_G_useWithOneMore w_G_useWithOneMore ({ frames := 1, cells := 0, slots := 0, locals := 22 }) (kx_Pc (dC, dI) clA (tyL k5) ([(h0, .inr (0, [.ref h1, .ref h2, .ref h3, .int tk, .int rt])), (h1, .inl ((k5 0), 24, .inl fb)), (h2, .inl ((k5 0), 24, .inl fr)), (h3, .inl ((k5 2), 1536, .inl fy))]) [.ref h0, .int x]) (kx_R (some (.int (1 + tk + 1 + 2 * (if oI (gFind fr x t) < 0 then rt + 1 else rt))))) 0 0 (fun _ => False) := by
  refine Met.ofW (cc := c_G_useWithOneMore) (maxL := 3) (ret := (some .int)) (by decide) rfl ?_
  intro p e s m args below meth c s₁ B hml hv
  obtain ⟨rfl, hP, hK, hD0⟩ := hv
  have hx := B.exec
  have hb := B.bytes
  have hr := B.returns
  have hts : ∀ w ∈ wsA, w.before _ s = true := fun w h => atoms_spec (ws := w_G_useWithOneMore) B.pre w (List.mem_cons_of_mem _ h)
  have hown : s.vm.findClass R_G = some m.cls := findClass_of_methodNamed B.named
  have hlocks := B.notSynchronized
  have hD := kx_D.self hD0
  have hS : va_S (kx_A ([(h0, .inr (0, [.ref h1, .ref h2, .ref h3, .int tk, .int rt])), (h1, .inl ((k5 0), 24, .inl fb)), (h2, .inl ((k5 0), 24, .inl fr)), (h3, .inl ((k5 2), 1536, .inl fy))])) s.heap s.heap [] := va_S.rf
  have hl := lv_entry ([.ref h0, .int x]) (n := 3) (Nat.le_of_ble_eq_true rfl)
  rw [lg_entry_eq]
  generalize (lg_sl ([.ref h0, .int x]) ++ List.replicate (3 - (lg_sl ([.ref h0, .int x])).length) Slot.unset).toArray = ls at hl ⊢
  have hl : lv_has ls 3 [(0, .ref h0), (1, .int x)] := hl
  refine lv_aload_n hx hb d_G_useWithOneMore_0 rfl (lv_at hl 0 rfl) ?_
  refine lv_iload_n hx hb d_G_useWithOneMore_1 rfl (lv_at hl 1 rfl) ?_
  refine kx_VRW (As := [.int x]) (rest := []) ⟨hx, hb, hml, hown, hts⟩ (k_G_firstOf l dC dI k5 h0 h1 h2 h3 tk rt fb fr fy t ht x etk) (cwV 1 hts (goodV wm_G_29 wn_G_firstOf ws_G_firstOf wi_G wc_G_firstOf) rfl rfl rfl (by decide +kernel) ⟨Nat.le_of_ble_eq_true rfl, Nat.le_of_ble_eq_true rfl⟩) ⟨Nat.zero_le _, Nat.zero_le _⟩ hK hP hD 0 rfl rfl rfl hl.1 rfl (Nat.le_of_ble_eq_true rfl) d_G_useWithOneMore_2 ?_
  refine W.eq (g2 := F0 m 5 ls [.int (oI (gFind fr x t))]) rfl ?_
  refine lv_if_ge (tgt := 17) hx hb d_G_useWithOneMore_5 (by decide) (fun hc_1 => ?_) (fun hc_1 => ?_)
  · refine lv_aload_n hx hb d_G_useWithOneMore_17 rfl (lv_at hl 0 rfl) ?_
    refine va_get (D := (dC, dI)) (ci := 0) (v := .int rt) (C := R_G) (T := T_G) (N := 5) hx hb hts wu_G hown hK hP 0 rfl rfl 4 (by decide) (hts _ wf_G_26) (fun _ h9 => h9) rfl d_G_useWithOneMore_18 ?_
    refine lv_istore_n (lv' := [(2, .int rt), (0, .ref h0), (1, .int x)]) hx hb d_G_useWithOneMore_21 rfl hl (by decide) rfl (fun ls hl => ?_)
    refine lv_iconst (v := 1) hx hb d_G_useWithOneMore_22 (by decide) ?_
    refine lv_aload_n hx hb d_G_useWithOneMore_23 rfl (lv_at hl 1 rfl) ?_
    refine va_get (D := (dC, dI)) (ci := 0) (v := .int tk) (C := R_G) (T := T_G) (N := 5) hx hb hts wu_G hown hK hP 0 rfl rfl 3 (by decide) (hts _ wf_G_22) (fun _ h9 => h9) rfl d_G_useWithOneMore_24 ?_
    refine lv_iadd hx hb d_G_useWithOneMore_27 ?_
    refine lv_iconst (v := 1) hx hb d_G_useWithOneMore_28 (by decide) ?_
    refine lv_iadd hx hb d_G_useWithOneMore_29 ?_
    refine lv_iconst (v := 2) hx hb d_G_useWithOneMore_30 (by decide) ?_
    refine lv_iload_n hx hb d_G_useWithOneMore_31 rfl (lv_at hl 0 rfl) ?_
    refine lv_imul hx hb d_G_useWithOneMore_32 ?_
    refine lv_iadd hx hb d_G_useWithOneMore_33 ?_
    exact W.iret (v := (((1 + tk) + 1) + (2 * rt))) hx hb hr (fun t ht hW => kx_Ri (by rw [if_neg (Int32.not_lt.mpr hc_1)]) ht) (fun _ h => absurd h List.not_mem_nil) d_G_useWithOneMore_34
  · refine lv_aload_n hx hb d_G_useWithOneMore_8 rfl (lv_at hl 0 rfl) ?_
    refine va_get (D := (dC, dI)) (ci := 0) (v := .int rt) (C := R_G) (T := T_G) (N := 5) hx hb hts wu_G hown hK hP 0 rfl rfl 4 (by decide) (hts _ wf_G_26) (fun _ h9 => h9) rfl d_G_useWithOneMore_9 ?_
    refine lv_iconst (v := 1) hx hb d_G_useWithOneMore_12 (by decide) ?_
    refine lv_iadd hx hb d_G_useWithOneMore_13 ?_
    refine lv_goto (tgt := 21) hx hb d_G_useWithOneMore_14 (by decide) ?_
    refine lv_istore_n (lv' := [(2, .int (rt + 1)), (0, .ref h0), (1, .int x)]) hx hb d_G_useWithOneMore_21 rfl hl (by decide) rfl (fun ls hl => ?_)
    refine lv_iconst (v := 1) hx hb d_G_useWithOneMore_22 (by decide) ?_
    refine lv_aload_n hx hb d_G_useWithOneMore_23 rfl (lv_at hl 1 rfl) ?_
    refine va_get (D := (dC, dI)) (ci := 0) (v := .int tk) (C := R_G) (T := T_G) (N := 5) hx hb hts wu_G hown hK hP 0 rfl rfl 3 (by decide) (hts _ wf_G_22) (fun _ h9 => h9) rfl d_G_useWithOneMore_24 ?_
    refine lv_iadd hx hb d_G_useWithOneMore_27 ?_
    refine lv_iconst (v := 1) hx hb d_G_useWithOneMore_28 (by decide) ?_
    refine lv_iadd hx hb d_G_useWithOneMore_29 ?_
    refine lv_iconst (v := 2) hx hb d_G_useWithOneMore_30 (by decide) ?_
    refine lv_iload_n hx hb d_G_useWithOneMore_31 rfl (lv_at hl 0 rfl) ?_
    refine lv_imul hx hb d_G_useWithOneMore_32 ?_
    refine lv_iadd hx hb d_G_useWithOneMore_33 ?_
    exact W.iret (v := (((1 + tk) + 1) + (2 * (rt + 1)))) hx hb hr (fun t ht hW => kx_Ri (by rw [if_pos (Int32.not_le.mp hc_1)]) ht) (fun _ h => absurd h List.not_mem_nil) d_G_useWithOneMore_34
set_option maxHeartbeats 4000000 in
set_option maxRecDepth 100000 in
theorem k_G_isFirstOfRow (l : Launch) (dC : Nat → ClassId) (dI : Nat → Nat → Nat) (k5 : Nat → ClassId) (h0 h1 h2 h3 : Nat) (tk rt : Int32) (fb fr fy : Nat → Int32) (t k : Nat) (ht : t ≤ 24) (hk : k < 24) (etk : tk = nI t) : Met l y_G_isFirstOfRow w_G_isFirstOfRow ({ frames := 1, cells := 0, slots := 0, locals := 22 }) (kx_Pc (dC, dI) clA (tyL k5) ([(h0, .inr (0, [.ref h1, .ref h2, .ref h3, .int tk, .int rt])), (h1, .inl ((k5 0), 24, .inl fb)), (h2, .inl ((k5 0), 24, .inl fr)), (h3, .inl ((k5 2), 1536, .inl fy))]) [.ref h0, .int (nI k)]) (kx_R (some (.int (bI (decide (oI (gFind fr (fr k) t) = nI k)))))) 0 0 (fun _ => False) := by
  refine Met.ofW (cc := c_G_isFirstOfRow) (maxL := 2) (ret := (some .boolean)) (by decide) rfl ?_
  intro p e s m args below meth c s₁ B hml hv
  obtain ⟨rfl, hP, hK, hD0⟩ := hv
  have hx := B.exec
  have hb := B.bytes
  have hr := B.returns
  have hts : ∀ w ∈ wsA, w.before _ s = true := fun w h => atoms_spec (ws := w_G_isFirstOfRow) B.pre w (List.mem_cons_of_mem _ h)
  have hown : s.vm.findClass R_G = some m.cls := findClass_of_methodNamed B.named
  have hlocks := B.notSynchronized
  have hD := kx_D.self hD0
  have hS : va_S (kx_A ([(h0, .inr (0, [.ref h1, .ref h2, .ref h3, .int tk, .int rt])), (h1, .inl ((k5 0), 24, .inl fb)), (h2, .inl ((k5 0), 24, .inl fr)), (h3, .inl ((k5 2), 1536, .inl fy))])) s.heap s.heap [] := va_S.rf
  have hl := lv_entry ([.ref h0, .int (nI k)]) (n := 2) (Nat.le_of_ble_eq_true rfl)
  rw [lg_entry_eq]
  generalize (lg_sl ([.ref h0, .int (nI k)]) ++ List.replicate (2 - (lg_sl ([.ref h0, .int (nI k)])).length) Slot.unset).toArray = ls at hl ⊢
  have hl : lv_has ls 2 [(0, .ref h0), (1, .int (nI k))] := hl
  refine lv_aload_n hx hb d_G_isFirstOfRow_0 rfl (lv_at hl 0 rfl) ?_
  refine lv_aload_n hx hb d_G_isFirstOfRow_1 rfl (lv_at hl 0 rfl) ?_
  refine va_get (D := (dC, dI)) (ci := 0) (v := .ref h2) (C := R_G) (T := T_G) (N := 5) hx hb hts wu_G hown hK hP 0 rfl rfl 1 (by decide) (hts _ wf_G_15) (fun _ h9 => h9) rfl d_G_isFirstOfRow_2 ?_
  refine lv_iload_n hx hb d_G_isFirstOfRow_5 rfl (lv_at hl 1 rfl) ?_
  refine kx_iald hx hb hK hP 2 0 rfl rfl k (rfl) (by omega) (by omega) d_G_isFirstOfRow_6 ?_
  refine kx_VRW (As := [.int (fr k)]) (rest := []) ⟨hx, hb, hml, hown, hts⟩ (k_G_firstOf l dC dI k5 h0 h1 h2 h3 tk rt fb fr fy t ht (fr k) etk) (cwV 1 hts (goodV wm_G_29 wn_G_firstOf ws_G_firstOf wi_G wc_G_firstOf) rfl rfl rfl (by decide +kernel) ⟨Nat.le_of_ble_eq_true rfl, Nat.le_of_ble_eq_true rfl⟩) ⟨Nat.zero_le _, Nat.zero_le _⟩ hK hP hD 0 rfl rfl rfl hl.1 rfl (Nat.le_of_ble_eq_true rfl) d_G_isFirstOfRow_7 ?_
  refine W.eq (g2 := F0 m 10 ls [.int (oI (gFind fr (fr k) t))]) rfl ?_
  refine lv_iload_n hx hb d_G_isFirstOfRow_10 rfl (lv_at hl 1 rfl) ?_
  refine lv_icmp_ne (tgt := 18) hx hb d_G_isFirstOfRow_11 (by decide) (fun hc_1 => ?_) (fun hc_1 => ?_)
  · refine lv_iconst (v := 0) hx hb d_G_isFirstOfRow_18 (by decide) ?_
    exact W.zret (v := 0) hx hb hr rfl (fun t ht hW => kx_Ri (by simp [bI, hc_1]) ht) (fun _ h => absurd h List.not_mem_nil) d_G_isFirstOfRow_19
  · refine lv_iconst (v := 1) hx hb d_G_isFirstOfRow_14 (by decide) ?_
    refine lv_goto (tgt := 19) hx hb d_G_isFirstOfRow_15 (by decide) ?_
    exact W.zret (v := 1) hx hb hr rfl (fun t ht hW => kx_Ri (by simp [bI, hc_1]) ht) (fun _ h => absurd h List.not_mem_nil) d_G_isFirstOfRow_19
set_option maxHeartbeats 4000000 in
set_option maxRecDepth 100000 in
theorem k_G_take (l : Launch) (dC : Nat → ClassId) (dI : Nat → Nat → Nat) (k5 : Nat → ClassId) (h0 h1 h2 h3 : Nat) (tk rt : Int32) (fb fr fy : Nat → Int32) (hk : Nat) (kp : Nat → Int32) (t b : Nat) (ht : t < 24) (hb2 : b < 204) (x : Int32) (etk : tk = nI t) (hfit : sb_Fit kp) : Met l y_G_take w_G_take ({ frames := 1, cells := 0, slots := 0, locals := 40 }) (kx_Pc (dC, dI) clA (tyL k5) ([(h0, .inr (0, [.ref h1, .ref h2, .ref h3, .int tk, .int rt])), (h1, .inl ((k5 0), 24, .inl fb)), (h2, .inl ((k5 0), 24, .inl fr)), (h3, .inl ((k5 2), 1536, .inl fy)), (hk, .inl ((k5 2), 13056, .inl kp))]) [.ref h0, .int (nI b), .int x, .ref hk]) (kx_Q (dC, dI) clA ([(h0, .inr (0, [.ref h1, .ref h2, .ref h3, .int tk, .int rt])), (h1, .inl ((k5 0), 24, .inl fb)), (h2, .inl ((k5 0), 24, .inl fr)), (h3, .inl ((k5 2), 1536, .inl fy)), (hk, .inl ((k5 2), 13056, .inl kp))]) ([(h0, .inr (0, [.ref h1, .ref h2, .ref h3, .int (tk + 1), .int (if oI (gFind fr x t) < 0 then rt + 1 else rt)])), (h1, .inl ((k5 0), 24, .inl (upd fb t (nI b)))), (h2, .inl ((k5 0), 24, .inl (upd fr t x))), (h3, .inl ((k5 2), 1536, .inl (va_cpy kp fy (b * 64) (t * 64) 64))), (hk, .inl ((k5 2), 13056, .inl kp))]) (some (.int (nI t)))) 0 0 (kx_A ([(h0, .inr (0, [.ref h1, .ref h2, .ref h3, .int tk, .int rt])), (h1, .inl ((k5 0), 24, .inl fb)), (h2, .inl ((k5 0), 24, .inl fr)), (h3, .inl ((k5 2), 1536, .inl fy)), (hk, .inl ((k5 2), 13056, .inl kp))])) := by
  refine Met.ofW (cc := c_G_take) (maxL := 5) (ret := (some .int)) (by decide) rfl ?_
  intro p e s m args below meth c s₁ B hml hv
  obtain ⟨rfl, hP, hK, hD0⟩ := hv
  have hx := B.exec
  have hb := B.bytes
  have hr := B.returns
  have hts : ∀ w ∈ wsA, w.before _ s = true := fun w h => atoms_spec (ws := w_G_take) B.pre w (List.mem_cons_of_mem _ h)
  have hown : s.vm.findClass R_G = some m.cls := findClass_of_methodNamed B.named
  have hlocks := B.notSynchronized
  have hD := kx_D.self hD0
  have hS : va_S (kx_A ([(h0, .inr (0, [.ref h1, .ref h2, .ref h3, .int tk, .int rt])), (h1, .inl ((k5 0), 24, .inl fb)), (h2, .inl ((k5 0), 24, .inl fr)), (h3, .inl ((k5 2), 1536, .inl fy)), (hk, .inl ((k5 2), 13056, .inl kp))])) s.heap s.heap [] := va_S.rf
  have hl := lv_entry ([.ref h0, .int (nI b), .int x, .ref hk]) (n := 5) (Nat.le_of_ble_eq_true rfl)
  rw [lg_entry_eq]
  generalize (lg_sl ([.ref h0, .int (nI b), .int x, .ref hk]) ++ List.replicate (5 - (lg_sl ([.ref h0, .int (nI b), .int x, .ref hk])).length) Slot.unset).toArray = ls at hl ⊢
  have hl : lv_has ls 5 [(0, .ref h0), (1, .int (nI b)), (2, .int x), (3, .ref hk)] := hl
  refine lv_aload_n hx hb d_G_take_0 rfl (lv_at hl 0 rfl) ?_
  refine lv_iload_n hx hb d_G_take_1 rfl (lv_at hl 2 rfl) ?_
  refine kx_VR (As := [.int x]) (rest := []) ⟨hx, hb, hml, hown, hts⟩ (k_G_firstOf l dC dI k5 h0 h1 h2 h3 tk rt fb fr fy t (by omega) x etk) (cwV 1 hts (goodV wm_G_29 wn_G_firstOf ws_G_firstOf wi_G wc_G_firstOf) rfl rfl rfl (by decide +kernel) ⟨Nat.le_of_ble_eq_true rfl, Nat.le_of_ble_eq_true rfl⟩) ⟨Nat.zero_le _, Nat.zero_le _⟩ hK hP hD [0, 1, 2, 3] (by decide) rfl 0 rfl rfl rfl hl.1 rfl (Nat.le_of_ble_eq_true rfl) d_G_take_2 ?_
  refine W.eq (g2 := F0 m 5 ls [.int (oI (gFind fr x t))]) rfl ?_
  refine lv_if_ge (tgt := 18) hx hb d_G_take_5 (by decide) (fun hc_1 => ?_) (fun hc_1 => ?_)
  · refine lv_aload_n hx hb d_G_take_18 rfl (lv_at hl 0 rfl) ?_
    refine va_get (D := (dC, dI)) (ci := 0) (v := .int tk) (C := R_G) (T := T_G) (N := 5) hx hb hts wu_G hown hK hP 0 rfl rfl 3 (by decide) (hts _ wf_G_22) (fun _ h9 => h9) rfl d_G_take_19 ?_
    refine lv_istore (lv' := [(4, .int tk), (0, .ref h0), (1, .int (nI b)), (2, .int x), (3, .ref hk)]) hx hb d_G_take_22 hl (by decide) rfl (fun ls hl => ?_)
    refine lv_aload_n hx hb d_G_take_24 rfl (lv_at hl 1 rfl) ?_
    refine va_get (D := (dC, dI)) (ci := 0) (v := .ref h1) (C := R_G) (T := T_G) (N := 5) hx hb hts wu_G hown hK hP 0 rfl rfl 0 (by decide) (hts _ wf_G_9) (fun _ h9 => h9) rfl d_G_take_25 ?_
    refine lv_iload hx hb d_G_take_28 (lv_at hl 0 rfl) ?_
    refine lv_iload_n hx hb d_G_take_30 rfl (lv_at hl 2 rfl) ?_
    refine kx_iast (ws' := [(h0, .inr (0, [.ref h1, .ref h2, .ref h3, .int tk, .int rt])), (h1, .inl ((k5 0), 24, .inl (upd fb t (nI b)))), (h2, .inl ((k5 0), 24, .inl fr)), (h3, .inl ((k5 2), 1536, .inl fy)), (hk, .inl ((k5 2), 13056, .inl kp))]) hx hb hK hP hD hS 1 0 rfl rfl t (etk) (by omega) (by omega) rfl d_G_take_31 (fun H locs hP hD hS => ?_)
    refine lv_aload_n hx hb d_G_take_32 rfl (lv_at hl 1 rfl) ?_
    refine va_get (D := (dC, dI)) (ci := 0) (v := .ref h2) (C := R_G) (T := T_G) (N := 5) hx hb hts wu_G hown hK hP 0 rfl rfl 1 (by decide) (hts _ wf_G_15) (fun _ h9 => h9) rfl d_G_take_33 ?_
    refine lv_iload hx hb d_G_take_36 (lv_at hl 0 rfl) ?_
    refine lv_iload_n hx hb d_G_take_38 rfl (lv_at hl 3 rfl) ?_
    refine kx_iast (ws' := [(h0, .inr (0, [.ref h1, .ref h2, .ref h3, .int tk, .int rt])), (h1, .inl ((k5 0), 24, .inl (upd fb t (nI b)))), (h2, .inl ((k5 0), 24, .inl (upd fr t x))), (h3, .inl ((k5 2), 1536, .inl fy)), (hk, .inl ((k5 2), 13056, .inl kp))]) hx hb hK hP hD hS 2 0 rfl rfl t (etk) (by omega) (by omega) rfl d_G_take_39 (fun H locs hP hD hS => ?_)
    refine lv_aload_n hx hb d_G_take_40 rfl (lv_at hl 4 rfl) ?_
    refine lv_iload_n hx hb d_G_take_41 rfl (lv_at hl 2 rfl) ?_
    refine lv_bipush (v := 64) hx hb d_G_take_42 (by decide) ?_
    refine lv_imul hx hb d_G_take_44 ?_
    refine lv_aload_n hx hb d_G_take_45 rfl (lv_at hl 1 rfl) ?_
    refine va_get (D := (dC, dI)) (ci := 0) (v := .ref h3) (C := R_G) (T := T_G) (N := 5) hx hb hts wu_G hown hK hP 0 rfl rfl 2 (by decide) (hts _ wf_G_18) (fun _ h9 => h9) rfl d_G_take_46 ?_
    refine lv_iload hx hb d_G_take_49 (lv_at hl 0 rfl) ?_
    refine lv_bipush (v := 64) hx hb d_G_take_51 (by decide) ?_
    refine lv_imul hx hb d_G_take_53 ?_
    refine lv_bipush (v := 64) hx hb d_G_take_54 (by decide) ?_
    refine kx_copy (ws' := [(h0, .inr (0, [.ref h1, .ref h2, .ref h3, .int tk, .int rt])), (h1, .inl ((k5 0), 24, .inl (upd fb t (nI b)))), (h2, .inl ((k5 0), 24, .inl (upd fr t x))), (h3, .inl ((k5 2), 1536, .inl (va_cpy kp fy (b * 64) (t * 64) 64))), (hk, .inl ((k5 2), 13056, .inl kp))]) hx hb (hml.trans hl.1.symm) hown (hts _ wm_G_33) (hts _ wv_arraycopyName) (hts _ wt_arraycopyName) (hts _ wi_S) hK hP hD hS 4 3 2 2 rfl rfl rfl rfl rfl (b * 64) (t * 64) 64 (pk_mul b 64) (by rw [etk]; exact pk_mul t 64) (rfl) (by omega) (by omega) (by omega) (by omega) (fun i hi => hfit _) rfl (Nat.le_of_ble_eq_true rfl) (Nat.le_of_ble_eq_true rfl) d_G_take_56 (fun H locs hP hD hS => ?_)
    refine lv_aload_n hx hb d_G_take_59 rfl (lv_at hl 1 rfl) ?_
    refine lv_dup hx hb d_G_take_60 rfl ?_
    refine va_get (D := (dC, dI)) (ci := 0) (v := .int tk) (C := R_G) (T := T_G) (N := 5) hx hb hts wu_G hown hK hP 0 rfl rfl 3 (by decide) (hts _ wf_G_22) (fun _ h9 => h9) rfl d_G_take_61 ?_
    refine lv_iconst (v := 1) hx hb d_G_take_64 (by decide) ?_
    refine lv_iadd hx hb d_G_take_65 ?_
    refine kx_put (ws' := [(h0, .inr (0, [.ref h1, .ref h2, .ref h3, .int (tk + 1), .int rt])), (h1, .inl ((k5 0), 24, .inl (upd fb t (nI b)))), (h2, .inl ((k5 0), 24, .inl (upd fr t x))), (h3, .inl ((k5 2), 1536, .inl (va_cpy kp fy (b * 64) (t * 64) 64))), (hk, .inl ((k5 2), 13056, .inl kp))]) (D := (dC, dI)) (ci := 0) (v := .int (tk + 1)) (ty := .int) (C := R_G) (T := T_G) (N := 5) hx hb hts wu_G ty_G ok_G nm_G hown hK hP hD hS 0 rfl rfl 3 (by decide) (hts _ wf_G_22) (fun _ h9 => h9) rfl (by decide +kernel) rfl rfl (Nat.le_of_ble_eq_true rfl) rfl d_G_take_66 (fun H locs hP hD hS => ?_)
    refine lv_iload hx hb d_G_take_69 (lv_at hl 0 rfl) ?_
    exact W.iret (v := tk) hx hb hr (fun t ht hW => kx_Qi (etk) ht hP (by rw [if_neg (Int32.not_lt.mpr hc_1)]) hS rfl) hS.2.2 d_G_take_71
  · refine lv_aload_n hx hb d_G_take_8 rfl (lv_at hl 0 rfl) ?_
    refine lv_dup hx hb d_G_take_9 rfl ?_
    refine va_get (D := (dC, dI)) (ci := 0) (v := .int rt) (C := R_G) (T := T_G) (N := 5) hx hb hts wu_G hown hK hP 0 rfl rfl 4 (by decide) (hts _ wf_G_26) (fun _ h9 => h9) rfl d_G_take_10 ?_
    refine lv_iconst (v := 1) hx hb d_G_take_13 (by decide) ?_
    refine lv_iadd hx hb d_G_take_14 ?_
    refine kx_put (ws' := [(h0, .inr (0, [.ref h1, .ref h2, .ref h3, .int tk, .int (rt + 1)])), (h1, .inl ((k5 0), 24, .inl fb)), (h2, .inl ((k5 0), 24, .inl fr)), (h3, .inl ((k5 2), 1536, .inl fy)), (hk, .inl ((k5 2), 13056, .inl kp))]) (D := (dC, dI)) (ci := 0) (v := .int (rt + 1)) (ty := .int) (C := R_G) (T := T_G) (N := 5) hx hb hts wu_G ty_G ok_G nm_G hown hK hP hD hS 0 rfl rfl 4 (by decide) (hts _ wf_G_26) (fun _ h9 => h9) rfl (by decide +kernel) rfl rfl (Nat.le_of_ble_eq_true rfl) rfl d_G_take_15 (fun H locs hP hD hS => ?_)
    refine lv_aload_n hx hb d_G_take_18 rfl (lv_at hl 0 rfl) ?_
    refine va_get (D := (dC, dI)) (ci := 0) (v := .int tk) (C := R_G) (T := T_G) (N := 5) hx hb hts wu_G hown hK hP 0 rfl rfl 3 (by decide) (hts _ wf_G_22) (fun _ h9 => h9) rfl d_G_take_19 ?_
    refine lv_istore (lv' := [(4, .int tk), (0, .ref h0), (1, .int (nI b)), (2, .int x), (3, .ref hk)]) hx hb d_G_take_22 hl (by decide) rfl (fun ls hl => ?_)
    refine lv_aload_n hx hb d_G_take_24 rfl (lv_at hl 1 rfl) ?_
    refine va_get (D := (dC, dI)) (ci := 0) (v := .ref h1) (C := R_G) (T := T_G) (N := 5) hx hb hts wu_G hown hK hP 0 rfl rfl 0 (by decide) (hts _ wf_G_9) (fun _ h9 => h9) rfl d_G_take_25 ?_
    refine lv_iload hx hb d_G_take_28 (lv_at hl 0 rfl) ?_
    refine lv_iload_n hx hb d_G_take_30 rfl (lv_at hl 2 rfl) ?_
    refine kx_iast (ws' := [(h0, .inr (0, [.ref h1, .ref h2, .ref h3, .int tk, .int (rt + 1)])), (h1, .inl ((k5 0), 24, .inl (upd fb t (nI b)))), (h2, .inl ((k5 0), 24, .inl fr)), (h3, .inl ((k5 2), 1536, .inl fy)), (hk, .inl ((k5 2), 13056, .inl kp))]) hx hb hK hP hD hS 1 0 rfl rfl t (etk) (by omega) (by omega) rfl d_G_take_31 (fun H locs hP hD hS => ?_)
    refine lv_aload_n hx hb d_G_take_32 rfl (lv_at hl 1 rfl) ?_
    refine va_get (D := (dC, dI)) (ci := 0) (v := .ref h2) (C := R_G) (T := T_G) (N := 5) hx hb hts wu_G hown hK hP 0 rfl rfl 1 (by decide) (hts _ wf_G_15) (fun _ h9 => h9) rfl d_G_take_33 ?_
    refine lv_iload hx hb d_G_take_36 (lv_at hl 0 rfl) ?_
    refine lv_iload_n hx hb d_G_take_38 rfl (lv_at hl 3 rfl) ?_
    refine kx_iast (ws' := [(h0, .inr (0, [.ref h1, .ref h2, .ref h3, .int tk, .int (rt + 1)])), (h1, .inl ((k5 0), 24, .inl (upd fb t (nI b)))), (h2, .inl ((k5 0), 24, .inl (upd fr t x))), (h3, .inl ((k5 2), 1536, .inl fy)), (hk, .inl ((k5 2), 13056, .inl kp))]) hx hb hK hP hD hS 2 0 rfl rfl t (etk) (by omega) (by omega) rfl d_G_take_39 (fun H locs hP hD hS => ?_)
    refine lv_aload_n hx hb d_G_take_40 rfl (lv_at hl 4 rfl) ?_
    refine lv_iload_n hx hb d_G_take_41 rfl (lv_at hl 2 rfl) ?_
    refine lv_bipush (v := 64) hx hb d_G_take_42 (by decide) ?_
    refine lv_imul hx hb d_G_take_44 ?_
    refine lv_aload_n hx hb d_G_take_45 rfl (lv_at hl 1 rfl) ?_
    refine va_get (D := (dC, dI)) (ci := 0) (v := .ref h3) (C := R_G) (T := T_G) (N := 5) hx hb hts wu_G hown hK hP 0 rfl rfl 2 (by decide) (hts _ wf_G_18) (fun _ h9 => h9) rfl d_G_take_46 ?_
    refine lv_iload hx hb d_G_take_49 (lv_at hl 0 rfl) ?_
    refine lv_bipush (v := 64) hx hb d_G_take_51 (by decide) ?_
    refine lv_imul hx hb d_G_take_53 ?_
    refine lv_bipush (v := 64) hx hb d_G_take_54 (by decide) ?_
    refine kx_copy (ws' := [(h0, .inr (0, [.ref h1, .ref h2, .ref h3, .int tk, .int (rt + 1)])), (h1, .inl ((k5 0), 24, .inl (upd fb t (nI b)))), (h2, .inl ((k5 0), 24, .inl (upd fr t x))), (h3, .inl ((k5 2), 1536, .inl (va_cpy kp fy (b * 64) (t * 64) 64))), (hk, .inl ((k5 2), 13056, .inl kp))]) hx hb (hml.trans hl.1.symm) hown (hts _ wm_G_33) (hts _ wv_arraycopyName) (hts _ wt_arraycopyName) (hts _ wi_S) hK hP hD hS 4 3 2 2 rfl rfl rfl rfl rfl (b * 64) (t * 64) 64 (pk_mul b 64) (by rw [etk]; exact pk_mul t 64) (rfl) (by omega) (by omega) (by omega) (by omega) (fun i hi => hfit _) rfl (Nat.le_of_ble_eq_true rfl) (Nat.le_of_ble_eq_true rfl) d_G_take_56 (fun H locs hP hD hS => ?_)
    refine lv_aload_n hx hb d_G_take_59 rfl (lv_at hl 1 rfl) ?_
    refine lv_dup hx hb d_G_take_60 rfl ?_
    refine va_get (D := (dC, dI)) (ci := 0) (v := .int tk) (C := R_G) (T := T_G) (N := 5) hx hb hts wu_G hown hK hP 0 rfl rfl 3 (by decide) (hts _ wf_G_22) (fun _ h9 => h9) rfl d_G_take_61 ?_
    refine lv_iconst (v := 1) hx hb d_G_take_64 (by decide) ?_
    refine lv_iadd hx hb d_G_take_65 ?_
    refine kx_put (ws' := [(h0, .inr (0, [.ref h1, .ref h2, .ref h3, .int (tk + 1), .int (rt + 1)])), (h1, .inl ((k5 0), 24, .inl (upd fb t (nI b)))), (h2, .inl ((k5 0), 24, .inl (upd fr t x))), (h3, .inl ((k5 2), 1536, .inl (va_cpy kp fy (b * 64) (t * 64) 64))), (hk, .inl ((k5 2), 13056, .inl kp))]) (D := (dC, dI)) (ci := 0) (v := .int (tk + 1)) (ty := .int) (C := R_G) (T := T_G) (N := 5) hx hb hts wu_G ty_G ok_G nm_G hown hK hP hD hS 0 rfl rfl 3 (by decide) (hts _ wf_G_22) (fun _ h9 => h9) rfl (by decide +kernel) rfl rfl (Nat.le_of_ble_eq_true rfl) rfl d_G_take_66 (fun H locs hP hD hS => ?_)
    refine lv_iload hx hb d_G_take_69 (lv_at hl 0 rfl) ?_
    exact W.iret (v := tk) hx hb hr (fun t ht hW => kx_Qi (etk) ht hP (by rw [if_pos (Int32.not_le.mp hc_1)]) hS rfl) hS.2.2 d_G_take_71
set_option maxHeartbeats 4000000 in
set_option maxRecDepth 100000 in
theorem k_G_set (l : Launch) (dC : Nat → ClassId) (dI : Nat → Nat → Nat) (k5 : Nat → ClassId) (h0 h1 h2 h3 : Nat) (tk rt : Int32) (fb fr fy : Nat → Int32) (pl at0 cn v : Int32) (k n : Nat) (hkn : k + n ≤ 1536) (ek : pl * 64 + at0 = nI k) (en : pl * 64 + at0 + cn = nI (k + n)) : Met l y_G_set w_G_set ({ frames := 2, cells := 0, slots := 0, locals := 46 }) (kx_Pc (dC, dI) clA (tyL k5) ([(h0, .inr (0, [.ref h1, .ref h2, .ref h3, .int tk, .int rt])), (h1, .inl ((k5 0), 24, .inl fb)), (h2, .inl ((k5 0), 24, .inl fr)), (h3, .inl ((k5 2), 1536, .inl fy))]) [.ref h0, .int pl, .int at0, .int cn, .int v]) (kx_Q (dC, dI) clA ([(h0, .inr (0, [.ref h1, .ref h2, .ref h3, .int tk, .int rt])), (h1, .inl ((k5 0), 24, .inl fb)), (h2, .inl ((k5 0), 24, .inl fr)), (h3, .inl ((k5 2), 1536, .inl fy))]) ([(h0, .inr (0, [.ref h1, .ref h2, .ref h3, .int tk, .int rt])), (h1, .inl ((k5 0), 24, .inl fb)), (h2, .inl ((k5 0), 24, .inl fr)), (h3, .inl ((k5 2), 1536, .inl (fillF fy (vp_nar .byte v.toInt8.toInt32) k n)))]) none) 0 0 (kx_A ([(h0, .inr (0, [.ref h1, .ref h2, .ref h3, .int tk, .int rt])), (h1, .inl ((k5 0), 24, .inl fb)), (h2, .inl ((k5 0), 24, .inl fr)), (h3, .inl ((k5 2), 1536, .inl fy))])) := by
  refine Met.ofW (cc := c_G_set) (maxL := 6) (ret := none) (by decide) rfl ?_
  intro p e s m args below meth c s₁ B hml hv
  obtain ⟨rfl, hP, hK, hD0⟩ := hv
  have hx := B.exec
  have hb := B.bytes
  have hr := B.returns
  have hts : ∀ w ∈ wsA, w.before _ s = true := fun w h => atoms_spec (ws := w_G_set) B.pre w (List.mem_cons_of_mem _ h)
  have hown : s.vm.findClass R_G = some m.cls := findClass_of_methodNamed B.named
  have hlocks := B.notSynchronized
  have hD := kx_D.self hD0
  have hS : va_S (kx_A ([(h0, .inr (0, [.ref h1, .ref h2, .ref h3, .int tk, .int rt])), (h1, .inl ((k5 0), 24, .inl fb)), (h2, .inl ((k5 0), 24, .inl fr)), (h3, .inl ((k5 2), 1536, .inl fy))])) s.heap s.heap [] := va_S.rf
  have hl := lv_entry ([.ref h0, .int pl, .int at0, .int cn, .int v]) (n := 6) (Nat.le_of_ble_eq_true rfl)
  rw [lg_entry_eq]
  generalize (lg_sl ([.ref h0, .int pl, .int at0, .int cn, .int v]) ++ List.replicate (6 - (lg_sl ([.ref h0, .int pl, .int at0, .int cn, .int v])).length) Slot.unset).toArray = ls at hl ⊢
  have hl : lv_has ls 6 [(0, .ref h0), (1, .int pl), (2, .int at0), (3, .int cn), (4, .int v)] := hl
  refine lv_iload_n hx hb d_G_set_0 rfl (lv_at hl 1 rfl) ?_
  refine lv_bipush (v := 64) hx hb d_G_set_1 (by decide) ?_
  refine lv_imul hx hb d_G_set_3 ?_
  refine lv_iload_n hx hb d_G_set_4 rfl (lv_at hl 2 rfl) ?_
  refine lv_iadd hx hb d_G_set_5 ?_
  refine lv_istore (lv' := [(5, .int ((pl * 64) + at0)), (0, .ref h0), (1, .int pl), (2, .int at0), (3, .int cn), (4, .int v)]) hx hb d_G_set_6 hl (by decide) rfl (fun ls hl => ?_)
  refine lv_aload_n hx hb d_G_set_8 rfl (lv_at hl 1 rfl) ?_
  refine va_get (D := (dC, dI)) (ci := 0) (v := .ref h3) (C := R_G) (T := T_G) (N := 5) hx hb hts wu_G hown hK hP 0 rfl rfl 2 (by decide) (hts _ wf_G_18) (fun _ h9 => h9) rfl d_G_set_9 ?_
  refine lv_iload hx hb d_G_set_12 (lv_at hl 0 rfl) ?_
  refine lv_iload hx hb d_G_set_14 (lv_at hl 0 rfl) ?_
  refine lv_iload_n hx hb d_G_set_16 rfl (lv_at hl 4 rfl) ?_
  refine lv_iadd hx hb d_G_set_17 ?_
  refine lv_iload hx hb d_G_set_18 (lv_at hl 5 rfl) ?_
  refine lv_i2b (v := v.toInt8.toInt32) hx hb d_G_set_20 rfl ?_
  rw [en, ek]
  refine kx_S (ws2 := [(h0, .inr (0, [.ref h1, .ref h2, .ref h3, .int tk, .int rt])), (h1, .inl ((k5 0), 24, .inl fb)), (h2, .inl ((k5 0), 24, .inl fr)), (h3, .inl ((k5 2), 1536, .inl (fillF fy (vp_nar .byte v.toInt8.toInt32) k n)))]) (As := [.ref h3, .int (nI k), .int (nI (k + n)), .int v.toInt8.toInt32]) (rest := []) ⟨hx, hb, hml, hown, hts⟩ (k_J_fillR l dC dI k5 h3 1536 k n hkn (by omega) fy v.toInt8.toInt32) (va_cwS 4 hts (goodS wm_G_39 wt_J_fillR wi_J wc_J_fillR) rfl rfl rfl (by decide +kernel) ⟨Nat.le_of_ble_eq_true rfl, Nat.le_of_ble_eq_true rfl⟩) ⟨Nat.zero_le _, Nat.zero_le _⟩ hK hP hD hS [3] (by decide) rfl rfl rfl rfl rfl hl.1 rfl (Nat.le_of_ble_eq_true rfl) d_G_set_21 (fun H locs hP hD hS => ?_)
  refine W.eq (g2 := F0 m 24 ls []) rfl ?_
  exact W.vret hx hb hr (fun t ht hW => kx_Qv ht hP (rfl) hS rfl) hS.2.2 d_G_set_24
set_option maxHeartbeats 4000000 in
set_option maxRecDepth 100000 in
theorem k_G_become (l : Launch) (dC : Nat → ClassId) (dI : Nat → Nat → Nat) (k5 : Nat → ClassId) (h0 h1 h2 h3 : Nat) (tk rt : Int32) (fb fr fy : Nat → Int32) (o0 o1 o2 o3 : Nat) (ot ort : Int32) (ob orr oy : Nat → Int32) (t : Nat) (ht : t ≤ 24) (eot : ot = nI t) (hfit : sb_Fit oy) : Met l y_G_become w_G_become ({ frames := 1, cells := 0, slots := 0, locals := 40 }) (kx_Pc (dC, dI) clA (tyL k5) ([(h0, .inr (0, [.ref h1, .ref h2, .ref h3, .int tk, .int rt])), (h1, .inl ((k5 0), 24, .inl fb)), (h2, .inl ((k5 0), 24, .inl fr)), (h3, .inl ((k5 2), 1536, .inl fy)), (o0, .inr (0, [.ref o1, .ref o2, .ref o3, .int ot, .int ort])), (o1, .inl ((k5 0), 24, .inl ob)), (o2, .inl ((k5 0), 24, .inl orr)), (o3, .inl ((k5 2), 1536, .inl oy))]) [.ref h0, .ref o0]) (kx_Q (dC, dI) clA ([(h0, .inr (0, [.ref h1, .ref h2, .ref h3, .int tk, .int rt])), (h1, .inl ((k5 0), 24, .inl fb)), (h2, .inl ((k5 0), 24, .inl fr)), (h3, .inl ((k5 2), 1536, .inl fy)), (o0, .inr (0, [.ref o1, .ref o2, .ref o3, .int ot, .int ort])), (o1, .inl ((k5 0), 24, .inl ob)), (o2, .inl ((k5 0), 24, .inl orr)), (o3, .inl ((k5 2), 1536, .inl oy))]) ([(h0, .inr (0, [.ref h1, .ref h2, .ref h3, .int ot, .int ort])), (h1, .inl ((k5 0), 24, .inl (va_cpy ob fb 0 0 t))), (h2, .inl ((k5 0), 24, .inl (va_cpy orr fr 0 0 t))), (h3, .inl ((k5 2), 1536, .inl (va_cpy oy fy 0 0 (t * 64)))), (o0, .inr (0, [.ref o1, .ref o2, .ref o3, .int ot, .int ort])), (o1, .inl ((k5 0), 24, .inl ob)), (o2, .inl ((k5 0), 24, .inl orr)), (o3, .inl ((k5 2), 1536, .inl oy))]) none) 0 0 (kx_A ([(h0, .inr (0, [.ref h1, .ref h2, .ref h3, .int tk, .int rt])), (h1, .inl ((k5 0), 24, .inl fb)), (h2, .inl ((k5 0), 24, .inl fr)), (h3, .inl ((k5 2), 1536, .inl fy)), (o0, .inr (0, [.ref o1, .ref o2, .ref o3, .int ot, .int ort])), (o1, .inl ((k5 0), 24, .inl ob)), (o2, .inl ((k5 0), 24, .inl orr)), (o3, .inl ((k5 2), 1536, .inl oy))])) := by
  refine Met.ofW (cc := c_G_become) (maxL := 2) (ret := none) (by decide) rfl ?_
  intro p e s m args below meth c s₁ B hml hv
  obtain ⟨rfl, hP, hK, hD0⟩ := hv
  have hx := B.exec
  have hb := B.bytes
  have hr := B.returns
  have hts : ∀ w ∈ wsA, w.before _ s = true := fun w h => atoms_spec (ws := w_G_become) B.pre w (List.mem_cons_of_mem _ h)
  have hown : s.vm.findClass R_G = some m.cls := findClass_of_methodNamed B.named
  have hlocks := B.notSynchronized
  have hD := kx_D.self hD0
  have hS : va_S (kx_A ([(h0, .inr (0, [.ref h1, .ref h2, .ref h3, .int tk, .int rt])), (h1, .inl ((k5 0), 24, .inl fb)), (h2, .inl ((k5 0), 24, .inl fr)), (h3, .inl ((k5 2), 1536, .inl fy)), (o0, .inr (0, [.ref o1, .ref o2, .ref o3, .int ot, .int ort])), (o1, .inl ((k5 0), 24, .inl ob)), (o2, .inl ((k5 0), 24, .inl orr)), (o3, .inl ((k5 2), 1536, .inl oy))])) s.heap s.heap [] := va_S.rf
  have hl := lv_entry ([.ref h0, .ref o0]) (n := 2) (Nat.le_of_ble_eq_true rfl)
  rw [lg_entry_eq]
  generalize (lg_sl ([.ref h0, .ref o0]) ++ List.replicate (2 - (lg_sl ([.ref h0, .ref o0])).length) Slot.unset).toArray = ls at hl ⊢
  have hl : lv_has ls 2 [(0, .ref h0), (1, .ref o0)] := hl
  refine lv_aload_n hx hb d_G_become_0 rfl (lv_at hl 1 rfl) ?_
  refine va_get (D := (dC, dI)) (ci := 0) (v := .ref o1) (C := R_G) (T := T_G) (N := 5) hx hb hts wu_G hown hK hP 4 rfl rfl 0 (by decide) (hts _ wf_G_9) (fun _ h9 => h9) rfl d_G_become_1 ?_
  refine lv_iconst (v := 0) hx hb d_G_become_4 (by decide) ?_
  refine lv_aload_n hx hb d_G_become_5 rfl (lv_at hl 0 rfl) ?_
  refine va_get (D := (dC, dI)) (ci := 0) (v := .ref h1) (C := R_G) (T := T_G) (N := 5) hx hb hts wu_G hown hK hP 0 rfl rfl 0 (by decide) (hts _ wf_G_9) (fun _ h9 => h9) rfl d_G_become_6 ?_
  refine lv_iconst (v := 0) hx hb d_G_become_9 (by decide) ?_
  refine lv_aload_n hx hb d_G_become_10 rfl (lv_at hl 1 rfl) ?_
  refine va_get (D := (dC, dI)) (ci := 0) (v := .int ot) (C := R_G) (T := T_G) (N := 5) hx hb hts wu_G hown hK hP 4 rfl rfl 3 (by decide) (hts _ wf_G_22) (fun _ h9 => h9) rfl d_G_become_11 ?_
  refine kx_copy (ws' := [(h0, .inr (0, [.ref h1, .ref h2, .ref h3, .int tk, .int rt])), (h1, .inl ((k5 0), 24, .inl (va_cpy ob fb 0 0 t))), (h2, .inl ((k5 0), 24, .inl fr)), (h3, .inl ((k5 2), 1536, .inl fy)), (o0, .inr (0, [.ref o1, .ref o2, .ref o3, .int ot, .int ort])), (o1, .inl ((k5 0), 24, .inl ob)), (o2, .inl ((k5 0), 24, .inl orr)), (o3, .inl ((k5 2), 1536, .inl oy))]) hx hb (hml.trans hl.1.symm) hown (hts _ wm_G_33) (hts _ wv_arraycopyName) (hts _ wt_arraycopyName) (hts _ wi_S) hK hP hD hS 5 1 0 0 rfl rfl rfl rfl rfl 0 0 t (rfl) (rfl) (eot) (by omega) (by omega) (by omega) (by omega) (fun i hi => rfl) rfl (Nat.le_of_ble_eq_true rfl) (Nat.le_of_ble_eq_true rfl) d_G_become_14 (fun H locs hP hD hS => ?_)
  refine lv_aload_n hx hb d_G_become_17 rfl (lv_at hl 1 rfl) ?_
  refine va_get (D := (dC, dI)) (ci := 0) (v := .ref o2) (C := R_G) (T := T_G) (N := 5) hx hb hts wu_G hown hK hP 4 rfl rfl 1 (by decide) (hts _ wf_G_15) (fun _ h9 => h9) rfl d_G_become_18 ?_
  refine lv_iconst (v := 0) hx hb d_G_become_21 (by decide) ?_
  refine lv_aload_n hx hb d_G_become_22 rfl (lv_at hl 0 rfl) ?_
  refine va_get (D := (dC, dI)) (ci := 0) (v := .ref h2) (C := R_G) (T := T_G) (N := 5) hx hb hts wu_G hown hK hP 0 rfl rfl 1 (by decide) (hts _ wf_G_15) (fun _ h9 => h9) rfl d_G_become_23 ?_
  refine lv_iconst (v := 0) hx hb d_G_become_26 (by decide) ?_
  refine lv_aload_n hx hb d_G_become_27 rfl (lv_at hl 1 rfl) ?_
  refine va_get (D := (dC, dI)) (ci := 0) (v := .int ot) (C := R_G) (T := T_G) (N := 5) hx hb hts wu_G hown hK hP 4 rfl rfl 3 (by decide) (hts _ wf_G_22) (fun _ h9 => h9) rfl d_G_become_28 ?_
  refine kx_copy (ws' := [(h0, .inr (0, [.ref h1, .ref h2, .ref h3, .int tk, .int rt])), (h1, .inl ((k5 0), 24, .inl (va_cpy ob fb 0 0 t))), (h2, .inl ((k5 0), 24, .inl (va_cpy orr fr 0 0 t))), (h3, .inl ((k5 2), 1536, .inl fy)), (o0, .inr (0, [.ref o1, .ref o2, .ref o3, .int ot, .int ort])), (o1, .inl ((k5 0), 24, .inl ob)), (o2, .inl ((k5 0), 24, .inl orr)), (o3, .inl ((k5 2), 1536, .inl oy))]) hx hb (hml.trans hl.1.symm) hown (hts _ wm_G_33) (hts _ wv_arraycopyName) (hts _ wt_arraycopyName) (hts _ wi_S) hK hP hD hS 6 2 0 0 rfl rfl rfl rfl rfl 0 0 t (rfl) (rfl) (eot) (by omega) (by omega) (by omega) (by omega) (fun i hi => rfl) rfl (Nat.le_of_ble_eq_true rfl) (Nat.le_of_ble_eq_true rfl) d_G_become_31 (fun H locs hP hD hS => ?_)
  refine lv_aload_n hx hb d_G_become_34 rfl (lv_at hl 1 rfl) ?_
  refine va_get (D := (dC, dI)) (ci := 0) (v := .ref o3) (C := R_G) (T := T_G) (N := 5) hx hb hts wu_G hown hK hP 4 rfl rfl 2 (by decide) (hts _ wf_G_18) (fun _ h9 => h9) rfl d_G_become_35 ?_
  refine lv_iconst (v := 0) hx hb d_G_become_38 (by decide) ?_
  refine lv_aload_n hx hb d_G_become_39 rfl (lv_at hl 0 rfl) ?_
  refine va_get (D := (dC, dI)) (ci := 0) (v := .ref h3) (C := R_G) (T := T_G) (N := 5) hx hb hts wu_G hown hK hP 0 rfl rfl 2 (by decide) (hts _ wf_G_18) (fun _ h9 => h9) rfl d_G_become_40 ?_
  refine lv_iconst (v := 0) hx hb d_G_become_43 (by decide) ?_
  refine lv_aload_n hx hb d_G_become_44 rfl (lv_at hl 1 rfl) ?_
  refine va_get (D := (dC, dI)) (ci := 0) (v := .int ot) (C := R_G) (T := T_G) (N := 5) hx hb hts wu_G hown hK hP 4 rfl rfl 3 (by decide) (hts _ wf_G_22) (fun _ h9 => h9) rfl d_G_become_45 ?_
  refine lv_bipush (v := 64) hx hb d_G_become_48 (by decide) ?_
  refine lv_imul hx hb d_G_become_50 ?_
  refine kx_copy (ws' := [(h0, .inr (0, [.ref h1, .ref h2, .ref h3, .int tk, .int rt])), (h1, .inl ((k5 0), 24, .inl (va_cpy ob fb 0 0 t))), (h2, .inl ((k5 0), 24, .inl (va_cpy orr fr 0 0 t))), (h3, .inl ((k5 2), 1536, .inl (va_cpy oy fy 0 0 (t * 64)))), (o0, .inr (0, [.ref o1, .ref o2, .ref o3, .int ot, .int ort])), (o1, .inl ((k5 0), 24, .inl ob)), (o2, .inl ((k5 0), 24, .inl orr)), (o3, .inl ((k5 2), 1536, .inl oy))]) hx hb (hml.trans hl.1.symm) hown (hts _ wm_G_33) (hts _ wv_arraycopyName) (hts _ wt_arraycopyName) (hts _ wi_S) hK hP hD hS 7 3 2 2 rfl rfl rfl rfl rfl 0 0 (t * 64) (rfl) (rfl) (by rw [eot]; exact pk_mul t 64) (by omega) (by omega) (by omega) (by omega) (fun i hi => hfit _) rfl (Nat.le_of_ble_eq_true rfl) (Nat.le_of_ble_eq_true rfl) d_G_become_51 (fun H locs hP hD hS => ?_)
  refine lv_aload_n hx hb d_G_become_54 rfl (lv_at hl 0 rfl) ?_
  refine lv_aload_n hx hb d_G_become_55 rfl (lv_at hl 1 rfl) ?_
  refine va_get (D := (dC, dI)) (ci := 0) (v := .int ot) (C := R_G) (T := T_G) (N := 5) hx hb hts wu_G hown hK hP 4 rfl rfl 3 (by decide) (hts _ wf_G_22) (fun _ h9 => h9) rfl d_G_become_56 ?_
  refine kx_put (ws' := [(h0, .inr (0, [.ref h1, .ref h2, .ref h3, .int ot, .int rt])), (h1, .inl ((k5 0), 24, .inl (va_cpy ob fb 0 0 t))), (h2, .inl ((k5 0), 24, .inl (va_cpy orr fr 0 0 t))), (h3, .inl ((k5 2), 1536, .inl (va_cpy oy fy 0 0 (t * 64)))), (o0, .inr (0, [.ref o1, .ref o2, .ref o3, .int ot, .int ort])), (o1, .inl ((k5 0), 24, .inl ob)), (o2, .inl ((k5 0), 24, .inl orr)), (o3, .inl ((k5 2), 1536, .inl oy))]) (D := (dC, dI)) (ci := 0) (v := .int ot) (ty := .int) (C := R_G) (T := T_G) (N := 5) hx hb hts wu_G ty_G ok_G nm_G hown hK hP hD hS 0 rfl rfl 3 (by decide) (hts _ wf_G_22) (fun _ h9 => h9) rfl (by decide +kernel) rfl rfl (Nat.le_of_ble_eq_true rfl) rfl d_G_become_59 (fun H locs hP hD hS => ?_)
  refine lv_aload_n hx hb d_G_become_62 rfl (lv_at hl 0 rfl) ?_
  refine lv_aload_n hx hb d_G_become_63 rfl (lv_at hl 1 rfl) ?_
  refine va_get (D := (dC, dI)) (ci := 0) (v := .int ort) (C := R_G) (T := T_G) (N := 5) hx hb hts wu_G hown hK hP 4 rfl rfl 4 (by decide) (hts _ wf_G_26) (fun _ h9 => h9) rfl d_G_become_64 ?_
  refine kx_put (ws' := [(h0, .inr (0, [.ref h1, .ref h2, .ref h3, .int ot, .int ort])), (h1, .inl ((k5 0), 24, .inl (va_cpy ob fb 0 0 t))), (h2, .inl ((k5 0), 24, .inl (va_cpy orr fr 0 0 t))), (h3, .inl ((k5 2), 1536, .inl (va_cpy oy fy 0 0 (t * 64)))), (o0, .inr (0, [.ref o1, .ref o2, .ref o3, .int ot, .int ort])), (o1, .inl ((k5 0), 24, .inl ob)), (o2, .inl ((k5 0), 24, .inl orr)), (o3, .inl ((k5 2), 1536, .inl oy))]) (D := (dC, dI)) (ci := 0) (v := .int ort) (ty := .int) (C := R_G) (T := T_G) (N := 5) hx hb hts wu_G ty_G ok_G nm_G hown hK hP hD hS 0 rfl rfl 4 (by decide) (hts _ wf_G_26) (fun _ h9 => h9) rfl (by decide +kernel) rfl rfl (Nat.le_of_ble_eq_true rfl) rfl d_G_become_67 (fun H locs hP hD hS => ?_)
  exact W.vret hx hb hr (fun t ht hW => kx_Qv ht hP (rfl) hS rfl) hS.2.2 d_G_become_70
set_option maxHeartbeats 4000000 in
set_option maxRecDepth 100000 in
theorem k_G_keepIn (l : Launch) (dC : Nat → ClassId) (dI : Nat → Nat → Nat) (k5 : Nat → ClassId) (h0 h1 h2 h3 : Nat) (tk rt : Int32) (fb fr fy : Nat → Int32) (hk : Nat) (kp : Nat → Int32) (t : Nat) (ht : t ≤ 24) (etk : tk = nI t) (hfit : sb_Fit fy) (hbl : ∀ j, j < t → fb j = nI (fb j).toNatClampNeg ∧ (fb j).toNatClampNeg < 204) : Met l y_G_keepIn w_G_keepIn ({ frames := 1, cells := 0, slots := 0, locals := 40 }) (kx_Pc (dC, dI) clA (tyL k5) ([(h0, .inr (0, [.ref h1, .ref h2, .ref h3, .int tk, .int rt])), (h1, .inl ((k5 0), 24, .inl fb)), (h2, .inl ((k5 0), 24, .inl fr)), (h3, .inl ((k5 2), 1536, .inl fy)), (hk, .inl ((k5 2), 13056, .inl kp))]) [.ref h0, .ref hk]) (kx_Q (dC, dI) clA ([(h0, .inr (0, [.ref h1, .ref h2, .ref h3, .int tk, .int rt])), (h1, .inl ((k5 0), 24, .inl fb)), (h2, .inl ((k5 0), 24, .inl fr)), (h3, .inl ((k5 2), 1536, .inl fy)), (hk, .inl ((k5 2), 13056, .inl kp))]) ([(h0, .inr (0, [.ref h1, .ref h2, .ref h3, .int tk, .int rt])), (h1, .inl ((k5 0), 24, .inl fb)), (h2, .inl ((k5 0), 24, .inl fr)), (h3, .inl ((k5 2), 1536, .inl fy)), (hk, .inl ((k5 2), 13056, .inl (gKeep (tk, rt, fb, fr, fy) t kp)))]) none) 0 0 (kx_A ([(h0, .inr (0, [.ref h1, .ref h2, .ref h3, .int tk, .int rt])), (h1, .inl ((k5 0), 24, .inl fb)), (h2, .inl ((k5 0), 24, .inl fr)), (h3, .inl ((k5 2), 1536, .inl fy)), (hk, .inl ((k5 2), 13056, .inl kp))])) := by
  refine Met.ofW (cc := c_G_keepIn) (maxL := 3) (ret := none) (by decide) rfl ?_
  intro p e s m args below meth c s₁ B hml hv
  obtain ⟨rfl, hP, hK, hD0⟩ := hv
  have hx := B.exec
  have hb := B.bytes
  have hr := B.returns
  have hts : ∀ w ∈ wsA, w.before _ s = true := fun w h => atoms_spec (ws := w_G_keepIn) B.pre w (List.mem_cons_of_mem _ h)
  have hown : s.vm.findClass R_G = some m.cls := findClass_of_methodNamed B.named
  have hlocks := B.notSynchronized
  have hD := kx_D.self hD0
  have hS : va_S (kx_A ([(h0, .inr (0, [.ref h1, .ref h2, .ref h3, .int tk, .int rt])), (h1, .inl ((k5 0), 24, .inl fb)), (h2, .inl ((k5 0), 24, .inl fr)), (h3, .inl ((k5 2), 1536, .inl fy)), (hk, .inl ((k5 2), 13056, .inl kp))])) s.heap s.heap [] := va_S.rf
  have hl := lv_entry ([.ref h0, .ref hk]) (n := 3) (Nat.le_of_ble_eq_true rfl)
  rw [lg_entry_eq]
  generalize (lg_sl ([.ref h0, .ref hk]) ++ List.replicate (3 - (lg_sl ([.ref h0, .ref hk])).length) Slot.unset).toArray = ls at hl ⊢
  have hl : lv_has ls 3 [(0, .ref h0), (1, .ref hk)] := hl
  refine lv_iconst (v := 0) hx hb d_G_keepIn_0 (by decide) ?_
  refine lv_istore_n (lv' := [(2, .int 0), (0, .ref h0), (1, .ref hk)]) hx hb d_G_keepIn_1 rfl hl (by decide) rfl (fun ls hl => ?_)
  have lp : ∀ (q9 i : Nat) (H : Heap) (locs : List Loc) (ls : Array Slot), i + q9 = t → va_P (dC, dI) clA [(h0, .inr (0, [.ref h1, .ref h2, .ref h3, .int tk, .int rt])), (h1, .inl ((k5 0), 24, .inl fb)), (h2, .inl ((k5 0), 24, .inl fr)), (h3, .inl ((k5 2), 1536, .inl fy)), (hk, .inl ((k5 2), 13056, .inl (gKeep (tk, rt, fb, fr, fy) i kp)))] H → va_D (kx_A ([(h0, .inr (0, [.ref h1, .ref h2, .ref h3, .int tk, .int rt])), (h1, .inl ((k5 0), 24, .inl fb)), (h2, .inl ((k5 0), 24, .inl fr)), (h3, .inl ((k5 2), 1536, .inl fy)), (hk, .inl ((k5 2), 13056, .inl kp))])) [(h0, .inr (0, [.ref h1, .ref h2, .ref h3, .int tk, .int rt])), (h1, .inl ((k5 0), 24, .inl fb)), (h2, .inl ((k5 0), 24, .inl fr)), (h3, .inl ((k5 2), 1536, .inl fy)), (hk, .inl ((k5 2), 13056, .inl (gKeep (tk, rt, fb, fr, fy) i kp)))] → va_S (kx_A ([(h0, .inr (0, [.ref h1, .ref h2, .ref h3, .int tk, .int rt])), (h1, .inl ((k5 0), 24, .inl fb)), (h2, .inl ((k5 0), 24, .inl fr)), (h3, .inl ((k5 2), 1536, .inl fy)), (hk, .inl ((k5 2), 13056, .inl kp))])) s.heap H locs → lv_has ls 3 [(2, .int (nI i)), (0, .ref h0), (1, .ref hk)] → W p l e (headSpec w_G_keepIn ({ frames := 1, cells := 0, slots := 0, locals := 40 })).room s m ([.ref h0, .ref hk] : List Value).toArray below meth c H locs 0 0 (MQ below (kx_Q (dC, dI) clA ([(h0, .inr (0, [.ref h1, .ref h2, .ref h3, .int tk, .int rt])), (h1, .inl ((k5 0), 24, .inl fb)), (h2, .inl ((k5 0), 24, .inl fr)), (h3, .inl ((k5 2), 1536, .inl fy)), (hk, .inl ((k5 2), 13056, .inl kp))]) ([(h0, .inr (0, [.ref h1, .ref h2, .ref h3, .int tk, .int rt])), (h1, .inl ((k5 0), 24, .inl fb)), (h2, .inl ((k5 0), 24, .inl fr)), (h3, .inl ((k5 2), 1536, .inl fy)), (hk, .inl ((k5 2), 13056, .inl (gKeep (tk, rt, fb, fr, fy) t kp)))]) none) ([.ref h0, .ref hk] : List Value).toArray s 0 0 (kx_A ([(h0, .inr (0, [.ref h1, .ref h2, .ref h3, .int tk, .int rt])), (h1, .inl ((k5 0), 24, .inl fb)), (h2, .inl ((k5 0), 24, .inl fr)), (h3, .inl ((k5 2), 1536, .inl fy)), (hk, .inl ((k5 2), 13056, .inl kp))]))) (F0 m 2 ls []) := by
    intro q9
    induction q9 with
    | zero =>
      intro i H locs ls hi hP hD hS hl
      have hi : t = i := by omega
      subst hi
      refine lv_iload_n hx hb d_G_keepIn_2 rfl (lv_at hl 0 rfl) ?_
      refine lv_aload_n hx hb d_G_keepIn_3 rfl (lv_at hl 1 rfl) ?_
      refine va_get (D := (dC, dI)) (ci := 0) (v := .int tk) (C := R_G) (T := T_G) (N := 5) hx hb hts wu_G hown hK hP 0 rfl rfl 3 (by decide) (hts _ wf_G_22) (fun _ h9 => h9) rfl d_G_keepIn_4 ?_
      refine lv_icmp_ge (tgt := 39) hx hb d_G_keepIn_7 (by decide) (fun hc => ?_) (fun hc => ?_)
      · exact W.vret hx hb hr (fun t ht hW => kx_Qv ht hP (rfl) hS rfl) hS.2.2 d_G_keepIn_39
      · exact absurd (by rw [etk]; exact nI_le (by omega) (by omega)) hc
    | succ q9 ih =>
      intro i H locs ls hi hP hD hS hl
      refine lv_iload_n hx hb d_G_keepIn_2 rfl (lv_at hl 0 rfl) ?_
      refine lv_aload_n hx hb d_G_keepIn_3 rfl (lv_at hl 1 rfl) ?_
      refine va_get (D := (dC, dI)) (ci := 0) (v := .int tk) (C := R_G) (T := T_G) (N := 5) hx hb hts wu_G hown hK hP 0 rfl rfl 3 (by decide) (hts _ wf_G_22) (fun _ h9 => h9) rfl d_G_keepIn_4 ?_
      refine lv_icmp_ge (tgt := 39) hx hb d_G_keepIn_7 (by decide) (fun hc => ?_) (fun hc => ?_)
      · exact absurd hc (by rw [etk]; exact nI_ge (by omega) (by omega))
      · obtain ⟨hb1, hb2⟩ := hbl i (by omega)
        refine lv_aload_n hx hb d_G_keepIn_10 rfl (lv_at hl 1 rfl) ?_
        refine va_get (D := (dC, dI)) (ci := 0) (v := .ref h3) (C := R_G) (T := T_G) (N := 5) hx hb hts wu_G hown hK hP 0 rfl rfl 2 (by decide) (hts _ wf_G_18) (fun _ h9 => h9) rfl d_G_keepIn_11 ?_
        refine lv_iload_n hx hb d_G_keepIn_14 rfl (lv_at hl 0 rfl) ?_
        refine lv_bipush (v := 64) hx hb d_G_keepIn_15 (by decide) ?_
        refine lv_imul hx hb d_G_keepIn_17 ?_
        refine lv_aload_n hx hb d_G_keepIn_18 rfl (lv_at hl 2 rfl) ?_
        refine lv_aload_n hx hb d_G_keepIn_19 rfl (lv_at hl 1 rfl) ?_
        refine va_get (D := (dC, dI)) (ci := 0) (v := .ref h1) (C := R_G) (T := T_G) (N := 5) hx hb hts wu_G hown hK hP 0 rfl rfl 0 (by decide) (hts _ wf_G_9) (fun _ h9 => h9) rfl d_G_keepIn_20 ?_
        refine lv_iload_n hx hb d_G_keepIn_23 rfl (lv_at hl 0 rfl) ?_
        refine kx_iald hx hb hK hP 1 0 rfl rfl i (rfl) (by omega) (by omega) d_G_keepIn_24 ?_
        refine lv_bipush (v := 64) hx hb d_G_keepIn_25 (by decide) ?_
        refine lv_imul hx hb d_G_keepIn_27 ?_
        refine lv_bipush (v := 64) hx hb d_G_keepIn_28 (by decide) ?_
        refine kx_copy (ws' := [(h0, .inr (0, [.ref h1, .ref h2, .ref h3, .int tk, .int rt])), (h1, .inl ((k5 0), 24, .inl fb)), (h2, .inl ((k5 0), 24, .inl fr)), (h3, .inl ((k5 2), 1536, .inl fy)), (hk, .inl ((k5 2), 13056, .inl (gKeep (tk, rt, fb, fr, fy) (i + 1) kp)))]) hx hb (hml.trans hl.1.symm) hown (hts _ wm_G_33) (hts _ wv_arraycopyName) (hts _ wt_arraycopyName) (hts _ wi_S) hK hP hD hS 3 4 2 2 rfl rfl rfl rfl rfl (i * 64) ((fb i).toNatClampNeg * 64) 64 (pk_mul i 64) (by rw [hb1, nI_clamp (show (fb i).toNatClampNeg < 2 ^ 31 by omega)]; exact pk_mul _ 64) (rfl) (by omega) (by omega) (by omega) (by omega) (fun i hi => hfit _) rfl (Nat.le_of_ble_eq_true rfl) (Nat.le_of_ble_eq_true rfl) d_G_keepIn_30 (fun H locs hP hD hS => ?_)
        refine lv_iinc (v := nI (i + 1)) (lv' := [(2, .int (nI (i + 1))), (0, .ref h0), (1, .ref hk)]) hx hb d_G_keepIn_33 hl (k := 0) rfl (nI_1 i) (by decide) rfl (fun ls hl => ?_)
        refine lv_goto (tgt := 2) hx hb d_G_keepIn_36 (by decide) ?_
        exact ih (i + 1) H locs ls (by omega) hP hD hS (lv_sub hl [0, 1, 2] rfl)
  exact lp t 0 s.heap [] ls (by omega) hP hD hS (lv_sub hl [0, 1, 2] rfl)
end
section
abbrev wL (a : Nat → Nat) (k5 : Nat → ClassId) (L : LL) : va_W := [((a 12), .inr (1, [.ref (a 13), .ref (a 14), .ref (a 15), .ref (a 16), .ref (a 17), .int (L.1 0), .int (L.1 1)])), ((a 13), .inl ((k5 4), 2, .inr (.inr (.inr (.inr (gr2 (a 18) (a 19))))))), ((a 14), .inl ((k5 4), 2, .inr (.inr (.inr (.inr (gr2 (a 20) (a 21))))))), ((a 15), .inl ((k5 4), 2, .inr (.inr (.inr (.inr (gr2 (a 22) (a 23))))))), ((a 16), .inl ((k5 0), 2, .inl (L.2 6))), ((a 17), .inl ((k5 3), 2, .inl (L.2 7))), ((a 18), .inl ((k5 0), 8, .inl (L.2 0))), ((a 19), .inl ((k5 0), 8, .inl (L.2 1))), ((a 20), .inl ((k5 0), 8, .inl (L.2 2))), ((a 21), .inl ((k5 0), 8, .inl (L.2 3))), ((a 22), .inl ((k5 0), 8, .inl (L.2 4))), ((a 23), .inl ((k5 0), 8, .inl (L.2 5)))]
set_option maxHeartbeats 4000000 in
set_option maxRecDepth 100000 in
theorem k_L_has (l : Launch) (dC : Nat → ClassId) (dI : Nat → Nat → Nat) (k5 : Nat → ClassId) (a : Nat → Nat) (L : LL) (w : Nat) (hw : w = 0 ∨ w = 1) (d : Nat) (hd : d < 8) : Met l y_L_has w_L_has ({ frames := 0, cells := 0, slots := 0, locals := 0 }) (kx_Pc (dC, dI) clA (tyL k5) (wL a k5 L) [.ref (a 12), .int (nI w), .int (nI d)]) (kx_R (some (.int (bI (lHas w d L))))) 0 0 (fun _ => False) := by
  refine Met.ofW (cc := c_L_has) (maxL := 3) (ret := (some .boolean)) (by decide) rfl ?_
  intro p e s m args below meth c s₁ B hml hv
  obtain ⟨rfl, hP, hK, hD0⟩ := hv
  have hx := B.exec
  have hb := B.bytes
  have hr := B.returns
  have hts : ∀ w ∈ wsA, w.before _ s = true := fun w h => atoms_spec (ws := w_L_has) B.pre w (List.mem_cons_of_mem _ h)
  have hown : s.vm.findClass R_L = some m.cls := findClass_of_methodNamed B.named
  have hlocks := B.notSynchronized
  have hD := kx_D.self hD0
  have hS : va_S (kx_A (wL a k5 L)) s.heap s.heap [] := va_S.rf
  have hl := lv_entry ([.ref (a 12), .int (nI w), .int (nI d)]) (n := 3) (Nat.le_of_ble_eq_true rfl)
  rw [lg_entry_eq]
  generalize (lg_sl ([.ref (a 12), .int (nI w), .int (nI d)]) ++ List.replicate (3 - (lg_sl ([.ref (a 12), .int (nI w), .int (nI d)])).length) Slot.unset).toArray = ls at hl ⊢
  have hl : lv_has ls 3 [(0, .ref (a 12)), (1, .int (nI w)), (2, .int (nI d))] := hl
  rcases hw with rfl | rfl
  · refine lv_aload_n hx hb d_L_has_0 rfl (lv_at hl 0 rfl) ?_
    refine va_get (D := (dC, dI)) (ci := 1) (v := .ref (a 13)) (C := R_L) (T := T_L) (N := 7) hx hb hts wu_L hown hK hP 0 rfl rfl 0 (by decide) (hts _ wf_L_11) (fun _ h9 => h9) rfl d_L_has_1 ?_
    refine lv_iload_n hx hb d_L_has_4 rfl (lv_at hl 1 rfl) ?_
    refine kx_aald hx hb hK hP 1 4 rfl rfl 0 (rfl) (by omega) (by omega) (v := (a 18)) rfl d_L_has_5 ?_
    refine lv_iload_n hx hb d_L_has_6 rfl (lv_at hl 2 rfl) ?_
    refine kx_iald hx hb hK hP 6 0 rfl rfl d (rfl) (by omega) (by omega) d_L_has_7 ?_
    refine lv_if_eq (tgt := 34) hx hb d_L_has_8 (by decide) (fun hc_1 => ?_) (fun hc_1 => ?_)
    · refine lv_iconst (v := 0) hx hb d_L_has_34 (by decide) ?_
      exact W.zret (v := 0) hx hb hr rfl (fun t ht hW => kx_Ri (by simp [lHas, bI, hc_1]) ht) (fun _ h => absurd h List.not_mem_nil) d_L_has_35
    · refine lv_aload_n hx hb d_L_has_11 rfl (lv_at hl 0 rfl) ?_
      refine va_get (D := (dC, dI)) (ci := 1) (v := .ref (a 13)) (C := R_L) (T := T_L) (N := 7) hx hb hts wu_L hown hK hP 0 rfl rfl 0 (by decide) (hts _ wf_L_11) (fun _ h9 => h9) rfl d_L_has_12 ?_
      refine lv_iload_n hx hb d_L_has_15 rfl (lv_at hl 1 rfl) ?_
      refine kx_aald hx hb hK hP 1 4 rfl rfl 0 (rfl) (by omega) (by omega) (v := (a 18)) rfl d_L_has_16 ?_
      refine lv_iload_n hx hb d_L_has_17 rfl (lv_at hl 2 rfl) ?_
      refine kx_iald hx hb hK hP 6 0 rfl rfl d (rfl) (by omega) (by omega) d_L_has_18 ?_
      refine lv_aload_n hx hb d_L_has_19 rfl (lv_at hl 0 rfl) ?_
      refine va_get (D := (dC, dI)) (ci := 1) (v := .ref (a 14)) (C := R_L) (T := T_L) (N := 7) hx hb hts wu_L hown hK hP 0 rfl rfl 1 (by decide) (hts _ wf_L_16) (fun _ h9 => h9) rfl d_L_has_20 ?_
      refine lv_iload_n hx hb d_L_has_23 rfl (lv_at hl 1 rfl) ?_
      refine kx_aald hx hb hK hP 2 4 rfl rfl 0 (rfl) (by omega) (by omega) (v := (a 20)) rfl d_L_has_24 ?_
      refine lv_iload_n hx hb d_L_has_25 rfl (lv_at hl 2 rfl) ?_
      refine kx_iald hx hb hK hP 8 0 rfl rfl d (rfl) (by omega) (by omega) d_L_has_26 ?_
      refine lv_icmp_ne (tgt := 34) hx hb d_L_has_27 (by decide) (fun hc_2 => ?_) (fun hc_2 => ?_)
      · refine lv_iconst (v := 0) hx hb d_L_has_34 (by decide) ?_
        exact W.zret (v := 0) hx hb hr rfl (fun t ht hW => kx_Ri (by simp [lHas, bI, hc_1, hc_2]) ht) (fun _ h => absurd h List.not_mem_nil) d_L_has_35
      · refine lv_iconst (v := 1) hx hb d_L_has_30 (by decide) ?_
        refine lv_goto (tgt := 35) hx hb d_L_has_31 (by decide) ?_
        exact W.zret (v := 1) hx hb hr rfl (fun t ht hW => kx_Ri (by unfold lHas; rw [decide_eq_true hc_1, decide_eq_true hc_2]; rfl) ht) (fun _ h => absurd h List.not_mem_nil) d_L_has_35
  · refine lv_aload_n hx hb d_L_has_0 rfl (lv_at hl 0 rfl) ?_
    refine va_get (D := (dC, dI)) (ci := 1) (v := .ref (a 13)) (C := R_L) (T := T_L) (N := 7) hx hb hts wu_L hown hK hP 0 rfl rfl 0 (by decide) (hts _ wf_L_11) (fun _ h9 => h9) rfl d_L_has_1 ?_
    refine lv_iload_n hx hb d_L_has_4 rfl (lv_at hl 1 rfl) ?_
    refine kx_aald hx hb hK hP 1 4 rfl rfl 1 (rfl) (by omega) (by omega) (v := (a 19)) rfl d_L_has_5 ?_
    refine lv_iload_n hx hb d_L_has_6 rfl (lv_at hl 2 rfl) ?_
    refine kx_iald hx hb hK hP 7 0 rfl rfl d (rfl) (by omega) (by omega) d_L_has_7 ?_
    refine lv_if_eq (tgt := 34) hx hb d_L_has_8 (by decide) (fun hc_3 => ?_) (fun hc_3 => ?_)
    · refine lv_iconst (v := 0) hx hb d_L_has_34 (by decide) ?_
      exact W.zret (v := 0) hx hb hr rfl (fun t ht hW => kx_Ri (by simp [lHas, bI, hc_3]) ht) (fun _ h => absurd h List.not_mem_nil) d_L_has_35
    · refine lv_aload_n hx hb d_L_has_11 rfl (lv_at hl 0 rfl) ?_
      refine va_get (D := (dC, dI)) (ci := 1) (v := .ref (a 13)) (C := R_L) (T := T_L) (N := 7) hx hb hts wu_L hown hK hP 0 rfl rfl 0 (by decide) (hts _ wf_L_11) (fun _ h9 => h9) rfl d_L_has_12 ?_
      refine lv_iload_n hx hb d_L_has_15 rfl (lv_at hl 1 rfl) ?_
      refine kx_aald hx hb hK hP 1 4 rfl rfl 1 (rfl) (by omega) (by omega) (v := (a 19)) rfl d_L_has_16 ?_
      refine lv_iload_n hx hb d_L_has_17 rfl (lv_at hl 2 rfl) ?_
      refine kx_iald hx hb hK hP 7 0 rfl rfl d (rfl) (by omega) (by omega) d_L_has_18 ?_
      refine lv_aload_n hx hb d_L_has_19 rfl (lv_at hl 0 rfl) ?_
      refine va_get (D := (dC, dI)) (ci := 1) (v := .ref (a 14)) (C := R_L) (T := T_L) (N := 7) hx hb hts wu_L hown hK hP 0 rfl rfl 1 (by decide) (hts _ wf_L_16) (fun _ h9 => h9) rfl d_L_has_20 ?_
      refine lv_iload_n hx hb d_L_has_23 rfl (lv_at hl 1 rfl) ?_
      refine kx_aald hx hb hK hP 2 4 rfl rfl 1 (rfl) (by omega) (by omega) (v := (a 21)) rfl d_L_has_24 ?_
      refine lv_iload_n hx hb d_L_has_25 rfl (lv_at hl 2 rfl) ?_
      refine kx_iald hx hb hK hP 9 0 rfl rfl d (rfl) (by omega) (by omega) d_L_has_26 ?_
      refine lv_icmp_ne (tgt := 34) hx hb d_L_has_27 (by decide) (fun hc_4 => ?_) (fun hc_4 => ?_)
      · refine lv_iconst (v := 0) hx hb d_L_has_34 (by decide) ?_
        exact W.zret (v := 0) hx hb hr rfl (fun t ht hW => kx_Ri (by simp [lHas, bI, hc_3, hc_4]) ht) (fun _ h => absurd h List.not_mem_nil) d_L_has_35
      · refine lv_iconst (v := 1) hx hb d_L_has_30 (by decide) ?_
        refine lv_goto (tgt := 35) hx hb d_L_has_31 (by decide) ?_
        exact W.zret (v := 1) hx hb hr rfl (fun t ht hW => kx_Ri (by unfold lHas; rw [decide_eq_true hc_3, decide_eq_true hc_4]; rfl) ht) (fun _ h => absurd h List.not_mem_nil) d_L_has_35
set_option maxHeartbeats 4000000 in
set_option maxRecDepth 100000 in
theorem k_L_hasSome (l : Launch) (dC : Nat → ClassId) (dI : Nat → Nat → Nat) (k5 : Nat → ClassId) (a : Nat → Nat) (L : LL) (d : Nat) (hd : d < 8) : Met l y_L_hasSome w_L_hasSome ({ frames := 1, cells := 0, slots := 0, locals := 22 }) (kx_Pc (dC, dI) clA (tyL k5) (wL a k5 L) [.ref (a 12), .int (nI d)]) (kx_R (some (.int (bI (lSome d L))))) 0 0 (fun _ => False) := by
  refine Met.ofW (cc := c_L_hasSome) (maxL := 2) (ret := (some .boolean)) (by decide) rfl ?_
  intro p e s m args below meth c s₁ B hml hv
  obtain ⟨rfl, hP, hK, hD0⟩ := hv
  have hx := B.exec
  have hb := B.bytes
  have hr := B.returns
  have hts : ∀ w ∈ wsA, w.before _ s = true := fun w h => atoms_spec (ws := w_L_hasSome) B.pre w (List.mem_cons_of_mem _ h)
  have hown : s.vm.findClass R_L = some m.cls := findClass_of_methodNamed B.named
  have hlocks := B.notSynchronized
  have hD := kx_D.self hD0
  have hS : va_S (kx_A (wL a k5 L)) s.heap s.heap [] := va_S.rf
  have hl := lv_entry ([.ref (a 12), .int (nI d)]) (n := 2) (Nat.le_of_ble_eq_true rfl)
  rw [lg_entry_eq]
  generalize (lg_sl ([.ref (a 12), .int (nI d)]) ++ List.replicate (2 - (lg_sl ([.ref (a 12), .int (nI d)])).length) Slot.unset).toArray = ls at hl ⊢
  have hl : lv_has ls 2 [(0, .ref (a 12)), (1, .int (nI d))] := hl
  refine lv_aload_n hx hb d_L_hasSome_0 rfl (lv_at hl 0 rfl) ?_
  refine lv_iconst (v := 0) hx hb d_L_hasSome_1 (by decide) ?_
  refine lv_iload_n hx hb d_L_hasSome_2 rfl (lv_at hl 1 rfl) ?_
  refine kx_VRW (As := [.int (nI 0), .int (nI d)]) (rest := []) ⟨hx, hb, hml, hown, hts⟩ (k_L_has l dC dI k5 a L 0 (by decide) d hd) (cwV 2 hts (goodV wm_L_47 wn_L_has ws_L_has wi_L wc_L_has) rfl rfl rfl (by decide +kernel) ⟨Nat.le_of_ble_eq_true rfl, Nat.le_of_ble_eq_true rfl⟩) ⟨Nat.zero_le _, Nat.zero_le _⟩ hK hP hD 0 rfl rfl rfl hl.1 rfl (Nat.le_of_ble_eq_true rfl) d_L_hasSome_3 ?_
  refine W.eq (g2 := F0 m 6 ls [.int (bI (lHas 0 d L))]) rfl ?_
  refine lv_if_ne (tgt := 18) hx hb d_L_hasSome_6 (by decide) (fun hc_1 => ?_) (fun hc_1 => ?_)
  · refine lv_iconst (v := 1) hx hb d_L_hasSome_18 (by decide) ?_
    refine lv_goto (tgt := 23) hx hb d_L_hasSome_19 (by decide) ?_
    exact W.zret (v := 1) hx hb hr rfl (fun t ht hW => kx_Ri (by cases h0 : lHas 0 d L <;> cases h1 : lHas 1 d L <;> simp_all [lSome, bI]) ht) (fun _ h => absurd h List.not_mem_nil) d_L_hasSome_23
  · refine lv_aload_n hx hb d_L_hasSome_9 rfl (lv_at hl 0 rfl) ?_
    refine lv_iconst (v := 1) hx hb d_L_hasSome_10 (by decide) ?_
    refine lv_iload_n hx hb d_L_hasSome_11 rfl (lv_at hl 1 rfl) ?_
    refine kx_VRW (As := [.int (nI 1), .int (nI d)]) (rest := []) ⟨hx, hb, hml, hown, hts⟩ (k_L_has l dC dI k5 a L 1 (by decide) d hd) (cwV 2 hts (goodV wm_L_47 wn_L_has ws_L_has wi_L wc_L_has) rfl rfl rfl (by decide +kernel) ⟨Nat.le_of_ble_eq_true rfl, Nat.le_of_ble_eq_true rfl⟩) ⟨Nat.zero_le _, Nat.zero_le _⟩ hK hP hD 0 rfl rfl rfl hl.1 rfl (Nat.le_of_ble_eq_true rfl) d_L_hasSome_12 ?_
    refine W.eq (g2 := F0 m 15 ls [.int (bI (lHas 1 d L))]) rfl ?_
    refine lv_if_eq (tgt := 22) hx hb d_L_hasSome_15 (by decide) (fun hc_2 => ?_) (fun hc_2 => ?_)
    · refine lv_iconst (v := 0) hx hb d_L_hasSome_22 (by decide) ?_
      exact W.zret (v := 0) hx hb hr rfl (fun t ht hW => kx_Ri (by cases h0 : lHas 0 d L <;> cases h1 : lHas 1 d L <;> simp_all [lSome, bI]) ht) (fun _ h => absurd h List.not_mem_nil) d_L_hasSome_23
    · refine lv_iconst (v := 1) hx hb d_L_hasSome_18 (by decide) ?_
      refine lv_goto (tgt := 23) hx hb d_L_hasSome_19 (by decide) ?_
      exact W.zret (v := 1) hx hb hr rfl (fun t ht hW => kx_Ri (by cases h0 : lHas 0 d L <;> cases h1 : lHas 1 d L <;> simp_all [lSome, bI]) ht) (fun _ h => absurd h List.not_mem_nil) d_L_hasSome_23
set_option maxHeartbeats 4000000 in
set_option maxRecDepth 100000 in
theorem k_L_put (l : Launch) (dC : Nat → ClassId) (dI : Nat → Nat → Nat) (k5 : Nat → ClassId) (a : Nat → Nat) (L : LL) (w : Nat) (hw : w = 0 ∨ w = 1) (d : Nat) (hd : d < 8) (part : Int32) : Met l y_L_put w_L_put ({ frames := 0, cells := 0, slots := 0, locals := 0 }) (kx_Pc (dC, dI) clA (tyL k5) (wL a k5 L) [.ref (a 12), .int (nI w), .int (nI d), .int part]) (kx_Q (dC, dI) clA (wL a k5 L) (wL a k5 (lPut w d part L)) none) 0 0 (kx_A (wL a k5 L)) := by
  refine Met.ofW (cc := c_L_put) (maxL := 4) (ret := none) (by decide) rfl ?_
  intro p e s m args below meth c s₁ B hml hv
  obtain ⟨rfl, hP, hK, hD0⟩ := hv
  have hx := B.exec
  have hb := B.bytes
  have hr := B.returns
  have hts : ∀ w ∈ wsA, w.before _ s = true := fun w h => atoms_spec (ws := w_L_put) B.pre w (List.mem_cons_of_mem _ h)
  have hown : s.vm.findClass R_L = some m.cls := findClass_of_methodNamed B.named
  have hlocks := B.notSynchronized
  have hD := kx_D.self hD0
  have hS : va_S (kx_A (wL a k5 L)) s.heap s.heap [] := va_S.rf
  have hl := lv_entry ([.ref (a 12), .int (nI w), .int (nI d), .int part]) (n := 4) (Nat.le_of_ble_eq_true rfl)
  rw [lg_entry_eq]
  generalize (lg_sl ([.ref (a 12), .int (nI w), .int (nI d), .int part]) ++ List.replicate (4 - (lg_sl ([.ref (a 12), .int (nI w), .int (nI d), .int part])).length) Slot.unset).toArray = ls at hl ⊢
  have hl : lv_has ls 4 [(0, .ref (a 12)), (1, .int (nI w)), (2, .int (nI d)), (3, .int part)] := hl
  rcases hw with rfl | rfl
  · refine lv_iload_n hx hb d_L_put_0 rfl (lv_at hl 3 rfl) ?_
    refine lv_iconst (v := 1) hx hb d_L_put_1 (by decide) ?_
    refine lv_icmp_eq (tgt := 10) hx hb d_L_put_2 (by decide) (fun hc_1 => ?_) (fun hc_1 => ?_)
    · refine lv_aload_n hx hb d_L_put_10 rfl (lv_at hl 0 rfl) ?_
      refine va_get (D := (dC, dI)) (ci := 1) (v := .ref (a 13)) (C := R_L) (T := T_L) (N := 7) hx hb hts wu_L hown hK hP 0 rfl rfl 0 (by decide) (hts _ wf_L_11) (fun _ h9 => h9) rfl d_L_put_11 ?_
      refine lv_iload_n hx hb d_L_put_14 rfl (lv_at hl 1 rfl) ?_
      refine kx_aald hx hb hK hP 1 4 rfl rfl 0 (rfl) (by omega) (by omega) (v := (a 18)) rfl d_L_put_15 ?_
      refine lv_iload_n hx hb d_L_put_16 rfl (lv_at hl 2 rfl) ?_
      refine lv_aload_n hx hb d_L_put_17 rfl (lv_at hl 0 rfl) ?_
      refine va_get (D := (dC, dI)) (ci := 1) (v := .ref (a 16)) (C := R_L) (T := T_L) (N := 7) hx hb hts wu_L hown hK hP 0 rfl rfl 3 (by decide) (hts _ wf_L_22) (fun _ h9 => h9) rfl d_L_put_18 ?_
      refine lv_iload_n hx hb d_L_put_21 rfl (lv_at hl 1 rfl) ?_
      refine kx_iald hx hb hK hP 4 0 rfl rfl 0 (rfl) (by omega) (by omega) d_L_put_22 ?_
      refine kx_iast (ws' := [((a 12), .inr (1, [.ref (a 13), .ref (a 14), .ref (a 15), .ref (a 16), .ref (a 17), .int (L.1 0), .int (L.1 1)])), ((a 13), .inl ((k5 4), 2, .inr (.inr (.inr (.inr (gr2 (a 18) (a 19))))))), ((a 14), .inl ((k5 4), 2, .inr (.inr (.inr (.inr (gr2 (a 20) (a 21))))))), ((a 15), .inl ((k5 4), 2, .inr (.inr (.inr (.inr (gr2 (a 22) (a 23))))))), ((a 16), .inl ((k5 0), 2, .inl (L.2 6))), ((a 17), .inl ((k5 3), 2, .inl (L.2 7))), ((a 18), .inl ((k5 0), 8, .inl (upd (L.2 0) d ((L.2 6) 0)))), ((a 19), .inl ((k5 0), 8, .inl (L.2 1))), ((a 20), .inl ((k5 0), 8, .inl (L.2 2))), ((a 21), .inl ((k5 0), 8, .inl (L.2 3))), ((a 22), .inl ((k5 0), 8, .inl (L.2 4))), ((a 23), .inl ((k5 0), 8, .inl (L.2 5)))]) hx hb hK hP hD hS 6 0 rfl rfl d (rfl) (by omega) (by omega) rfl d_L_put_23 (fun H locs hP hD hS => ?_)
      refine lv_iload_n hx hb d_L_put_24 rfl (lv_at hl 3 rfl) ?_
      refine lv_iconst (v := 1) hx hb d_L_put_25 (by decide) ?_
      refine lv_icmp_eq (tgt := 34) hx hb d_L_put_26 (by decide) (fun hc_2 => ?_) (fun hc_2 => ?_)
      · refine lv_aload_n hx hb d_L_put_34 rfl (lv_at hl 0 rfl) ?_
        refine va_get (D := (dC, dI)) (ci := 1) (v := .ref (a 14)) (C := R_L) (T := T_L) (N := 7) hx hb hts wu_L hown hK hP 0 rfl rfl 1 (by decide) (hts _ wf_L_16) (fun _ h9 => h9) rfl d_L_put_35 ?_
        refine lv_iload_n hx hb d_L_put_38 rfl (lv_at hl 1 rfl) ?_
        refine kx_aald hx hb hK hP 2 4 rfl rfl 0 (rfl) (by omega) (by omega) (v := (a 20)) rfl d_L_put_39 ?_
        refine lv_iload_n hx hb d_L_put_40 rfl (lv_at hl 2 rfl) ?_
        refine lv_aload_n hx hb d_L_put_41 rfl (lv_at hl 0 rfl) ?_
        refine va_get (D := (dC, dI)) (ci := 1) (v := .ref (a 16)) (C := R_L) (T := T_L) (N := 7) hx hb hts wu_L hown hK hP 0 rfl rfl 3 (by decide) (hts _ wf_L_22) (fun _ h9 => h9) rfl d_L_put_42 ?_
        refine lv_iload_n hx hb d_L_put_45 rfl (lv_at hl 1 rfl) ?_
        refine kx_iald hx hb hK hP 4 0 rfl rfl 0 (rfl) (by omega) (by omega) d_L_put_46 ?_
        refine kx_iast (ws' := [((a 12), .inr (1, [.ref (a 13), .ref (a 14), .ref (a 15), .ref (a 16), .ref (a 17), .int (L.1 0), .int (L.1 1)])), ((a 13), .inl ((k5 4), 2, .inr (.inr (.inr (.inr (gr2 (a 18) (a 19))))))), ((a 14), .inl ((k5 4), 2, .inr (.inr (.inr (.inr (gr2 (a 20) (a 21))))))), ((a 15), .inl ((k5 4), 2, .inr (.inr (.inr (.inr (gr2 (a 22) (a 23))))))), ((a 16), .inl ((k5 0), 2, .inl (L.2 6))), ((a 17), .inl ((k5 3), 2, .inl (L.2 7))), ((a 18), .inl ((k5 0), 8, .inl (upd (L.2 0) d ((L.2 6) 0)))), ((a 19), .inl ((k5 0), 8, .inl (L.2 1))), ((a 20), .inl ((k5 0), 8, .inl (upd (L.2 2) d ((L.2 6) 0)))), ((a 21), .inl ((k5 0), 8, .inl (L.2 3))), ((a 22), .inl ((k5 0), 8, .inl (L.2 4))), ((a 23), .inl ((k5 0), 8, .inl (L.2 5)))]) hx hb hK hP hD hS 8 0 rfl rfl d (rfl) (by omega) (by omega) rfl d_L_put_47 (fun H locs hP hD hS => ?_)
        exact W.vret hx hb hr (fun t ht hW => kx_Qv ht hP (by unfold lPut lP2 lP1; rw [if_pos (show (part = 1 ∨ part = 3) by simp [hc_1, hc_2]), if_pos (show (part = 1 ∨ part = 2) by simp [hc_1, hc_2])]; try rfl) hS rfl) hS.2.2 d_L_put_48
      · exact absurd hc_1 hc_2
    · refine lv_iload_n hx hb d_L_put_5 rfl (lv_at hl 3 rfl) ?_
      refine lv_iconst (v := 2) hx hb d_L_put_6 (by decide) ?_
      refine lv_icmp_ne (tgt := 24) hx hb d_L_put_7 (by decide) (fun hc_3 => ?_) (fun hc_3 => ?_)
      · refine lv_iload_n hx hb d_L_put_24 rfl (lv_at hl 3 rfl) ?_
        refine lv_iconst (v := 1) hx hb d_L_put_25 (by decide) ?_
        refine lv_icmp_eq (tgt := 34) hx hb d_L_put_26 (by decide) (fun hc_4 => ?_) (fun hc_4 => ?_)
        · exact absurd hc_4 hc_1
        · refine lv_iload_n hx hb d_L_put_29 rfl (lv_at hl 3 rfl) ?_
          refine lv_iconst (v := 3) hx hb d_L_put_30 (by decide) ?_
          refine lv_icmp_ne (tgt := 48) hx hb d_L_put_31 (by decide) (fun hc_5 => ?_) (fun hc_5 => ?_)
          · exact W.vret hx hb hr (fun t ht hW => kx_Qv ht hP (by unfold lPut lP2 lP1; rw [if_neg (show ¬ (part = 1 ∨ part = 3) by simp [hc_1, hc_3, hc_4, hc_5]), if_neg (show ¬ (part = 1 ∨ part = 2) by simp [hc_1, hc_3, hc_4, hc_5])]; try rfl) hS rfl) hS.2.2 d_L_put_48
          · refine lv_aload_n hx hb d_L_put_34 rfl (lv_at hl 0 rfl) ?_
            refine va_get (D := (dC, dI)) (ci := 1) (v := .ref (a 14)) (C := R_L) (T := T_L) (N := 7) hx hb hts wu_L hown hK hP 0 rfl rfl 1 (by decide) (hts _ wf_L_16) (fun _ h9 => h9) rfl d_L_put_35 ?_
            refine lv_iload_n hx hb d_L_put_38 rfl (lv_at hl 1 rfl) ?_
            refine kx_aald hx hb hK hP 2 4 rfl rfl 0 (rfl) (by omega) (by omega) (v := (a 20)) rfl d_L_put_39 ?_
            refine lv_iload_n hx hb d_L_put_40 rfl (lv_at hl 2 rfl) ?_
            refine lv_aload_n hx hb d_L_put_41 rfl (lv_at hl 0 rfl) ?_
            refine va_get (D := (dC, dI)) (ci := 1) (v := .ref (a 16)) (C := R_L) (T := T_L) (N := 7) hx hb hts wu_L hown hK hP 0 rfl rfl 3 (by decide) (hts _ wf_L_22) (fun _ h9 => h9) rfl d_L_put_42 ?_
            refine lv_iload_n hx hb d_L_put_45 rfl (lv_at hl 1 rfl) ?_
            refine kx_iald hx hb hK hP 4 0 rfl rfl 0 (rfl) (by omega) (by omega) d_L_put_46 ?_
            refine kx_iast (ws' := [((a 12), .inr (1, [.ref (a 13), .ref (a 14), .ref (a 15), .ref (a 16), .ref (a 17), .int (L.1 0), .int (L.1 1)])), ((a 13), .inl ((k5 4), 2, .inr (.inr (.inr (.inr (gr2 (a 18) (a 19))))))), ((a 14), .inl ((k5 4), 2, .inr (.inr (.inr (.inr (gr2 (a 20) (a 21))))))), ((a 15), .inl ((k5 4), 2, .inr (.inr (.inr (.inr (gr2 (a 22) (a 23))))))), ((a 16), .inl ((k5 0), 2, .inl (L.2 6))), ((a 17), .inl ((k5 3), 2, .inl (L.2 7))), ((a 18), .inl ((k5 0), 8, .inl (L.2 0))), ((a 19), .inl ((k5 0), 8, .inl (L.2 1))), ((a 20), .inl ((k5 0), 8, .inl (upd (L.2 2) d ((L.2 6) 0)))), ((a 21), .inl ((k5 0), 8, .inl (L.2 3))), ((a 22), .inl ((k5 0), 8, .inl (L.2 4))), ((a 23), .inl ((k5 0), 8, .inl (L.2 5)))]) hx hb hK hP hD hS 8 0 rfl rfl d (rfl) (by omega) (by omega) rfl d_L_put_47 (fun H locs hP hD hS => ?_)
            exact W.vret hx hb hr (fun t ht hW => kx_Qv ht hP (by unfold lPut lP2 lP1; rw [if_pos (show (part = 1 ∨ part = 3) by simp [hc_1, hc_3, hc_4, hc_5]), if_neg (show ¬ (part = 1 ∨ part = 2) by simp [hc_1, hc_3, hc_4, hc_5])]; try rfl) hS rfl) hS.2.2 d_L_put_48
      · refine lv_aload_n hx hb d_L_put_10 rfl (lv_at hl 0 rfl) ?_
        refine va_get (D := (dC, dI)) (ci := 1) (v := .ref (a 13)) (C := R_L) (T := T_L) (N := 7) hx hb hts wu_L hown hK hP 0 rfl rfl 0 (by decide) (hts _ wf_L_11) (fun _ h9 => h9) rfl d_L_put_11 ?_
        refine lv_iload_n hx hb d_L_put_14 rfl (lv_at hl 1 rfl) ?_
        refine kx_aald hx hb hK hP 1 4 rfl rfl 0 (rfl) (by omega) (by omega) (v := (a 18)) rfl d_L_put_15 ?_
        refine lv_iload_n hx hb d_L_put_16 rfl (lv_at hl 2 rfl) ?_
        refine lv_aload_n hx hb d_L_put_17 rfl (lv_at hl 0 rfl) ?_
        refine va_get (D := (dC, dI)) (ci := 1) (v := .ref (a 16)) (C := R_L) (T := T_L) (N := 7) hx hb hts wu_L hown hK hP 0 rfl rfl 3 (by decide) (hts _ wf_L_22) (fun _ h9 => h9) rfl d_L_put_18 ?_
        refine lv_iload_n hx hb d_L_put_21 rfl (lv_at hl 1 rfl) ?_
        refine kx_iald hx hb hK hP 4 0 rfl rfl 0 (rfl) (by omega) (by omega) d_L_put_22 ?_
        refine kx_iast (ws' := [((a 12), .inr (1, [.ref (a 13), .ref (a 14), .ref (a 15), .ref (a 16), .ref (a 17), .int (L.1 0), .int (L.1 1)])), ((a 13), .inl ((k5 4), 2, .inr (.inr (.inr (.inr (gr2 (a 18) (a 19))))))), ((a 14), .inl ((k5 4), 2, .inr (.inr (.inr (.inr (gr2 (a 20) (a 21))))))), ((a 15), .inl ((k5 4), 2, .inr (.inr (.inr (.inr (gr2 (a 22) (a 23))))))), ((a 16), .inl ((k5 0), 2, .inl (L.2 6))), ((a 17), .inl ((k5 3), 2, .inl (L.2 7))), ((a 18), .inl ((k5 0), 8, .inl (upd (L.2 0) d ((L.2 6) 0)))), ((a 19), .inl ((k5 0), 8, .inl (L.2 1))), ((a 20), .inl ((k5 0), 8, .inl (L.2 2))), ((a 21), .inl ((k5 0), 8, .inl (L.2 3))), ((a 22), .inl ((k5 0), 8, .inl (L.2 4))), ((a 23), .inl ((k5 0), 8, .inl (L.2 5)))]) hx hb hK hP hD hS 6 0 rfl rfl d (rfl) (by omega) (by omega) rfl d_L_put_23 (fun H locs hP hD hS => ?_)
        refine lv_iload_n hx hb d_L_put_24 rfl (lv_at hl 3 rfl) ?_
        refine lv_iconst (v := 1) hx hb d_L_put_25 (by decide) ?_
        refine lv_icmp_eq (tgt := 34) hx hb d_L_put_26 (by decide) (fun hc_6 => ?_) (fun hc_6 => ?_)
        · exact absurd (hc_3.symm.trans hc_6) (by decide)
        · refine lv_iload_n hx hb d_L_put_29 rfl (lv_at hl 3 rfl) ?_
          refine lv_iconst (v := 3) hx hb d_L_put_30 (by decide) ?_
          refine lv_icmp_ne (tgt := 48) hx hb d_L_put_31 (by decide) (fun hc_7 => ?_) (fun hc_7 => ?_)
          · exact W.vret hx hb hr (fun t ht hW => kx_Qv ht hP (by unfold lPut lP2 lP1; rw [if_neg (show ¬ (part = 1 ∨ part = 3) by simp [hc_1, hc_3, hc_6, hc_7]), if_pos (show (part = 1 ∨ part = 2) by simp [hc_1, hc_3, hc_6, hc_7])]; try rfl) hS rfl) hS.2.2 d_L_put_48
          · exact absurd (hc_3.symm.trans hc_7) (by decide)
  · refine lv_iload_n hx hb d_L_put_0 rfl (lv_at hl 3 rfl) ?_
    refine lv_iconst (v := 1) hx hb d_L_put_1 (by decide) ?_
    refine lv_icmp_eq (tgt := 10) hx hb d_L_put_2 (by decide) (fun hc_8 => ?_) (fun hc_8 => ?_)
    · refine lv_aload_n hx hb d_L_put_10 rfl (lv_at hl 0 rfl) ?_
      refine va_get (D := (dC, dI)) (ci := 1) (v := .ref (a 13)) (C := R_L) (T := T_L) (N := 7) hx hb hts wu_L hown hK hP 0 rfl rfl 0 (by decide) (hts _ wf_L_11) (fun _ h9 => h9) rfl d_L_put_11 ?_
      refine lv_iload_n hx hb d_L_put_14 rfl (lv_at hl 1 rfl) ?_
      refine kx_aald hx hb hK hP 1 4 rfl rfl 1 (rfl) (by omega) (by omega) (v := (a 19)) rfl d_L_put_15 ?_
      refine lv_iload_n hx hb d_L_put_16 rfl (lv_at hl 2 rfl) ?_
      refine lv_aload_n hx hb d_L_put_17 rfl (lv_at hl 0 rfl) ?_
      refine va_get (D := (dC, dI)) (ci := 1) (v := .ref (a 16)) (C := R_L) (T := T_L) (N := 7) hx hb hts wu_L hown hK hP 0 rfl rfl 3 (by decide) (hts _ wf_L_22) (fun _ h9 => h9) rfl d_L_put_18 ?_
      refine lv_iload_n hx hb d_L_put_21 rfl (lv_at hl 1 rfl) ?_
      refine kx_iald hx hb hK hP 4 0 rfl rfl 1 (rfl) (by omega) (by omega) d_L_put_22 ?_
      refine kx_iast (ws' := [((a 12), .inr (1, [.ref (a 13), .ref (a 14), .ref (a 15), .ref (a 16), .ref (a 17), .int (L.1 0), .int (L.1 1)])), ((a 13), .inl ((k5 4), 2, .inr (.inr (.inr (.inr (gr2 (a 18) (a 19))))))), ((a 14), .inl ((k5 4), 2, .inr (.inr (.inr (.inr (gr2 (a 20) (a 21))))))), ((a 15), .inl ((k5 4), 2, .inr (.inr (.inr (.inr (gr2 (a 22) (a 23))))))), ((a 16), .inl ((k5 0), 2, .inl (L.2 6))), ((a 17), .inl ((k5 3), 2, .inl (L.2 7))), ((a 18), .inl ((k5 0), 8, .inl (L.2 0))), ((a 19), .inl ((k5 0), 8, .inl (upd (L.2 1) d ((L.2 6) 1)))), ((a 20), .inl ((k5 0), 8, .inl (L.2 2))), ((a 21), .inl ((k5 0), 8, .inl (L.2 3))), ((a 22), .inl ((k5 0), 8, .inl (L.2 4))), ((a 23), .inl ((k5 0), 8, .inl (L.2 5)))]) hx hb hK hP hD hS 7 0 rfl rfl d (rfl) (by omega) (by omega) rfl d_L_put_23 (fun H locs hP hD hS => ?_)
      refine lv_iload_n hx hb d_L_put_24 rfl (lv_at hl 3 rfl) ?_
      refine lv_iconst (v := 1) hx hb d_L_put_25 (by decide) ?_
      refine lv_icmp_eq (tgt := 34) hx hb d_L_put_26 (by decide) (fun hc_9 => ?_) (fun hc_9 => ?_)
      · refine lv_aload_n hx hb d_L_put_34 rfl (lv_at hl 0 rfl) ?_
        refine va_get (D := (dC, dI)) (ci := 1) (v := .ref (a 14)) (C := R_L) (T := T_L) (N := 7) hx hb hts wu_L hown hK hP 0 rfl rfl 1 (by decide) (hts _ wf_L_16) (fun _ h9 => h9) rfl d_L_put_35 ?_
        refine lv_iload_n hx hb d_L_put_38 rfl (lv_at hl 1 rfl) ?_
        refine kx_aald hx hb hK hP 2 4 rfl rfl 1 (rfl) (by omega) (by omega) (v := (a 21)) rfl d_L_put_39 ?_
        refine lv_iload_n hx hb d_L_put_40 rfl (lv_at hl 2 rfl) ?_
        refine lv_aload_n hx hb d_L_put_41 rfl (lv_at hl 0 rfl) ?_
        refine va_get (D := (dC, dI)) (ci := 1) (v := .ref (a 16)) (C := R_L) (T := T_L) (N := 7) hx hb hts wu_L hown hK hP 0 rfl rfl 3 (by decide) (hts _ wf_L_22) (fun _ h9 => h9) rfl d_L_put_42 ?_
        refine lv_iload_n hx hb d_L_put_45 rfl (lv_at hl 1 rfl) ?_
        refine kx_iald hx hb hK hP 4 0 rfl rfl 1 (rfl) (by omega) (by omega) d_L_put_46 ?_
        refine kx_iast (ws' := [((a 12), .inr (1, [.ref (a 13), .ref (a 14), .ref (a 15), .ref (a 16), .ref (a 17), .int (L.1 0), .int (L.1 1)])), ((a 13), .inl ((k5 4), 2, .inr (.inr (.inr (.inr (gr2 (a 18) (a 19))))))), ((a 14), .inl ((k5 4), 2, .inr (.inr (.inr (.inr (gr2 (a 20) (a 21))))))), ((a 15), .inl ((k5 4), 2, .inr (.inr (.inr (.inr (gr2 (a 22) (a 23))))))), ((a 16), .inl ((k5 0), 2, .inl (L.2 6))), ((a 17), .inl ((k5 3), 2, .inl (L.2 7))), ((a 18), .inl ((k5 0), 8, .inl (L.2 0))), ((a 19), .inl ((k5 0), 8, .inl (upd (L.2 1) d ((L.2 6) 1)))), ((a 20), .inl ((k5 0), 8, .inl (L.2 2))), ((a 21), .inl ((k5 0), 8, .inl (upd (L.2 3) d ((L.2 6) 1)))), ((a 22), .inl ((k5 0), 8, .inl (L.2 4))), ((a 23), .inl ((k5 0), 8, .inl (L.2 5)))]) hx hb hK hP hD hS 9 0 rfl rfl d (rfl) (by omega) (by omega) rfl d_L_put_47 (fun H locs hP hD hS => ?_)
        exact W.vret hx hb hr (fun t ht hW => kx_Qv ht hP (by unfold lPut lP2 lP1; rw [if_pos (show (part = 1 ∨ part = 3) by simp [hc_8, hc_9]), if_pos (show (part = 1 ∨ part = 2) by simp [hc_8, hc_9])]; try rfl) hS rfl) hS.2.2 d_L_put_48
      · exact absurd hc_8 hc_9
    · refine lv_iload_n hx hb d_L_put_5 rfl (lv_at hl 3 rfl) ?_
      refine lv_iconst (v := 2) hx hb d_L_put_6 (by decide) ?_
      refine lv_icmp_ne (tgt := 24) hx hb d_L_put_7 (by decide) (fun hc_10 => ?_) (fun hc_10 => ?_)
      · refine lv_iload_n hx hb d_L_put_24 rfl (lv_at hl 3 rfl) ?_
        refine lv_iconst (v := 1) hx hb d_L_put_25 (by decide) ?_
        refine lv_icmp_eq (tgt := 34) hx hb d_L_put_26 (by decide) (fun hc_11 => ?_) (fun hc_11 => ?_)
        · exact absurd hc_11 hc_8
        · refine lv_iload_n hx hb d_L_put_29 rfl (lv_at hl 3 rfl) ?_
          refine lv_iconst (v := 3) hx hb d_L_put_30 (by decide) ?_
          refine lv_icmp_ne (tgt := 48) hx hb d_L_put_31 (by decide) (fun hc_12 => ?_) (fun hc_12 => ?_)
          · exact W.vret hx hb hr (fun t ht hW => kx_Qv ht hP (by unfold lPut lP2 lP1; rw [if_neg (show ¬ (part = 1 ∨ part = 3) by simp [hc_8, hc_10, hc_11, hc_12]), if_neg (show ¬ (part = 1 ∨ part = 2) by simp [hc_8, hc_10, hc_11, hc_12])]; try rfl) hS rfl) hS.2.2 d_L_put_48
          · refine lv_aload_n hx hb d_L_put_34 rfl (lv_at hl 0 rfl) ?_
            refine va_get (D := (dC, dI)) (ci := 1) (v := .ref (a 14)) (C := R_L) (T := T_L) (N := 7) hx hb hts wu_L hown hK hP 0 rfl rfl 1 (by decide) (hts _ wf_L_16) (fun _ h9 => h9) rfl d_L_put_35 ?_
            refine lv_iload_n hx hb d_L_put_38 rfl (lv_at hl 1 rfl) ?_
            refine kx_aald hx hb hK hP 2 4 rfl rfl 1 (rfl) (by omega) (by omega) (v := (a 21)) rfl d_L_put_39 ?_
            refine lv_iload_n hx hb d_L_put_40 rfl (lv_at hl 2 rfl) ?_
            refine lv_aload_n hx hb d_L_put_41 rfl (lv_at hl 0 rfl) ?_
            refine va_get (D := (dC, dI)) (ci := 1) (v := .ref (a 16)) (C := R_L) (T := T_L) (N := 7) hx hb hts wu_L hown hK hP 0 rfl rfl 3 (by decide) (hts _ wf_L_22) (fun _ h9 => h9) rfl d_L_put_42 ?_
            refine lv_iload_n hx hb d_L_put_45 rfl (lv_at hl 1 rfl) ?_
            refine kx_iald hx hb hK hP 4 0 rfl rfl 1 (rfl) (by omega) (by omega) d_L_put_46 ?_
            refine kx_iast (ws' := [((a 12), .inr (1, [.ref (a 13), .ref (a 14), .ref (a 15), .ref (a 16), .ref (a 17), .int (L.1 0), .int (L.1 1)])), ((a 13), .inl ((k5 4), 2, .inr (.inr (.inr (.inr (gr2 (a 18) (a 19))))))), ((a 14), .inl ((k5 4), 2, .inr (.inr (.inr (.inr (gr2 (a 20) (a 21))))))), ((a 15), .inl ((k5 4), 2, .inr (.inr (.inr (.inr (gr2 (a 22) (a 23))))))), ((a 16), .inl ((k5 0), 2, .inl (L.2 6))), ((a 17), .inl ((k5 3), 2, .inl (L.2 7))), ((a 18), .inl ((k5 0), 8, .inl (L.2 0))), ((a 19), .inl ((k5 0), 8, .inl (L.2 1))), ((a 20), .inl ((k5 0), 8, .inl (L.2 2))), ((a 21), .inl ((k5 0), 8, .inl (upd (L.2 3) d ((L.2 6) 1)))), ((a 22), .inl ((k5 0), 8, .inl (L.2 4))), ((a 23), .inl ((k5 0), 8, .inl (L.2 5)))]) hx hb hK hP hD hS 9 0 rfl rfl d (rfl) (by omega) (by omega) rfl d_L_put_47 (fun H locs hP hD hS => ?_)
            exact W.vret hx hb hr (fun t ht hW => kx_Qv ht hP (by unfold lPut lP2 lP1; rw [if_pos (show (part = 1 ∨ part = 3) by simp [hc_8, hc_10, hc_11, hc_12]), if_neg (show ¬ (part = 1 ∨ part = 2) by simp [hc_8, hc_10, hc_11, hc_12])]; try rfl) hS rfl) hS.2.2 d_L_put_48
      · refine lv_aload_n hx hb d_L_put_10 rfl (lv_at hl 0 rfl) ?_
        refine va_get (D := (dC, dI)) (ci := 1) (v := .ref (a 13)) (C := R_L) (T := T_L) (N := 7) hx hb hts wu_L hown hK hP 0 rfl rfl 0 (by decide) (hts _ wf_L_11) (fun _ h9 => h9) rfl d_L_put_11 ?_
        refine lv_iload_n hx hb d_L_put_14 rfl (lv_at hl 1 rfl) ?_
        refine kx_aald hx hb hK hP 1 4 rfl rfl 1 (rfl) (by omega) (by omega) (v := (a 19)) rfl d_L_put_15 ?_
        refine lv_iload_n hx hb d_L_put_16 rfl (lv_at hl 2 rfl) ?_
        refine lv_aload_n hx hb d_L_put_17 rfl (lv_at hl 0 rfl) ?_
        refine va_get (D := (dC, dI)) (ci := 1) (v := .ref (a 16)) (C := R_L) (T := T_L) (N := 7) hx hb hts wu_L hown hK hP 0 rfl rfl 3 (by decide) (hts _ wf_L_22) (fun _ h9 => h9) rfl d_L_put_18 ?_
        refine lv_iload_n hx hb d_L_put_21 rfl (lv_at hl 1 rfl) ?_
        refine kx_iald hx hb hK hP 4 0 rfl rfl 1 (rfl) (by omega) (by omega) d_L_put_22 ?_
        refine kx_iast (ws' := [((a 12), .inr (1, [.ref (a 13), .ref (a 14), .ref (a 15), .ref (a 16), .ref (a 17), .int (L.1 0), .int (L.1 1)])), ((a 13), .inl ((k5 4), 2, .inr (.inr (.inr (.inr (gr2 (a 18) (a 19))))))), ((a 14), .inl ((k5 4), 2, .inr (.inr (.inr (.inr (gr2 (a 20) (a 21))))))), ((a 15), .inl ((k5 4), 2, .inr (.inr (.inr (.inr (gr2 (a 22) (a 23))))))), ((a 16), .inl ((k5 0), 2, .inl (L.2 6))), ((a 17), .inl ((k5 3), 2, .inl (L.2 7))), ((a 18), .inl ((k5 0), 8, .inl (L.2 0))), ((a 19), .inl ((k5 0), 8, .inl (upd (L.2 1) d ((L.2 6) 1)))), ((a 20), .inl ((k5 0), 8, .inl (L.2 2))), ((a 21), .inl ((k5 0), 8, .inl (L.2 3))), ((a 22), .inl ((k5 0), 8, .inl (L.2 4))), ((a 23), .inl ((k5 0), 8, .inl (L.2 5)))]) hx hb hK hP hD hS 7 0 rfl rfl d (rfl) (by omega) (by omega) rfl d_L_put_23 (fun H locs hP hD hS => ?_)
        refine lv_iload_n hx hb d_L_put_24 rfl (lv_at hl 3 rfl) ?_
        refine lv_iconst (v := 1) hx hb d_L_put_25 (by decide) ?_
        refine lv_icmp_eq (tgt := 34) hx hb d_L_put_26 (by decide) (fun hc_13 => ?_) (fun hc_13 => ?_)
        · exact absurd (hc_10.symm.trans hc_13) (by decide)
        · refine lv_iload_n hx hb d_L_put_29 rfl (lv_at hl 3 rfl) ?_
          refine lv_iconst (v := 3) hx hb d_L_put_30 (by decide) ?_
          refine lv_icmp_ne (tgt := 48) hx hb d_L_put_31 (by decide) (fun hc_14 => ?_) (fun hc_14 => ?_)
          · exact W.vret hx hb hr (fun t ht hW => kx_Qv ht hP (by unfold lPut lP2 lP1; rw [if_neg (show ¬ (part = 1 ∨ part = 3) by simp [hc_8, hc_10, hc_13, hc_14]), if_pos (show (part = 1 ∨ part = 2) by simp [hc_8, hc_10, hc_13, hc_14])]; try rfl) hS rfl) hS.2.2 d_L_put_48
          · exact absurd (hc_10.symm.trans hc_14) (by decide)
set_option maxHeartbeats 4000000 in
set_option maxRecDepth 100000 in
theorem k_L_putDraft (l : Launch) (dC : Nat → ClassId) (dI : Nat → Nat → Nat) (k5 : Nat → ClassId) (a : Nat → Nat) (L : LL) (w : Nat) (hw : w = 0 ∨ w = 1) (hq : 1 - L.1 1 = nI w) (d : Nat) (hd : d < 8) (part : Int32) : Met l y_L_putDraft w_L_putDraft ({ frames := 1, cells := 0, slots := 0, locals := 23 }) (kx_Pc (dC, dI) clA (tyL k5) (wL a k5 L) [.ref (a 12), .int (nI d), .int part]) (kx_Q (dC, dI) clA (wL a k5 L) (wL a k5 (lPut w d part L)) none) 0 0 (kx_A (wL a k5 L)) := by
  refine Met.ofW (cc := c_L_putDraft) (maxL := 3) (ret := none) (by decide) rfl ?_
  intro p e s m args below meth c s₁ B hml hv
  obtain ⟨rfl, hP, hK, hD0⟩ := hv
  have hx := B.exec
  have hb := B.bytes
  have hr := B.returns
  have hts : ∀ w ∈ wsA, w.before _ s = true := fun w h => atoms_spec (ws := w_L_putDraft) B.pre w (List.mem_cons_of_mem _ h)
  have hown : s.vm.findClass R_L = some m.cls := findClass_of_methodNamed B.named
  have hlocks := B.notSynchronized
  have hD := kx_D.self hD0
  have hS : va_S (kx_A (wL a k5 L)) s.heap s.heap [] := va_S.rf
  have hl := lv_entry ([.ref (a 12), .int (nI d), .int part]) (n := 3) (Nat.le_of_ble_eq_true rfl)
  rw [lg_entry_eq]
  generalize (lg_sl ([.ref (a 12), .int (nI d), .int part]) ++ List.replicate (3 - (lg_sl ([.ref (a 12), .int (nI d), .int part])).length) Slot.unset).toArray = ls at hl ⊢
  have hl : lv_has ls 3 [(0, .ref (a 12)), (1, .int (nI d)), (2, .int part)] := hl
  refine lv_aload_n hx hb d_L_putDraft_0 rfl (lv_at hl 0 rfl) ?_
  refine lv_iconst (v := 1) hx hb d_L_putDraft_1 (by decide) ?_
  refine lv_aload_n hx hb d_L_putDraft_2 rfl (lv_at hl 0 rfl) ?_
  refine va_get (D := (dC, dI)) (ci := 1) (v := .int (L.1 1)) (C := R_L) (T := T_L) (N := 7) hx hb hts wu_L hown hK hP 0 rfl rfl 6 (by decide) (hts _ wf_L_30) (fun _ h9 => h9) rfl d_L_putDraft_3 ?_
  refine lv_isub hx hb d_L_putDraft_6 ?_
  refine lv_iload_n hx hb d_L_putDraft_7 rfl (lv_at hl 1 rfl) ?_
  refine lv_iload_n hx hb d_L_putDraft_8 rfl (lv_at hl 2 rfl) ?_
  rw [hq]
  refine kx_VW (w1 := (wL a k5 (lPut w d part L))) (As := [.int (nI w), .int (nI d), .int part]) (rest := []) ⟨hx, hb, hml, hown, hts⟩ (k_L_put l dC dI k5 a L w hw d hd part) (cwV 3 hts (goodV wm_L_43 wn_L_put ws_L_put wi_L wc_L_put) rfl rfl rfl (by decide +kernel) ⟨Nat.le_of_ble_eq_true rfl, Nat.le_of_ble_eq_true rfl⟩) ⟨Nat.zero_le _, Nat.zero_le _⟩ hK hP hD hS 0 rfl rfl rfl rfl hl.1 rfl (Nat.le_of_ble_eq_true rfl) d_L_putDraft_9 (fun H locs hP hD hS => ?_)
  refine W.eq (g2 := F0 m 12 ls []) rfl ?_
  exact W.vret hx hb hr (fun t ht hW => kx_Qv ht hP (rfl) hS rfl) hS.2.2 d_L_putDraft_12
set_option maxHeartbeats 4000000 in
set_option maxRecDepth 100000 in
theorem k_L_putCounting (l : Launch) (dC : Nat → ClassId) (dI : Nat → Nat → Nat) (k5 : Nat → ClassId) (a : Nat → Nat) (L : LL) (w : Nat) (hw : w = 0 ∨ w = 1) (hq : L.1 1 = nI w) (d : Nat) (hd : d < 8) (part : Int32) : Met l y_L_putCounting w_L_putCounting ({ frames := 1, cells := 0, slots := 0, locals := 23 }) (kx_Pc (dC, dI) clA (tyL k5) (wL a k5 L) [.ref (a 12), .int (nI d), .int part]) (kx_Q (dC, dI) clA (wL a k5 L) (wL a k5 (lPut w d part L)) none) 0 0 (kx_A (wL a k5 L)) := by
  refine Met.ofW (cc := c_L_putCounting) (maxL := 3) (ret := none) (by decide) rfl ?_
  intro p e s m args below meth c s₁ B hml hv
  obtain ⟨rfl, hP, hK, hD0⟩ := hv
  have hx := B.exec
  have hb := B.bytes
  have hr := B.returns
  have hts : ∀ w ∈ wsA, w.before _ s = true := fun w h => atoms_spec (ws := w_L_putCounting) B.pre w (List.mem_cons_of_mem _ h)
  have hown : s.vm.findClass R_L = some m.cls := findClass_of_methodNamed B.named
  have hlocks := B.notSynchronized
  have hD := kx_D.self hD0
  have hS : va_S (kx_A (wL a k5 L)) s.heap s.heap [] := va_S.rf
  have hl := lv_entry ([.ref (a 12), .int (nI d), .int part]) (n := 3) (Nat.le_of_ble_eq_true rfl)
  rw [lg_entry_eq]
  generalize (lg_sl ([.ref (a 12), .int (nI d), .int part]) ++ List.replicate (3 - (lg_sl ([.ref (a 12), .int (nI d), .int part])).length) Slot.unset).toArray = ls at hl ⊢
  have hl : lv_has ls 3 [(0, .ref (a 12)), (1, .int (nI d)), (2, .int part)] := hl
  refine lv_aload_n hx hb d_L_putCounting_0 rfl (lv_at hl 0 rfl) ?_
  refine lv_aload_n hx hb d_L_putCounting_1 rfl (lv_at hl 0 rfl) ?_
  refine va_get (D := (dC, dI)) (ci := 1) (v := .int (L.1 1)) (C := R_L) (T := T_L) (N := 7) hx hb hts wu_L hown hK hP 0 rfl rfl 6 (by decide) (hts _ wf_L_30) (fun _ h9 => h9) rfl d_L_putCounting_2 ?_
  refine lv_iload_n hx hb d_L_putCounting_5 rfl (lv_at hl 1 rfl) ?_
  refine lv_iload_n hx hb d_L_putCounting_6 rfl (lv_at hl 2 rfl) ?_
  rw [hq]
  refine kx_VW (w1 := (wL a k5 (lPut w d part L))) (As := [.int (nI w), .int (nI d), .int part]) (rest := []) ⟨hx, hb, hml, hown, hts⟩ (k_L_put l dC dI k5 a L w hw d hd part) (cwV 3 hts (goodV wm_L_43 wn_L_put ws_L_put wi_L wc_L_put) rfl rfl rfl (by decide +kernel) ⟨Nat.le_of_ble_eq_true rfl, Nat.le_of_ble_eq_true rfl⟩) ⟨Nat.zero_le _, Nat.zero_le _⟩ hK hP hD hS 0 rfl rfl rfl rfl hl.1 rfl (Nat.le_of_ble_eq_true rfl) d_L_putCounting_7 (fun H locs hP hD hS => ?_)
  refine W.eq (g2 := F0 m 10 ls []) rfl ?_
  exact W.vret hx hb hr (fun t ht hW => kx_Qv ht hP (rfl) hS rfl) hS.2.2 d_L_putCounting_10
set_option maxHeartbeats 4000000 in
set_option maxRecDepth 100000 in
theorem k_L_wipe (l : Launch) (dC : Nat → ClassId) (dI : Nat → Nat → Nat) (k5 : Nat → ClassId) (a : Nat → Nat) (L : LL) (d : Nat) (hd : d < 8) : Met l y_L_wipe w_L_wipe ({ frames := 0, cells := 0, slots := 0, locals := 0 }) (kx_Pc (dC, dI) clA (tyL k5) (wL a k5 L) [.ref (a 12), .int (nI d)]) (kx_Q (dC, dI) clA (wL a k5 L) (wL a k5 (lWipe d L)) none) 0 0 (kx_A (wL a k5 L)) := by
  refine Met.ofW (cc := c_L_wipe) (maxL := 3) (ret := none) (by decide) rfl ?_
  intro p e s m args below meth c s₁ B hml hv
  obtain ⟨rfl, hP, hK, hD0⟩ := hv
  have hx := B.exec
  have hb := B.bytes
  have hr := B.returns
  have hts : ∀ w ∈ wsA, w.before _ s = true := fun w h => atoms_spec (ws := w_L_wipe) B.pre w (List.mem_cons_of_mem _ h)
  have hown : s.vm.findClass R_L = some m.cls := findClass_of_methodNamed B.named
  have hlocks := B.notSynchronized
  have hD := kx_D.self hD0
  have hS : va_S (kx_A (wL a k5 L)) s.heap s.heap [] := va_S.rf
  have hl := lv_entry ([.ref (a 12), .int (nI d)]) (n := 3) (Nat.le_of_ble_eq_true rfl)
  rw [lg_entry_eq]
  generalize (lg_sl ([.ref (a 12), .int (nI d)]) ++ List.replicate (3 - (lg_sl ([.ref (a 12), .int (nI d)])).length) Slot.unset).toArray = ls at hl ⊢
  have hl : lv_has ls 3 [(0, .ref (a 12)), (1, .int (nI d))] := hl
  refine lv_iconst (v := 0) hx hb d_L_wipe_0 (by decide) ?_
  refine lv_istore_n (lv' := [(2, .int 0), (0, .ref (a 12)), (1, .int (nI d))]) hx hb d_L_wipe_1 rfl hl (by decide) rfl (fun ls hl => ?_)
  refine lv_iload_n hx hb d_L_wipe_2 rfl (lv_at hl 0 rfl) ?_
  refine lv_iconst (v := 2) hx hb d_L_wipe_3 (by decide) ?_
  refine lv_icmp_ge (tgt := 31) hx hb d_L_wipe_4 (by decide) (fun hc_1 => ?_) (fun hc_1 => ?_)
  · exact absurd hc_1 (by decide)
  · refine lv_aload_n hx hb d_L_wipe_7 rfl (lv_at hl 1 rfl) ?_
    refine va_get (D := (dC, dI)) (ci := 1) (v := .ref (a 13)) (C := R_L) (T := T_L) (N := 7) hx hb hts wu_L hown hK hP 0 rfl rfl 0 (by decide) (hts _ wf_L_11) (fun _ h9 => h9) rfl d_L_wipe_8 ?_
    refine lv_iload_n hx hb d_L_wipe_11 rfl (lv_at hl 0 rfl) ?_
    refine kx_aald hx hb hK hP 1 4 rfl rfl 0 (by decide) (by omega) (by omega) (v := (a 18)) rfl d_L_wipe_12 ?_
    refine lv_iload_n hx hb d_L_wipe_13 rfl (lv_at hl 2 rfl) ?_
    refine lv_iconst (v := 0) hx hb d_L_wipe_14 (by decide) ?_
    refine kx_iast (ws' := [((a 12), .inr (1, [.ref (a 13), .ref (a 14), .ref (a 15), .ref (a 16), .ref (a 17), .int (L.1 0), .int (L.1 1)])), ((a 13), .inl ((k5 4), 2, .inr (.inr (.inr (.inr (gr2 (a 18) (a 19))))))), ((a 14), .inl ((k5 4), 2, .inr (.inr (.inr (.inr (gr2 (a 20) (a 21))))))), ((a 15), .inl ((k5 4), 2, .inr (.inr (.inr (.inr (gr2 (a 22) (a 23))))))), ((a 16), .inl ((k5 0), 2, .inl (L.2 6))), ((a 17), .inl ((k5 3), 2, .inl (L.2 7))), ((a 18), .inl ((k5 0), 8, .inl (upd (L.2 0) d 0))), ((a 19), .inl ((k5 0), 8, .inl (L.2 1))), ((a 20), .inl ((k5 0), 8, .inl (L.2 2))), ((a 21), .inl ((k5 0), 8, .inl (L.2 3))), ((a 22), .inl ((k5 0), 8, .inl (L.2 4))), ((a 23), .inl ((k5 0), 8, .inl (L.2 5)))]) hx hb hK hP hD hS 6 0 rfl rfl d (rfl) (by omega) (by omega) rfl d_L_wipe_15 (fun H locs hP hD hS => ?_)
    refine lv_aload_n hx hb d_L_wipe_16 rfl (lv_at hl 1 rfl) ?_
    refine va_get (D := (dC, dI)) (ci := 1) (v := .ref (a 14)) (C := R_L) (T := T_L) (N := 7) hx hb hts wu_L hown hK hP 0 rfl rfl 1 (by decide) (hts _ wf_L_16) (fun _ h9 => h9) rfl d_L_wipe_17 ?_
    refine lv_iload_n hx hb d_L_wipe_20 rfl (lv_at hl 0 rfl) ?_
    refine kx_aald hx hb hK hP 2 4 rfl rfl 0 (by decide) (by omega) (by omega) (v := (a 20)) rfl d_L_wipe_21 ?_
    refine lv_iload_n hx hb d_L_wipe_22 rfl (lv_at hl 2 rfl) ?_
    refine lv_iconst (v := 0) hx hb d_L_wipe_23 (by decide) ?_
    refine kx_iast (ws' := [((a 12), .inr (1, [.ref (a 13), .ref (a 14), .ref (a 15), .ref (a 16), .ref (a 17), .int (L.1 0), .int (L.1 1)])), ((a 13), .inl ((k5 4), 2, .inr (.inr (.inr (.inr (gr2 (a 18) (a 19))))))), ((a 14), .inl ((k5 4), 2, .inr (.inr (.inr (.inr (gr2 (a 20) (a 21))))))), ((a 15), .inl ((k5 4), 2, .inr (.inr (.inr (.inr (gr2 (a 22) (a 23))))))), ((a 16), .inl ((k5 0), 2, .inl (L.2 6))), ((a 17), .inl ((k5 3), 2, .inl (L.2 7))), ((a 18), .inl ((k5 0), 8, .inl (upd (L.2 0) d 0))), ((a 19), .inl ((k5 0), 8, .inl (L.2 1))), ((a 20), .inl ((k5 0), 8, .inl (upd (L.2 2) d 0))), ((a 21), .inl ((k5 0), 8, .inl (L.2 3))), ((a 22), .inl ((k5 0), 8, .inl (L.2 4))), ((a 23), .inl ((k5 0), 8, .inl (L.2 5)))]) hx hb hK hP hD hS 8 0 rfl rfl d (rfl) (by omega) (by omega) rfl d_L_wipe_24 (fun H locs hP hD hS => ?_)
    refine lv_iinc (v := 1) (lv' := [(2, .int 1), (0, .ref (a 12)), (1, .int (nI d))]) hx hb d_L_wipe_25 hl (k := 0) rfl (by decide) (by decide) rfl (fun ls hl => ?_)
    refine lv_goto (tgt := 2) hx hb d_L_wipe_28 (by decide) ?_
    refine lv_iload_n hx hb d_L_wipe_2 rfl (lv_at hl 0 rfl) ?_
    refine lv_iconst (v := 2) hx hb d_L_wipe_3 (by decide) ?_
    refine lv_icmp_ge (tgt := 31) hx hb d_L_wipe_4 (by decide) (fun hc_2 => ?_) (fun hc_2 => ?_)
    · exact absurd hc_2 (by decide)
    · refine lv_aload_n hx hb d_L_wipe_7 rfl (lv_at hl 1 rfl) ?_
      refine va_get (D := (dC, dI)) (ci := 1) (v := .ref (a 13)) (C := R_L) (T := T_L) (N := 7) hx hb hts wu_L hown hK hP 0 rfl rfl 0 (by decide) (hts _ wf_L_11) (fun _ h9 => h9) rfl d_L_wipe_8 ?_
      refine lv_iload_n hx hb d_L_wipe_11 rfl (lv_at hl 0 rfl) ?_
      refine kx_aald hx hb hK hP 1 4 rfl rfl 1 (by decide) (by omega) (by omega) (v := (a 19)) rfl d_L_wipe_12 ?_
      refine lv_iload_n hx hb d_L_wipe_13 rfl (lv_at hl 2 rfl) ?_
      refine lv_iconst (v := 0) hx hb d_L_wipe_14 (by decide) ?_
      refine kx_iast (ws' := [((a 12), .inr (1, [.ref (a 13), .ref (a 14), .ref (a 15), .ref (a 16), .ref (a 17), .int (L.1 0), .int (L.1 1)])), ((a 13), .inl ((k5 4), 2, .inr (.inr (.inr (.inr (gr2 (a 18) (a 19))))))), ((a 14), .inl ((k5 4), 2, .inr (.inr (.inr (.inr (gr2 (a 20) (a 21))))))), ((a 15), .inl ((k5 4), 2, .inr (.inr (.inr (.inr (gr2 (a 22) (a 23))))))), ((a 16), .inl ((k5 0), 2, .inl (L.2 6))), ((a 17), .inl ((k5 3), 2, .inl (L.2 7))), ((a 18), .inl ((k5 0), 8, .inl (upd (L.2 0) d 0))), ((a 19), .inl ((k5 0), 8, .inl (upd (L.2 1) d 0))), ((a 20), .inl ((k5 0), 8, .inl (upd (L.2 2) d 0))), ((a 21), .inl ((k5 0), 8, .inl (L.2 3))), ((a 22), .inl ((k5 0), 8, .inl (L.2 4))), ((a 23), .inl ((k5 0), 8, .inl (L.2 5)))]) hx hb hK hP hD hS 7 0 rfl rfl d (rfl) (by omega) (by omega) rfl d_L_wipe_15 (fun H locs hP hD hS => ?_)
      refine lv_aload_n hx hb d_L_wipe_16 rfl (lv_at hl 1 rfl) ?_
      refine va_get (D := (dC, dI)) (ci := 1) (v := .ref (a 14)) (C := R_L) (T := T_L) (N := 7) hx hb hts wu_L hown hK hP 0 rfl rfl 1 (by decide) (hts _ wf_L_16) (fun _ h9 => h9) rfl d_L_wipe_17 ?_
      refine lv_iload_n hx hb d_L_wipe_20 rfl (lv_at hl 0 rfl) ?_
      refine kx_aald hx hb hK hP 2 4 rfl rfl 1 (by decide) (by omega) (by omega) (v := (a 21)) rfl d_L_wipe_21 ?_
      refine lv_iload_n hx hb d_L_wipe_22 rfl (lv_at hl 2 rfl) ?_
      refine lv_iconst (v := 0) hx hb d_L_wipe_23 (by decide) ?_
      refine kx_iast (ws' := [((a 12), .inr (1, [.ref (a 13), .ref (a 14), .ref (a 15), .ref (a 16), .ref (a 17), .int (L.1 0), .int (L.1 1)])), ((a 13), .inl ((k5 4), 2, .inr (.inr (.inr (.inr (gr2 (a 18) (a 19))))))), ((a 14), .inl ((k5 4), 2, .inr (.inr (.inr (.inr (gr2 (a 20) (a 21))))))), ((a 15), .inl ((k5 4), 2, .inr (.inr (.inr (.inr (gr2 (a 22) (a 23))))))), ((a 16), .inl ((k5 0), 2, .inl (L.2 6))), ((a 17), .inl ((k5 3), 2, .inl (L.2 7))), ((a 18), .inl ((k5 0), 8, .inl (upd (L.2 0) d 0))), ((a 19), .inl ((k5 0), 8, .inl (upd (L.2 1) d 0))), ((a 20), .inl ((k5 0), 8, .inl (upd (L.2 2) d 0))), ((a 21), .inl ((k5 0), 8, .inl (upd (L.2 3) d 0))), ((a 22), .inl ((k5 0), 8, .inl (L.2 4))), ((a 23), .inl ((k5 0), 8, .inl (L.2 5)))]) hx hb hK hP hD hS 9 0 rfl rfl d (rfl) (by omega) (by omega) rfl d_L_wipe_24 (fun H locs hP hD hS => ?_)
      refine lv_iinc (v := 2) (lv' := [(2, .int 2), (0, .ref (a 12)), (1, .int (nI d))]) hx hb d_L_wipe_25 hl (k := 0) rfl (by decide) (by decide) rfl (fun ls hl => ?_)
      refine lv_goto (tgt := 2) hx hb d_L_wipe_28 (by decide) ?_
      refine lv_iload_n hx hb d_L_wipe_2 rfl (lv_at hl 0 rfl) ?_
      refine lv_iconst (v := 2) hx hb d_L_wipe_3 (by decide) ?_
      refine lv_icmp_ge (tgt := 31) hx hb d_L_wipe_4 (by decide) (fun hc_3 => ?_) (fun hc_3 => ?_)
      · exact W.vret hx hb hr (fun t ht hW => kx_Qv ht hP (rfl) hS rfl) hS.2.2 d_L_wipe_31
      · exact absurd hc_3 (by decide)
set_option maxHeartbeats 4000000 in
set_option maxRecDepth 100000 in
theorem k_L_draftCounts (l : Launch) (dC : Nat → ClassId) (dI : Nat → Nat → Nat) (k5 : Nat → ClassId) (a : Nat → Nat) (L : LL)  : Met l y_L_draftCounts w_L_draftCounts ({ frames := 0, cells := 0, slots := 0, locals := 0 }) (kx_Pc (dC, dI) clA (tyL k5) (wL a k5 L) [.ref (a 12)]) (kx_Q (dC, dI) clA (wL a k5 L) (wL a k5 (lCounts L)) none) 0 0 (kx_A (wL a k5 L)) := by
  refine Met.ofW (cc := c_L_draftCounts) (maxL := 1) (ret := none) (by decide) rfl ?_
  intro p e s m args below meth c s₁ B hml hv
  obtain ⟨rfl, hP, hK, hD0⟩ := hv
  have hx := B.exec
  have hb := B.bytes
  have hr := B.returns
  have hts : ∀ w ∈ wsA, w.before _ s = true := fun w h => atoms_spec (ws := w_L_draftCounts) B.pre w (List.mem_cons_of_mem _ h)
  have hown : s.vm.findClass R_L = some m.cls := findClass_of_methodNamed B.named
  have hlocks := B.notSynchronized
  have hD := kx_D.self hD0
  have hS : va_S (kx_A (wL a k5 L)) s.heap s.heap [] := va_S.rf
  have hl := lv_entry ([.ref (a 12)]) (n := 1) (Nat.le_of_ble_eq_true rfl)
  rw [lg_entry_eq]
  generalize (lg_sl ([.ref (a 12)]) ++ List.replicate (1 - (lg_sl ([.ref (a 12)])).length) Slot.unset).toArray = ls at hl ⊢
  have hl : lv_has ls 1 [(0, .ref (a 12))] := hl
  refine lv_aload_n hx hb d_L_draftCounts_0 rfl (lv_at hl 0 rfl) ?_
  refine lv_iconst (v := 1) hx hb d_L_draftCounts_1 (by decide) ?_
  refine lv_aload_n hx hb d_L_draftCounts_2 rfl (lv_at hl 0 rfl) ?_
  refine va_get (D := (dC, dI)) (ci := 1) (v := .int (L.1 1)) (C := R_L) (T := T_L) (N := 7) hx hb hts wu_L hown hK hP 0 rfl rfl 6 (by decide) (hts _ wf_L_30) (fun _ h9 => h9) rfl d_L_draftCounts_3 ?_
  refine lv_isub hx hb d_L_draftCounts_6 ?_
  refine kx_put (ws' := [((a 12), .inr (1, [.ref (a 13), .ref (a 14), .ref (a 15), .ref (a 16), .ref (a 17), .int (L.1 0), .int (1 - (L.1 1))])), ((a 13), .inl ((k5 4), 2, .inr (.inr (.inr (.inr (gr2 (a 18) (a 19))))))), ((a 14), .inl ((k5 4), 2, .inr (.inr (.inr (.inr (gr2 (a 20) (a 21))))))), ((a 15), .inl ((k5 4), 2, .inr (.inr (.inr (.inr (gr2 (a 22) (a 23))))))), ((a 16), .inl ((k5 0), 2, .inl (L.2 6))), ((a 17), .inl ((k5 3), 2, .inl (L.2 7))), ((a 18), .inl ((k5 0), 8, .inl (L.2 0))), ((a 19), .inl ((k5 0), 8, .inl (L.2 1))), ((a 20), .inl ((k5 0), 8, .inl (L.2 2))), ((a 21), .inl ((k5 0), 8, .inl (L.2 3))), ((a 22), .inl ((k5 0), 8, .inl (L.2 4))), ((a 23), .inl ((k5 0), 8, .inl (L.2 5)))]) (D := (dC, dI)) (ci := 1) (v := .int (1 - (L.1 1))) (ty := .int) (C := R_L) (T := T_L) (N := 7) hx hb hts wu_L ty_L ok_L nm_L hown hK hP hD hS 0 rfl rfl 6 (by decide) (hts _ wf_L_30) (fun _ h9 => h9) rfl (by decide +kernel) rfl rfl (Nat.le_of_ble_eq_true rfl) rfl d_L_draftCounts_7 (fun H locs hP hD hS => ?_)
  exact W.vret hx hb hr (fun t ht hW => kx_Qv ht hP (rfl) hS rfl) hS.2.2 d_L_draftCounts_10
set_option maxHeartbeats 4000000 in
set_option maxRecDepth 100000 in
theorem k_L_tell (l : Launch) (dC : Nat → ClassId) (dI : Nat → Nat → Nat) (k5 : Nat → ClassId) (a : Nat → Nat) (L : LL) (w : Nat) (hw : w = 0 ∨ w = 1) (hq : 1 - L.1 1 = nI w) (d : Nat) (hd : d < 8) (mk : Int32) : Met l y_L_tell w_L_tell ({ frames := 0, cells := 0, slots := 0, locals := 0 }) (kx_Pc (dC, dI) clA (tyL k5) (wL a k5 L) [.ref (a 12), .int (nI d), .int mk]) (kx_Q (dC, dI) clA (wL a k5 L) (wL a k5 (lTell w d mk L)) none) 0 0 (kx_A (wL a k5 L)) := by
  refine Met.ofW (cc := c_L_tell) (maxL := 3) (ret := none) (by decide) rfl ?_
  intro p e s m args below meth c s₁ B hml hv
  obtain ⟨rfl, hP, hK, hD0⟩ := hv
  have hx := B.exec
  have hb := B.bytes
  have hr := B.returns
  have hts : ∀ w ∈ wsA, w.before _ s = true := fun w h => atoms_spec (ws := w_L_tell) B.pre w (List.mem_cons_of_mem _ h)
  have hown : s.vm.findClass R_L = some m.cls := findClass_of_methodNamed B.named
  have hlocks := B.notSynchronized
  have hD := kx_D.self hD0
  have hS : va_S (kx_A (wL a k5 L)) s.heap s.heap [] := va_S.rf
  have hl := lv_entry ([.ref (a 12), .int (nI d), .int mk]) (n := 3) (Nat.le_of_ble_eq_true rfl)
  rw [lg_entry_eq]
  generalize (lg_sl ([.ref (a 12), .int (nI d), .int mk]) ++ List.replicate (3 - (lg_sl ([.ref (a 12), .int (nI d), .int mk])).length) Slot.unset).toArray = ls at hl ⊢
  have hl : lv_has ls 3 [(0, .ref (a 12)), (1, .int (nI d)), (2, .int mk)] := hl
  rcases hw with rfl | rfl
  · refine lv_aload_n hx hb d_L_tell_0 rfl (lv_at hl 0 rfl) ?_
    refine va_get (D := (dC, dI)) (ci := 1) (v := .ref (a 15)) (C := R_L) (T := T_L) (N := 7) hx hb hts wu_L hown hK hP 0 rfl rfl 2 (by decide) (hts _ wf_L_19) (fun _ h9 => h9) rfl d_L_tell_1 ?_
    refine lv_iconst (v := 1) hx hb d_L_tell_4 (by decide) ?_
    refine lv_aload_n hx hb d_L_tell_5 rfl (lv_at hl 0 rfl) ?_
    refine va_get (D := (dC, dI)) (ci := 1) (v := .int (L.1 1)) (C := R_L) (T := T_L) (N := 7) hx hb hts wu_L hown hK hP 0 rfl rfl 6 (by decide) (hts _ wf_L_30) (fun _ h9 => h9) rfl d_L_tell_6 ?_
    refine lv_isub hx hb d_L_tell_9 ?_
    refine kx_aald hx hb hK hP 3 4 rfl rfl 0 (hq) (by omega) (by omega) (v := (a 22)) rfl d_L_tell_10 ?_
    refine lv_iload_n hx hb d_L_tell_11 rfl (lv_at hl 1 rfl) ?_
    refine lv_iload_n hx hb d_L_tell_12 rfl (lv_at hl 2 rfl) ?_
    refine kx_iast (ws' := [((a 12), .inr (1, [.ref (a 13), .ref (a 14), .ref (a 15), .ref (a 16), .ref (a 17), .int (L.1 0), .int (L.1 1)])), ((a 13), .inl ((k5 4), 2, .inr (.inr (.inr (.inr (gr2 (a 18) (a 19))))))), ((a 14), .inl ((k5 4), 2, .inr (.inr (.inr (.inr (gr2 (a 20) (a 21))))))), ((a 15), .inl ((k5 4), 2, .inr (.inr (.inr (.inr (gr2 (a 22) (a 23))))))), ((a 16), .inl ((k5 0), 2, .inl (L.2 6))), ((a 17), .inl ((k5 3), 2, .inl (L.2 7))), ((a 18), .inl ((k5 0), 8, .inl (L.2 0))), ((a 19), .inl ((k5 0), 8, .inl (L.2 1))), ((a 20), .inl ((k5 0), 8, .inl (L.2 2))), ((a 21), .inl ((k5 0), 8, .inl (L.2 3))), ((a 22), .inl ((k5 0), 8, .inl (upd (L.2 4) d mk))), ((a 23), .inl ((k5 0), 8, .inl (L.2 5)))]) hx hb hK hP hD hS 10 0 rfl rfl d (rfl) (by omega) (by omega) rfl d_L_tell_13 (fun H locs hP hD hS => ?_)
    exact W.vret hx hb hr (fun t ht hW => kx_Qv ht hP (rfl) hS rfl) hS.2.2 d_L_tell_14
  · refine lv_aload_n hx hb d_L_tell_0 rfl (lv_at hl 0 rfl) ?_
    refine va_get (D := (dC, dI)) (ci := 1) (v := .ref (a 15)) (C := R_L) (T := T_L) (N := 7) hx hb hts wu_L hown hK hP 0 rfl rfl 2 (by decide) (hts _ wf_L_19) (fun _ h9 => h9) rfl d_L_tell_1 ?_
    refine lv_iconst (v := 1) hx hb d_L_tell_4 (by decide) ?_
    refine lv_aload_n hx hb d_L_tell_5 rfl (lv_at hl 0 rfl) ?_
    refine va_get (D := (dC, dI)) (ci := 1) (v := .int (L.1 1)) (C := R_L) (T := T_L) (N := 7) hx hb hts wu_L hown hK hP 0 rfl rfl 6 (by decide) (hts _ wf_L_30) (fun _ h9 => h9) rfl d_L_tell_6 ?_
    refine lv_isub hx hb d_L_tell_9 ?_
    refine kx_aald hx hb hK hP 3 4 rfl rfl 1 (hq) (by omega) (by omega) (v := (a 23)) rfl d_L_tell_10 ?_
    refine lv_iload_n hx hb d_L_tell_11 rfl (lv_at hl 1 rfl) ?_
    refine lv_iload_n hx hb d_L_tell_12 rfl (lv_at hl 2 rfl) ?_
    refine kx_iast (ws' := [((a 12), .inr (1, [.ref (a 13), .ref (a 14), .ref (a 15), .ref (a 16), .ref (a 17), .int (L.1 0), .int (L.1 1)])), ((a 13), .inl ((k5 4), 2, .inr (.inr (.inr (.inr (gr2 (a 18) (a 19))))))), ((a 14), .inl ((k5 4), 2, .inr (.inr (.inr (.inr (gr2 (a 20) (a 21))))))), ((a 15), .inl ((k5 4), 2, .inr (.inr (.inr (.inr (gr2 (a 22) (a 23))))))), ((a 16), .inl ((k5 0), 2, .inl (L.2 6))), ((a 17), .inl ((k5 3), 2, .inl (L.2 7))), ((a 18), .inl ((k5 0), 8, .inl (L.2 0))), ((a 19), .inl ((k5 0), 8, .inl (L.2 1))), ((a 20), .inl ((k5 0), 8, .inl (L.2 2))), ((a 21), .inl ((k5 0), 8, .inl (L.2 3))), ((a 22), .inl ((k5 0), 8, .inl (L.2 4))), ((a 23), .inl ((k5 0), 8, .inl (upd (L.2 5) d mk)))]) hx hb hK hP hD hS 11 0 rfl rfl d (rfl) (by omega) (by omega) rfl d_L_tell_13 (fun H locs hP hD hS => ?_)
    exact W.vret hx hb hr (fun t ht hW => kx_Qv ht hP (rfl) hS rfl) hS.2.2 d_L_tell_14
set_option maxHeartbeats 4000000 in
set_option maxRecDepth 100000 in
theorem k_L_tellsOfGroup (l : Launch) (dC : Nat → ClassId) (dI : Nat → Nat → Nat) (k5 : Nat → ClassId) (a : Nat → Nat) (L : LL) (w : Nat) (hw : w = 0 ∨ w = 1) (hq : L.1 1 = nI w) (hz : narrow .boolean (.int (L.2 7 w)) = .int (L.2 7 w)) : Met l y_L_tellsOfGroup w_L_tellsOfGroup ({ frames := 0, cells := 0, slots := 0, locals := 0 }) (kx_Pc (dC, dI) clA (tyL k5) (wL a k5 L) [.ref (a 12)]) (kx_R (some (.int (L.2 7 w)))) 0 0 (fun _ => False) := by
  refine Met.ofW (cc := c_L_tellsOfGroup) (maxL := 1) (ret := (some .boolean)) (by decide) rfl ?_
  intro p e s m args below meth c s₁ B hml hv
  obtain ⟨rfl, hP, hK, hD0⟩ := hv
  have hx := B.exec
  have hb := B.bytes
  have hr := B.returns
  have hts : ∀ w ∈ wsA, w.before _ s = true := fun w h => atoms_spec (ws := w_L_tellsOfGroup) B.pre w (List.mem_cons_of_mem _ h)
  have hown : s.vm.findClass R_L = some m.cls := findClass_of_methodNamed B.named
  have hlocks := B.notSynchronized
  have hD := kx_D.self hD0
  have hS : va_S (kx_A (wL a k5 L)) s.heap s.heap [] := va_S.rf
  have hl := lv_entry ([.ref (a 12)]) (n := 1) (Nat.le_of_ble_eq_true rfl)
  rw [lg_entry_eq]
  generalize (lg_sl ([.ref (a 12)]) ++ List.replicate (1 - (lg_sl ([.ref (a 12)])).length) Slot.unset).toArray = ls at hl ⊢
  have hl : lv_has ls 1 [(0, .ref (a 12))] := hl
  rcases hw with rfl | rfl
  · refine lv_aload_n hx hb d_L_tellsOfGroup_0 rfl (lv_at hl 0 rfl) ?_
    refine va_get (D := (dC, dI)) (ci := 1) (v := .ref (a 17)) (C := R_L) (T := T_L) (N := 7) hx hb hts wu_L hown hK hP 0 rfl rfl 4 (by decide) (hts _ wf_L_26) (fun _ h9 => h9) rfl d_L_tellsOfGroup_1 ?_
    refine lv_aload_n hx hb d_L_tellsOfGroup_4 rfl (lv_at hl 0 rfl) ?_
    refine va_get (D := (dC, dI)) (ci := 1) (v := .int (L.1 1)) (C := R_L) (T := T_L) (N := 7) hx hb hts wu_L hown hK hP 0 rfl rfl 6 (by decide) (hts _ wf_L_30) (fun _ h9 => h9) rfl d_L_tellsOfGroup_5 ?_
    refine kx_zald hx hb hK hP 5 3 rfl rfl 0 (hq) (by omega) (by omega) d_L_tellsOfGroup_8 ?_
    exact W.zret (v := ((L.2 7) 0)) hx hb hr hz (fun t ht hW => kx_Ri (rfl) ht) (fun _ h => absurd h List.not_mem_nil) d_L_tellsOfGroup_9
  · refine lv_aload_n hx hb d_L_tellsOfGroup_0 rfl (lv_at hl 0 rfl) ?_
    refine va_get (D := (dC, dI)) (ci := 1) (v := .ref (a 17)) (C := R_L) (T := T_L) (N := 7) hx hb hts wu_L hown hK hP 0 rfl rfl 4 (by decide) (hts _ wf_L_26) (fun _ h9 => h9) rfl d_L_tellsOfGroup_1 ?_
    refine lv_aload_n hx hb d_L_tellsOfGroup_4 rfl (lv_at hl 0 rfl) ?_
    refine va_get (D := (dC, dI)) (ci := 1) (v := .int (L.1 1)) (C := R_L) (T := T_L) (N := 7) hx hb hts wu_L hown hK hP 0 rfl rfl 6 (by decide) (hts _ wf_L_30) (fun _ h9 => h9) rfl d_L_tellsOfGroup_5 ?_
    refine kx_zald hx hb hK hP 5 3 rfl rfl 1 (hq) (by omega) (by omega) d_L_tellsOfGroup_8 ?_
    exact W.zret (v := ((L.2 7) 1)) hx hb hr hz (fun t ht hW => kx_Ri (rfl) ht) (fun _ h => absurd h List.not_mem_nil) d_L_tellsOfGroup_9
set_option maxHeartbeats 4000000 in
set_option maxRecDepth 100000 in
theorem k_L_toldMark (l : Launch) (dC : Nat → ClassId) (dI : Nat → Nat → Nat) (k5 : Nat → ClassId) (a : Nat → Nat) (L : LL) (w : Nat) (hw : w = 0 ∨ w = 1) (hq : L.1 1 = nI w) (d : Nat) (hd : d < 8) : Met l y_L_toldMark w_L_toldMark ({ frames := 0, cells := 0, slots := 0, locals := 0 }) (kx_Pc (dC, dI) clA (tyL k5) (wL a k5 L) [.ref (a 12), .int (nI d)]) (kx_R (some (.int (L.2 (4 + w) d)))) 0 0 (fun _ => False) := by
  refine Met.ofW (cc := c_L_toldMark) (maxL := 2) (ret := (some .int)) (by decide) rfl ?_
  intro p e s m args below meth c s₁ B hml hv
  obtain ⟨rfl, hP, hK, hD0⟩ := hv
  have hx := B.exec
  have hb := B.bytes
  have hr := B.returns
  have hts : ∀ w ∈ wsA, w.before _ s = true := fun w h => atoms_spec (ws := w_L_toldMark) B.pre w (List.mem_cons_of_mem _ h)
  have hown : s.vm.findClass R_L = some m.cls := findClass_of_methodNamed B.named
  have hlocks := B.notSynchronized
  have hD := kx_D.self hD0
  have hS : va_S (kx_A (wL a k5 L)) s.heap s.heap [] := va_S.rf
  have hl := lv_entry ([.ref (a 12), .int (nI d)]) (n := 2) (Nat.le_of_ble_eq_true rfl)
  rw [lg_entry_eq]
  generalize (lg_sl ([.ref (a 12), .int (nI d)]) ++ List.replicate (2 - (lg_sl ([.ref (a 12), .int (nI d)])).length) Slot.unset).toArray = ls at hl ⊢
  have hl : lv_has ls 2 [(0, .ref (a 12)), (1, .int (nI d))] := hl
  rcases hw with rfl | rfl
  · refine lv_aload_n hx hb d_L_toldMark_0 rfl (lv_at hl 0 rfl) ?_
    refine va_get (D := (dC, dI)) (ci := 1) (v := .ref (a 15)) (C := R_L) (T := T_L) (N := 7) hx hb hts wu_L hown hK hP 0 rfl rfl 2 (by decide) (hts _ wf_L_19) (fun _ h9 => h9) rfl d_L_toldMark_1 ?_
    refine lv_aload_n hx hb d_L_toldMark_4 rfl (lv_at hl 0 rfl) ?_
    refine va_get (D := (dC, dI)) (ci := 1) (v := .int (L.1 1)) (C := R_L) (T := T_L) (N := 7) hx hb hts wu_L hown hK hP 0 rfl rfl 6 (by decide) (hts _ wf_L_30) (fun _ h9 => h9) rfl d_L_toldMark_5 ?_
    refine kx_aald hx hb hK hP 3 4 rfl rfl 0 (hq) (by omega) (by omega) (v := (a 22)) rfl d_L_toldMark_8 ?_
    refine lv_iload_n hx hb d_L_toldMark_9 rfl (lv_at hl 1 rfl) ?_
    refine kx_iald hx hb hK hP 10 0 rfl rfl d (rfl) (by omega) (by omega) d_L_toldMark_10 ?_
    exact W.iret (v := ((L.2 4) d)) hx hb hr (fun t ht hW => kx_Ri (rfl) ht) (fun _ h => absurd h List.not_mem_nil) d_L_toldMark_11
  · refine lv_aload_n hx hb d_L_toldMark_0 rfl (lv_at hl 0 rfl) ?_
    refine va_get (D := (dC, dI)) (ci := 1) (v := .ref (a 15)) (C := R_L) (T := T_L) (N := 7) hx hb hts wu_L hown hK hP 0 rfl rfl 2 (by decide) (hts _ wf_L_19) (fun _ h9 => h9) rfl d_L_toldMark_1 ?_
    refine lv_aload_n hx hb d_L_toldMark_4 rfl (lv_at hl 0 rfl) ?_
    refine va_get (D := (dC, dI)) (ci := 1) (v := .int (L.1 1)) (C := R_L) (T := T_L) (N := 7) hx hb hts wu_L hown hK hP 0 rfl rfl 6 (by decide) (hts _ wf_L_30) (fun _ h9 => h9) rfl d_L_toldMark_5 ?_
    refine kx_aald hx hb hK hP 3 4 rfl rfl 1 (hq) (by omega) (by omega) (v := (a 23)) rfl d_L_toldMark_8 ?_
    refine lv_iload_n hx hb d_L_toldMark_9 rfl (lv_at hl 1 rfl) ?_
    refine kx_iald hx hb hK hP 11 0 rfl rfl d (rfl) (by omega) (by omega) d_L_toldMark_10 ?_
    exact W.iret (v := ((L.2 5) d)) hx hb hr (fun t ht hW => kx_Ri (rfl) ht) (fun _ h => absurd h List.not_mem_nil) d_L_toldMark_11
set_option maxHeartbeats 4000000 in
set_option maxRecDepth 100000 in
theorem k_L_draft (l : Launch) (dC : Nat → ClassId) (dI : Nat → Nat → Nat) (k5 : Nat → ClassId) (a : Nat → Nat) (L : LL) (w : Nat) (hw : w = 0 ∨ w = 1) (hq : 1 - L.1 1 = nI w) (hm : Nat) (fm : Nat → Int32) (tg : Int32) (hz : vp_nar .boolean tg = tg) : Met l y_L_draft w_L_draft ({ frames := 1, cells := 0, slots := 0, locals := 40 }) (kx_Pc (dC, dI) clA (tyL k5) ([((a 12), .inr (1, [.ref (a 13), .ref (a 14), .ref (a 15), .ref (a 16), .ref (a 17), .int (L.1 0), .int (L.1 1)])), ((a 13), .inl ((k5 4), 2, .inr (.inr (.inr (.inr (gr2 (a 18) (a 19))))))), ((a 14), .inl ((k5 4), 2, .inr (.inr (.inr (.inr (gr2 (a 20) (a 21))))))), ((a 15), .inl ((k5 4), 2, .inr (.inr (.inr (.inr (gr2 (a 22) (a 23))))))), ((a 16), .inl ((k5 0), 2, .inl (L.2 6))), ((a 17), .inl ((k5 3), 2, .inl (L.2 7))), ((a 18), .inl ((k5 0), 8, .inl (L.2 0))), ((a 19), .inl ((k5 0), 8, .inl (L.2 1))), ((a 20), .inl ((k5 0), 8, .inl (L.2 2))), ((a 21), .inl ((k5 0), 8, .inl (L.2 3))), ((a 22), .inl ((k5 0), 8, .inl (L.2 4))), ((a 23), .inl ((k5 0), 8, .inl (L.2 5))), (hm, .inl ((k5 0), 8, .inl fm))]) [.ref (a 12), .int tg, .ref hm]) (kx_Q (dC, dI) clA ([((a 12), .inr (1, [.ref (a 13), .ref (a 14), .ref (a 15), .ref (a 16), .ref (a 17), .int (L.1 0), .int (L.1 1)])), ((a 13), .inl ((k5 4), 2, .inr (.inr (.inr (.inr (gr2 (a 18) (a 19))))))), ((a 14), .inl ((k5 4), 2, .inr (.inr (.inr (.inr (gr2 (a 20) (a 21))))))), ((a 15), .inl ((k5 4), 2, .inr (.inr (.inr (.inr (gr2 (a 22) (a 23))))))), ((a 16), .inl ((k5 0), 2, .inl (L.2 6))), ((a 17), .inl ((k5 3), 2, .inl (L.2 7))), ((a 18), .inl ((k5 0), 8, .inl (L.2 0))), ((a 19), .inl ((k5 0), 8, .inl (L.2 1))), ((a 20), .inl ((k5 0), 8, .inl (L.2 2))), ((a 21), .inl ((k5 0), 8, .inl (L.2 3))), ((a 22), .inl ((k5 0), 8, .inl (L.2 4))), ((a 23), .inl ((k5 0), 8, .inl (L.2 5))), (hm, .inl ((k5 0), 8, .inl fm))]) (wL a k5 (lDraft w tg fm L) ++ [(hm, .inl (k5 0, 8, .inl fm))]) none) 0 0 (kx_A ([((a 12), .inr (1, [.ref (a 13), .ref (a 14), .ref (a 15), .ref (a 16), .ref (a 17), .int (L.1 0), .int (L.1 1)])), ((a 13), .inl ((k5 4), 2, .inr (.inr (.inr (.inr (gr2 (a 18) (a 19))))))), ((a 14), .inl ((k5 4), 2, .inr (.inr (.inr (.inr (gr2 (a 20) (a 21))))))), ((a 15), .inl ((k5 4), 2, .inr (.inr (.inr (.inr (gr2 (a 22) (a 23))))))), ((a 16), .inl ((k5 0), 2, .inl (L.2 6))), ((a 17), .inl ((k5 3), 2, .inl (L.2 7))), ((a 18), .inl ((k5 0), 8, .inl (L.2 0))), ((a 19), .inl ((k5 0), 8, .inl (L.2 1))), ((a 20), .inl ((k5 0), 8, .inl (L.2 2))), ((a 21), .inl ((k5 0), 8, .inl (L.2 3))), ((a 22), .inl ((k5 0), 8, .inl (L.2 4))), ((a 23), .inl ((k5 0), 8, .inl (L.2 5))), (hm, .inl ((k5 0), 8, .inl fm))])) := by
  refine Met.ofW (cc := c_L_draft) (maxL := 4) (ret := none) (by decide) rfl ?_
  intro p e s m args below meth c s₁ B hml hv
  obtain ⟨rfl, hP, hK, hD0⟩ := hv
  have hx := B.exec
  have hb := B.bytes
  have hr := B.returns
  have hts : ∀ w ∈ wsA, w.before _ s = true := fun w h => atoms_spec (ws := w_L_draft) B.pre w (List.mem_cons_of_mem _ h)
  have hown : s.vm.findClass R_L = some m.cls := findClass_of_methodNamed B.named
  have hlocks := B.notSynchronized
  have hD := kx_D.self hD0
  have hS : va_S (kx_A ([((a 12), .inr (1, [.ref (a 13), .ref (a 14), .ref (a 15), .ref (a 16), .ref (a 17), .int (L.1 0), .int (L.1 1)])), ((a 13), .inl ((k5 4), 2, .inr (.inr (.inr (.inr (gr2 (a 18) (a 19))))))), ((a 14), .inl ((k5 4), 2, .inr (.inr (.inr (.inr (gr2 (a 20) (a 21))))))), ((a 15), .inl ((k5 4), 2, .inr (.inr (.inr (.inr (gr2 (a 22) (a 23))))))), ((a 16), .inl ((k5 0), 2, .inl (L.2 6))), ((a 17), .inl ((k5 3), 2, .inl (L.2 7))), ((a 18), .inl ((k5 0), 8, .inl (L.2 0))), ((a 19), .inl ((k5 0), 8, .inl (L.2 1))), ((a 20), .inl ((k5 0), 8, .inl (L.2 2))), ((a 21), .inl ((k5 0), 8, .inl (L.2 3))), ((a 22), .inl ((k5 0), 8, .inl (L.2 4))), ((a 23), .inl ((k5 0), 8, .inl (L.2 5))), (hm, .inl ((k5 0), 8, .inl fm))])) s.heap s.heap [] := va_S.rf
  have hl := lv_entry ([.ref (a 12), .int tg, .ref hm]) (n := 4) (Nat.le_of_ble_eq_true rfl)
  rw [lg_entry_eq]
  generalize (lg_sl ([.ref (a 12), .int tg, .ref hm]) ++ List.replicate (4 - (lg_sl ([.ref (a 12), .int tg, .ref hm])).length) Slot.unset).toArray = ls at hl ⊢
  have hl : lv_has ls 4 [(0, .ref (a 12)), (1, .int tg), (2, .ref hm)] := hl
  rcases hw with rfl | rfl
  · refine lv_iconst (v := 1) hx hb d_L_draft_0 (by decide) ?_
    refine lv_aload_n hx hb d_L_draft_1 rfl (lv_at hl 0 rfl) ?_
    refine va_get (D := (dC, dI)) (ci := 1) (v := .int (L.1 1)) (C := R_L) (T := T_L) (N := 7) hx hb hts wu_L hown hK hP 0 rfl rfl 6 (by decide) (hts _ wf_L_30) (fun _ h9 => h9) rfl d_L_draft_2 ?_
    refine lv_isub hx hb d_L_draft_5 ?_
    refine lv_istore_n (lv' := [(3, .int (1 - (L.1 1))), (0, .ref (a 12)), (1, .int tg), (2, .ref hm)]) hx hb d_L_draft_6 rfl hl (by decide) rfl (fun ls hl => ?_)
    refine lv_aload_n hx hb d_L_draft_7 rfl (lv_at hl 1 rfl) ?_
    refine lv_dup hx hb d_L_draft_8 rfl ?_
    refine va_get (D := (dC, dI)) (ci := 1) (v := .int (L.1 0)) (C := R_L) (T := T_L) (N := 7) hx hb hts wu_L hown hK hP 0 rfl rfl 5 (by decide) (hts _ wf_L_34) (fun _ h9 => h9) rfl d_L_draft_9 ?_
    refine lv_iconst (v := 1) hx hb d_L_draft_12 (by decide) ?_
    refine lv_iadd hx hb d_L_draft_13 ?_
    refine kx_put (ws' := [((a 12), .inr (1, [.ref (a 13), .ref (a 14), .ref (a 15), .ref (a 16), .ref (a 17), .int ((L.1 0) + 1), .int (L.1 1)])), ((a 13), .inl ((k5 4), 2, .inr (.inr (.inr (.inr (gr2 (a 18) (a 19))))))), ((a 14), .inl ((k5 4), 2, .inr (.inr (.inr (.inr (gr2 (a 20) (a 21))))))), ((a 15), .inl ((k5 4), 2, .inr (.inr (.inr (.inr (gr2 (a 22) (a 23))))))), ((a 16), .inl ((k5 0), 2, .inl (L.2 6))), ((a 17), .inl ((k5 3), 2, .inl (L.2 7))), ((a 18), .inl ((k5 0), 8, .inl (L.2 0))), ((a 19), .inl ((k5 0), 8, .inl (L.2 1))), ((a 20), .inl ((k5 0), 8, .inl (L.2 2))), ((a 21), .inl ((k5 0), 8, .inl (L.2 3))), ((a 22), .inl ((k5 0), 8, .inl (L.2 4))), ((a 23), .inl ((k5 0), 8, .inl (L.2 5))), (hm, .inl ((k5 0), 8, .inl fm))]) (D := (dC, dI)) (ci := 1) (v := .int ((L.1 0) + 1)) (ty := .int) (C := R_L) (T := T_L) (N := 7) hx hb hts wu_L ty_L ok_L nm_L hown hK hP hD hS 0 rfl rfl 5 (by decide) (hts _ wf_L_34) (fun _ h9 => h9) rfl (by decide +kernel) rfl rfl (Nat.le_of_ble_eq_true rfl) rfl d_L_draft_14 (fun H locs hP hD hS => ?_)
    refine lv_aload_n hx hb d_L_draft_17 rfl (lv_at hl 1 rfl) ?_
    refine va_get (D := (dC, dI)) (ci := 1) (v := .ref (a 16)) (C := R_L) (T := T_L) (N := 7) hx hb hts wu_L hown hK hP 0 rfl rfl 3 (by decide) (hts _ wf_L_22) (fun _ h9 => h9) rfl d_L_draft_18 ?_
    refine lv_iload_n hx hb d_L_draft_21 rfl (lv_at hl 0 rfl) ?_
    refine lv_aload_n hx hb d_L_draft_22 rfl (lv_at hl 1 rfl) ?_
    refine va_get (D := (dC, dI)) (ci := 1) (v := .int ((L.1 0) + 1)) (C := R_L) (T := T_L) (N := 7) hx hb hts wu_L hown hK hP 0 rfl rfl 5 (by decide) (hts _ wf_L_34) (fun _ h9 => h9) rfl d_L_draft_23 ?_
    refine kx_iast (ws' := [((a 12), .inr (1, [.ref (a 13), .ref (a 14), .ref (a 15), .ref (a 16), .ref (a 17), .int ((L.1 0) + 1), .int (L.1 1)])), ((a 13), .inl ((k5 4), 2, .inr (.inr (.inr (.inr (gr2 (a 18) (a 19))))))), ((a 14), .inl ((k5 4), 2, .inr (.inr (.inr (.inr (gr2 (a 20) (a 21))))))), ((a 15), .inl ((k5 4), 2, .inr (.inr (.inr (.inr (gr2 (a 22) (a 23))))))), ((a 16), .inl ((k5 0), 2, .inl (upd (L.2 6) 0 ((L.1 0) + 1)))), ((a 17), .inl ((k5 3), 2, .inl (L.2 7))), ((a 18), .inl ((k5 0), 8, .inl (L.2 0))), ((a 19), .inl ((k5 0), 8, .inl (L.2 1))), ((a 20), .inl ((k5 0), 8, .inl (L.2 2))), ((a 21), .inl ((k5 0), 8, .inl (L.2 3))), ((a 22), .inl ((k5 0), 8, .inl (L.2 4))), ((a 23), .inl ((k5 0), 8, .inl (L.2 5))), (hm, .inl ((k5 0), 8, .inl fm))]) hx hb hK hP hD hS 4 0 rfl rfl 0 (hq) (by omega) (by omega) rfl d_L_draft_26 (fun H locs hP hD hS => ?_)
    refine lv_aload_n hx hb d_L_draft_27 rfl (lv_at hl 1 rfl) ?_
    refine va_get (D := (dC, dI)) (ci := 1) (v := .ref (a 17)) (C := R_L) (T := T_L) (N := 7) hx hb hts wu_L hown hK hP 0 rfl rfl 4 (by decide) (hts _ wf_L_26) (fun _ h9 => h9) rfl d_L_draft_28 ?_
    refine lv_iload_n hx hb d_L_draft_31 rfl (lv_at hl 0 rfl) ?_
    refine lv_iload_n hx hb d_L_draft_32 rfl (lv_at hl 2 rfl) ?_
    refine kx_zast (ws' := [((a 12), .inr (1, [.ref (a 13), .ref (a 14), .ref (a 15), .ref (a 16), .ref (a 17), .int ((L.1 0) + 1), .int (L.1 1)])), ((a 13), .inl ((k5 4), 2, .inr (.inr (.inr (.inr (gr2 (a 18) (a 19))))))), ((a 14), .inl ((k5 4), 2, .inr (.inr (.inr (.inr (gr2 (a 20) (a 21))))))), ((a 15), .inl ((k5 4), 2, .inr (.inr (.inr (.inr (gr2 (a 22) (a 23))))))), ((a 16), .inl ((k5 0), 2, .inl (upd (L.2 6) 0 ((L.1 0) + 1)))), ((a 17), .inl ((k5 3), 2, .inl (upd (L.2 7) 0 tg))), ((a 18), .inl ((k5 0), 8, .inl (L.2 0))), ((a 19), .inl ((k5 0), 8, .inl (L.2 1))), ((a 20), .inl ((k5 0), 8, .inl (L.2 2))), ((a 21), .inl ((k5 0), 8, .inl (L.2 3))), ((a 22), .inl ((k5 0), 8, .inl (L.2 4))), ((a 23), .inl ((k5 0), 8, .inl (L.2 5))), (hm, .inl ((k5 0), 8, .inl fm))]) hx hb hK hP hD hS 5 3 rfl rfl 0 (hq) (by omega) (by omega) hz rfl d_L_draft_33 (fun H locs hP hD hS => ?_)
    refine lv_aload_n hx hb d_L_draft_34 rfl (lv_at hl 3 rfl) ?_
    refine lv_iconst (v := 0) hx hb d_L_draft_35 (by decide) ?_
    refine lv_aload_n hx hb d_L_draft_36 rfl (lv_at hl 1 rfl) ?_
    refine va_get (D := (dC, dI)) (ci := 1) (v := .ref (a 15)) (C := R_L) (T := T_L) (N := 7) hx hb hts wu_L hown hK hP 0 rfl rfl 2 (by decide) (hts _ wf_L_19) (fun _ h9 => h9) rfl d_L_draft_37 ?_
    refine lv_iload_n hx hb d_L_draft_40 rfl (lv_at hl 0 rfl) ?_
    refine kx_aald hx hb hK hP 3 4 rfl rfl 0 (hq) (by omega) (by omega) (v := (a 22)) rfl d_L_draft_41 ?_
    refine lv_iconst (v := 0) hx hb d_L_draft_42 (by decide) ?_
    refine lv_bipush (v := 8) hx hb d_L_draft_43 (by decide) ?_
    refine kx_copy (ws' := [((a 12), .inr (1, [.ref (a 13), .ref (a 14), .ref (a 15), .ref (a 16), .ref (a 17), .int ((L.1 0) + 1), .int (L.1 1)])), ((a 13), .inl ((k5 4), 2, .inr (.inr (.inr (.inr (gr2 (a 18) (a 19))))))), ((a 14), .inl ((k5 4), 2, .inr (.inr (.inr (.inr (gr2 (a 20) (a 21))))))), ((a 15), .inl ((k5 4), 2, .inr (.inr (.inr (.inr (gr2 (a 22) (a 23))))))), ((a 16), .inl ((k5 0), 2, .inl (upd (L.2 6) 0 ((L.1 0) + 1)))), ((a 17), .inl ((k5 3), 2, .inl (upd (L.2 7) 0 tg))), ((a 18), .inl ((k5 0), 8, .inl (L.2 0))), ((a 19), .inl ((k5 0), 8, .inl (L.2 1))), ((a 20), .inl ((k5 0), 8, .inl (L.2 2))), ((a 21), .inl ((k5 0), 8, .inl (L.2 3))), ((a 22), .inl ((k5 0), 8, .inl (va_cpy fm (L.2 4) 0 0 8))), ((a 23), .inl ((k5 0), 8, .inl (L.2 5))), (hm, .inl ((k5 0), 8, .inl fm))]) hx hb (hml.trans hl.1.symm) hown (hts _ wm_L_37) (hts _ wv_arraycopyName) (hts _ wt_arraycopyName) (hts _ wi_S) hK hP hD hS 12 10 0 0 rfl rfl rfl rfl rfl 0 0 8 (rfl) (rfl) (rfl) (by omega) (by omega) (by omega) (by omega) (fun i hi => rfl) rfl (Nat.le_of_ble_eq_true rfl) (Nat.le_of_ble_eq_true rfl) d_L_draft_45 (fun H locs hP hD hS => ?_)
    exact W.vret hx hb hr (fun t ht hW => kx_Qv ht hP (rfl) hS rfl) hS.2.2 d_L_draft_48
  · refine lv_iconst (v := 1) hx hb d_L_draft_0 (by decide) ?_
    refine lv_aload_n hx hb d_L_draft_1 rfl (lv_at hl 0 rfl) ?_
    refine va_get (D := (dC, dI)) (ci := 1) (v := .int (L.1 1)) (C := R_L) (T := T_L) (N := 7) hx hb hts wu_L hown hK hP 0 rfl rfl 6 (by decide) (hts _ wf_L_30) (fun _ h9 => h9) rfl d_L_draft_2 ?_
    refine lv_isub hx hb d_L_draft_5 ?_
    refine lv_istore_n (lv' := [(3, .int (1 - (L.1 1))), (0, .ref (a 12)), (1, .int tg), (2, .ref hm)]) hx hb d_L_draft_6 rfl hl (by decide) rfl (fun ls hl => ?_)
    refine lv_aload_n hx hb d_L_draft_7 rfl (lv_at hl 1 rfl) ?_
    refine lv_dup hx hb d_L_draft_8 rfl ?_
    refine va_get (D := (dC, dI)) (ci := 1) (v := .int (L.1 0)) (C := R_L) (T := T_L) (N := 7) hx hb hts wu_L hown hK hP 0 rfl rfl 5 (by decide) (hts _ wf_L_34) (fun _ h9 => h9) rfl d_L_draft_9 ?_
    refine lv_iconst (v := 1) hx hb d_L_draft_12 (by decide) ?_
    refine lv_iadd hx hb d_L_draft_13 ?_
    refine kx_put (ws' := [((a 12), .inr (1, [.ref (a 13), .ref (a 14), .ref (a 15), .ref (a 16), .ref (a 17), .int ((L.1 0) + 1), .int (L.1 1)])), ((a 13), .inl ((k5 4), 2, .inr (.inr (.inr (.inr (gr2 (a 18) (a 19))))))), ((a 14), .inl ((k5 4), 2, .inr (.inr (.inr (.inr (gr2 (a 20) (a 21))))))), ((a 15), .inl ((k5 4), 2, .inr (.inr (.inr (.inr (gr2 (a 22) (a 23))))))), ((a 16), .inl ((k5 0), 2, .inl (L.2 6))), ((a 17), .inl ((k5 3), 2, .inl (L.2 7))), ((a 18), .inl ((k5 0), 8, .inl (L.2 0))), ((a 19), .inl ((k5 0), 8, .inl (L.2 1))), ((a 20), .inl ((k5 0), 8, .inl (L.2 2))), ((a 21), .inl ((k5 0), 8, .inl (L.2 3))), ((a 22), .inl ((k5 0), 8, .inl (L.2 4))), ((a 23), .inl ((k5 0), 8, .inl (L.2 5))), (hm, .inl ((k5 0), 8, .inl fm))]) (D := (dC, dI)) (ci := 1) (v := .int ((L.1 0) + 1)) (ty := .int) (C := R_L) (T := T_L) (N := 7) hx hb hts wu_L ty_L ok_L nm_L hown hK hP hD hS 0 rfl rfl 5 (by decide) (hts _ wf_L_34) (fun _ h9 => h9) rfl (by decide +kernel) rfl rfl (Nat.le_of_ble_eq_true rfl) rfl d_L_draft_14 (fun H locs hP hD hS => ?_)
    refine lv_aload_n hx hb d_L_draft_17 rfl (lv_at hl 1 rfl) ?_
    refine va_get (D := (dC, dI)) (ci := 1) (v := .ref (a 16)) (C := R_L) (T := T_L) (N := 7) hx hb hts wu_L hown hK hP 0 rfl rfl 3 (by decide) (hts _ wf_L_22) (fun _ h9 => h9) rfl d_L_draft_18 ?_
    refine lv_iload_n hx hb d_L_draft_21 rfl (lv_at hl 0 rfl) ?_
    refine lv_aload_n hx hb d_L_draft_22 rfl (lv_at hl 1 rfl) ?_
    refine va_get (D := (dC, dI)) (ci := 1) (v := .int ((L.1 0) + 1)) (C := R_L) (T := T_L) (N := 7) hx hb hts wu_L hown hK hP 0 rfl rfl 5 (by decide) (hts _ wf_L_34) (fun _ h9 => h9) rfl d_L_draft_23 ?_
    refine kx_iast (ws' := [((a 12), .inr (1, [.ref (a 13), .ref (a 14), .ref (a 15), .ref (a 16), .ref (a 17), .int ((L.1 0) + 1), .int (L.1 1)])), ((a 13), .inl ((k5 4), 2, .inr (.inr (.inr (.inr (gr2 (a 18) (a 19))))))), ((a 14), .inl ((k5 4), 2, .inr (.inr (.inr (.inr (gr2 (a 20) (a 21))))))), ((a 15), .inl ((k5 4), 2, .inr (.inr (.inr (.inr (gr2 (a 22) (a 23))))))), ((a 16), .inl ((k5 0), 2, .inl (upd (L.2 6) 1 ((L.1 0) + 1)))), ((a 17), .inl ((k5 3), 2, .inl (L.2 7))), ((a 18), .inl ((k5 0), 8, .inl (L.2 0))), ((a 19), .inl ((k5 0), 8, .inl (L.2 1))), ((a 20), .inl ((k5 0), 8, .inl (L.2 2))), ((a 21), .inl ((k5 0), 8, .inl (L.2 3))), ((a 22), .inl ((k5 0), 8, .inl (L.2 4))), ((a 23), .inl ((k5 0), 8, .inl (L.2 5))), (hm, .inl ((k5 0), 8, .inl fm))]) hx hb hK hP hD hS 4 0 rfl rfl 1 (hq) (by omega) (by omega) rfl d_L_draft_26 (fun H locs hP hD hS => ?_)
    refine lv_aload_n hx hb d_L_draft_27 rfl (lv_at hl 1 rfl) ?_
    refine va_get (D := (dC, dI)) (ci := 1) (v := .ref (a 17)) (C := R_L) (T := T_L) (N := 7) hx hb hts wu_L hown hK hP 0 rfl rfl 4 (by decide) (hts _ wf_L_26) (fun _ h9 => h9) rfl d_L_draft_28 ?_
    refine lv_iload_n hx hb d_L_draft_31 rfl (lv_at hl 0 rfl) ?_
    refine lv_iload_n hx hb d_L_draft_32 rfl (lv_at hl 2 rfl) ?_
    refine kx_zast (ws' := [((a 12), .inr (1, [.ref (a 13), .ref (a 14), .ref (a 15), .ref (a 16), .ref (a 17), .int ((L.1 0) + 1), .int (L.1 1)])), ((a 13), .inl ((k5 4), 2, .inr (.inr (.inr (.inr (gr2 (a 18) (a 19))))))), ((a 14), .inl ((k5 4), 2, .inr (.inr (.inr (.inr (gr2 (a 20) (a 21))))))), ((a 15), .inl ((k5 4), 2, .inr (.inr (.inr (.inr (gr2 (a 22) (a 23))))))), ((a 16), .inl ((k5 0), 2, .inl (upd (L.2 6) 1 ((L.1 0) + 1)))), ((a 17), .inl ((k5 3), 2, .inl (upd (L.2 7) 1 tg))), ((a 18), .inl ((k5 0), 8, .inl (L.2 0))), ((a 19), .inl ((k5 0), 8, .inl (L.2 1))), ((a 20), .inl ((k5 0), 8, .inl (L.2 2))), ((a 21), .inl ((k5 0), 8, .inl (L.2 3))), ((a 22), .inl ((k5 0), 8, .inl (L.2 4))), ((a 23), .inl ((k5 0), 8, .inl (L.2 5))), (hm, .inl ((k5 0), 8, .inl fm))]) hx hb hK hP hD hS 5 3 rfl rfl 1 (hq) (by omega) (by omega) hz rfl d_L_draft_33 (fun H locs hP hD hS => ?_)
    refine lv_aload_n hx hb d_L_draft_34 rfl (lv_at hl 3 rfl) ?_
    refine lv_iconst (v := 0) hx hb d_L_draft_35 (by decide) ?_
    refine lv_aload_n hx hb d_L_draft_36 rfl (lv_at hl 1 rfl) ?_
    refine va_get (D := (dC, dI)) (ci := 1) (v := .ref (a 15)) (C := R_L) (T := T_L) (N := 7) hx hb hts wu_L hown hK hP 0 rfl rfl 2 (by decide) (hts _ wf_L_19) (fun _ h9 => h9) rfl d_L_draft_37 ?_
    refine lv_iload_n hx hb d_L_draft_40 rfl (lv_at hl 0 rfl) ?_
    refine kx_aald hx hb hK hP 3 4 rfl rfl 1 (hq) (by omega) (by omega) (v := (a 23)) rfl d_L_draft_41 ?_
    refine lv_iconst (v := 0) hx hb d_L_draft_42 (by decide) ?_
    refine lv_bipush (v := 8) hx hb d_L_draft_43 (by decide) ?_
    refine kx_copy (ws' := [((a 12), .inr (1, [.ref (a 13), .ref (a 14), .ref (a 15), .ref (a 16), .ref (a 17), .int ((L.1 0) + 1), .int (L.1 1)])), ((a 13), .inl ((k5 4), 2, .inr (.inr (.inr (.inr (gr2 (a 18) (a 19))))))), ((a 14), .inl ((k5 4), 2, .inr (.inr (.inr (.inr (gr2 (a 20) (a 21))))))), ((a 15), .inl ((k5 4), 2, .inr (.inr (.inr (.inr (gr2 (a 22) (a 23))))))), ((a 16), .inl ((k5 0), 2, .inl (upd (L.2 6) 1 ((L.1 0) + 1)))), ((a 17), .inl ((k5 3), 2, .inl (upd (L.2 7) 1 tg))), ((a 18), .inl ((k5 0), 8, .inl (L.2 0))), ((a 19), .inl ((k5 0), 8, .inl (L.2 1))), ((a 20), .inl ((k5 0), 8, .inl (L.2 2))), ((a 21), .inl ((k5 0), 8, .inl (L.2 3))), ((a 22), .inl ((k5 0), 8, .inl (L.2 4))), ((a 23), .inl ((k5 0), 8, .inl (va_cpy fm (L.2 5) 0 0 8))), (hm, .inl ((k5 0), 8, .inl fm))]) hx hb (hml.trans hl.1.symm) hown (hts _ wm_L_37) (hts _ wv_arraycopyName) (hts _ wt_arraycopyName) (hts _ wi_S) hK hP hD hS 12 11 0 0 rfl rfl rfl rfl rfl 0 0 8 (rfl) (rfl) (rfl) (by omega) (by omega) (by omega) (by omega) (fun i hi => rfl) rfl (Nat.le_of_ble_eq_true rfl) (Nat.le_of_ble_eq_true rfl) d_L_draft_45 (fun H locs hP hD hS => ?_)
    exact W.vret hx hb hr (fun t ht hW => kx_Qv ht hP (rfl) hS rfl) hS.2.2 d_L_draft_48
end
section
abbrev wD (a : Nat → Nat) (k5 : Nat → ClassId) (P : PP) (G J : GG) (L : LL) : va_W := [((a 0), .inr (2, [.ref (a 1), .ref (a 2), .ref (a 3), .ref (a 4), .ref (a 8), .ref (a 12), .int (P.1), .int (P.2.1), .int (P.2.2.1)])), ((a 1), .inl ((k5 0), 8, .inl (P.2.2.2.1))), ((a 2), .inl ((k5 1), 8, .inr (.inl (P.2.2.2.2.1)))), ((a 3), .inl ((k5 2), 13056, .inl (P.2.2.2.2.2))), ((a 4), .inr (0, [.ref (a 5), .ref (a 6), .ref (a 7), .int (G.1), .int (G.2.1)])), ((a 5), .inl ((k5 0), 24, .inl (G.2.2.1))), ((a 6), .inl ((k5 0), 24, .inl (G.2.2.2.1))), ((a 7), .inl ((k5 2), 1536, .inl (G.2.2.2.2))), ((a 8), .inr (0, [.ref (a 9), .ref (a 10), .ref (a 11), .int (J.1), .int (J.2.1)])), ((a 9), .inl ((k5 0), 24, .inl (J.2.2.1))), ((a 10), .inl ((k5 0), 24, .inl (J.2.2.2.1))), ((a 11), .inl ((k5 2), 1536, .inl (J.2.2.2.2))), ((a 12), .inr (1, [.ref (a 13), .ref (a 14), .ref (a 15), .ref (a 16), .ref (a 17), .int (L.1 0), .int (L.1 1)])), ((a 13), .inl ((k5 4), 2, .inr (.inr (.inr (.inr (gr2 (a 18) (a 19))))))), ((a 14), .inl ((k5 4), 2, .inr (.inr (.inr (.inr (gr2 (a 20) (a 21))))))), ((a 15), .inl ((k5 4), 2, .inr (.inr (.inr (.inr (gr2 (a 22) (a 23))))))), ((a 16), .inl ((k5 0), 2, .inl (L.2 6))), ((a 17), .inl ((k5 3), 2, .inl (L.2 7))), ((a 18), .inl ((k5 0), 8, .inl (L.2 0))), ((a 19), .inl ((k5 0), 8, .inl (L.2 1))), ((a 20), .inl ((k5 0), 8, .inl (L.2 2))), ((a 21), .inl ((k5 0), 8, .inl (L.2 3))), ((a 22), .inl ((k5 0), 8, .inl (L.2 4))), ((a 23), .inl ((k5 0), 8, .inl (L.2 5)))]
abbrev wS (a : Nat → Nat) (k5 : Nat → ClassId) (S : SS) : va_W := wD a k5 S.1 S.2.1 S.2.2.1 S.2.2.2
set_option maxHeartbeats 4000000 in
set_option maxRecDepth 100000 in
theorem k_D_isDisk (l : Launch) (dC : Nat → ClassId) (dI : Nat → Nat → Nat) (k5 : Nat → ClassId) (a : Nat → Nat) (P : PP) (G J : GG) (L : LL) (d : Int32) : Met l y_D_isDisk w_D_isDisk ({ frames := 0, cells := 0, slots := 0, locals := 0 }) (kx_Pc (dC, dI) clA (tyL k5) (wD a k5 P G J L) [.ref (a 0), .int d]) (kx_R (some (.int (bI (decide (¬ d < 0 ∧ ¬ P.1 ≤ d)))))) 0 0 (fun _ => False) := by
  refine Met.ofW (cc := c_D_isDisk) (maxL := 2) (ret := (some .boolean)) (by decide) rfl ?_
  intro p e s m args below meth c s₁ B hml hv
  obtain ⟨rfl, hP, hK, hD0⟩ := hv
  have hx := B.exec
  have hb := B.bytes
  have hr := B.returns
  have hts : ∀ w ∈ wsA, w.before _ s = true := fun w h => atoms_spec (ws := w_D_isDisk) B.pre w (List.mem_cons_of_mem _ h)
  have hown : s.vm.findClass R_D = some m.cls := findClass_of_methodNamed B.named
  have hlocks := B.notSynchronized
  have hD := kx_D.self hD0
  have hS : va_S (kx_A (wD a k5 P G J L)) s.heap s.heap [] := va_S.rf
  have hl := lv_entry ([.ref (a 0), .int d]) (n := 2) (Nat.le_of_ble_eq_true rfl)
  rw [lg_entry_eq]
  generalize (lg_sl ([.ref (a 0), .int d]) ++ List.replicate (2 - (lg_sl ([.ref (a 0), .int d])).length) Slot.unset).toArray = ls at hl ⊢
  have hl : lv_has ls 2 [(0, .ref (a 0)), (1, .int d)] := hl
  refine lv_iload_n hx hb d_D_isDisk_0 rfl (lv_at hl 1 rfl) ?_
  refine lv_if_lt (tgt := 16) hx hb d_D_isDisk_1 (by decide) (fun hc_1 => ?_) (fun hc_1 => ?_)
  · refine lv_iconst (v := 0) hx hb d_D_isDisk_16 (by decide) ?_
    exact W.zret (v := 0) hx hb hr rfl (fun t ht hW => kx_Ri (by simp [bI, hc_1]) ht) (fun _ h => absurd h List.not_mem_nil) d_D_isDisk_17
  · refine lv_iload_n hx hb d_D_isDisk_4 rfl (lv_at hl 1 rfl) ?_
    refine lv_aload_n hx hb d_D_isDisk_5 rfl (lv_at hl 0 rfl) ?_
    refine va_get (D := (dC, dI)) (ci := 2) (v := .int (P.1)) (C := R_D) (T := T_D) (N := 9) hx hb hts wu_D hown hK hP 0 rfl rfl 6 (by decide) (hts _ wf_D_64) (fun _ h9 => h9) rfl d_D_isDisk_6 ?_
    refine lv_icmp_ge (tgt := 16) hx hb d_D_isDisk_9 (by decide) (fun hc_2 => ?_) (fun hc_2 => ?_)
    · refine lv_iconst (v := 0) hx hb d_D_isDisk_16 (by decide) ?_
      exact W.zret (v := 0) hx hb hr rfl (fun t ht hW => kx_Ri (by simp [bI, hc_1, hc_2]) ht) (fun _ h => absurd h List.not_mem_nil) d_D_isDisk_17
    · refine lv_iconst (v := 1) hx hb d_D_isDisk_12 (by decide) ?_
      refine lv_goto (tgt := 17) hx hb d_D_isDisk_13 (by decide) ?_
      exact W.zret (v := 1) hx hb hr rfl (fun t ht hW => kx_Ri (by simp [bI, hc_1, hc_2]) ht) (fun _ h => absurd h List.not_mem_nil) d_D_isDisk_17
set_option maxHeartbeats 4000000 in
set_option maxRecDepth 100000 in
theorem k_D_isRow (l : Launch) (dC : Nat → ClassId) (dI : Nat → Nat → Nat) (k5 : Nat → ClassId) (a : Nat → Nat) (P : PP) (G J : GG) (L : LL) (t : Int32) : Met l y_D_isRow w_D_isRow ({ frames := 0, cells := 0, slots := 0, locals := 0 }) (kx_Pc (dC, dI) clA (tyL k5) (wD a k5 P G J L) [.ref (a 0), .int t]) (kx_R (some (.int (bI (decide (¬ t < 2 ∧ ¬ P.2.1 ≤ t)))))) 0 0 (fun _ => False) := by
  refine Met.ofW (cc := c_D_isRow) (maxL := 2) (ret := (some .boolean)) (by decide) rfl ?_
  intro p e s m args below meth c s₁ B hml hv
  obtain ⟨rfl, hP, hK, hD0⟩ := hv
  have hx := B.exec
  have hb := B.bytes
  have hr := B.returns
  have hts : ∀ w ∈ wsA, w.before _ s = true := fun w h => atoms_spec (ws := w_D_isRow) B.pre w (List.mem_cons_of_mem _ h)
  have hown : s.vm.findClass R_D = some m.cls := findClass_of_methodNamed B.named
  have hlocks := B.notSynchronized
  have hD := kx_D.self hD0
  have hS : va_S (kx_A (wD a k5 P G J L)) s.heap s.heap [] := va_S.rf
  have hl := lv_entry ([.ref (a 0), .int t]) (n := 2) (Nat.le_of_ble_eq_true rfl)
  rw [lg_entry_eq]
  generalize (lg_sl ([.ref (a 0), .int t]) ++ List.replicate (2 - (lg_sl ([.ref (a 0), .int t])).length) Slot.unset).toArray = ls at hl ⊢
  have hl : lv_has ls 2 [(0, .ref (a 0)), (1, .int t)] := hl
  refine lv_iload_n hx hb d_D_isRow_0 rfl (lv_at hl 1 rfl) ?_
  refine lv_iconst (v := 2) hx hb d_D_isRow_1 (by decide) ?_
  refine lv_icmp_lt (tgt := 17) hx hb d_D_isRow_2 (by decide) (fun hc_1 => ?_) (fun hc_1 => ?_)
  · refine lv_iconst (v := 0) hx hb d_D_isRow_17 (by decide) ?_
    exact W.zret (v := 0) hx hb hr rfl (fun t ht hW => kx_Ri (by simp [bI, hc_1]) ht) (fun _ h => absurd h List.not_mem_nil) d_D_isRow_18
  · refine lv_iload_n hx hb d_D_isRow_5 rfl (lv_at hl 1 rfl) ?_
    refine lv_aload_n hx hb d_D_isRow_6 rfl (lv_at hl 0 rfl) ?_
    refine va_get (D := (dC, dI)) (ci := 2) (v := .int (P.2.1)) (C := R_D) (T := T_D) (N := 9) hx hb hts wu_D hown hK hP 0 rfl rfl 7 (by decide) (hts _ wf_D_170) (fun _ h9 => h9) rfl d_D_isRow_7 ?_
    refine lv_icmp_ge (tgt := 17) hx hb d_D_isRow_10 (by decide) (fun hc_2 => ?_) (fun hc_2 => ?_)
    · refine lv_iconst (v := 0) hx hb d_D_isRow_17 (by decide) ?_
      exact W.zret (v := 0) hx hb hr rfl (fun t ht hW => kx_Ri (by simp [bI, hc_1, hc_2]) ht) (fun _ h => absurd h List.not_mem_nil) d_D_isRow_18
    · refine lv_iconst (v := 1) hx hb d_D_isRow_13 (by decide) ?_
      refine lv_goto (tgt := 18) hx hb d_D_isRow_14 (by decide) ?_
      exact W.zret (v := 1) hx hb hr rfl (fun t ht hW => kx_Ri (by simp [bI, hc_1, hc_2]) ht) (fun _ h => absurd h List.not_mem_nil) d_D_isRow_18
set_option maxHeartbeats 4000000 in
set_option maxRecDepth 100000 in
theorem k_D_blocks (l : Launch) (dC : Nat → ClassId) (dI : Nat → Nat → Nat) (k5 : Nat → ClassId) (a : Nat → Nat) (P : PP) (G J : GG) (L : LL)  : Met l y_D_blocks w_D_blocks ({ frames := 0, cells := 0, slots := 0, locals := 0 }) (kx_Pc (dC, dI) clA (tyL k5) (wD a k5 P G J L) [.ref (a 0)]) (kx_R (some (.int ((P.1 - 2) * (P.2.1 - 6))))) 0 0 (fun _ => False) := by
  refine Met.ofW (cc := c_D_blocks) (maxL := 1) (ret := (some .int)) (by decide) rfl ?_
  intro p e s m args below meth c s₁ B hml hv
  obtain ⟨rfl, hP, hK, hD0⟩ := hv
  have hx := B.exec
  have hb := B.bytes
  have hr := B.returns
  have hts : ∀ w ∈ wsA, w.before _ s = true := fun w h => atoms_spec (ws := w_D_blocks) B.pre w (List.mem_cons_of_mem _ h)
  have hown : s.vm.findClass R_D = some m.cls := findClass_of_methodNamed B.named
  have hlocks := B.notSynchronized
  have hD := kx_D.self hD0
  have hS : va_S (kx_A (wD a k5 P G J L)) s.heap s.heap [] := va_S.rf
  have hl := lv_entry ([.ref (a 0)]) (n := 1) (Nat.le_of_ble_eq_true rfl)
  rw [lg_entry_eq]
  generalize (lg_sl ([.ref (a 0)]) ++ List.replicate (1 - (lg_sl ([.ref (a 0)])).length) Slot.unset).toArray = ls at hl ⊢
  have hl : lv_has ls 1 [(0, .ref (a 0))] := hl
  refine lv_aload_n hx hb d_D_blocks_0 rfl (lv_at hl 0 rfl) ?_
  refine va_get (D := (dC, dI)) (ci := 2) (v := .int (P.1)) (C := R_D) (T := T_D) (N := 9) hx hb hts wu_D hown hK hP 0 rfl rfl 6 (by decide) (hts _ wf_D_64) (fun _ h9 => h9) rfl d_D_blocks_1 ?_
  refine lv_iconst (v := 2) hx hb d_D_blocks_4 (by decide) ?_
  refine lv_isub hx hb d_D_blocks_5 ?_
  refine lv_aload_n hx hb d_D_blocks_6 rfl (lv_at hl 0 rfl) ?_
  refine va_get (D := (dC, dI)) (ci := 2) (v := .int (P.2.1)) (C := R_D) (T := T_D) (N := 9) hx hb hts wu_D hown hK hP 0 rfl rfl 7 (by decide) (hts _ wf_D_170) (fun _ h9 => h9) rfl d_D_blocks_7 ?_
  refine lv_bipush (v := 6) hx hb d_D_blocks_10 (by decide) ?_
  refine lv_isub hx hb d_D_blocks_12 ?_
  refine lv_imul hx hb d_D_blocks_13 ?_
  exact W.iret (v := (((P.1) - 2) * ((P.2.1) - 6))) hx hb hr (fun t ht hW => kx_Ri (rfl) ht) (fun _ h => absurd h List.not_mem_nil) d_D_blocks_14
set_option maxHeartbeats 4000000 in
set_option maxRecDepth 100000 in
theorem k_D_rowOf (l : Launch) (dC : Nat → ClassId) (dI : Nat → Nat → Nat) (k5 : Nat → ClassId) (a : Nat → Nat) (P : PP) (G J : GG) (L : LL) (b : Int32) (h2 : ¬ P.1 - 2 = 0) : Met l y_D_rowOf w_D_rowOf ({ frames := 0, cells := 0, slots := 0, locals := 0 }) (kx_Pc (dC, dI) clA (tyL k5) (wD a k5 P G J L) [.ref (a 0), .int b]) (kx_R (some (.int (6 + b / (P.1 - 2))))) 0 0 (fun _ => False) := by
  refine Met.ofW (cc := c_D_rowOf) (maxL := 2) (ret := (some .int)) (by decide) rfl ?_
  intro p e s m args below meth c s₁ B hml hv
  obtain ⟨rfl, hP, hK, hD0⟩ := hv
  have hx := B.exec
  have hb := B.bytes
  have hr := B.returns
  have hts : ∀ w ∈ wsA, w.before _ s = true := fun w h => atoms_spec (ws := w_D_rowOf) B.pre w (List.mem_cons_of_mem _ h)
  have hown : s.vm.findClass R_D = some m.cls := findClass_of_methodNamed B.named
  have hlocks := B.notSynchronized
  have hD := kx_D.self hD0
  have hS : va_S (kx_A (wD a k5 P G J L)) s.heap s.heap [] := va_S.rf
  have hl := lv_entry ([.ref (a 0), .int b]) (n := 2) (Nat.le_of_ble_eq_true rfl)
  rw [lg_entry_eq]
  generalize (lg_sl ([.ref (a 0), .int b]) ++ List.replicate (2 - (lg_sl ([.ref (a 0), .int b])).length) Slot.unset).toArray = ls at hl ⊢
  have hl : lv_has ls 2 [(0, .ref (a 0)), (1, .int b)] := hl
  refine lv_bipush (v := 6) hx hb d_D_rowOf_0 (by decide) ?_
  refine lv_iload_n hx hb d_D_rowOf_2 rfl (lv_at hl 1 rfl) ?_
  refine lv_aload_n hx hb d_D_rowOf_3 rfl (lv_at hl 0 rfl) ?_
  refine va_get (D := (dC, dI)) (ci := 2) (v := .int (P.1)) (C := R_D) (T := T_D) (N := 9) hx hb hts wu_D hown hK hP 0 rfl rfl 6 (by decide) (hts _ wf_D_64) (fun _ h9 => h9) rfl d_D_rowOf_4 ?_
  refine lv_iconst (v := 2) hx hb d_D_rowOf_7 (by decide) ?_
  refine lv_isub hx hb d_D_rowOf_8 ?_
  refine lv_idiv hx hb d_D_rowOf_9 h2 ?_
  refine lv_iadd hx hb d_D_rowOf_10 ?_
  exact W.iret (v := (6 + (b / ((P.1) - 2)))) hx hb hr (fun t ht hW => kx_Ri (rfl) ht) (fun _ h => absurd h List.not_mem_nil) d_D_rowOf_11
set_option maxHeartbeats 4000000 in
set_option maxRecDepth 100000 in
theorem k_D_isByte (l : Launch) (dC : Nat → ClassId) (dI : Nat → Nat → Nat) (k5 : Nat → ClassId) (a : Nat → Nat) (P : PP) (G J : GG) (L : LL) (b t : Int32) : Met l y_D_isByte w_D_isByte ({ frames := 1, cells := 0, slots := 0, locals := 20 }) (kx_Pc (dC, dI) clA (tyL k5) (wD a k5 P G J L) [.ref (a 0), .int b, .int t]) (kx_R (some (.int (bI (decide (¬ b < 0 ∧ ¬ (P.1 - 2) * (P.2.1 - 6) ≤ b ∧ ¬ t < 0 ∧ ¬ 64 ≤ t)))))) 0 0 (fun _ => False) := by
  refine Met.ofW (cc := c_D_isByte) (maxL := 3) (ret := (some .boolean)) (by decide) rfl ?_
  intro p e s m args below meth c s₁ B hml hv
  obtain ⟨rfl, hP, hK, hD0⟩ := hv
  have hx := B.exec
  have hb := B.bytes
  have hr := B.returns
  have hts : ∀ w ∈ wsA, w.before _ s = true := fun w h => atoms_spec (ws := w_D_isByte) B.pre w (List.mem_cons_of_mem _ h)
  have hown : s.vm.findClass R_D = some m.cls := findClass_of_methodNamed B.named
  have hlocks := B.notSynchronized
  have hD := kx_D.self hD0
  have hS : va_S (kx_A (wD a k5 P G J L)) s.heap s.heap [] := va_S.rf
  have hl := lv_entry ([.ref (a 0), .int b, .int t]) (n := 3) (Nat.le_of_ble_eq_true rfl)
  rw [lg_entry_eq]
  generalize (lg_sl ([.ref (a 0), .int b, .int t]) ++ List.replicate (3 - (lg_sl ([.ref (a 0), .int b, .int t])).length) Slot.unset).toArray = ls at hl ⊢
  have hl : lv_has ls 3 [(0, .ref (a 0)), (1, .int b), (2, .int t)] := hl
  refine lv_iload_n hx hb d_D_isByte_0 rfl (lv_at hl 1 rfl) ?_
  refine lv_if_lt (tgt := 26) hx hb d_D_isByte_1 (by decide) (fun hc_1 => ?_) (fun hc_1 => ?_)
  · refine lv_iconst (v := 0) hx hb d_D_isByte_26 (by decide) ?_
    exact W.zret (v := 0) hx hb hr rfl (fun t ht hW => kx_Ri (by simp [bI, hc_1]) ht) (fun _ h => absurd h List.not_mem_nil) d_D_isByte_27
  · refine lv_iload_n hx hb d_D_isByte_4 rfl (lv_at hl 1 rfl) ?_
    refine lv_aload_n hx hb d_D_isByte_5 rfl (lv_at hl 0 rfl) ?_
    refine kx_VRW (As := []) (rest := [.int b]) ⟨hx, hb, hml, hown, hts⟩ (k_D_blocks l dC dI k5 a P G J L) (cwV 0 hts (goodV wm_D_42 wn_D_blocks ws_D_blocks wi_D wc_D_blocks) rfl rfl rfl (by decide +kernel) ⟨Nat.le_of_ble_eq_true rfl, Nat.le_of_ble_eq_true rfl⟩) ⟨Nat.zero_le _, Nat.zero_le _⟩ hK hP hD 0 rfl rfl rfl hl.1 rfl (Nat.le_of_ble_eq_true rfl) d_D_isByte_6 ?_
    refine W.eq (g2 := F0 m 9 ls [.int ((P.1 - 2) * (P.2.1 - 6)), .int b]) rfl ?_
    refine lv_icmp_ge (tgt := 26) hx hb d_D_isByte_9 (by decide) (fun hc_2 => ?_) (fun hc_2 => ?_)
    · refine lv_iconst (v := 0) hx hb d_D_isByte_26 (by decide) ?_
      exact W.zret (v := 0) hx hb hr rfl (fun t ht hW => kx_Ri (by simp [bI, hc_1, hc_2]) ht) (fun _ h => absurd h List.not_mem_nil) d_D_isByte_27
    · refine lv_iload_n hx hb d_D_isByte_12 rfl (lv_at hl 2 rfl) ?_
      refine lv_if_lt (tgt := 26) hx hb d_D_isByte_13 (by decide) (fun hc_3 => ?_) (fun hc_3 => ?_)
      · refine lv_iconst (v := 0) hx hb d_D_isByte_26 (by decide) ?_
        exact W.zret (v := 0) hx hb hr rfl (fun t ht hW => kx_Ri (by simp [bI, hc_1, hc_2, hc_3]) ht) (fun _ h => absurd h List.not_mem_nil) d_D_isByte_27
      · refine lv_iload_n hx hb d_D_isByte_16 rfl (lv_at hl 2 rfl) ?_
        refine lv_bipush (v := 64) hx hb d_D_isByte_17 (by decide) ?_
        refine lv_icmp_ge (tgt := 26) hx hb d_D_isByte_19 (by decide) (fun hc_4 => ?_) (fun hc_4 => ?_)
        · refine lv_iconst (v := 0) hx hb d_D_isByte_26 (by decide) ?_
          exact W.zret (v := 0) hx hb hr rfl (fun t ht hW => kx_Ri (by simp [bI, hc_1, hc_2, hc_3, hc_4]) ht) (fun _ h => absurd h List.not_mem_nil) d_D_isByte_27
        · refine lv_iconst (v := 1) hx hb d_D_isByte_22 (by decide) ?_
          refine lv_goto (tgt := 27) hx hb d_D_isByte_23 (by decide) ?_
          exact W.zret (v := 1) hx hb hr rfl (fun t ht hW => kx_Ri (by simp [bI, hc_1, hc_2, hc_3, hc_4]) ht) (fun _ h => absurd h List.not_mem_nil) d_D_isByte_27
set_option maxHeartbeats 4000000 in
set_option maxRecDepth 100000 in
theorem k_D_isBlank (l : Launch) (dC : Nat → ClassId) (dI : Nat → Nat → Nat) (k5 : Nat → ClassId) (a : Nat → Nat) (P : PP) (G J : GG) (L : LL) (d : Nat) (hd : d < 8) : Met l y_D_isBlank w_D_isBlank ({ frames := 0, cells := 0, slots := 0, locals := 0 }) (kx_Pc (dC, dI) clA (tyL k5) (wD a k5 P G J L) [.ref (a 0), .int (nI d)]) (kx_R (some (.int (bI (decide (¬ pMk P d = -1 ∧ ¬ P.2.1 ≤ pMk P d)))))) 0 0 (fun _ => False) := by
  refine Met.ofW (cc := c_D_isBlank) (maxL := 2) (ret := (some .boolean)) (by decide) rfl ?_
  intro p e s m args below meth c s₁ B hml hv
  obtain ⟨rfl, hP, hK, hD0⟩ := hv
  have hx := B.exec
  have hb := B.bytes
  have hr := B.returns
  have hts : ∀ w ∈ wsA, w.before _ s = true := fun w h => atoms_spec (ws := w_D_isBlank) B.pre w (List.mem_cons_of_mem _ h)
  have hown : s.vm.findClass R_D = some m.cls := findClass_of_methodNamed B.named
  have hlocks := B.notSynchronized
  have hD := kx_D.self hD0
  have hS : va_S (kx_A (wD a k5 P G J L)) s.heap s.heap [] := va_S.rf
  have hl := lv_entry ([.ref (a 0), .int (nI d)]) (n := 2) (Nat.le_of_ble_eq_true rfl)
  rw [lg_entry_eq]
  generalize (lg_sl ([.ref (a 0), .int (nI d)]) ++ List.replicate (2 - (lg_sl ([.ref (a 0), .int (nI d)])).length) Slot.unset).toArray = ls at hl ⊢
  have hl : lv_has ls 2 [(0, .ref (a 0)), (1, .int (nI d))] := hl
  refine lv_aload_n hx hb d_D_isBlank_0 rfl (lv_at hl 0 rfl) ?_
  refine va_get (D := (dC, dI)) (ci := 2) (v := .ref (a 1)) (C := R_D) (T := T_D) (N := 9) hx hb hts wu_D hown hK hP 0 rfl rfl 0 (by decide) (hts _ wf_D_9) (fun _ h9 => h9) rfl d_D_isBlank_1 ?_
  refine lv_iload_n hx hb d_D_isBlank_4 rfl (lv_at hl 1 rfl) ?_
  refine kx_iald hx hb hK hP 1 0 rfl rfl d (rfl) (by omega) (by omega) d_D_isBlank_5 ?_
  refine lv_iconst (v := (-1)) hx hb d_D_isBlank_6 (by decide) ?_
  refine lv_icmp_eq (tgt := 27) hx hb d_D_isBlank_7 (by decide) (fun hc_1 => ?_) (fun hc_1 => ?_)
  · refine lv_iconst (v := 0) hx hb d_D_isBlank_27 (by decide) ?_
    exact W.zret (v := 0) hx hb hr rfl (fun t ht hW => kx_Ri (by simp [bI, hc_1]) ht) (fun _ h => absurd h List.not_mem_nil) d_D_isBlank_28
  · refine lv_aload_n hx hb d_D_isBlank_10 rfl (lv_at hl 0 rfl) ?_
    refine va_get (D := (dC, dI)) (ci := 2) (v := .ref (a 1)) (C := R_D) (T := T_D) (N := 9) hx hb hts wu_D hown hK hP 0 rfl rfl 0 (by decide) (hts _ wf_D_9) (fun _ h9 => h9) rfl d_D_isBlank_11 ?_
    refine lv_iload_n hx hb d_D_isBlank_14 rfl (lv_at hl 1 rfl) ?_
    refine kx_iald hx hb hK hP 1 0 rfl rfl d (rfl) (by omega) (by omega) d_D_isBlank_15 ?_
    refine lv_aload_n hx hb d_D_isBlank_16 rfl (lv_at hl 0 rfl) ?_
    refine va_get (D := (dC, dI)) (ci := 2) (v := .int (P.2.1)) (C := R_D) (T := T_D) (N := 9) hx hb hts wu_D hown hK hP 0 rfl rfl 7 (by decide) (hts _ wf_D_170) (fun _ h9 => h9) rfl d_D_isBlank_17 ?_
    refine lv_icmp_ge (tgt := 27) hx hb d_D_isBlank_20 (by decide) (fun hc_2 => ?_) (fun hc_2 => ?_)
    · refine lv_iconst (v := 0) hx hb d_D_isBlank_27 (by decide) ?_
      exact W.zret (v := 0) hx hb hr rfl (fun t ht hW => kx_Ri (by simp [bI, hc_1, hc_2]) ht) (fun _ h => absurd h List.not_mem_nil) d_D_isBlank_28
    · refine lv_iconst (v := 1) hx hb d_D_isBlank_23 (by decide) ?_
      refine lv_goto (tgt := 28) hx hb d_D_isBlank_24 (by decide) ?_
      exact W.zret (v := 1) hx hb hr rfl (fun t ht hW => kx_Ri (by simp [bI, hc_1, hc_2]) ht) (fun _ h => absurd h List.not_mem_nil) d_D_isBlank_28
set_option maxHeartbeats 4000000 in
set_option maxRecDepth 100000 in
theorem k_D_isRotten (l : Launch) (dC : Nat → ClassId) (dI : Nat → Nat → Nat) (k5 : Nat → ClassId) (a : Nat → Nat) (P : PP) (G J : GG) (L : LL) (d : Nat) (hd : d < 8) (t : Int32) : Met l y_D_isRotten w_D_isRotten ({ frames := 0, cells := 0, slots := 0, locals := 0 }) (kx_Pc (dC, dI) clA (tyL k5) (wD a k5 P G J L) [.ref (a 0), .int (nI d), .int t]) (kx_R (some (.int (bI (rBit (pRt P d) t))))) 0 0 (fun _ => False) := by
  refine Met.ofW (cc := c_D_isRotten) (maxL := 3) (ret := (some .boolean)) (by decide) rfl ?_
  intro p e s m args below meth c s₁ B hml hv
  obtain ⟨rfl, hP, hK, hD0⟩ := hv
  have hx := B.exec
  have hb := B.bytes
  have hr := B.returns
  have hts : ∀ w ∈ wsA, w.before _ s = true := fun w h => atoms_spec (ws := w_D_isRotten) B.pre w (List.mem_cons_of_mem _ h)
  have hown : s.vm.findClass R_D = some m.cls := findClass_of_methodNamed B.named
  have hlocks := B.notSynchronized
  have hD := kx_D.self hD0
  have hS : va_S (kx_A (wD a k5 P G J L)) s.heap s.heap [] := va_S.rf
  have hl := lv_entry ([.ref (a 0), .int (nI d), .int t]) (n := 3) (Nat.le_of_ble_eq_true rfl)
  rw [lg_entry_eq]
  generalize (lg_sl ([.ref (a 0), .int (nI d), .int t]) ++ List.replicate (3 - (lg_sl ([.ref (a 0), .int (nI d), .int t])).length) Slot.unset).toArray = ls at hl ⊢
  have hl : lv_has ls 3 [(0, .ref (a 0)), (1, .int (nI d)), (2, .int t)] := hl
  refine lv_aload_n hx hb d_D_isRotten_0 rfl (lv_at hl 0 rfl) ?_
  refine va_get (D := (dC, dI)) (ci := 2) (v := .ref (a 2)) (C := R_D) (T := T_D) (N := 9) hx hb hts wu_D hown hK hP 0 rfl rfl 1 (by decide) (hts _ wf_D_13) (fun _ h9 => h9) rfl d_D_isRotten_1 ?_
  refine lv_iload_n hx hb d_D_isRotten_4 rfl (lv_at hl 1 rfl) ?_
  refine kx_lald hx hb hK hP 2 1 rfl rfl d (rfl) (by omega) (by omega) d_D_isRotten_5 ?_
  refine lv_iload_n hx hb d_D_isRotten_6 rfl (lv_at hl 2 rfl) ?_
  refine lv_lushr (v := (((P.2.2.2.2.1) d).toUInt64 >>> (t.toInt64.toUInt64 &&& Int64.toUInt64 63)).toInt64) hx hb d_D_isRotten_7 rfl ?_
  refine lv_lconst (v := 1) hx hb d_D_isRotten_8 (by decide) ?_
  refine lv_land hx hb d_D_isRotten_9 ?_
  refine lv_lconst (v := 0) hx hb d_D_isRotten_10 (by decide) ?_
  refine W.lcmp hx hb d_D_isRotten_11 ?_
  refine lv_if_eq (tgt := 19) hx hb d_D_isRotten_12 (by decide) (fun hc_1 => ?_) (fun hc_1 => ?_)
  · refine lv_iconst (v := 0) hx hb d_D_isRotten_19 (by decide) ?_
    exact W.zret (v := 0) hx hb hr rfl (fun t ht hW => kx_Ri (by rw [lg_cmp_eq] at hc_1; simp [bI, rBit, hc_1]) ht) (fun _ h => absurd h List.not_mem_nil) d_D_isRotten_20
  · refine lv_iconst (v := 1) hx hb d_D_isRotten_15 (by decide) ?_
    refine lv_goto (tgt := 20) hx hb d_D_isRotten_16 (by decide) ?_
    exact W.zret (v := 1) hx hb hr rfl (fun t ht hW => kx_Ri (by rw [lg_cmp_eq] at hc_1; simp [bI, rBit, hc_1]) ht) (fun _ h => absurd h List.not_mem_nil) d_D_isRotten_20
set_option maxHeartbeats 4000000 in
set_option maxRecDepth 100000 in
theorem k_D_isGone (l : Launch) (dC : Nat → ClassId) (dI : Nat → Nat → Nat) (k5 : Nat → ClassId) (a : Nat → Nat) (P : PP) (G J : GG) (L : LL) (d : Nat) (hd : d < 8) (t : Int32) : Met l y_D_isGone w_D_isGone ({ frames := 1, cells := 0, slots := 0, locals := 22 }) (kx_Pc (dC, dI) clA (tyL k5) (wD a k5 P G J L) [.ref (a 0), .int (nI d), .int t]) (kx_R (some (.int (bI (pGone P d t))))) 0 0 (fun _ => False) := by
  refine Met.ofW (cc := c_D_isGone) (maxL := 3) (ret := (some .boolean)) (by decide) rfl ?_
  intro p e s m args below meth c s₁ B hml hv
  obtain ⟨rfl, hP, hK, hD0⟩ := hv
  have hx := B.exec
  have hb := B.bytes
  have hr := B.returns
  have hts : ∀ w ∈ wsA, w.before _ s = true := fun w h => atoms_spec (ws := w_D_isGone) B.pre w (List.mem_cons_of_mem _ h)
  have hown : s.vm.findClass R_D = some m.cls := findClass_of_methodNamed B.named
  have hlocks := B.notSynchronized
  have hD := kx_D.self hD0
  have hS : va_S (kx_A (wD a k5 P G J L)) s.heap s.heap [] := va_S.rf
  have hl := lv_entry ([.ref (a 0), .int (nI d), .int t]) (n := 3) (Nat.le_of_ble_eq_true rfl)
  rw [lg_entry_eq]
  generalize (lg_sl ([.ref (a 0), .int (nI d), .int t]) ++ List.replicate (3 - (lg_sl ([.ref (a 0), .int (nI d), .int t])).length) Slot.unset).toArray = ls at hl ⊢
  have hl : lv_has ls 3 [(0, .ref (a 0)), (1, .int (nI d)), (2, .int t)] := hl
  refine lv_aload_n hx hb d_D_isGone_0 rfl (lv_at hl 0 rfl) ?_
  refine va_get (D := (dC, dI)) (ci := 2) (v := .ref (a 1)) (C := R_D) (T := T_D) (N := 9) hx hb hts wu_D hown hK hP 0 rfl rfl 0 (by decide) (hts _ wf_D_9) (fun _ h9 => h9) rfl d_D_isGone_1 ?_
  refine lv_iload_n hx hb d_D_isGone_4 rfl (lv_at hl 1 rfl) ?_
  refine kx_iald hx hb hK hP 1 0 rfl rfl d (rfl) (by omega) (by omega) d_D_isGone_5 ?_
  refine lv_iload_n hx hb d_D_isGone_6 rfl (lv_at hl 2 rfl) ?_
  refine lv_icmp_le (tgt := 19) hx hb d_D_isGone_7 (by decide) (fun hc_1 => ?_) (fun hc_1 => ?_)
  · refine lv_iconst (v := 1) hx hb d_D_isGone_19 (by decide) ?_
    refine lv_goto (tgt := 24) hx hb d_D_isGone_20 (by decide) ?_
    exact W.zret (v := 1) hx hb hr rfl (fun t ht hW => kx_Ri (by unfold pGone; rw [decide_eq_true hc_1, Bool.true_or]; rfl) ht) (fun _ h => absurd h List.not_mem_nil) d_D_isGone_24
  · refine lv_aload_n hx hb d_D_isGone_10 rfl (lv_at hl 0 rfl) ?_
    refine lv_iload_n hx hb d_D_isGone_11 rfl (lv_at hl 1 rfl) ?_
    refine lv_iload_n hx hb d_D_isGone_12 rfl (lv_at hl 2 rfl) ?_
    refine kx_VRW (As := [.int (nI d), .int t]) (rest := []) ⟨hx, hb, hml, hown, hts⟩ (k_D_isRotten l dC dI k5 a P G J L d hd t) (cwV 2 hts (goodV wm_D_219 wn_D_isRotten ws_D_isRotten wi_D wc_D_isRotten) rfl rfl rfl (by decide +kernel) ⟨Nat.le_of_ble_eq_true rfl, Nat.le_of_ble_eq_true rfl⟩) ⟨Nat.zero_le _, Nat.zero_le _⟩ hK hP hD 0 rfl rfl rfl hl.1 rfl (Nat.le_of_ble_eq_true rfl) d_D_isGone_13 ?_
    refine W.eq (g2 := F0 m 16 ls [.int (bI (rBit (pRt P d) t))]) rfl ?_
    refine lv_if_eq (tgt := 23) hx hb d_D_isGone_16 (by decide) (fun hc_2 => ?_) (fun hc_2 => ?_)
    · refine lv_iconst (v := 0) hx hb d_D_isGone_23 (by decide) ?_
      exact W.zret (v := 0) hx hb hr rfl (fun t ht hW => kx_Ri (by unfold pGone; rw [decide_eq_false hc_1, Bool.false_or, bI_f hc_2]; rfl) ht) (fun _ h => absurd h List.not_mem_nil) d_D_isGone_24
    · refine lv_iconst (v := 1) hx hb d_D_isGone_19 (by decide) ?_
      refine lv_goto (tgt := 24) hx hb d_D_isGone_20 (by decide) ?_
      exact W.zret (v := 1) hx hb hr rfl (fun t ht hW => kx_Ri (by unfold pGone; rw [decide_eq_false hc_1, Bool.false_or, bI_t hc_2]; rfl) ht) (fun _ h => absurd h List.not_mem_nil) d_D_isGone_24
set_option maxHeartbeats 4000000 in
set_option maxRecDepth 100000 in
theorem k_D_goneIn (l : Launch) (dC : Nat → ClassId) (dI : Nat → Nat → Nat) (k5 : Nat → ClassId) (a : Nat → Nat) (P : PP) (G J : GG) (L : LL) (t : Int32) (n : Nat) (hn : P.1 = nI n) (hn8 : n ≤ 8) : Met l y_D_goneIn w_D_goneIn ({ frames := 2, cells := 0, slots := 0, locals := 44 }) (kx_Pc (dC, dI) clA (tyL k5) (wD a k5 P G J L) [.ref (a 0), .int t]) (kx_R (some (.int (nI (pGoneIn P t n))))) 0 0 (fun _ => False) := by
  refine Met.ofW (cc := c_D_goneIn) (maxL := 4) (ret := (some .int)) (by decide) rfl ?_
  intro p e s m args below meth c s₁ B hml hv
  obtain ⟨rfl, hP, hK, hD0⟩ := hv
  have hx := B.exec
  have hb := B.bytes
  have hr := B.returns
  have hts : ∀ w ∈ wsA, w.before _ s = true := fun w h => atoms_spec (ws := w_D_goneIn) B.pre w (List.mem_cons_of_mem _ h)
  have hown : s.vm.findClass R_D = some m.cls := findClass_of_methodNamed B.named
  have hlocks := B.notSynchronized
  have hD := kx_D.self hD0
  have hS : va_S (kx_A (wD a k5 P G J L)) s.heap s.heap [] := va_S.rf
  have hl := lv_entry ([.ref (a 0), .int t]) (n := 4) (Nat.le_of_ble_eq_true rfl)
  rw [lg_entry_eq]
  generalize (lg_sl ([.ref (a 0), .int t]) ++ List.replicate (4 - (lg_sl ([.ref (a 0), .int t])).length) Slot.unset).toArray = ls at hl ⊢
  have hl : lv_has ls 4 [(0, .ref (a 0)), (1, .int t)] := hl
  refine lv_iconst (v := 0) hx hb d_D_goneIn_0 (by decide) ?_
  refine lv_istore_n (lv' := [(2, .int 0), (0, .ref (a 0)), (1, .int t)]) hx hb d_D_goneIn_1 rfl hl (by decide) rfl (fun ls hl => ?_)
  refine lv_iconst (v := 0) hx hb d_D_goneIn_2 (by decide) ?_
  refine lv_istore_n (lv' := [(3, .int 0), (2, .int 0), (0, .ref (a 0)), (1, .int t)]) hx hb d_D_goneIn_3 rfl hl (by decide) rfl (fun ls hl => ?_)
  have lp : ∀ (q9 i : Nat) (ls : Array Slot), i + q9 = n → lv_has ls 4 [(3, .int (nI i)), (2, .int (nI (pGoneIn P t i))), (0, .ref (a 0)), (1, .int t)] → W p l e (headSpec w_D_goneIn ({ frames := 2, cells := 0, slots := 0, locals := 44 })).room s m ([.ref (a 0), .int t] : List Value).toArray below meth c s.heap [] 0 0 (MQ below (kx_R (some (.int (nI (pGoneIn P t n))))) ([.ref (a 0), .int t] : List Value).toArray s 0 0 (fun _ => False)) (F0 m 4 ls []) := by
    intro q9
    induction q9 with
    | zero =>
      intro i ls hi hl
      have hi : n = i := by omega
      subst hi
      refine lv_iload_n hx hb d_D_goneIn_4 rfl (lv_at hl 0 rfl) ?_
      refine lv_aload_n hx hb d_D_goneIn_5 rfl (lv_at hl 2 rfl) ?_
      refine va_get (D := (dC, dI)) (ci := 2) (v := .int (P.1)) (C := R_D) (T := T_D) (N := 9) hx hb hts wu_D hown hK hP 0 rfl rfl 6 (by decide) (hts _ wf_D_64) (fun _ h9 => h9) rfl d_D_goneIn_6 ?_
      refine lv_icmp_ge (tgt := 30) hx hb d_D_goneIn_9 (by decide) (fun hc => ?_) (fun hc => ?_)
      · refine lv_iload_n hx hb d_D_goneIn_30 rfl (lv_at hl 1 rfl) ?_
        exact W.iret (v := (nI (pGoneIn P t n))) hx hb hr (fun t ht hW => kx_Ri (rfl) ht) (fun _ h => absurd h List.not_mem_nil) d_D_goneIn_31
      · exact absurd (by rw [hn]; exact nI_le (by omega) (by omega)) hc
    | succ q9 ih =>
      intro i ls hi hl
      refine lv_iload_n hx hb d_D_goneIn_4 rfl (lv_at hl 0 rfl) ?_
      refine lv_aload_n hx hb d_D_goneIn_5 rfl (lv_at hl 2 rfl) ?_
      refine va_get (D := (dC, dI)) (ci := 2) (v := .int (P.1)) (C := R_D) (T := T_D) (N := 9) hx hb hts wu_D hown hK hP 0 rfl rfl 6 (by decide) (hts _ wf_D_64) (fun _ h9 => h9) rfl d_D_goneIn_6 ?_
      refine lv_icmp_ge (tgt := 30) hx hb d_D_goneIn_9 (by decide) (fun hc => ?_) (fun hc => ?_)
      · exact absurd hc (by rw [hn]; exact nI_ge (by omega) (by omega))
      · refine lv_aload_n hx hb d_D_goneIn_12 rfl (lv_at hl 2 rfl) ?_
        refine lv_iload_n hx hb d_D_goneIn_13 rfl (lv_at hl 0 rfl) ?_
        refine lv_iload_n hx hb d_D_goneIn_14 rfl (lv_at hl 3 rfl) ?_
        refine kx_VRW (As := [.int (nI i), .int t]) (rest := []) ⟨hx, hb, hml, hown, hts⟩ (k_D_isGone l dC dI k5 a P G J L i (by omega) t) (cwV 2 hts (goodV wm_D_132 wn_D_isGone ws_D_isGone wi_D wc_D_isGone) rfl rfl rfl (by decide +kernel) ⟨Nat.le_of_ble_eq_true rfl, Nat.le_of_ble_eq_true rfl⟩) ⟨Nat.zero_le _, Nat.zero_le _⟩ hK hP hD 0 rfl rfl rfl hl.1 rfl (Nat.le_of_ble_eq_true rfl) d_D_goneIn_15 ?_
        refine W.eq (g2 := F0 m 18 ls [.int (bI (pGone P i t))]) rfl ?_
        refine lv_if_eq (tgt := 24) hx hb d_D_goneIn_18 (by decide) (fun hd => ?_) (fun hd => ?_)
        · refine lv_iinc (v := nI (i + 1)) (lv' := [(3, .int (nI (i + 1))), (2, .int (nI (pGoneIn P t i))), (0, .ref (a 0)), (1, .int t)]) hx hb d_D_goneIn_24 hl (k := 0) rfl (nI_1 i) (by decide) rfl (fun ls hl => ?_)
          refine lv_goto (tgt := 4) hx hb d_D_goneIn_27 (by decide) ?_
          exact ih (i + 1) ls (by omega) (by rw [show pGoneIn P t (i + 1) = pGoneIn P t i from cnt_f (bI_f hd)]; exact (lv_sub hl [0, 1, 2, 3] rfl))
        · refine lv_iinc (v := nI (pGoneIn P t (i + 1))) (lv' := [(2, .int (nI (pGoneIn P t (i + 1)))), (3, .int (nI i)), (0, .ref (a 0)), (1, .int t)]) hx hb d_D_goneIn_21 hl (k := 1) rfl (cnt_t (bI_t hd)) (by decide) rfl (fun ls hl => ?_)
          refine lv_iinc (v := nI (i + 1)) (lv' := [(3, .int (nI (i + 1))), (2, .int (nI (pGoneIn P t (i + 1)))), (0, .ref (a 0)), (1, .int t)]) hx hb d_D_goneIn_24 hl (k := 1) rfl (nI_1 i) (by decide) rfl (fun ls hl => ?_)
          refine lv_goto (tgt := 4) hx hb d_D_goneIn_27 (by decide) ?_
          exact ih (i + 1) ls (by omega) (lv_sub hl [0, 1, 2, 3] rfl)
  exact lp n 0 ls (by omega) (lv_sub hl [0, 1, 2, 3] rfl)
set_option maxHeartbeats 4000000 in
set_option maxRecDepth 100000 in
theorem k_D_rottenIn (l : Launch) (dC : Nat → ClassId) (dI : Nat → Nat → Nat) (k5 : Nat → ClassId) (a : Nat → Nat) (P : PP) (G J : GG) (L : LL) (t : Int32) (n : Nat) (hn : P.1 = nI n) (hn8 : n ≤ 8) : Met l y_D_rottenIn w_D_rottenIn ({ frames := 1, cells := 0, slots := 0, locals := 22 }) (kx_Pc (dC, dI) clA (tyL k5) (wD a k5 P G J L) [.ref (a 0), .int t]) (kx_R (some (.int (nI (pRotIn P t n))))) 0 0 (fun _ => False) := by
  refine Met.ofW (cc := c_D_rottenIn) (maxL := 4) (ret := (some .int)) (by decide) rfl ?_
  intro p e s m args below meth c s₁ B hml hv
  obtain ⟨rfl, hP, hK, hD0⟩ := hv
  have hx := B.exec
  have hb := B.bytes
  have hr := B.returns
  have hts : ∀ w ∈ wsA, w.before _ s = true := fun w h => atoms_spec (ws := w_D_rottenIn) B.pre w (List.mem_cons_of_mem _ h)
  have hown : s.vm.findClass R_D = some m.cls := findClass_of_methodNamed B.named
  have hlocks := B.notSynchronized
  have hD := kx_D.self hD0
  have hS : va_S (kx_A (wD a k5 P G J L)) s.heap s.heap [] := va_S.rf
  have hl := lv_entry ([.ref (a 0), .int t]) (n := 4) (Nat.le_of_ble_eq_true rfl)
  rw [lg_entry_eq]
  generalize (lg_sl ([.ref (a 0), .int t]) ++ List.replicate (4 - (lg_sl ([.ref (a 0), .int t])).length) Slot.unset).toArray = ls at hl ⊢
  have hl : lv_has ls 4 [(0, .ref (a 0)), (1, .int t)] := hl
  refine lv_iconst (v := 0) hx hb d_D_rottenIn_0 (by decide) ?_
  refine lv_istore_n (lv' := [(2, .int 0), (0, .ref (a 0)), (1, .int t)]) hx hb d_D_rottenIn_1 rfl hl (by decide) rfl (fun ls hl => ?_)
  refine lv_iconst (v := 0) hx hb d_D_rottenIn_2 (by decide) ?_
  refine lv_istore_n (lv' := [(3, .int 0), (2, .int 0), (0, .ref (a 0)), (1, .int t)]) hx hb d_D_rottenIn_3 rfl hl (by decide) rfl (fun ls hl => ?_)
  have lp : ∀ (q9 i : Nat) (ls : Array Slot), i + q9 = n → lv_has ls 4 [(3, .int (nI i)), (2, .int (nI (pRotIn P t i))), (0, .ref (a 0)), (1, .int t)] → W p l e (headSpec w_D_rottenIn ({ frames := 1, cells := 0, slots := 0, locals := 22 })).room s m ([.ref (a 0), .int t] : List Value).toArray below meth c s.heap [] 0 0 (MQ below (kx_R (some (.int (nI (pRotIn P t n))))) ([.ref (a 0), .int t] : List Value).toArray s 0 0 (fun _ => False)) (F0 m 4 ls []) := by
    intro q9
    induction q9 with
    | zero =>
      intro i ls hi hl
      have hi : n = i := by omega
      subst hi
      refine lv_iload_n hx hb d_D_rottenIn_4 rfl (lv_at hl 0 rfl) ?_
      refine lv_aload_n hx hb d_D_rottenIn_5 rfl (lv_at hl 2 rfl) ?_
      refine va_get (D := (dC, dI)) (ci := 2) (v := .int (P.1)) (C := R_D) (T := T_D) (N := 9) hx hb hts wu_D hown hK hP 0 rfl rfl 6 (by decide) (hts _ wf_D_64) (fun _ h9 => h9) rfl d_D_rottenIn_6 ?_
      refine lv_icmp_ge (tgt := 30) hx hb d_D_rottenIn_9 (by decide) (fun hc => ?_) (fun hc => ?_)
      · refine lv_iload_n hx hb d_D_rottenIn_30 rfl (lv_at hl 1 rfl) ?_
        exact W.iret (v := (nI (pRotIn P t n))) hx hb hr (fun t ht hW => kx_Ri (rfl) ht) (fun _ h => absurd h List.not_mem_nil) d_D_rottenIn_31
      · exact absurd (by rw [hn]; exact nI_le (by omega) (by omega)) hc
    | succ q9 ih =>
      intro i ls hi hl
      refine lv_iload_n hx hb d_D_rottenIn_4 rfl (lv_at hl 0 rfl) ?_
      refine lv_aload_n hx hb d_D_rottenIn_5 rfl (lv_at hl 2 rfl) ?_
      refine va_get (D := (dC, dI)) (ci := 2) (v := .int (P.1)) (C := R_D) (T := T_D) (N := 9) hx hb hts wu_D hown hK hP 0 rfl rfl 6 (by decide) (hts _ wf_D_64) (fun _ h9 => h9) rfl d_D_rottenIn_6 ?_
      refine lv_icmp_ge (tgt := 30) hx hb d_D_rottenIn_9 (by decide) (fun hc => ?_) (fun hc => ?_)
      · exact absurd hc (by rw [hn]; exact nI_ge (by omega) (by omega))
      · refine lv_aload_n hx hb d_D_rottenIn_12 rfl (lv_at hl 2 rfl) ?_
        refine lv_iload_n hx hb d_D_rottenIn_13 rfl (lv_at hl 0 rfl) ?_
        refine lv_iload_n hx hb d_D_rottenIn_14 rfl (lv_at hl 3 rfl) ?_
        refine kx_VRW (As := [.int (nI i), .int t]) (rest := []) ⟨hx, hb, hml, hown, hts⟩ (k_D_isRotten l dC dI k5 a P G J L i (by omega) t) (cwV 2 hts (goodV wm_D_219 wn_D_isRotten ws_D_isRotten wi_D wc_D_isRotten) rfl rfl rfl (by decide +kernel) ⟨Nat.le_of_ble_eq_true rfl, Nat.le_of_ble_eq_true rfl⟩) ⟨Nat.zero_le _, Nat.zero_le _⟩ hK hP hD 0 rfl rfl rfl hl.1 rfl (Nat.le_of_ble_eq_true rfl) d_D_rottenIn_15 ?_
        refine W.eq (g2 := F0 m 18 ls [.int (bI (rBit (pRt P i) t))]) rfl ?_
        refine lv_if_eq (tgt := 24) hx hb d_D_rottenIn_18 (by decide) (fun hd => ?_) (fun hd => ?_)
        · refine lv_iinc (v := nI (i + 1)) (lv' := [(3, .int (nI (i + 1))), (2, .int (nI (pRotIn P t i))), (0, .ref (a 0)), (1, .int t)]) hx hb d_D_rottenIn_24 hl (k := 0) rfl (nI_1 i) (by decide) rfl (fun ls hl => ?_)
          refine lv_goto (tgt := 4) hx hb d_D_rottenIn_27 (by decide) ?_
          exact ih (i + 1) ls (by omega) (by rw [show pRotIn P t (i + 1) = pRotIn P t i from cnt_f (bI_f hd)]; exact (lv_sub hl [0, 1, 2, 3] rfl))
        · refine lv_iinc (v := nI (pRotIn P t (i + 1))) (lv' := [(2, .int (nI (pRotIn P t (i + 1)))), (3, .int (nI i)), (0, .ref (a 0)), (1, .int t)]) hx hb d_D_rottenIn_21 hl (k := 1) rfl (cnt_t (bI_t hd)) (by decide) rfl (fun ls hl => ?_)
          refine lv_iinc (v := nI (i + 1)) (lv' := [(3, .int (nI (i + 1))), (2, .int (nI (pRotIn P t (i + 1)))), (0, .ref (a 0)), (1, .int t)]) hx hb d_D_rottenIn_24 hl (k := 1) rfl (nI_1 i) (by decide) rfl (fun ls hl => ?_)
          refine lv_goto (tgt := 4) hx hb d_D_rottenIn_27 (by decide) ?_
          exact ih (i + 1) ls (by omega) (lv_sub hl [0, 1, 2, 3] rfl)
  exact lp n 0 ls (by omega) (lv_sub hl [0, 1, 2, 3] rfl)
set_option maxHeartbeats 4000000 in
set_option maxRecDepth 100000 in
theorem k_D_disksMarked (l : Launch) (dC : Nat → ClassId) (dI : Nat → Nat → Nat) (k5 : Nat → ClassId) (a : Nat → Nat) (P : PP) (G J : GG) (L : LL) (m1 m2 : Int32) (n : Nat) (hn : P.1 = nI n) (hn8 : n ≤ 8) : Met l y_D_disksMarked w_D_disksMarked ({ frames := 0, cells := 0, slots := 0, locals := 0 }) (kx_Pc (dC, dI) clA (tyL k5) (wD a k5 P G J L) [.ref (a 0), .int m1, .int m2]) (kx_R (some (.int (nI (pMarked P m1 m2 n))))) 0 0 (fun _ => False) := by
  refine Met.ofW (cc := c_D_disksMarked) (maxL := 5) (ret := (some .int)) (by decide) rfl ?_
  intro p e s m args below meth c s₁ B hml hv
  obtain ⟨rfl, hP, hK, hD0⟩ := hv
  have hx := B.exec
  have hb := B.bytes
  have hr := B.returns
  have hts : ∀ w ∈ wsA, w.before _ s = true := fun w h => atoms_spec (ws := w_D_disksMarked) B.pre w (List.mem_cons_of_mem _ h)
  have hown : s.vm.findClass R_D = some m.cls := findClass_of_methodNamed B.named
  have hlocks := B.notSynchronized
  have hD := kx_D.self hD0
  have hS : va_S (kx_A (wD a k5 P G J L)) s.heap s.heap [] := va_S.rf
  have hl := lv_entry ([.ref (a 0), .int m1, .int m2]) (n := 5) (Nat.le_of_ble_eq_true rfl)
  rw [lg_entry_eq]
  generalize (lg_sl ([.ref (a 0), .int m1, .int m2]) ++ List.replicate (5 - (lg_sl ([.ref (a 0), .int m1, .int m2])).length) Slot.unset).toArray = ls at hl ⊢
  have hl : lv_has ls 5 [(0, .ref (a 0)), (1, .int m1), (2, .int m2)] := hl
  refine lv_iconst (v := 0) hx hb d_D_disksMarked_0 (by decide) ?_
  refine lv_istore_n (lv' := [(3, .int 0), (0, .ref (a 0)), (1, .int m1), (2, .int m2)]) hx hb d_D_disksMarked_1 rfl hl (by decide) rfl (fun ls hl => ?_)
  refine lv_iconst (v := 0) hx hb d_D_disksMarked_2 (by decide) ?_
  refine lv_istore (lv' := [(4, .int 0), (3, .int 0), (0, .ref (a 0)), (1, .int m1), (2, .int m2)]) hx hb d_D_disksMarked_3 hl (by decide) rfl (fun ls hl => ?_)
  have lp : ∀ (q9 i : Nat) (ls : Array Slot), i + q9 = n → lv_has ls 5 [(4, .int (nI i)), (3, .int (nI (pMarked P m1 m2 i))), (0, .ref (a 0)), (1, .int m1), (2, .int m2)] → W p l e (headSpec w_D_disksMarked ({ frames := 0, cells := 0, slots := 0, locals := 0 })).room s m ([.ref (a 0), .int m1, .int m2] : List Value).toArray below meth c s.heap [] 0 0 (MQ below (kx_R (some (.int (nI (pMarked P m1 m2 n))))) ([.ref (a 0), .int m1, .int m2] : List Value).toArray s 0 0 (fun _ => False)) (F0 m 5 ls []) := by
    intro q9
    induction q9 with
    | zero =>
      intro i ls hi hl
      have hi : n = i := by omega
      subst hi
      refine lv_iload hx hb d_D_disksMarked_5 (lv_at hl 0 rfl) ?_
      refine lv_aload_n hx hb d_D_disksMarked_7 rfl (lv_at hl 2 rfl) ?_
      refine va_get (D := (dC, dI)) (ci := 2) (v := .int (P.1)) (C := R_D) (T := T_D) (N := 9) hx hb hts wu_D hown hK hP 0 rfl rfl 6 (by decide) (hts _ wf_D_64) (fun _ h9 => h9) rfl d_D_disksMarked_8 ?_
      refine lv_icmp_ge (tgt := 45) hx hb d_D_disksMarked_11 (by decide) (fun hc => ?_) (fun hc => ?_)
      · refine lv_iload_n hx hb d_D_disksMarked_45 rfl (lv_at hl 1 rfl) ?_
        exact W.iret (v := (nI (pMarked P m1 m2 n))) hx hb hr (fun t ht hW => kx_Ri (rfl) ht) (fun _ h => absurd h List.not_mem_nil) d_D_disksMarked_46
      · exact absurd (by rw [hn]; exact nI_le (by omega) (by omega)) hc
    | succ q9 ih =>
      intro i ls hi hl
      refine lv_iload hx hb d_D_disksMarked_5 (lv_at hl 0 rfl) ?_
      refine lv_aload_n hx hb d_D_disksMarked_7 rfl (lv_at hl 2 rfl) ?_
      refine va_get (D := (dC, dI)) (ci := 2) (v := .int (P.1)) (C := R_D) (T := T_D) (N := 9) hx hb hts wu_D hown hK hP 0 rfl rfl 6 (by decide) (hts _ wf_D_64) (fun _ h9 => h9) rfl d_D_disksMarked_8 ?_
      refine lv_icmp_ge (tgt := 45) hx hb d_D_disksMarked_11 (by decide) (fun hc => ?_) (fun hc => ?_)
      · exact absurd hc (by rw [hn]; exact nI_ge (by omega) (by omega))
      · refine lv_aload_n hx hb d_D_disksMarked_14 rfl (lv_at hl 2 rfl) ?_
        refine va_get (D := (dC, dI)) (ci := 2) (v := .ref (a 1)) (C := R_D) (T := T_D) (N := 9) hx hb hts wu_D hown hK hP 0 rfl rfl 0 (by decide) (hts _ wf_D_9) (fun _ h9 => h9) rfl d_D_disksMarked_15 ?_
        refine lv_iload hx hb d_D_disksMarked_18 (lv_at hl 0 rfl) ?_
        refine kx_iald hx hb hK hP 1 0 rfl rfl i (rfl) (by omega) (by omega) d_D_disksMarked_20 ?_
        refine lv_iload_n hx hb d_D_disksMarked_21 rfl (lv_at hl 3 rfl) ?_
        refine lv_icmp_lt (tgt := 39) hx hb d_D_disksMarked_22 (by decide) (fun hd => ?_) (fun hd => ?_)
        · refine lv_iinc (v := nI (i + 1)) (lv' := [(4, .int (nI (i + 1))), (3, .int (nI (pMarked P m1 m2 i))), (0, .ref (a 0)), (1, .int m1), (2, .int m2)]) hx hb d_D_disksMarked_39 hl (k := 0) rfl (nI_1 i) (by decide) rfl (fun ls hl => ?_)
          refine lv_goto (tgt := 5) hx hb d_D_disksMarked_42 (by decide) ?_
          exact ih (i + 1) ls (by omega) (by rw [show pMarked P m1 m2 (i + 1) = pMarked P m1 m2 i from cnt_f (by simp [Int32.not_le.mpr hd])]; exact (lv_sub hl [0, 1, 2, 3, 4] rfl))
        · refine lv_aload_n hx hb d_D_disksMarked_25 rfl (lv_at hl 2 rfl) ?_
          refine va_get (D := (dC, dI)) (ci := 2) (v := .ref (a 1)) (C := R_D) (T := T_D) (N := 9) hx hb hts wu_D hown hK hP 0 rfl rfl 0 (by decide) (hts _ wf_D_9) (fun _ h9 => h9) rfl d_D_disksMarked_26 ?_
          refine lv_iload hx hb d_D_disksMarked_29 (lv_at hl 0 rfl) ?_
          refine kx_iald hx hb hK hP 1 0 rfl rfl i (rfl) (by omega) (by omega) d_D_disksMarked_31 ?_
          refine lv_iload_n hx hb d_D_disksMarked_32 rfl (lv_at hl 4 rfl) ?_
          refine lv_icmp_gt (tgt := 39) hx hb d_D_disksMarked_33 (by decide) (fun he => ?_) (fun he => ?_)
          · refine lv_iinc (v := nI (i + 1)) (lv' := [(4, .int (nI (i + 1))), (3, .int (nI (pMarked P m1 m2 i))), (0, .ref (a 0)), (1, .int m1), (2, .int m2)]) hx hb d_D_disksMarked_39 hl (k := 0) rfl (nI_1 i) (by decide) rfl (fun ls hl => ?_)
            refine lv_goto (tgt := 5) hx hb d_D_disksMarked_42 (by decide) ?_
            exact ih (i + 1) ls (by omega) (by rw [show pMarked P m1 m2 (i + 1) = pMarked P m1 m2 i from cnt_f (by simp [Int32.not_le.mpr he])]; exact (lv_sub hl [0, 1, 2, 3, 4] rfl))
          · refine lv_iinc (v := nI (pMarked P m1 m2 (i + 1))) (lv' := [(3, .int (nI (pMarked P m1 m2 (i + 1)))), (4, .int (nI i)), (0, .ref (a 0)), (1, .int m1), (2, .int m2)]) hx hb d_D_disksMarked_36 hl (k := 1) rfl (cnt_t (by simp [Int32.not_lt.mp hd, Int32.not_lt.mp he])) (by decide) rfl (fun ls hl => ?_)
            refine lv_iinc (v := nI (i + 1)) (lv' := [(4, .int (nI (i + 1))), (3, .int (nI (pMarked P m1 m2 (i + 1)))), (0, .ref (a 0)), (1, .int m1), (2, .int m2)]) hx hb d_D_disksMarked_39 hl (k := 1) rfl (nI_1 i) (by decide) rfl (fun ls hl => ?_)
            refine lv_goto (tgt := 5) hx hb d_D_disksMarked_42 (by decide) ?_
            exact ih (i + 1) ls (by omega) (lv_sub hl [0, 1, 2, 3, 4] rfl)
  exact lp n 0 ls (by omega) (lv_sub hl [0, 1, 2, 3, 4] rfl)
set_option maxHeartbeats 4000000 in
set_option maxRecDepth 100000 in
theorem k_D_lostDisks (l : Launch) (dC : Nat → ClassId) (dI : Nat → Nat → Nat) (k5 : Nat → ClassId) (a : Nat → Nat) (P : PP) (G J : GG) (L : LL) (n : Nat) (hn : P.1 = nI n) (hn8 : n ≤ 8) : Met l y_D_lostDisks w_D_lostDisks ({ frames := 1, cells := 0, slots := 0, locals := 24 }) (kx_Pc (dC, dI) clA (tyL k5) (wD a k5 P G J L) [.ref (a 0)]) (kx_R (some (.int (nI (pMarked P (-1) (-1) n))))) 0 0 (fun _ => False) := by
  refine Met.ofW (cc := c_D_lostDisks) (maxL := 1) (ret := (some .int)) (by decide) rfl ?_
  intro p e s m args below meth c s₁ B hml hv
  obtain ⟨rfl, hP, hK, hD0⟩ := hv
  have hx := B.exec
  have hb := B.bytes
  have hr := B.returns
  have hts : ∀ w ∈ wsA, w.before _ s = true := fun w h => atoms_spec (ws := w_D_lostDisks) B.pre w (List.mem_cons_of_mem _ h)
  have hown : s.vm.findClass R_D = some m.cls := findClass_of_methodNamed B.named
  have hlocks := B.notSynchronized
  have hD := kx_D.self hD0
  have hS : va_S (kx_A (wD a k5 P G J L)) s.heap s.heap [] := va_S.rf
  have hl := lv_entry ([.ref (a 0)]) (n := 1) (Nat.le_of_ble_eq_true rfl)
  rw [lg_entry_eq]
  generalize (lg_sl ([.ref (a 0)]) ++ List.replicate (1 - (lg_sl ([.ref (a 0)])).length) Slot.unset).toArray = ls at hl ⊢
  have hl : lv_has ls 1 [(0, .ref (a 0))] := hl
  refine lv_aload_n hx hb d_D_lostDisks_0 rfl (lv_at hl 0 rfl) ?_
  refine lv_iconst (v := (-1)) hx hb d_D_lostDisks_1 (by decide) ?_
  refine lv_iconst (v := (-1)) hx hb d_D_lostDisks_2 (by decide) ?_
  refine kx_VRW (As := [.int (-1), .int (-1)]) (rest := []) ⟨hx, hb, hml, hown, hts⟩ (k_D_disksMarked l dC dI k5 a P G J L (-1) (-1) n hn hn8) (cwV 2 hts (goodV wm_D_222 wn_D_disksMarked ws_D_disksMarked wi_D wc_D_disksMarked) rfl rfl rfl (by decide +kernel) ⟨Nat.le_of_ble_eq_true rfl, Nat.le_of_ble_eq_true rfl⟩) ⟨Nat.zero_le _, Nat.zero_le _⟩ hK hP hD 0 rfl rfl rfl hl.1 rfl (Nat.le_of_ble_eq_true rfl) d_D_lostDisks_3 ?_
  refine W.eq (g2 := F0 m 6 ls [.int (nI (pMarked P (-1) (-1) n))]) rfl ?_
  exact W.iret (v := (nI (pMarked P (-1) (-1) n))) hx hb hr (fun t ht hW => kx_Ri (rfl) ht) (fun _ h => absurd h List.not_mem_nil) d_D_lostDisks_6
set_option maxHeartbeats 4000000 in
set_option maxRecDepth 100000 in
theorem k_D_blankDisks (l : Launch) (dC : Nat → ClassId) (dI : Nat → Nat → Nat) (k5 : Nat → ClassId) (a : Nat → Nat) (P : PP) (G J : GG) (L : LL) (n : Nat) (hn : P.1 = nI n) (hn8 : n ≤ 8) : Met l y_D_blankDisks w_D_blankDisks ({ frames := 1, cells := 0, slots := 0, locals := 24 }) (kx_Pc (dC, dI) clA (tyL k5) (wD a k5 P G J L) [.ref (a 0)]) (kx_R (some (.int (nI (pMarked P 0 (P.2.1 - 1) n))))) 0 0 (fun _ => False) := by
  refine Met.ofW (cc := c_D_blankDisks) (maxL := 1) (ret := (some .int)) (by decide) rfl ?_
  intro p e s m args below meth c s₁ B hml hv
  obtain ⟨rfl, hP, hK, hD0⟩ := hv
  have hx := B.exec
  have hb := B.bytes
  have hr := B.returns
  have hts : ∀ w ∈ wsA, w.before _ s = true := fun w h => atoms_spec (ws := w_D_blankDisks) B.pre w (List.mem_cons_of_mem _ h)
  have hown : s.vm.findClass R_D = some m.cls := findClass_of_methodNamed B.named
  have hlocks := B.notSynchronized
  have hD := kx_D.self hD0
  have hS : va_S (kx_A (wD a k5 P G J L)) s.heap s.heap [] := va_S.rf
  have hl := lv_entry ([.ref (a 0)]) (n := 1) (Nat.le_of_ble_eq_true rfl)
  rw [lg_entry_eq]
  generalize (lg_sl ([.ref (a 0)]) ++ List.replicate (1 - (lg_sl ([.ref (a 0)])).length) Slot.unset).toArray = ls at hl ⊢
  have hl : lv_has ls 1 [(0, .ref (a 0))] := hl
  refine lv_aload_n hx hb d_D_blankDisks_0 rfl (lv_at hl 0 rfl) ?_
  refine lv_iconst (v := 0) hx hb d_D_blankDisks_1 (by decide) ?_
  refine lv_aload_n hx hb d_D_blankDisks_2 rfl (lv_at hl 0 rfl) ?_
  refine va_get (D := (dC, dI)) (ci := 2) (v := .int (P.2.1)) (C := R_D) (T := T_D) (N := 9) hx hb hts wu_D hown hK hP 0 rfl rfl 7 (by decide) (hts _ wf_D_170) (fun _ h9 => h9) rfl d_D_blankDisks_3 ?_
  refine lv_iconst (v := 1) hx hb d_D_blankDisks_6 (by decide) ?_
  refine lv_isub hx hb d_D_blankDisks_7 ?_
  refine kx_VRW (As := [.int 0, .int ((P.2.1) - 1)]) (rest := []) ⟨hx, hb, hml, hown, hts⟩ (k_D_disksMarked l dC dI k5 a P G J L 0 (P.2.1 - 1) n hn hn8) (cwV 2 hts (goodV wm_D_222 wn_D_disksMarked ws_D_disksMarked wi_D wc_D_disksMarked) rfl rfl rfl (by decide +kernel) ⟨Nat.le_of_ble_eq_true rfl, Nat.le_of_ble_eq_true rfl⟩) ⟨Nat.zero_le _, Nat.zero_le _⟩ hK hP hD 0 rfl rfl rfl hl.1 rfl (Nat.le_of_ble_eq_true rfl) d_D_blankDisks_8 ?_
  refine W.eq (g2 := F0 m 11 ls [.int (nI (pMarked P 0 (P.2.1 - 1) n))]) rfl ?_
  exact W.iret (v := (nI (pMarked P 0 (P.2.1 - 1) n))) hx hb hr (fun t ht hW => kx_Ri (rfl) ht) (fun _ h => absurd h List.not_mem_nil) d_D_blankDisks_11
set_option maxHeartbeats 4000000 in
set_option maxRecDepth 100000 in
theorem k_D_partDown (l : Launch) (dC : Nat → ClassId) (dI : Nat → Nat → Nat) (k5 : Nat → ClassId) (bits : Int64) (u : Nat) : Met l y_D_partDown w_D_partDown ({ frames := 0, cells := 0, slots := 0, locals := 0 }) (kx_Pc (dC, dI) clA (tyL k5) ([]) [.long bits, .int (nI u)]) (kx_R (some (.int (pPart bits u)))) 0 0 (fun _ => False) := by
  refine Met.ofW (cc := c_D_partDown) (maxL := 3) (ret := (some .int)) (by decide) rfl ?_
  intro p e s m args below meth c s₁ B hml hv
  obtain ⟨rfl, hP, hK, hD0⟩ := hv
  have hx := B.exec
  have hb := B.bytes
  have hr := B.returns
  have hts : ∀ w ∈ wsA, w.before _ s = true := fun w h => atoms_spec (ws := w_D_partDown) B.pre w (List.mem_cons_of_mem _ h)
  have hown : s.vm.findClass R_D = some m.cls := findClass_of_methodNamed B.named
  have hlocks := B.notSynchronized
  have hD := kx_D.self hD0
  have hS : va_S (kx_A ([])) s.heap s.heap [] := va_S.rf
  have hl := lv_entry ([.long bits, .int (nI u)]) (n := 3) (Nat.le_of_ble_eq_true rfl)
  rw [lg_entry_eq]
  generalize (lg_sl ([.long bits, .int (nI u)]) ++ List.replicate (3 - (lg_sl ([.long bits, .int (nI u)])).length) Slot.unset).toArray = ls at hl ⊢
  have hl : lv_has ls 3 [(0, .long bits), (2, .int (nI u))] := hl
  refine lv_lload_n hx hb d_D_partDown_0 rfl (lv_at hl 0 rfl) ?_
  refine lv_iconst (v := 2) hx hb d_D_partDown_1 (by decide) ?_
  refine lv_iload_n hx hb d_D_partDown_2 rfl (lv_at hl 1 rfl) ?_
  refine lv_imul hx hb d_D_partDown_3 ?_
  refine lv_lushr (v := (bits.toUInt64 >>> ((2 * (nI u)).toInt64.toUInt64 &&& Int64.toUInt64 63)).toInt64) hx hb d_D_partDown_4 rfl ?_
  refine lv_l2i (v := ((bits.toUInt64 >>> ((2 * (nI u)).toInt64.toUInt64 &&& Int64.toUInt64 63)).toInt64).toInt32) hx hb d_D_partDown_5 rfl ?_
  refine lv_iconst (v := 3) hx hb d_D_partDown_6 (by decide) ?_
  refine lv_iand hx hb d_D_partDown_7 ?_
  exact W.iret (v := (((bits.toUInt64 >>> ((2 * (nI u)).toInt64.toUInt64 &&& Int64.toUInt64 63)).toInt64).toInt32 &&& 3)) hx hb hr (fun t ht hW => kx_Ri (rfl) ht) (fun _ h => absurd h List.not_mem_nil) d_D_partDown_8
set_option maxHeartbeats 4000000 in
set_option maxRecDepth 100000 in
theorem k_D_takesUnit (l : Launch) (dC : Nat → ClassId) (dI : Nat → Nat → Nat) (k5 : Nat → ClassId) (a : Nat → Nat) (P : PP) (G J : GG) (L : LL) (t u : Int32) (k : Nat) (hk : k < 8) (h0 : ¬ P.1 = 0) (ek : t + u - (t + u) / P.1 * P.1 = nI k) : Met l y_D_takesUnit w_D_takesUnit ({ frames := 0, cells := 0, slots := 0, locals := 0 }) (kx_Pc (dC, dI) clA (tyL k5) (wD a k5 P G J L) [.ref (a 0), .int t, .int u]) (kx_R (some (.int (if pMk P k ≤ t then 0 else 1)))) 0 0 (fun _ => False) := by
  refine Met.ofW (cc := c_D_takesUnit) (maxL := 3) (ret := (some .int)) (by decide) rfl ?_
  intro p e s m args below meth c s₁ B hml hv
  obtain ⟨rfl, hP, hK, hD0⟩ := hv
  have hx := B.exec
  have hb := B.bytes
  have hr := B.returns
  have hts : ∀ w ∈ wsA, w.before _ s = true := fun w h => atoms_spec (ws := w_D_takesUnit) B.pre w (List.mem_cons_of_mem _ h)
  have hown : s.vm.findClass R_D = some m.cls := findClass_of_methodNamed B.named
  have hlocks := B.notSynchronized
  have hD := kx_D.self hD0
  have hS : va_S (kx_A (wD a k5 P G J L)) s.heap s.heap [] := va_S.rf
  have hl := lv_entry ([.ref (a 0), .int t, .int u]) (n := 3) (Nat.le_of_ble_eq_true rfl)
  rw [lg_entry_eq]
  generalize (lg_sl ([.ref (a 0), .int t, .int u]) ++ List.replicate (3 - (lg_sl ([.ref (a 0), .int t, .int u])).length) Slot.unset).toArray = ls at hl ⊢
  have hl : lv_has ls 3 [(0, .ref (a 0)), (1, .int t), (2, .int u)] := hl
  refine lv_aload_n hx hb d_D_takesUnit_0 rfl (lv_at hl 0 rfl) ?_
  refine va_get (D := (dC, dI)) (ci := 2) (v := .ref (a 1)) (C := R_D) (T := T_D) (N := 9) hx hb hts wu_D hown hK hP 0 rfl rfl 0 (by decide) (hts _ wf_D_9) (fun _ h9 => h9) rfl d_D_takesUnit_1 ?_
  refine lv_iload_n hx hb d_D_takesUnit_4 rfl (lv_at hl 1 rfl) ?_
  refine lv_iload_n hx hb d_D_takesUnit_5 rfl (lv_at hl 2 rfl) ?_
  refine lv_iadd hx hb d_D_takesUnit_6 ?_
  refine lv_aload_n hx hb d_D_takesUnit_7 rfl (lv_at hl 0 rfl) ?_
  refine va_get (D := (dC, dI)) (ci := 2) (v := .int (P.1)) (C := R_D) (T := T_D) (N := 9) hx hb hts wu_D hown hK hP 0 rfl rfl 6 (by decide) (hts _ wf_D_64) (fun _ h9 => h9) rfl d_D_takesUnit_8 ?_
  refine lv_irem hx hb d_D_takesUnit_11 h0 ?_
  refine kx_iald hx hb hK hP 1 0 rfl rfl k (ek) (by omega) (by omega) d_D_takesUnit_12 ?_
  refine lv_iload_n hx hb d_D_takesUnit_13 rfl (lv_at hl 1 rfl) ?_
  refine lv_icmp_le (tgt := 21) hx hb d_D_takesUnit_14 (by decide) (fun hc_1 => ?_) (fun hc_1 => ?_)
  · refine lv_iconst (v := 0) hx hb d_D_takesUnit_21 (by decide) ?_
    exact W.iret (v := 0) hx hb hr (fun t ht hW => kx_Ri (by rw [if_pos hc_1]) ht) (fun _ h => absurd h List.not_mem_nil) d_D_takesUnit_22
  · refine lv_iconst (v := 1) hx hb d_D_takesUnit_17 (by decide) ?_
    refine lv_goto (tgt := 22) hx hb d_D_takesUnit_18 (by decide) ?_
    exact W.iret (v := 1) hx hb hr (fun t ht hW => kx_Ri (by rw [if_neg hc_1]) ht) (fun _ h => absurd h List.not_mem_nil) d_D_takesUnit_22
end
section
set_option maxHeartbeats 4000000 in
set_option maxRecDepth 100000 in
theorem k_D_powerFails (l : Launch) (dC : Nat → ClassId) (dI : Nat → Nat → Nat) (k5 : Nat → ClassId) (a : Nat → Nat) (P : PP) (G J : GG) (L : LL)  : Met l y_D_powerFails w_D_powerFails ({ frames := 1, cells := 0, slots := 0, locals := 20 }) (kx_Pc (dC, dI) clA (tyL k5) (wD a k5 P G J L) [.ref (a 0)]) (kx_Q (dC, dI) clA (wD a k5 P G J L) (wD a k5 (pPow 0 P) (gClear G) J L) (some (.int (-2)))) 0 0 (kx_A (wD a k5 P G J L)) := by
  refine Met.ofW (cc := c_D_powerFails) (maxL := 1) (ret := (some .int)) (by decide) rfl ?_
  intro p e s m args below meth c s₁ B hml hv
  obtain ⟨rfl, hP, hK, hD0⟩ := hv
  have hx := B.exec
  have hb := B.bytes
  have hr := B.returns
  have hts : ∀ w ∈ wsA, w.before _ s = true := fun w h => atoms_spec (ws := w_D_powerFails) B.pre w (List.mem_cons_of_mem _ h)
  have hown : s.vm.findClass R_D = some m.cls := findClass_of_methodNamed B.named
  have hlocks := B.notSynchronized
  have hD := kx_D.self hD0
  have hS : va_S (kx_A (wD a k5 P G J L)) s.heap s.heap [] := va_S.rf
  have hl := lv_entry ([.ref (a 0)]) (n := 1) (Nat.le_of_ble_eq_true rfl)
  rw [lg_entry_eq]
  generalize (lg_sl ([.ref (a 0)]) ++ List.replicate (1 - (lg_sl ([.ref (a 0)])).length) Slot.unset).toArray = ls at hl ⊢
  have hl : lv_has ls 1 [(0, .ref (a 0))] := hl
  refine lv_aload_n hx hb d_D_powerFails_0 rfl (lv_at hl 0 rfl) ?_
  refine lv_iconst (v := 0) hx hb d_D_powerFails_1 (by decide) ?_
  refine kx_put (ws' := (wD a k5 (pPow 0 P) G J L)) (D := (dC, dI)) (ci := 2) (v := .int 0) (ty := .boolean) (C := R_D) (T := T_D) (N := 9) hx hb hts wu_D ty_D ok_D nm_D hown hK hP hD hS 0 rfl rfl 8 (by decide) (hts _ wf_D_46) (fun _ h9 => h9) rfl (by decide +kernel) rfl rfl (Nat.le_of_ble_eq_true rfl) rfl d_D_powerFails_2 (fun H locs hP hD hS => ?_)
  refine lv_aload_n hx hb d_D_powerFails_5 rfl (lv_at hl 0 rfl) ?_
  refine va_get (D := (dC, dI)) (ci := 2) (v := .ref (a 4)) (C := R_D) (T := T_D) (N := 9) hx hb hts wu_D hown hK hP 0 rfl rfl 3 (by decide) (hts _ wf_D_24) (fun _ h9 => h9) rfl d_D_powerFails_6 ?_
  refine kx_V (ws2 := (wD a k5 (pPow 0 P) (gClear G) J L)) (As := []) (rest := []) ⟨hx, hb, hml, hown, hts⟩ (k_G_clear l dC dI k5 (a 4) (a 5) (a 6) (a 7) (G.1) (G.2.1) (G.2.2.1) (G.2.2.2.1) (G.2.2.2.2) ) (cwV 0 hts (goodV wm_D_109 wn_G_clear ws_G_clear wi_G wc_G_clear) rfl rfl rfl (by decide +kernel) ⟨Nat.le_of_ble_eq_true rfl, Nat.le_of_ble_eq_true rfl⟩) ⟨Nat.zero_le _, Nat.zero_le _⟩ hK hP hD hS [4, 5, 6, 7] (by decide) rfl 0 rfl rfl rfl rfl rfl rfl hl.1 rfl (Nat.le_of_ble_eq_true rfl) d_D_powerFails_9 (fun H locs hP hD hS => ?_)
  refine W.eq (g2 := F0 m 12 ls []) rfl ?_
  refine lv_bipush (v := (-2)) hx hb d_D_powerFails_12 (by decide) ?_
  exact W.iret (v := (-2)) hx hb hr (fun t ht hW => kx_Qi (rfl) ht hP (rfl) hS rfl) hS.2.2 d_D_powerFails_14
set_option maxHeartbeats 4000000 in
set_option maxRecDepth 100000 in
theorem k_D_writeLabel (l : Launch) (dC : Nat → ClassId) (dI : Nat → Nat → Nat) (k5 : Nat → ClassId) (a : Nat → Nat) (P : PP) (G J : GG) (L : LL) (bits : Int64) (w : Nat) (hw : w = 0 ∨ w = 1) (hq : 1 - L.1 1 = nI w) (n : Nat) (hn : P.1 = nI n) (hn8 : n ≤ 8) : Met l y_D_writeLabel w_D_writeLabel ({ frames := 2, cells := 0, slots := 0, locals := 45 }) (kx_Pc (dC, dI) clA (tyL k5) (wD a k5 P G J L) [.ref (a 0), .long bits]) (kx_Q (dC, dI) clA (wD a k5 P G J L) (wD a k5 P G J ((pWrite P bits w n L).1)) none) 0 0 (kx_A (wD a k5 P G J L)) := by
  refine Met.ofW (cc := c_D_writeLabel) (maxL := 5) (ret := none) (by decide) rfl ?_
  intro p e s m args below meth c s₁ B hml hv
  obtain ⟨rfl, hP, hK, hD0⟩ := hv
  have hx := B.exec
  have hb := B.bytes
  have hr := B.returns
  have hts : ∀ w ∈ wsA, w.before _ s = true := fun w h => atoms_spec (ws := w_D_writeLabel) B.pre w (List.mem_cons_of_mem _ h)
  have hown : s.vm.findClass R_D = some m.cls := findClass_of_methodNamed B.named
  have hlocks := B.notSynchronized
  have hD := kx_D.self hD0
  have hS : va_S (kx_A (wD a k5 P G J L)) s.heap s.heap [] := va_S.rf
  have hl := lv_entry ([.ref (a 0), .long bits]) (n := 5) (Nat.le_of_ble_eq_true rfl)
  rw [lg_entry_eq]
  generalize (lg_sl ([.ref (a 0), .long bits]) ++ List.replicate (5 - (lg_sl ([.ref (a 0), .long bits])).length) Slot.unset).toArray = ls at hl ⊢
  have hl : lv_has ls 5 [(0, .ref (a 0)), (1, .long bits)] := hl
  refine lv_iconst (v := 0) hx hb d_D_writeLabel_0 (by decide) ?_
  refine lv_istore_n (lv' := [(3, .int 0), (0, .ref (a 0)), (1, .long bits)]) hx hb d_D_writeLabel_1 rfl hl (by decide) rfl (fun ls hl => ?_)
  refine lv_iconst (v := 0) hx hb d_D_writeLabel_2 (by decide) ?_
  refine lv_istore (lv' := [(4, .int 0), (3, .int 0), (0, .ref (a 0)), (1, .long bits)]) hx hb d_D_writeLabel_3 hl (by decide) rfl (fun ls hl => ?_)
  have lp : ∀ (q9 i : Nat) (H : Heap) (locs : List Loc) (ls : Array Slot), i + q9 = n → va_P (dC, dI) clA (wD a k5 P G J ((pWrite P bits w i L).1)) H → va_D (kx_A (wD a k5 P G J L)) (wD a k5 P G J ((pWrite P bits w i L).1)) → va_S (kx_A (wD a k5 P G J L)) s.heap H locs → lv_has ls 5 [(4, .int (nI i)), (3, .int (nI ((pWrite P bits w i L).2))), (0, .ref (a 0)), (1, .long bits)] → W p l e (headSpec w_D_writeLabel ({ frames := 2, cells := 0, slots := 0, locals := 45 })).room s m ([.ref (a 0), .long bits] : List Value).toArray below meth c H locs 0 0 (MQ below (kx_Q (dC, dI) clA (wD a k5 P G J L) (wD a k5 P G J ((pWrite P bits w n L).1)) none) ([.ref (a 0), .long bits] : List Value).toArray s 0 0 (kx_A (wD a k5 P G J L))) (F0 m 5 ls []) := by
    intro q9
    induction q9 with
    | zero =>
      intro i H locs ls hi hP hD hS hl
      have hi : n = i := by omega
      subst hi
      refine lv_iload hx hb d_D_writeLabel_5 (lv_at hl 0 rfl) ?_
      refine lv_aload_n hx hb d_D_writeLabel_7 rfl (lv_at hl 2 rfl) ?_
      refine va_get (D := (dC, dI)) (ci := 2) (v := .int (P.1)) (C := R_D) (T := T_D) (N := 9) hx hb hts wu_D hown hK hP 0 rfl rfl 6 (by decide) (hts _ wf_D_64) (fun _ h9 => h9) rfl d_D_writeLabel_8 ?_
      refine lv_icmp_ge (tgt := 48) hx hb d_D_writeLabel_11 (by decide) (fun hc => ?_) (fun hc => ?_)
      · exact W.vret hx hb hr (fun t ht hW => kx_Qv ht hP (rfl) hS rfl) hS.2.2 d_D_writeLabel_48
      · exact absurd (by rw [hn]; exact nI_le (by omega) (by omega)) hc
    | succ q9 ih =>
      intro i H locs ls hi hP hD hS hl
      refine lv_iload hx hb d_D_writeLabel_5 (lv_at hl 0 rfl) ?_
      refine lv_aload_n hx hb d_D_writeLabel_7 rfl (lv_at hl 2 rfl) ?_
      refine va_get (D := (dC, dI)) (ci := 2) (v := .int (P.1)) (C := R_D) (T := T_D) (N := 9) hx hb hts wu_D hown hK hP 0 rfl rfl 6 (by decide) (hts _ wf_D_64) (fun _ h9 => h9) rfl d_D_writeLabel_8 ?_
      refine lv_icmp_ge (tgt := 48) hx hb d_D_writeLabel_11 (by decide) (fun hc => ?_) (fun hc => ?_)
      · exact absurd hc (by rw [hn]; exact nI_ge (by omega) (by omega))
      · refine lv_aload_n hx hb d_D_writeLabel_14 rfl (lv_at hl 2 rfl) ?_
        refine va_get (D := (dC, dI)) (ci := 2) (v := .ref (a 1)) (C := R_D) (T := T_D) (N := 9) hx hb hts wu_D hown hK hP 0 rfl rfl 0 (by decide) (hts _ wf_D_9) (fun _ h9 => h9) rfl d_D_writeLabel_15 ?_
        refine lv_iload hx hb d_D_writeLabel_18 (lv_at hl 0 rfl) ?_
        refine kx_iald hx hb hK hP 1 0 rfl rfl i (rfl) (by omega) (by omega) d_D_writeLabel_20 ?_
        refine lv_iconst (v := (-1)) hx hb d_D_writeLabel_21 (by decide) ?_
        refine lv_icmp_eq (tgt := 42) hx hb d_D_writeLabel_22 (by decide) (fun hd => ?_) (fun hd => ?_)
        · refine lv_iinc (v := nI (i + 1)) (lv' := [(4, .int (nI (i + 1))), (3, .int (nI ((pWrite P bits w i L).2))), (0, .ref (a 0)), (1, .long bits)]) hx hb d_D_writeLabel_42 hl (k := 0) rfl (nI_1 i) (by decide) rfl (fun ls hl => ?_)
          refine lv_goto (tgt := 5) hx hb d_D_writeLabel_45 (by decide) ?_
          have e : (pWrite P bits w (i + 1) L) = (pWrite P bits w i L) := if_pos hd
          exact ih (i + 1) H locs ls (by omega) (by rw [e]; exact hP) (by rw [e]; exact hD) hS (by rw [e]; exact (lv_sub hl [0, 1, 2, 3] rfl))
        · refine lv_aload_n hx hb d_D_writeLabel_25 rfl (lv_at hl 2 rfl) ?_
          refine va_get (D := (dC, dI)) (ci := 2) (v := .ref (a 12)) (C := R_D) (T := T_D) (N := 9) hx hb hts wu_D hown hK hP 0 rfl rfl 5 (by decide) (hts _ wf_D_34) (fun _ h9 => h9) rfl d_D_writeLabel_26 ?_
          refine lv_iload hx hb d_D_writeLabel_29 (lv_at hl 0 rfl) ?_
          refine lv_lload_n hx hb d_D_writeLabel_31 rfl (lv_at hl 3 rfl) ?_
          refine lv_iload_n hx hb d_D_writeLabel_32 rfl (lv_at hl 1 rfl) ?_
          refine kx_SR (As := [.long bits, .int (nI ((pWrite P bits w i L).2))]) (rest := [.int (nI i), .ref (a 12)]) ⟨hx, hb, hml, hown, hts⟩ (k_D_partDown l dC dI k5 bits (pWrite P bits w i L).2) (va_cwS 2 hts (goodS wm_D_191 wt_D_partDown wi_D wc_D_partDown) rfl rfl rfl (by decide +kernel) ⟨Nat.le_of_ble_eq_true rfl, Nat.le_of_ble_eq_true rfl⟩) ⟨Nat.zero_le _, Nat.zero_le _⟩ hK hP hD [] (by decide) rfl rfl hl.1 rfl (Nat.le_of_ble_eq_true rfl) d_D_writeLabel_33 ?_
          refine W.eq (g2 := F0 m 36 ls [.int (pPart bits (pWrite P bits w i L).2), .int (nI i), .ref (a 12)]) rfl ?_
          refine kx_V (ws2 := (wD a k5 P G J (lPut w i (pPart bits (pWrite P bits w i L).2) (pWrite P bits w i L).1))) (As := [.int (nI i), .int (pPart bits (pWrite P bits w i L).2)]) (rest := []) ⟨hx, hb, hml, hown, hts⟩ (k_L_putDraft l dC dI k5 a ((pWrite P bits w i L).1) w hw (by rw [pWrite_sc P bits w L i]; exact hq) i (by omega) (pPart bits (pWrite P bits w i L).2)) (cwV 2 hts (goodV wm_D_195 wn_L_putDraft ws_L_putDraft wi_L wc_L_putDraft) rfl rfl rfl (by decide +kernel) ⟨Nat.le_of_ble_eq_true rfl, Nat.le_of_ble_eq_true rfl⟩) ⟨Nat.zero_le _, Nat.zero_le _⟩ hK hP hD hS [12, 13, 14, 15, 16, 17, 18, 19, 20, 21, 22, 23] (by decide) rfl 0 rfl rfl rfl rfl rfl rfl hl.1 rfl (Nat.le_of_ble_eq_true rfl) d_D_writeLabel_36 (fun H locs hP hD hS => ?_)
          refine W.eq (g2 := F0 m 39 ls []) rfl ?_
          have e : (pWrite P bits w (i + 1) L) = (lPut w i (pPart bits (pWrite P bits w i L).2) (pWrite P bits w i L).1, (pWrite P bits w i L).2 + 1) := if_neg hd
          refine lv_iinc (v := nI ((pWrite P bits w i L).2 + 1)) (lv' := [(3, .int (nI ((pWrite P bits w i L).2 + 1))), (4, .int (nI i)), (0, .ref (a 0)), (1, .long bits)]) hx hb d_D_writeLabel_39 hl (k := 1) rfl (nI_1 _) (by decide) rfl (fun ls hl => ?_)
          refine lv_iinc (v := nI (i + 1)) (lv' := [(4, .int (nI (i + 1))), (3, .int (nI ((pWrite P bits w i L).2 + 1))), (0, .ref (a 0)), (1, .long bits)]) hx hb d_D_writeLabel_42 hl (k := 1) rfl (nI_1 i) (by decide) rfl (fun ls hl => ?_)
          refine lv_goto (tgt := 5) hx hb d_D_writeLabel_45 (by decide) ?_
          exact ih (i + 1) H locs ls (by omega) (by rw [e]; exact hP) (by rw [e]; exact hD) hS (by rw [e]; exact (lv_sub hl [0, 1, 2, 3] rfl))
  exact lp n 0 s.heap [] ls (by omega) hP hD hS (lv_sub hl [0, 1, 2, 3] rfl)
set_option maxHeartbeats 4000000 in
set_option maxRecDepth 100000 in
theorem k_D_writeLabelAgain (l : Launch) (dC : Nat → ClassId) (dI : Nat → Nat → Nat) (k5 : Nat → ClassId) (a : Nat → Nat) (P : PP) (G J : GG) (L : LL) (bits : Int64) (w : Nat) (hw : w = 0 ∨ w = 1) (hq : L.1 1 = nI w) (n : Nat) (hn : P.1 = nI n) (hn8 : n ≤ 8) : Met l y_D_writeLabelAgain w_D_writeLabelAgain ({ frames := 2, cells := 0, slots := 0, locals := 45 }) (kx_Pc (dC, dI) clA (tyL k5) (wD a k5 P G J L) [.ref (a 0), .long bits]) (kx_Q (dC, dI) clA (wD a k5 P G J L) (wD a k5 P G J ((pAgain bits w n L).1)) none) 0 0 (kx_A (wD a k5 P G J L)) := by
  refine Met.ofW (cc := c_D_writeLabelAgain) (maxL := 5) (ret := none) (by decide) rfl ?_
  intro p e s m args below meth c s₁ B hml hv
  obtain ⟨rfl, hP, hK, hD0⟩ := hv
  have hx := B.exec
  have hb := B.bytes
  have hr := B.returns
  have hts : ∀ w ∈ wsA, w.before _ s = true := fun w h => atoms_spec (ws := w_D_writeLabelAgain) B.pre w (List.mem_cons_of_mem _ h)
  have hown : s.vm.findClass R_D = some m.cls := findClass_of_methodNamed B.named
  have hlocks := B.notSynchronized
  have hD := kx_D.self hD0
  have hS : va_S (kx_A (wD a k5 P G J L)) s.heap s.heap [] := va_S.rf
  have hl := lv_entry ([.ref (a 0), .long bits]) (n := 5) (Nat.le_of_ble_eq_true rfl)
  rw [lg_entry_eq]
  generalize (lg_sl ([.ref (a 0), .long bits]) ++ List.replicate (5 - (lg_sl ([.ref (a 0), .long bits])).length) Slot.unset).toArray = ls at hl ⊢
  have hl : lv_has ls 5 [(0, .ref (a 0)), (1, .long bits)] := hl
  refine lv_iconst (v := 0) hx hb d_D_writeLabelAgain_0 (by decide) ?_
  refine lv_istore_n (lv' := [(3, .int 0), (0, .ref (a 0)), (1, .long bits)]) hx hb d_D_writeLabelAgain_1 rfl hl (by decide) rfl (fun ls hl => ?_)
  refine lv_iconst (v := 0) hx hb d_D_writeLabelAgain_2 (by decide) ?_
  refine lv_istore (lv' := [(4, .int 0), (3, .int 0), (0, .ref (a 0)), (1, .long bits)]) hx hb d_D_writeLabelAgain_3 hl (by decide) rfl (fun ls hl => ?_)
  have lp : ∀ (q9 i : Nat) (H : Heap) (locs : List Loc) (ls : Array Slot), i + q9 = n → va_P (dC, dI) clA (wD a k5 P G J ((pAgain bits w i L).1)) H → va_D (kx_A (wD a k5 P G J L)) (wD a k5 P G J ((pAgain bits w i L).1)) → va_S (kx_A (wD a k5 P G J L)) s.heap H locs → lv_has ls 5 [(4, .int (nI i)), (3, .int (nI ((pAgain bits w i L).2))), (0, .ref (a 0)), (1, .long bits)] → W p l e (headSpec w_D_writeLabelAgain ({ frames := 2, cells := 0, slots := 0, locals := 45 })).room s m ([.ref (a 0), .long bits] : List Value).toArray below meth c H locs 0 0 (MQ below (kx_Q (dC, dI) clA (wD a k5 P G J L) (wD a k5 P G J ((pAgain bits w n L).1)) none) ([.ref (a 0), .long bits] : List Value).toArray s 0 0 (kx_A (wD a k5 P G J L))) (F0 m 5 ls []) := by
    intro q9
    induction q9 with
    | zero =>
      intro i H locs ls hi hP hD hS hl
      have hi : n = i := by omega
      subst hi
      refine lv_iload hx hb d_D_writeLabelAgain_5 (lv_at hl 0 rfl) ?_
      refine lv_aload_n hx hb d_D_writeLabelAgain_7 rfl (lv_at hl 2 rfl) ?_
      refine va_get (D := (dC, dI)) (ci := 2) (v := .int (P.1)) (C := R_D) (T := T_D) (N := 9) hx hb hts wu_D hown hK hP 0 rfl rfl 6 (by decide) (hts _ wf_D_64) (fun _ h9 => h9) rfl d_D_writeLabelAgain_8 ?_
      refine lv_icmp_ge (tgt := 49) hx hb d_D_writeLabelAgain_11 (by decide) (fun hc => ?_) (fun hc => ?_)
      · exact W.vret hx hb hr (fun t ht hW => kx_Qv ht hP (rfl) hS rfl) hS.2.2 d_D_writeLabelAgain_49
      · exact absurd (by rw [hn]; exact nI_le (by omega) (by omega)) hc
    | succ q9 ih =>
      intro i H locs ls hi hP hD hS hl
      refine lv_iload hx hb d_D_writeLabelAgain_5 (lv_at hl 0 rfl) ?_
      refine lv_aload_n hx hb d_D_writeLabelAgain_7 rfl (lv_at hl 2 rfl) ?_
      refine va_get (D := (dC, dI)) (ci := 2) (v := .int (P.1)) (C := R_D) (T := T_D) (N := 9) hx hb hts wu_D hown hK hP 0 rfl rfl 6 (by decide) (hts _ wf_D_64) (fun _ h9 => h9) rfl d_D_writeLabelAgain_8 ?_
      refine lv_icmp_ge (tgt := 49) hx hb d_D_writeLabelAgain_11 (by decide) (fun hc => ?_) (fun hc => ?_)
      · exact absurd hc (by rw [hn]; exact nI_ge (by omega) (by omega))
      · refine lv_aload_n hx hb d_D_writeLabelAgain_14 rfl (lv_at hl 2 rfl) ?_
        refine va_get (D := (dC, dI)) (ci := 2) (v := .ref (a 12)) (C := R_D) (T := T_D) (N := 9) hx hb hts wu_D hown hK hP 0 rfl rfl 5 (by decide) (hts _ wf_D_34) (fun _ h9 => h9) rfl d_D_writeLabelAgain_15 ?_
        refine lv_iload hx hb d_D_writeLabelAgain_18 (lv_at hl 0 rfl) ?_
        refine kx_VR (As := [.int (nI i)]) (rest := []) ⟨hx, hb, hml, hown, hts⟩ (k_L_hasSome l dC dI k5 a ((pAgain bits w i L).1) i (by omega)) (cwV 1 hts (goodV wm_D_198 wn_L_hasSome ws_L_hasSome wi_L wc_L_hasSome) rfl rfl rfl (by decide +kernel) ⟨Nat.le_of_ble_eq_true rfl, Nat.le_of_ble_eq_true rfl⟩) ⟨Nat.zero_le _, Nat.zero_le _⟩ hK hP hD [12, 13, 14, 15, 16, 17, 18, 19, 20, 21, 22, 23] (by decide) rfl 0 rfl rfl rfl hl.1 rfl (Nat.le_of_ble_eq_true rfl) d_D_writeLabelAgain_20 ?_
        refine W.eq (g2 := F0 m 23 ls [.int (bI (lSome i (pAgain bits w i L).1))]) rfl ?_
        refine lv_if_eq (tgt := 43) hx hb d_D_writeLabelAgain_23 (by decide) (fun hd => ?_) (fun hd => ?_)
        · refine lv_iinc (v := nI (i + 1)) (lv' := [(4, .int (nI (i + 1))), (3, .int (nI ((pAgain bits w i L).2))), (0, .ref (a 0)), (1, .long bits)]) hx hb d_D_writeLabelAgain_43 hl (k := 0) rfl (nI_1 i) (by decide) rfl (fun ls hl => ?_)
          refine lv_goto (tgt := 5) hx hb d_D_writeLabelAgain_46 (by decide) ?_
          have e : (pAgain bits w (i + 1) L) = (pAgain bits w i L) := if_neg (by rw [bI_f hd]; exact Bool.false_ne_true)
          exact ih (i + 1) H locs ls (by omega) (by rw [e]; exact hP) (by rw [e]; exact hD) hS (by rw [e]; exact (lv_sub hl [0, 1, 2, 3] rfl))
        · refine lv_aload_n hx hb d_D_writeLabelAgain_26 rfl (lv_at hl 2 rfl) ?_
          refine va_get (D := (dC, dI)) (ci := 2) (v := .ref (a 12)) (C := R_D) (T := T_D) (N := 9) hx hb hts wu_D hown hK hP 0 rfl rfl 5 (by decide) (hts _ wf_D_34) (fun _ h9 => h9) rfl d_D_writeLabelAgain_27 ?_
          refine lv_iload hx hb d_D_writeLabelAgain_30 (lv_at hl 0 rfl) ?_
          refine lv_lload_n hx hb d_D_writeLabelAgain_32 rfl (lv_at hl 3 rfl) ?_
          refine lv_iload_n hx hb d_D_writeLabelAgain_33 rfl (lv_at hl 1 rfl) ?_
          refine kx_SR (As := [.long bits, .int (nI ((pAgain bits w i L).2))]) (rest := [.int (nI i), .ref (a 12)]) ⟨hx, hb, hml, hown, hts⟩ (k_D_partDown l dC dI k5 bits (pAgain bits w i L).2) (va_cwS 2 hts (goodS wm_D_191 wt_D_partDown wi_D wc_D_partDown) rfl rfl rfl (by decide +kernel) ⟨Nat.le_of_ble_eq_true rfl, Nat.le_of_ble_eq_true rfl⟩) ⟨Nat.zero_le _, Nat.zero_le _⟩ hK hP hD [] (by decide) rfl rfl hl.1 rfl (Nat.le_of_ble_eq_true rfl) d_D_writeLabelAgain_34 ?_
          refine W.eq (g2 := F0 m 37 ls [.int (pPart bits (pAgain bits w i L).2), .int (nI i), .ref (a 12)]) rfl ?_
          refine kx_V (ws2 := (wD a k5 P G J (lPut w i (pPart bits (pAgain bits w i L).2) (pAgain bits w i L).1))) (As := [.int (nI i), .int (pPart bits (pAgain bits w i L).2)]) (rest := []) ⟨hx, hb, hml, hown, hts⟩ (k_L_putCounting l dC dI k5 a ((pAgain bits w i L).1) w hw (by rw [pAgain_sc bits w L i]; exact hq) i (by omega) (pPart bits (pAgain bits w i L).2)) (cwV 2 hts (goodV wm_D_201 wn_L_putCounting ws_L_putCounting wi_L wc_L_putCounting) rfl rfl rfl (by decide +kernel) ⟨Nat.le_of_ble_eq_true rfl, Nat.le_of_ble_eq_true rfl⟩) ⟨Nat.zero_le _, Nat.zero_le _⟩ hK hP hD hS [12, 13, 14, 15, 16, 17, 18, 19, 20, 21, 22, 23] (by decide) rfl 0 rfl rfl rfl rfl rfl rfl hl.1 rfl (Nat.le_of_ble_eq_true rfl) d_D_writeLabelAgain_37 (fun H locs hP hD hS => ?_)
          refine W.eq (g2 := F0 m 40 ls []) rfl ?_
          have e : (pAgain bits w (i + 1) L) = (lPut w i (pPart bits (pAgain bits w i L).2) (pAgain bits w i L).1, (pAgain bits w i L).2 + 1) := if_pos (bI_t hd)
          refine lv_iinc (v := nI ((pAgain bits w i L).2 + 1)) (lv' := [(3, .int (nI ((pAgain bits w i L).2 + 1))), (4, .int (nI i)), (0, .ref (a 0)), (1, .long bits)]) hx hb d_D_writeLabelAgain_40 hl (k := 1) rfl (nI_1 _) (by decide) rfl (fun ls hl => ?_)
          refine lv_iinc (v := nI (i + 1)) (lv' := [(4, .int (nI (i + 1))), (3, .int (nI ((pAgain bits w i L).2 + 1))), (0, .ref (a 0)), (1, .long bits)]) hx hb d_D_writeLabelAgain_43 hl (k := 1) rfl (nI_1 i) (by decide) rfl (fun ls hl => ?_)
          refine lv_goto (tgt := 5) hx hb d_D_writeLabelAgain_46 (by decide) ?_
          exact ih (i + 1) H locs ls (by omega) (by rw [e]; exact hP) (by rw [e]; exact hD) hS (by rw [e]; exact (lv_sub hl [0, 1, 2, 3] rfl))
  exact lp n 0 s.heap [] ls (by omega) hP hD hS (lv_sub hl [0, 1, 2, 3] rfl)
set_option maxHeartbeats 4000000 in
set_option maxRecDepth 100000 in
theorem k_D_finishLabel (l : Launch) (dC : Nat → ClassId) (dI : Nat → Nat → Nat) (k5 : Nat → ClassId) (a : Nat → Nat) (P : PP) (G J : GG) (L : LL) (w : Nat) (hw : w = 0 ∨ w = 1) (hq : 1 - L.1 1 = nI w) (n : Nat) (hn : P.1 = nI n) (hn8 : n ≤ 8) : Met l y_D_finishLabel w_D_finishLabel ({ frames := 3, cells := 0, slots := 0, locals := 69 }) (kx_Pc (dC, dI) clA (tyL k5) (wD a k5 P G J L) [.ref (a 0)]) (kx_Q (dC, dI) clA (wD a k5 P G J L) (wD a k5 P G J (pFinish P w n L)) none) 0 0 (kx_A (wD a k5 P G J L)) := by
  refine Met.ofW (cc := c_D_finishLabel) (maxL := 1) (ret := none) (by decide) rfl ?_
  intro p e s m args below meth c s₁ B hml hv
  obtain ⟨rfl, hP, hK, hD0⟩ := hv
  have hx := B.exec
  have hb := B.bytes
  have hr := B.returns
  have hts : ∀ w ∈ wsA, w.before _ s = true := fun w h => atoms_spec (ws := w_D_finishLabel) B.pre w (List.mem_cons_of_mem _ h)
  have hown : s.vm.findClass R_D = some m.cls := findClass_of_methodNamed B.named
  have hlocks := B.notSynchronized
  have hD := kx_D.self hD0
  have hS : va_S (kx_A (wD a k5 P G J L)) s.heap s.heap [] := va_S.rf
  have hl := lv_entry ([.ref (a 0)]) (n := 1) (Nat.le_of_ble_eq_true rfl)
  rw [lg_entry_eq]
  generalize (lg_sl ([.ref (a 0)]) ++ List.replicate (1 - (lg_sl ([.ref (a 0)])).length) Slot.unset).toArray = ls at hl ⊢
  have hl : lv_has ls 1 [(0, .ref (a 0))] := hl
  refine lv_aload_n hx hb d_D_finishLabel_0 rfl (lv_at hl 0 rfl) ?_
  refine lv_ldc2 hx hb hown (hts _ wk_D_156) d_D_finishLabel_1 ?_
  refine kx_VW (w1 := (wD a k5 P G J ((pWrite P 6148914691236517205 w n L).1))) (As := [.long 6148914691236517205]) (rest := []) ⟨hx, hb, hml, hown, hts⟩ (k_D_writeLabel l dC dI k5 a P G J L 6148914691236517205 w hw hq n hn hn8) (cwV 1 hts (goodV wm_D_185 wn_D_writeLabel ws_D_writeLabel wi_D wc_D_writeLabel) rfl rfl rfl (by decide +kernel) ⟨Nat.le_of_ble_eq_true rfl, Nat.le_of_ble_eq_true rfl⟩) ⟨Nat.zero_le _, Nat.zero_le _⟩ hK hP hD hS 0 rfl rfl rfl rfl hl.1 rfl (Nat.le_of_ble_eq_true rfl) d_D_finishLabel_4 (fun H locs hP hD hS => ?_)
  refine W.eq (g2 := F0 m 7 ls []) rfl ?_
  refine lv_aload_n hx hb d_D_finishLabel_7 rfl (lv_at hl 0 rfl) ?_
  refine va_get (D := (dC, dI)) (ci := 2) (v := .ref (a 12)) (C := R_D) (T := T_D) (N := 9) hx hb hts wu_D hown hK hP 0 rfl rfl 5 (by decide) (hts _ wf_D_34) (fun _ h9 => h9) rfl d_D_finishLabel_8 ?_
  refine kx_V (ws2 := (wD a k5 P G J (pFinish P w n L))) (As := []) (rest := []) ⟨hx, hb, hml, hown, hts⟩ (k_L_draftCounts l dC dI k5 a ((pWrite P 6148914691236517205 w n L).1) ) (cwV 0 hts (goodV wm_D_188 wn_L_draftCounts ws_L_draftCounts wi_L wc_L_draftCounts) rfl rfl rfl (by decide +kernel) ⟨Nat.le_of_ble_eq_true rfl, Nat.le_of_ble_eq_true rfl⟩) ⟨Nat.zero_le _, Nat.zero_le _⟩ hK hP hD hS [12, 13, 14, 15, 16, 17, 18, 19, 20, 21, 22, 23] (by decide) rfl 0 rfl rfl rfl rfl rfl rfl hl.1 rfl (Nat.le_of_ble_eq_true rfl) d_D_finishLabel_11 (fun H locs hP hD hS => ?_)
  refine W.eq (g2 := F0 m 14 ls []) rfl ?_
  exact W.vret hx hb hr (fun t ht hW => kx_Qv ht hP (rfl) hS rfl) hS.2.2 d_D_finishLabel_14
set_option maxHeartbeats 4000000 in
set_option maxRecDepth 100000 in
theorem k_D_powerFailsInLabel (l : Launch) (dC : Nat → ClassId) (dI : Nat → Nat → Nat) (k5 : Nat → ClassId) (a : Nat → Nat) (P : PP) (G J : GG) (L : LL) (bits : Int64) (w : Nat) (hw : w = 0 ∨ w = 1) (hq : 1 - L.1 1 = nI w) (n : Nat) (hn : P.1 = nI n) (hn8 : n ≤ 8) : Met l y_D_powerFailsInLabel w_D_powerFailsInLabel ({ frames := 3, cells := 0, slots := 0, locals := 69 }) (kx_Pc (dC, dI) clA (tyL k5) (wD a k5 P G J L) [.ref (a 0), .long bits]) (kx_Q (dC, dI) clA (wD a k5 P G J L) (wD a k5 (pPow 0 P) (gClear G) J ((pWrite P bits w n L).1)) (some (.int (-2)))) 0 0 (kx_A (wD a k5 P G J L)) := by
  refine Met.ofW (cc := c_D_powerFailsInLabel) (maxL := 3) (ret := (some .int)) (by decide) rfl ?_
  intro p e s m args below meth c s₁ B hml hv
  obtain ⟨rfl, hP, hK, hD0⟩ := hv
  have hx := B.exec
  have hb := B.bytes
  have hr := B.returns
  have hts : ∀ w ∈ wsA, w.before _ s = true := fun w h => atoms_spec (ws := w_D_powerFailsInLabel) B.pre w (List.mem_cons_of_mem _ h)
  have hown : s.vm.findClass R_D = some m.cls := findClass_of_methodNamed B.named
  have hlocks := B.notSynchronized
  have hD := kx_D.self hD0
  have hS : va_S (kx_A (wD a k5 P G J L)) s.heap s.heap [] := va_S.rf
  have hl := lv_entry ([.ref (a 0), .long bits]) (n := 3) (Nat.le_of_ble_eq_true rfl)
  rw [lg_entry_eq]
  generalize (lg_sl ([.ref (a 0), .long bits]) ++ List.replicate (3 - (lg_sl ([.ref (a 0), .long bits])).length) Slot.unset).toArray = ls at hl ⊢
  have hl : lv_has ls 3 [(0, .ref (a 0)), (1, .long bits)] := hl
  refine lv_aload_n hx hb d_D_powerFailsInLabel_0 rfl (lv_at hl 0 rfl) ?_
  refine lv_lload_n hx hb d_D_powerFailsInLabel_1 rfl (lv_at hl 1 rfl) ?_
  refine kx_VW (w1 := (wD a k5 P G J ((pWrite P bits w n L).1))) (As := [.long bits]) (rest := []) ⟨hx, hb, hml, hown, hts⟩ (k_D_writeLabel l dC dI k5 a P G J L bits w hw hq n hn hn8) (cwV 1 hts (goodV wm_D_185 wn_D_writeLabel ws_D_writeLabel wi_D wc_D_writeLabel) rfl rfl rfl (by decide +kernel) ⟨Nat.le_of_ble_eq_true rfl, Nat.le_of_ble_eq_true rfl⟩) ⟨Nat.zero_le _, Nat.zero_le _⟩ hK hP hD hS 0 rfl rfl rfl rfl hl.1 rfl (Nat.le_of_ble_eq_true rfl) d_D_powerFailsInLabel_2 (fun H locs hP hD hS => ?_)
  refine W.eq (g2 := F0 m 5 ls []) rfl ?_
  refine lv_aload_n hx hb d_D_powerFailsInLabel_5 rfl (lv_at hl 0 rfl) ?_
  refine kx_VW (w1 := (wD a k5 (pPow 0 P) (gClear G) J ((pWrite P bits w n L).1))) (As := []) (rest := []) ⟨hx, hb, hml, hown, hts⟩ (k_D_powerFails l dC dI k5 a P G J (pWrite P bits w n L).1) (cwV 0 hts (goodV wm_D_87 wn_D_powerFails ws_D_powerFails wi_D wc_D_powerFails) rfl rfl rfl (by decide +kernel) ⟨Nat.le_of_ble_eq_true rfl, Nat.le_of_ble_eq_true rfl⟩) ⟨Nat.zero_le _, Nat.zero_le _⟩ hK hP hD hS 0 rfl rfl rfl rfl hl.1 rfl (Nat.le_of_ble_eq_true rfl) d_D_powerFailsInLabel_6 (fun H locs hP hD hS => ?_)
  refine W.eq (g2 := F0 m 9 ls [.int (-2)]) rfl ?_
  exact W.iret (v := (-2)) hx hb hr (fun t ht hW => kx_Qi (rfl) ht hP (rfl) hS rfl) hS.2.2 d_D_powerFailsInLabel_9
set_option maxHeartbeats 4000000 in
set_option maxRecDepth 100000 in
theorem k_D_takeMarksOfLabel (l : Launch) (dC : Nat → ClassId) (dI : Nat → Nat → Nat) (k5 : Nat → ClassId) (a : Nat → Nat) (P : PP) (G J : GG) (L : LL) (w : Nat) (hw : w = 0 ∨ w = 1) (hq : L.1 1 = nI w) (n : Nat) (hn : P.1 = nI n) (hn8 : n ≤ 8) : Met l y_D_takeMarksOfLabel w_D_takeMarksOfLabel ({ frames := 2, cells := 0, slots := 0, locals := 43 }) (kx_Pc (dC, dI) clA (tyL k5) (wD a k5 P G J L) [.ref (a 0)]) (kx_Q (dC, dI) clA (wD a k5 P G J L) (wD a k5 (pMark (pTake L w (pMk P) n) P) G J L) none) 0 0 (kx_A (wD a k5 P G J L)) := by
  refine Met.ofW (cc := c_D_takeMarksOfLabel) (maxL := 2) (ret := none) (by decide) rfl ?_
  intro p e s m args below meth c s₁ B hml hv
  obtain ⟨rfl, hP, hK, hD0⟩ := hv
  have hx := B.exec
  have hb := B.bytes
  have hr := B.returns
  have hts : ∀ w ∈ wsA, w.before _ s = true := fun w h => atoms_spec (ws := w_D_takeMarksOfLabel) B.pre w (List.mem_cons_of_mem _ h)
  have hown : s.vm.findClass R_D = some m.cls := findClass_of_methodNamed B.named
  have hlocks := B.notSynchronized
  have hD := kx_D.self hD0
  have hS : va_S (kx_A (wD a k5 P G J L)) s.heap s.heap [] := va_S.rf
  have hl := lv_entry ([.ref (a 0)]) (n := 2) (Nat.le_of_ble_eq_true rfl)
  rw [lg_entry_eq]
  generalize (lg_sl ([.ref (a 0)]) ++ List.replicate (2 - (lg_sl ([.ref (a 0)])).length) Slot.unset).toArray = ls at hl ⊢
  have hl : lv_has ls 2 [(0, .ref (a 0))] := hl
  refine lv_iconst (v := 0) hx hb d_D_takeMarksOfLabel_0 (by decide) ?_
  refine lv_istore_n (lv' := [(1, .int 0), (0, .ref (a 0))]) hx hb d_D_takeMarksOfLabel_1 rfl hl (by decide) rfl (fun ls hl => ?_)
  have lp : ∀ (q9 i : Nat) (H : Heap) (locs : List Loc) (ls : Array Slot), i + q9 = n → va_P (dC, dI) clA (wD a k5 (pMark (pTake L w (pMk P) i) P) G J L) H → va_D (kx_A (wD a k5 P G J L)) (wD a k5 (pMark (pTake L w (pMk P) i) P) G J L) → va_S (kx_A (wD a k5 P G J L)) s.heap H locs → lv_has ls 2 [(1, .int (nI i)), (0, .ref (a 0))] → W p l e (headSpec w_D_takeMarksOfLabel ({ frames := 2, cells := 0, slots := 0, locals := 43 })).room s m ([.ref (a 0)] : List Value).toArray below meth c H locs 0 0 (MQ below (kx_Q (dC, dI) clA (wD a k5 P G J L) (wD a k5 (pMark (pTake L w (pMk P) n) P) G J L) none) ([.ref (a 0)] : List Value).toArray s 0 0 (kx_A (wD a k5 P G J L))) (F0 m 2 ls []) := by
    intro q9
    induction q9 with
    | zero =>
      intro i H locs ls hi hP hD hS hl
      have hi : n = i := by omega
      subst hi
      refine lv_iload_n hx hb d_D_takeMarksOfLabel_2 rfl (lv_at hl 0 rfl) ?_
      refine lv_aload_n hx hb d_D_takeMarksOfLabel_3 rfl (lv_at hl 1 rfl) ?_
      refine va_get (D := (dC, dI)) (ci := 2) (v := .int ((pMark (pTake L w (pMk P) n) P).1)) (C := R_D) (T := T_D) (N := 9) hx hb hts wu_D hown hK hP 0 rfl rfl 6 (by decide) (hts _ wf_D_64) (fun _ h9 => h9) rfl d_D_takeMarksOfLabel_4 ?_
      refine lv_icmp_ge (tgt := 55) hx hb d_D_takeMarksOfLabel_7 (by decide) (fun hc => ?_) (fun hc => ?_)
      · exact W.vret hx hb hr (fun t ht hW => kx_Qv ht hP (rfl) hS rfl) hS.2.2 d_D_takeMarksOfLabel_55
      · exact absurd (by show P.1 ≤ _; rw [hn]; exact nI_le (by omega) (by omega)) hc
    | succ q9 ih =>
      intro i H locs ls hi hP hD hS hl
      refine lv_iload_n hx hb d_D_takeMarksOfLabel_2 rfl (lv_at hl 0 rfl) ?_
      refine lv_aload_n hx hb d_D_takeMarksOfLabel_3 rfl (lv_at hl 1 rfl) ?_
      refine va_get (D := (dC, dI)) (ci := 2) (v := .int ((pMark (pTake L w (pMk P) i) P).1)) (C := R_D) (T := T_D) (N := 9) hx hb hts wu_D hown hK hP 0 rfl rfl 6 (by decide) (hts _ wf_D_64) (fun _ h9 => h9) rfl d_D_takeMarksOfLabel_4 ?_
      refine lv_icmp_ge (tgt := 55) hx hb d_D_takeMarksOfLabel_7 (by decide) (fun hc => ?_) (fun hc => ?_)
      · exact absurd hc (by show ¬ P.1 ≤ _; rw [hn]; exact nI_ge (by omega) (by omega))
      · refine lv_aload_n hx hb d_D_takeMarksOfLabel_10 rfl (lv_at hl 1 rfl) ?_
        refine va_get (D := (dC, dI)) (ci := 2) (v := .ref (a 1)) (C := R_D) (T := T_D) (N := 9) hx hb hts wu_D hown hK hP 0 rfl rfl 0 (by decide) (hts _ wf_D_9) (fun _ h9 => h9) rfl d_D_takeMarksOfLabel_11 ?_
        refine lv_iload_n hx hb d_D_takeMarksOfLabel_14 rfl (lv_at hl 0 rfl) ?_
        refine kx_iald hx hb hK hP 1 0 rfl rfl i (rfl) (by omega) (by omega) d_D_takeMarksOfLabel_15 ?_
        refine lv_iconst (v := (-1)) hx hb d_D_takeMarksOfLabel_16 (by decide) ?_
        refine lv_icmp_eq (tgt := 49) hx hb d_D_takeMarksOfLabel_17 (by decide) (fun hd => ?_) (fun hd => ?_)
        · refine lv_iinc (v := nI (i + 1)) (lv' := [(1, .int (nI (i + 1))), (0, .ref (a 0))]) hx hb d_D_takeMarksOfLabel_49 hl (k := 0) rfl (nI_1 i) (by decide) rfl (fun ls hl => ?_)
          refine lv_goto (tgt := 2) hx hb d_D_takeMarksOfLabel_52 (by decide) ?_
          have e : (pTake L w (pMk P) (i + 1)) = (pTake L w (pMk P) i) := if_pos hd
          exact ih (i + 1) H locs ls (by omega) (by rw [e]; exact hP) (by rw [e]; exact hD) hS (lv_sub hl [0, 1] rfl)
        · refine lv_aload_n hx hb d_D_takeMarksOfLabel_20 rfl (lv_at hl 1 rfl) ?_
          refine va_get (D := (dC, dI)) (ci := 2) (v := .ref (a 1)) (C := R_D) (T := T_D) (N := 9) hx hb hts wu_D hown hK hP 0 rfl rfl 0 (by decide) (hts _ wf_D_9) (fun _ h9 => h9) rfl d_D_takeMarksOfLabel_21 ?_
          refine lv_iload_n hx hb d_D_takeMarksOfLabel_24 rfl (lv_at hl 0 rfl) ?_
          refine lv_aload_n hx hb d_D_takeMarksOfLabel_25 rfl (lv_at hl 1 rfl) ?_
          refine va_get (D := (dC, dI)) (ci := 2) (v := .ref (a 12)) (C := R_D) (T := T_D) (N := 9) hx hb hts wu_D hown hK hP 0 rfl rfl 5 (by decide) (hts _ wf_D_34) (fun _ h9 => h9) rfl d_D_takeMarksOfLabel_26 ?_
          refine lv_iload_n hx hb d_D_takeMarksOfLabel_29 rfl (lv_at hl 0 rfl) ?_
          refine kx_VR (As := [.int (nI i)]) (rest := [.int (nI i), .ref (a 1)]) ⟨hx, hb, hml, hown, hts⟩ (k_L_hasSome l dC dI k5 a L i (by omega)) (cwV 1 hts (goodV wm_D_198 wn_L_hasSome ws_L_hasSome wi_L wc_L_hasSome) rfl rfl rfl (by decide +kernel) ⟨Nat.le_of_ble_eq_true rfl, Nat.le_of_ble_eq_true rfl⟩) ⟨Nat.zero_le _, Nat.zero_le _⟩ hK hP hD [12, 13, 14, 15, 16, 17, 18, 19, 20, 21, 22, 23] (by decide) rfl 0 rfl rfl rfl hl.1 rfl (Nat.le_of_ble_eq_true rfl) d_D_takeMarksOfLabel_30 ?_
          refine W.eq (g2 := F0 m 33 ls [.int (bI (lSome i L)), .int (nI i), .ref (a 1)]) rfl ?_
          refine lv_if_eq (tgt := 47) hx hb d_D_takeMarksOfLabel_33 (by decide) (fun he => ?_) (fun he => ?_)
          · refine lv_iconst (v := 0) hx hb d_D_takeMarksOfLabel_47 (by decide) ?_
            refine kx_iast (ws' := (wD a k5 (pMark (upd (pTake L w (pMk P) i) i 0) P) G J L)) hx hb hK hP hD hS 1 0 rfl rfl i (rfl) (by omega) (by omega) rfl d_D_takeMarksOfLabel_48 (fun H locs hP hD hS => ?_)
            refine lv_iinc (v := nI (i + 1)) (lv' := [(1, .int (nI (i + 1))), (0, .ref (a 0))]) hx hb d_D_takeMarksOfLabel_49 hl (k := 0) rfl (nI_1 i) (by decide) rfl (fun ls hl => ?_)
            refine lv_goto (tgt := 2) hx hb d_D_takeMarksOfLabel_52 (by decide) ?_
            have e : (pTake L w (pMk P) (i + 1)) = upd (pTake L w (pMk P) i) i 0 := (if_neg hd).trans (by rw [if_neg (by rw [bI_f he]; exact Bool.false_ne_true)])
            exact ih (i + 1) H locs ls (by omega) (by rw [e]; exact hP) (by rw [e]; exact hD) hS (lv_sub hl [0, 1] rfl)
          · refine lv_aload_n hx hb d_D_takeMarksOfLabel_36 rfl (lv_at hl 1 rfl) ?_
            refine va_get (D := (dC, dI)) (ci := 2) (v := .ref (a 12)) (C := R_D) (T := T_D) (N := 9) hx hb hts wu_D hown hK hP 0 rfl rfl 5 (by decide) (hts _ wf_D_34) (fun _ h9 => h9) rfl d_D_takeMarksOfLabel_37 ?_
            refine lv_iload_n hx hb d_D_takeMarksOfLabel_40 rfl (lv_at hl 0 rfl) ?_
            refine kx_VR (As := [.int (nI i)]) (rest := [.int (nI i), .ref (a 1)]) ⟨hx, hb, hml, hown, hts⟩ (k_L_toldMark l dC dI k5 a L w hw hq i (by omega)) (cwV 1 hts (goodV wm_D_204 wn_L_toldMark ws_L_toldMark wi_L wc_L_toldMark) rfl rfl rfl (by decide +kernel) ⟨Nat.le_of_ble_eq_true rfl, Nat.le_of_ble_eq_true rfl⟩) ⟨Nat.zero_le _, Nat.zero_le _⟩ hK hP hD [12, 13, 14, 15, 16, 17, 18, 19, 20, 21, 22, 23] (by decide) rfl 0 rfl rfl rfl hl.1 rfl (Nat.le_of_ble_eq_true rfl) d_D_takeMarksOfLabel_41 ?_
            refine W.eq (g2 := F0 m 44 ls [.int (L.2 (4 + w) i), .int (nI i), .ref (a 1)]) rfl ?_
            refine lv_goto (tgt := 48) hx hb d_D_takeMarksOfLabel_44 (by decide) ?_
            refine kx_iast (ws' := (wD a k5 (pMark (upd (pTake L w (pMk P) i) i (L.2 (4 + w) i)) P) G J L)) hx hb hK hP hD hS 1 0 rfl rfl i (rfl) (by omega) (by omega) rfl d_D_takeMarksOfLabel_48 (fun H locs hP hD hS => ?_)
            refine lv_iinc (v := nI (i + 1)) (lv' := [(1, .int (nI (i + 1))), (0, .ref (a 0))]) hx hb d_D_takeMarksOfLabel_49 hl (k := 0) rfl (nI_1 i) (by decide) rfl (fun ls hl => ?_)
            refine lv_goto (tgt := 2) hx hb d_D_takeMarksOfLabel_52 (by decide) ?_
            have e : (pTake L w (pMk P) (i + 1)) = upd (pTake L w (pMk P) i) i (L.2 (4 + w) i) := (if_neg hd).trans (by rw [if_pos (bI_t he)])
            exact ih (i + 1) H locs ls (by omega) (by rw [e]; exact hP) (by rw [e]; exact hD) hS (lv_sub hl [0, 1] rfl)
  exact lp n 0 s.heap [] ls (by omega) hP hD hS (lv_sub hl [0, 1] rfl)
set_option maxHeartbeats 4000000 in
set_option maxRecDepth 100000 in
theorem k_D_canBeMissed (l : Launch) (dC : Nat → ClassId) (dI : Nat → Nat → Nat) (k5 : Nat → ClassId) (a : Nat → Nat) (P : PP) (G J : GG) (L : LL) (d : Nat) (hd : d < 8) (n : Nat) (hn : P.1 = nI n) (hn8 : n ≤ 8) (r : Nat) (er : P.2.1 = nI r) (hr2 : 2 ≤ r) (hr40 : r ≤ 40) : Met l y_D_canBeMissed w_D_canBeMissed ({ frames := 3, cells := 0, slots := 0, locals := 67 }) (kx_Pc (dC, dI) clA (tyL k5) (wD a k5 P G J L) [.ref (a 0), .int (nI d)]) (kx_R (some (.int (bI (pMiss P d n (r - 2)))))) 0 0 (fun _ => False) := by
  refine Met.ofW (cc := c_D_canBeMissed) (maxL := 3) (ret := (some .boolean)) (by decide) rfl ?_
  intro p e s m args below meth c s₁ B hml hv
  obtain ⟨rfl, hP, hK, hD0⟩ := hv
  have hx := B.exec
  have hb := B.bytes
  have hr := B.returns
  have hts : ∀ w ∈ wsA, w.before _ s = true := fun w h => atoms_spec (ws := w_D_canBeMissed) B.pre w (List.mem_cons_of_mem _ h)
  have hown : s.vm.findClass R_D = some m.cls := findClass_of_methodNamed B.named
  have hlocks := B.notSynchronized
  have hD := kx_D.self hD0
  have hS : va_S (kx_A (wD a k5 P G J L)) s.heap s.heap [] := va_S.rf
  have hl := lv_entry ([.ref (a 0), .int (nI d)]) (n := 3) (Nat.le_of_ble_eq_true rfl)
  rw [lg_entry_eq]
  generalize (lg_sl ([.ref (a 0), .int (nI d)]) ++ List.replicate (3 - (lg_sl ([.ref (a 0), .int (nI d)])).length) Slot.unset).toArray = ls at hl ⊢
  have hl : lv_has ls 3 [(0, .ref (a 0)), (1, .int (nI d))] := hl
  refine lv_iconst (v := 2) hx hb d_D_canBeMissed_0 (by decide) ?_
  refine lv_istore_n (lv' := [(2, .int 2), (0, .ref (a 0)), (1, .int (nI d))]) hx hb d_D_canBeMissed_1 rfl hl (by decide) rfl (fun ls hl => ?_)
  have lp : ∀ (q9 i : Nat) (ls : Array Slot), i + q9 = r - 2 → (pMiss P d n i = true) → lv_has ls 3 [(2, .int (nI (2 + i))), (0, .ref (a 0)), (1, .int (nI d))] → W p l e (headSpec w_D_canBeMissed ({ frames := 3, cells := 0, slots := 0, locals := 67 })).room s m ([.ref (a 0), .int (nI d)] : List Value).toArray below meth c s.heap [] 0 0 (MQ below (kx_R (some (.int (bI (pMiss P d n (r - 2)))))) ([.ref (a 0), .int (nI d)] : List Value).toArray s 0 0 (fun _ => False)) (F0 m 2 ls []) := by
    intro q9
    induction q9 with
    | zero =>
      intro i ls hi hm hl
      have hi : r - 2 = i := by omega
      subst hi
      refine lv_iload_n hx hb d_D_canBeMissed_2 rfl (lv_at hl 0 rfl) ?_
      refine lv_aload_n hx hb d_D_canBeMissed_3 rfl (lv_at hl 1 rfl) ?_
      refine va_get (D := (dC, dI)) (ci := 2) (v := .int (P.2.1)) (C := R_D) (T := T_D) (N := 9) hx hb hts wu_D hown hK hP 0 rfl rfl 7 (by decide) (hts _ wf_D_170) (fun _ h9 => h9) rfl d_D_canBeMissed_4 ?_
      refine lv_icmp_ge (tgt := 36) hx hb d_D_canBeMissed_7 (by decide) (fun hc => ?_) (fun hc => ?_)
      · refine lv_iconst (v := 1) hx hb d_D_canBeMissed_36 (by decide) ?_
        exact W.zret (v := 1) hx hb hr rfl (fun t ht hW => kx_Ri (by rw [hm]; rfl) ht) (fun _ h => absurd h List.not_mem_nil) d_D_canBeMissed_37
      · exact absurd (by rw [er]; exact nI_le (by omega) (by omega)) hc
    | succ q9 ih =>
      intro i ls hi hm hl
      refine lv_iload_n hx hb d_D_canBeMissed_2 rfl (lv_at hl 0 rfl) ?_
      refine lv_aload_n hx hb d_D_canBeMissed_3 rfl (lv_at hl 1 rfl) ?_
      refine va_get (D := (dC, dI)) (ci := 2) (v := .int (P.2.1)) (C := R_D) (T := T_D) (N := 9) hx hb hts wu_D hown hK hP 0 rfl rfl 7 (by decide) (hts _ wf_D_170) (fun _ h9 => h9) rfl d_D_canBeMissed_4 ?_
      refine lv_icmp_ge (tgt := 36) hx hb d_D_canBeMissed_7 (by decide) (fun hc => ?_) (fun hc => ?_)
      · exact absurd hc (by rw [er]; exact nI_ge (by omega) (by omega))
      · refine lv_aload_n hx hb d_D_canBeMissed_10 rfl (lv_at hl 1 rfl) ?_
        refine lv_iload_n hx hb d_D_canBeMissed_11 rfl (lv_at hl 2 rfl) ?_
        refine lv_iload_n hx hb d_D_canBeMissed_12 rfl (lv_at hl 0 rfl) ?_
        refine kx_VRW (As := [.int (nI d), .int (nI (2 + i))]) (rest := []) ⟨hx, hb, hml, hown, hts⟩ (k_D_isGone l dC dI k5 a P G J L d hd (nI (2 + i))) (cwV 2 hts (goodV wm_D_132 wn_D_isGone ws_D_isGone wi_D wc_D_isGone) rfl rfl rfl (by decide +kernel) ⟨Nat.le_of_ble_eq_true rfl, Nat.le_of_ble_eq_true rfl⟩) ⟨Nat.zero_le _, Nat.zero_le _⟩ hK hP hD 0 rfl rfl rfl hl.1 rfl (Nat.le_of_ble_eq_true rfl) d_D_canBeMissed_13 ?_
        refine W.eq (g2 := F0 m 16 ls [.int (bI (pGone P d (nI (2 + i))))]) rfl ?_
        refine lv_if_ne (tgt := 30) hx hb d_D_canBeMissed_16 (by decide) (fun hg => ?_) (fun hg => ?_)
        · refine lv_iinc (v := nI (2 + (i + 1))) (lv' := [(2, .int (nI (2 + (i + 1)))), (0, .ref (a 0)), (1, .int (nI d))]) hx hb d_D_canBeMissed_30 hl (k := 0) rfl (nI_1 (2 + i)) (by decide) rfl (fun ls hl => ?_)
          refine lv_goto (tgt := 2) hx hb d_D_canBeMissed_33 (by decide) ?_
          exact ih (i + 1) ls (by omega) (by rw [pMiss, hm, bI_t hg]; rfl) (lv_sub hl [0, 1, 2] rfl)
        · refine lv_aload_n hx hb d_D_canBeMissed_19 rfl (lv_at hl 1 rfl) ?_
          refine lv_iload_n hx hb d_D_canBeMissed_20 rfl (lv_at hl 0 rfl) ?_
          refine kx_VRW (As := [.int (nI (2 + i))]) (rest := []) ⟨hx, hb, hml, hown, hts⟩ (k_D_goneIn l dC dI k5 a P G J L (nI (2 + i)) n hn hn8) (cwV 1 hts (goodV wm_D_135 wn_D_goneIn ws_D_goneIn wi_D wc_D_goneIn) rfl rfl rfl (by decide +kernel) ⟨Nat.le_of_ble_eq_true rfl, Nat.le_of_ble_eq_true rfl⟩) ⟨Nat.zero_le _, Nat.zero_le _⟩ hK hP hD 0 rfl rfl rfl hl.1 rfl (Nat.le_of_ble_eq_true rfl) d_D_canBeMissed_21 ?_
          refine W.eq (g2 := F0 m 24 ls [.int (nI (pGoneIn P (nI (2 + i)) n))]) rfl ?_
          refine lv_iconst (v := 2) hx hb d_D_canBeMissed_24 (by decide) ?_
          refine lv_icmp_lt (tgt := 30) hx hb d_D_canBeMissed_25 (by decide) (fun hh => ?_) (fun hh => ?_)
          · refine lv_iinc (v := nI (2 + (i + 1))) (lv' := [(2, .int (nI (2 + (i + 1)))), (0, .ref (a 0)), (1, .int (nI d))]) hx hb d_D_canBeMissed_30 hl (k := 0) rfl (nI_1 (2 + i)) (by decide) rfl (fun ls hl => ?_)
            refine lv_goto (tgt := 2) hx hb d_D_canBeMissed_33 (by decide) ?_
            exact ih (i + 1) ls (by omega) (by rw [pMiss, hm, bI_f hg, decide_eq_true hh]; rfl) (lv_sub hl [0, 1, 2] rfl)
          · refine lv_iconst (v := 0) hx hb d_D_canBeMissed_28 (by decide) ?_
            exact W.zret (v := 0) hx hb hr rfl (fun t ht hW => kx_Ri (by rw [pMiss_f (m := i + 1) (by rw [pMiss, hm, bI_f hg, decide_eq_false hh]; rfl) (r - 2) (by omega)]; rfl) ht) (fun _ h => absurd h List.not_mem_nil) d_D_canBeMissed_29
  exact lp (r - 2) 0 ls (by omega) rfl (lv_sub hl [0, 1, 2] rfl)
set_option maxHeartbeats 4000000 in
set_option maxRecDepth 100000 in
theorem k_D_unitsOfJournal (l : Launch) (dC : Nat → ClassId) (dI : Nat → Nat → Nat) (k5 : Nat → ClassId) (a : Nat → Nat) (P : PP) (G J : GG) (L : LL) (n : Nat) (hn : P.1 = nI n) (hn8 : n ≤ 8) (hn4 : 4 ≤ n) (t : Nat) (ht : t ≤ 24) (et : J.1 = nI t) (hbl : ∀ j, j < t → J.2.2.1 j = nI (jBlk J j) ∧ jBlk J j < 204) (hrw : ∀ j, j < t → J.2.2.2.1 j = nI (jRow J j) ∧ jRow J j < 40) : Met l y_D_unitsOfJournal w_D_unitsOfJournal ({ frames := 2, cells := 0, slots := 0, locals := 43 }) (kx_Pc (dC, dI) clA (tyL k5) (wD a k5 P G J L) [.ref (a 0)]) (kx_R (some (.int (jU P J n t t)))) 0 0 (fun _ => False) := by
  refine Met.ofW (cc := c_D_unitsOfJournal) (maxL := 5) (ret := (some .int)) (by decide) rfl ?_
  intro p e s m args below meth c s₁ B hml hv
  obtain ⟨rfl, hP, hK, hD0⟩ := hv
  have hx := B.exec
  have hb := B.bytes
  have hr := B.returns
  have hts : ∀ w ∈ wsA, w.before _ s = true := fun w h => atoms_spec (ws := w_D_unitsOfJournal) B.pre w (List.mem_cons_of_mem _ h)
  have hown : s.vm.findClass R_D = some m.cls := findClass_of_methodNamed B.named
  have hlocks := B.notSynchronized
  have hD := kx_D.self hD0
  have hS : va_S (kx_A (wD a k5 P G J L)) s.heap s.heap [] := va_S.rf
  have hl := lv_entry ([.ref (a 0)]) (n := 5) (Nat.le_of_ble_eq_true rfl)
  rw [lg_entry_eq]
  generalize (lg_sl ([.ref (a 0)]) ++ List.replicate (5 - (lg_sl ([.ref (a 0)])).length) Slot.unset).toArray = ls at hl ⊢
  have hl : lv_has ls 5 [(0, .ref (a 0))] := hl
  refine lv_iconst (v := 0) hx hb d_D_unitsOfJournal_0 (by decide) ?_
  refine lv_istore_n (lv' := [(1, .int 0), (0, .ref (a 0))]) hx hb d_D_unitsOfJournal_1 rfl hl (by decide) rfl (fun ls hl => ?_)
  refine lv_iconst (v := 0) hx hb d_D_unitsOfJournal_2 (by decide) ?_
  refine lv_istore_n (lv' := [(2, .int 0), (1, .int 0), (0, .ref (a 0))]) hx hb d_D_unitsOfJournal_3 rfl hl (by decide) rfl (fun ls hl => ?_)
  have lp : ∀ (q9 i : Nat) (ls : Array Slot), i + q9 = t → lv_has ls 5 [(2, .int (nI i)), (1, .int (jU P J n t i)), (0, .ref (a 0))] → W p l e (headSpec w_D_unitsOfJournal ({ frames := 2, cells := 0, slots := 0, locals := 43 })).room s m ([.ref (a 0)] : List Value).toArray below meth c s.heap [] 0 0 (MQ below (kx_R (some (.int (jU P J n t t)))) ([.ref (a 0)] : List Value).toArray s 0 0 (fun _ => False)) (F0 m 4 ls []) := by
    intro q9
    induction q9 with
    | zero =>
      intro i ls hi hl
      have hi : t = i := by omega
      subst hi
      refine lv_iload_n hx hb d_D_unitsOfJournal_4 rfl (lv_at hl 0 rfl) ?_
      refine lv_aload_n hx hb d_D_unitsOfJournal_5 rfl (lv_at hl 2 rfl) ?_
      refine va_get (D := (dC, dI)) (ci := 2) (v := .ref (a 8)) (C := R_D) (T := T_D) (N := 9) hx hb hts wu_D hown hK hP 0 rfl rfl 4 (by decide) (hts _ wf_D_28) (fun _ h9 => h9) rfl d_D_unitsOfJournal_6 ?_
      refine kx_VR (As := []) (rest := [.int (nI t)]) ⟨hx, hb, hml, hown, hts⟩ (k_G_size l dC dI k5 (a 8) (a 9) (a 10) (a 11) J.1 J.2.1 J.2.2.1 J.2.2.2.1 J.2.2.2.2 ) (cwV 0 hts (goodV wm_D_112 wn_G_size ws_G_size wi_G wc_G_size) rfl rfl rfl (by decide +kernel) ⟨Nat.le_of_ble_eq_true rfl, Nat.le_of_ble_eq_true rfl⟩) ⟨Nat.zero_le _, Nat.zero_le _⟩ hK hP hD [8, 9, 10, 11] (by decide) rfl 0 rfl rfl rfl hl.1 rfl (Nat.le_of_ble_eq_true rfl) d_D_unitsOfJournal_9 ?_
      refine W.eq (g2 := F0 m 12 ls [.int J.1, .int (nI t)]) rfl ?_
      refine lv_icmp_ge (tgt := 86) hx hb d_D_unitsOfJournal_12 (by decide) (fun hc => ?_) (fun hc => ?_)
      · refine lv_iload_n hx hb d_D_unitsOfJournal_86 rfl (lv_at hl 1 rfl) ?_
        exact W.iret (v := (jU P J n t t)) hx hb hr (fun t ht hW => kx_Ri (rfl) ht) (fun _ h => absurd h List.not_mem_nil) d_D_unitsOfJournal_87
      · exact absurd (by rw [et]; exact nI_le (by omega) (by omega)) hc
    | succ q9 ih =>
      intro i ls hi hl
      refine lv_iload_n hx hb d_D_unitsOfJournal_4 rfl (lv_at hl 0 rfl) ?_
      refine lv_aload_n hx hb d_D_unitsOfJournal_5 rfl (lv_at hl 2 rfl) ?_
      refine va_get (D := (dC, dI)) (ci := 2) (v := .ref (a 8)) (C := R_D) (T := T_D) (N := 9) hx hb hts wu_D hown hK hP 0 rfl rfl 4 (by decide) (hts _ wf_D_28) (fun _ h9 => h9) rfl d_D_unitsOfJournal_6 ?_
      refine kx_VR (As := []) (rest := [.int (nI i)]) ⟨hx, hb, hml, hown, hts⟩ (k_G_size l dC dI k5 (a 8) (a 9) (a 10) (a 11) J.1 J.2.1 J.2.2.1 J.2.2.2.1 J.2.2.2.2 ) (cwV 0 hts (goodV wm_D_112 wn_G_size ws_G_size wi_G wc_G_size) rfl rfl rfl (by decide +kernel) ⟨Nat.le_of_ble_eq_true rfl, Nat.le_of_ble_eq_true rfl⟩) ⟨Nat.zero_le _, Nat.zero_le _⟩ hK hP hD [8, 9, 10, 11] (by decide) rfl 0 rfl rfl rfl hl.1 rfl (Nat.le_of_ble_eq_true rfl) d_D_unitsOfJournal_9 ?_
      refine W.eq (g2 := F0 m 12 ls [.int J.1, .int (nI i)]) rfl ?_
      refine lv_icmp_ge (tgt := 86) hx hb d_D_unitsOfJournal_12 (by decide) (fun hc => ?_) (fun hc => ?_)
      · exact absurd hc (by rw [et]; exact nI_ge (by omega) (by omega))
      · obtain ⟨hb1, hb2⟩ := hbl i (by omega)
        obtain ⟨hr1, hr2⟩ := hrw i (by omega)
        refine lv_aload_n hx hb d_D_unitsOfJournal_15 rfl (lv_at hl 2 rfl) ?_
        refine va_get (D := (dC, dI)) (ci := 2) (v := .ref (a 8)) (C := R_D) (T := T_D) (N := 9) hx hb hts wu_D hown hK hP 0 rfl rfl 4 (by decide) (hts _ wf_D_28) (fun _ h9 => h9) rfl d_D_unitsOfJournal_16 ?_
        refine lv_iload_n hx hb d_D_unitsOfJournal_19 rfl (lv_at hl 0 rfl) ?_
        refine kx_VR (As := [.int (nI i)]) (rest := []) ⟨hx, hb, hml, hown, hts⟩ (k_G_rowAt l dC dI k5 (a 8) (a 9) (a 10) (a 11) J.1 J.2.1 J.2.2.1 J.2.2.2.1 J.2.2.2.2 (nI i) i (by omega) rfl) (cwV 1 hts (goodV wm_D_207 wn_G_rowAt ws_G_rowAt wi_G wc_G_rowAt) rfl rfl rfl (by decide +kernel) ⟨Nat.le_of_ble_eq_true rfl, Nat.le_of_ble_eq_true rfl⟩) ⟨Nat.zero_le _, Nat.zero_le _⟩ hK hP hD [8, 9, 10, 11] (by decide) rfl 0 rfl rfl rfl hl.1 rfl (Nat.le_of_ble_eq_true rfl) d_D_unitsOfJournal_20 ?_
        refine W.eq (g2 := F0 m 23 ls [.int (J.2.2.2.1 i)]) rfl ?_
        rw [hr1]
        refine lv_istore_n (lv' := [(3, .int (nI (jRow J i))), (2, .int (nI i)), (1, .int (jU P J n t i)), (0, .ref (a 0))]) hx hb d_D_unitsOfJournal_23 rfl hl (by decide) rfl (fun ls hl => ?_)
        refine lv_aload_n hx hb d_D_unitsOfJournal_24 rfl (lv_at hl 3 rfl) ?_
        refine va_get (D := (dC, dI)) (ci := 2) (v := .ref (a 8)) (C := R_D) (T := T_D) (N := 9) hx hb hts wu_D hown hK hP 0 rfl rfl 4 (by decide) (hts _ wf_D_28) (fun _ h9 => h9) rfl d_D_unitsOfJournal_25 ?_
        refine lv_iload_n hx hb d_D_unitsOfJournal_28 rfl (lv_at hl 1 rfl) ?_
        refine kx_VR (As := [.int (nI i)]) (rest := []) ⟨hx, hb, hml, hown, hts⟩ (k_G_blockAt l dC dI k5 (a 8) (a 9) (a 10) (a 11) J.1 J.2.1 J.2.2.1 J.2.2.2.1 J.2.2.2.2 (nI i) i (by omega) rfl) (cwV 1 hts (goodV wm_D_210 wn_G_blockAt ws_G_blockAt wi_G wc_G_blockAt) rfl rfl rfl (by decide +kernel) ⟨Nat.le_of_ble_eq_true rfl, Nat.le_of_ble_eq_true rfl⟩) ⟨Nat.zero_le _, Nat.zero_le _⟩ hK hP hD [8, 9, 10, 11] (by decide) rfl 0 rfl rfl rfl hl.1 rfl (Nat.le_of_ble_eq_true rfl) d_D_unitsOfJournal_29 ?_
        refine W.eq (g2 := F0 m 32 ls [.int (J.2.2.1 i)]) rfl ?_
        rw [hb1]
        refine lv_aload_n hx hb d_D_unitsOfJournal_32 rfl (lv_at hl 3 rfl) ?_
        refine va_get (D := (dC, dI)) (ci := 2) (v := .int (P.1)) (C := R_D) (T := T_D) (N := 9) hx hb hts wu_D hown hK hP 0 rfl rfl 6 (by decide) (hts _ wf_D_64) (fun _ h9 => h9) rfl d_D_unitsOfJournal_33 ?_
        refine lv_iconst (v := 2) hx hb d_D_unitsOfJournal_36 (by decide) ?_
        refine lv_isub hx hb d_D_unitsOfJournal_37 ?_
        refine lv_irem hx hb d_D_unitsOfJournal_38 (by rw [hn, show (nI n - 2) = nI (n - 2) from pk_sub (a := n) (b := 2) (by omega)]; exact nI_ne0 (by omega) (by omega)) ?_
        rw [show (nI (jBlk J i) - nI (jBlk J i) / (P.1 - 2) * (P.1 - 2)) = nI (jBlk J i % (n - 2)) from by rw [hn, show (nI n - 2) = nI (n - 2) from pk_sub (a := n) (b := 2) (by omega)]; exact pk_rem (by omega) (by omega) (by omega)]
        have hmd : jBlk J i % (n - 2) < n - 2 := Nat.mod_lt _ (by omega)
        refine lv_istore (lv' := [(4, .int (nI (jBlk J i % (n - 2)))), (3, .int (nI (jRow J i))), (2, .int (nI i)), (1, .int (jU P J n t i)), (0, .ref (a 0))]) hx hb d_D_unitsOfJournal_39 hl (by decide) rfl (fun ls hl => ?_)
        refine lv_iload_n hx hb d_D_unitsOfJournal_41 rfl (lv_at hl 3 rfl) ?_
        refine lv_aload_n hx hb d_D_unitsOfJournal_42 rfl (lv_at hl 4 rfl) ?_
        refine lv_iload_n hx hb d_D_unitsOfJournal_43 rfl (lv_at hl 1 rfl) ?_
        refine lv_iconst (v := 2) hx hb d_D_unitsOfJournal_44 (by decide) ?_
        refine lv_iload hx hb d_D_unitsOfJournal_45 (lv_at hl 0 rfl) ?_
        refine lv_iadd hx hb d_D_unitsOfJournal_47 ?_
        rw [show (2 + nI (jBlk J i % (n - 2))) = nI (2 + jBlk J i % (n - 2)) from nI_add 2 _]
        refine kx_VRW (As := [.int (nI (jRow J i)), .int (nI (2 + jBlk J i % (n - 2)))]) (rest := [.int (jU P J n t i)]) ⟨hx, hb, hml, hown, hts⟩ (k_D_takesUnit l dC dI k5 a P G J L (nI (jRow J i)) (nI (2 + jBlk J i % (n - 2))) ((jRow J i + (2 + jBlk J i % (n - 2))) % n) (by have := Nat.mod_lt (jRow J i + (2 + jBlk J i % (n - 2))) (show 0 < n by omega); omega) (by rw [hn]; exact nI_ne0 (by omega) (by omega)) (by rw [hn, show (nI (jRow J i) + (nI (2 + jBlk J i % (n - 2)))) = nI (jRow J i + (2 + jBlk J i % (n - 2))) from nI_add _ _]; exact pk_rem (by omega) (by omega) (by omega))) (cwV 2 hts (goodV wm_D_213 wn_D_takesUnit ws_D_takesUnit wi_D wc_D_takesUnit) rfl rfl rfl (by decide +kernel) ⟨Nat.le_of_ble_eq_true rfl, Nat.le_of_ble_eq_true rfl⟩) ⟨Nat.zero_le _, Nat.zero_le _⟩ hK hP hD 0 rfl rfl rfl hl.1 rfl (Nat.le_of_ble_eq_true rfl) d_D_unitsOfJournal_48 ?_
        refine W.eq (g2 := F0 m 51 ls [.int (tU P n (jRow J i) (2 + jBlk J i % (n - 2))), .int (jU P J n t i)]) rfl ?_
        refine lv_iadd hx hb d_D_unitsOfJournal_51 ?_
        refine lv_istore_n (lv' := [(1, .int ((jU P J n t i) + (tU P n (jRow J i) (2 + jBlk J i % (n - 2))))), (4, .int (nI (jBlk J i % (n - 2)))), (3, .int (nI (jRow J i))), (2, .int (nI i)), (0, .ref (a 0))]) hx hb d_D_unitsOfJournal_52 rfl hl (by decide) rfl (fun ls hl => ?_)
        refine lv_aload_n hx hb d_D_unitsOfJournal_53 rfl (lv_at hl 4 rfl) ?_
        refine va_get (D := (dC, dI)) (ci := 2) (v := .ref (a 8)) (C := R_D) (T := T_D) (N := 9) hx hb hts wu_D hown hK hP 0 rfl rfl 4 (by decide) (hts _ wf_D_28) (fun _ h9 => h9) rfl d_D_unitsOfJournal_54 ?_
        refine lv_iload_n hx hb d_D_unitsOfJournal_57 rfl (lv_at hl 3 rfl) ?_
        refine kx_VR (As := [.int (nI i)]) (rest := []) ⟨hx, hb, hml, hown, hts⟩ (k_G_isFirstOfRow l dC dI k5 (a 8) (a 9) (a 10) (a 11) J.1 J.2.1 J.2.2.1 J.2.2.2.1 J.2.2.2.2 t i ht (by omega) et) (cwV 1 hts (goodV wm_D_216 wn_G_isFirstOfRow ws_G_isFirstOfRow wi_G wc_G_isFirstOfRow) rfl rfl rfl (by decide +kernel) ⟨Nat.le_of_ble_eq_true rfl, Nat.le_of_ble_eq_true rfl⟩) ⟨Nat.zero_le _, Nat.zero_le _⟩ hK hP hD [8, 9, 10, 11] (by decide) rfl 0 rfl rfl rfl hl.1 rfl (Nat.le_of_ble_eq_true rfl) d_D_unitsOfJournal_58 ?_
        refine W.eq (g2 := F0 m 61 ls [.int (bI (decide (oI (gFind J.2.2.2.1 (J.2.2.2.1 i) t) = nI i)))]) rfl ?_
        refine lv_if_eq (tgt := 80) hx hb d_D_unitsOfJournal_61 (by decide) (fun hf => ?_) (fun hf => ?_)
        · refine lv_iinc (v := nI (i + 1)) (lv' := [(2, .int (nI (i + 1))), (1, .int ((jU P J n t i) + (tU P n (jRow J i) (2 + jBlk J i % (n - 2))))), (4, .int (nI (jBlk J i % (n - 2)))), (3, .int (nI (jRow J i))), (0, .ref (a 0))]) hx hb d_D_unitsOfJournal_80 hl (k := 3) rfl (nI_1 i) (by decide) rfl (fun ls hl => ?_)
          refine lv_goto (tgt := 4) hx hb d_D_unitsOfJournal_83 (by decide) ?_
          exact ih (i + 1) ls (by omega) (by rw [show jU P J n t (i + 1) = jU P J n t i + tU P n (jRow J i) (2 + jBlk J i % (n - 2)) from if_neg (of_decide_eq_false (bI_f hf))]; exact (lv_sub hl [0, 1, 4] rfl))
        · refine lv_iload_n hx hb d_D_unitsOfJournal_64 rfl (lv_at hl 0 rfl) ?_
          refine lv_aload_n hx hb d_D_unitsOfJournal_65 rfl (lv_at hl 4 rfl) ?_
          refine lv_iload_n hx hb d_D_unitsOfJournal_66 rfl (lv_at hl 2 rfl) ?_
          refine lv_iconst (v := 0) hx hb d_D_unitsOfJournal_67 (by decide) ?_
          refine kx_VRW (As := [.int (nI (jRow J i)), .int 0]) (rest := [.int ((jU P J n t i) + (tU P n (jRow J i) (2 + jBlk J i % (n - 2))))]) ⟨hx, hb, hml, hown, hts⟩ (k_D_takesUnit l dC dI k5 a P G J L (nI (jRow J i)) 0 ((jRow J i + 0) % n) (by have := Nat.mod_lt (jRow J i + 0) (show 0 < n by omega); omega) (by rw [hn]; exact nI_ne0 (by omega) (by omega)) (by rw [hn, show (nI (jRow J i) + 0) = nI (jRow J i + 0) from nI_add _ _]; exact pk_rem (by omega) (by omega) (by omega))) (cwV 2 hts (goodV wm_D_213 wn_D_takesUnit ws_D_takesUnit wi_D wc_D_takesUnit) rfl rfl rfl (by decide +kernel) ⟨Nat.le_of_ble_eq_true rfl, Nat.le_of_ble_eq_true rfl⟩) ⟨Nat.zero_le _, Nat.zero_le _⟩ hK hP hD 0 rfl rfl rfl hl.1 rfl (Nat.le_of_ble_eq_true rfl) d_D_unitsOfJournal_68 ?_
          refine W.eq (g2 := F0 m 71 ls [.int (tU P n (jRow J i) 0), .int ((jU P J n t i) + (tU P n (jRow J i) (2 + jBlk J i % (n - 2))))]) rfl ?_
          refine lv_aload_n hx hb d_D_unitsOfJournal_71 rfl (lv_at hl 4 rfl) ?_
          refine lv_iload_n hx hb d_D_unitsOfJournal_72 rfl (lv_at hl 2 rfl) ?_
          refine lv_iconst (v := 1) hx hb d_D_unitsOfJournal_73 (by decide) ?_
          refine kx_VRW (As := [.int (nI (jRow J i)), .int 1]) (rest := [.int (tU P n (jRow J i) 0), .int ((jU P J n t i) + (tU P n (jRow J i) (2 + jBlk J i % (n - 2))))]) ⟨hx, hb, hml, hown, hts⟩ (k_D_takesUnit l dC dI k5 a P G J L (nI (jRow J i)) 1 ((jRow J i + 1) % n) (by have := Nat.mod_lt (jRow J i + 1) (show 0 < n by omega); omega) (by rw [hn]; exact nI_ne0 (by omega) (by omega)) (by rw [hn, show (nI (jRow J i) + 1) = nI (jRow J i + 1) from nI_add _ _]; exact pk_rem (by omega) (by omega) (by omega))) (cwV 2 hts (goodV wm_D_213 wn_D_takesUnit ws_D_takesUnit wi_D wc_D_takesUnit) rfl rfl rfl (by decide +kernel) ⟨Nat.le_of_ble_eq_true rfl, Nat.le_of_ble_eq_true rfl⟩) ⟨Nat.zero_le _, Nat.zero_le _⟩ hK hP hD 0 rfl rfl rfl hl.1 rfl (Nat.le_of_ble_eq_true rfl) d_D_unitsOfJournal_74 ?_
          refine W.eq (g2 := F0 m 77 ls [.int (tU P n (jRow J i) 1), .int (tU P n (jRow J i) 0), .int ((jU P J n t i) + (tU P n (jRow J i) (2 + jBlk J i % (n - 2))))]) rfl ?_
          refine lv_iadd hx hb d_D_unitsOfJournal_77 ?_
          refine lv_iadd hx hb d_D_unitsOfJournal_78 ?_
          refine lv_istore_n (lv' := [(1, .int (((jU P J n t i) + (tU P n (jRow J i) (2 + jBlk J i % (n - 2)))) + ((tU P n (jRow J i) 0) + (tU P n (jRow J i) 1)))), (4, .int (nI (jBlk J i % (n - 2)))), (3, .int (nI (jRow J i))), (2, .int (nI i)), (0, .ref (a 0))]) hx hb d_D_unitsOfJournal_79 rfl hl (by decide) rfl (fun ls hl => ?_)
          refine lv_iinc (v := nI (i + 1)) (lv' := [(2, .int (nI (i + 1))), (1, .int (((jU P J n t i) + (tU P n (jRow J i) (2 + jBlk J i % (n - 2)))) + ((tU P n (jRow J i) 0) + (tU P n (jRow J i) 1)))), (4, .int (nI (jBlk J i % (n - 2)))), (3, .int (nI (jRow J i))), (0, .ref (a 0))]) hx hb d_D_unitsOfJournal_80 hl (k := 3) rfl (nI_1 i) (by decide) rfl (fun ls hl => ?_)
          refine lv_goto (tgt := 4) hx hb d_D_unitsOfJournal_83 (by decide) ?_
          exact ih (i + 1) ls (by omega) (by rw [show jU P J n t (i + 1) = (jU P J n t i + tU P n (jRow J i) (2 + jBlk J i % (n - 2))) + (tU P n (jRow J i) 0 + tU P n (jRow J i) 1) from if_pos (of_decide_eq_true (bI_t hf))]; exact (lv_sub hl [0, 1, 4] rfl))
  exact lp t 0 ls (by omega) (lv_sub hl [0, 1, 2] rfl)
end
section
set_option maxHeartbeats 4000000 in
set_option maxRecDepth 100000 in
theorem k_L_findCounting (l : Launch) (dC : Nat → ClassId) (dI : Nat → Nat → Nat) (k5 : Nat → ClassId) (a : Nat → Nat) (L : LL) : Met l y_L_findCounting w_L_findCounting ({ frames := 1, cells := 0, slots := 0, locals := 22 }) (kx_Pc (dC, dI) clA (tyL k5) (wL a k5 L) [.ref (a 12)]) (kx_Q (dC, dI) clA (wL a k5 L) (wL a k5 (lFind L)) none) 0 0 (kx_A (wL a k5 L)) := by
  refine Met.ofW (cc := c_L_findCounting) (maxL := 4) (ret := none) (by decide) rfl ?_
  intro p e s m args below meth c s₁ B hml hv
  obtain ⟨rfl, hP, hK, hD0⟩ := hv
  have hx := B.exec
  have hb := B.bytes
  have hr := B.returns
  have hts : ∀ w ∈ wsA, w.before _ s = true := fun w h => atoms_spec (ws := w_L_findCounting) B.pre w (List.mem_cons_of_mem _ h)
  have hown : s.vm.findClass R_L = some m.cls := findClass_of_methodNamed B.named
  have hlocks := B.notSynchronized
  have hD := kx_D.self hD0
  have hS : va_S (kx_A (wL a k5 L)) s.heap s.heap [] := va_S.rf
  have hl := lv_entry ([.ref (a 12)]) (n := 4) (Nat.le_of_ble_eq_true rfl)
  rw [lg_entry_eq]
  generalize (lg_sl ([.ref (a 12)]) ++ List.replicate (4 - (lg_sl ([.ref (a 12)])).length) Slot.unset).toArray = ls at hl ⊢
  have hl : lv_has ls 4 [(0, .ref (a 12))] := hl
  have lp1 : ∀ (q9 i : Nat) (H : Heap) (locs : List Loc) (ls : Array Slot), i + q9 = 8 → va_P (dC, dI) clA (wL a k5 (va_up L.1 1 (lScan L 1 i (lScan L 0 8 (0, L.1 1))).2, L.2)) H → va_D (kx_A (wL a k5 L)) (wL a k5 (va_up L.1 1 (lScan L 1 i (lScan L 0 8 (0, L.1 1))).2, L.2)) → va_S (kx_A (wL a k5 L)) s.heap H locs → lv_has ls 4 [(3, .int (nI i)), (2, .int 1), (1, .int ((lScan L 1 i (lScan L 0 8 (0, L.1 1))).1)), (0, .ref (a 12))] → W p l e (headSpec w_L_findCounting ({ frames := 1, cells := 0, slots := 0, locals := 22 })).room s m ([.ref (a 12)] : List Value).toArray below meth c H locs 0 0 (MQ below (kx_Q (dC, dI) clA (wL a k5 L) (wL a k5 (lFind L)) none) ([.ref (a 12)] : List Value).toArray s 0 0 (kx_A (wL a k5 L))) (F0 m 11 ls []) := by
    intro q9
    induction q9 with
    | zero =>
      intro i H locs ls hi hP hD hS hl
      have hi : 8 = i := by omega
      subst hi
      refine lv_iload_n hx hb d_L_findCounting_11 rfl (lv_at hl 0 rfl) ?_
      refine lv_bipush (v := 8) hx hb d_L_findCounting_12 (by decide) ?_
      refine lv_icmp_ge (tgt := 58) hx hb d_L_findCounting_14 (by decide) (fun hc => ?_) (fun hc => ?_)
      · refine lv_iinc (v := 2) (lv' := [(2, .int 2), (3, .int (nI 8)), (1, .int ((lScan L 1 8 (lScan L 0 8 (0, L.1 1))).1)), (0, .ref (a 12))]) hx hb d_L_findCounting_58 hl (k := 1) rfl (by decide) (by decide) rfl (fun ls hl => ?_)
        refine lv_goto (tgt := 4) hx hb d_L_findCounting_61 (by decide) ?_
        refine lv_iload_n hx hb d_L_findCounting_4 rfl (lv_at hl 0 rfl) ?_
        refine lv_iconst (v := 2) hx hb d_L_findCounting_5 (by decide) ?_
        refine lv_icmp_ge (tgt := 64) hx hb d_L_findCounting_6 (by decide) (fun hc_1 => ?_) (fun hc_1 => ?_)
        · exact W.vret hx hb hr (fun t ht hW => kx_Qv ht hP (rfl) hS rfl) hS.2.2 d_L_findCounting_64
        · exact absurd hc_1 (by decide)
      · exact absurd (by rw [show (8 : Int32) = nI 8 from rfl]; exact nI_le (by omega) (by omega)) hc
    | succ q9 ih =>
      intro i H locs ls hi hP hD hS hl
      refine lv_iload_n hx hb d_L_findCounting_11 rfl (lv_at hl 0 rfl) ?_
      refine lv_bipush (v := 8) hx hb d_L_findCounting_12 (by decide) ?_
      refine lv_icmp_ge (tgt := 58) hx hb d_L_findCounting_14 (by decide) (fun hc => ?_) (fun hc => ?_)
      · exact absurd hc (by rw [show (8 : Int32) = nI 8 from rfl]; exact nI_ge (by omega) (by omega))
      · refine lv_aload_n hx hb d_L_findCounting_17 rfl (lv_at hl 3 rfl) ?_
        refine lv_iload_n hx hb d_L_findCounting_18 rfl (lv_at hl 1 rfl) ?_
        refine lv_iload_n hx hb d_L_findCounting_19 rfl (lv_at hl 0 rfl) ?_
        refine kx_VRW (As := [.int (nI 1), .int (nI i)]) (rest := []) ⟨hx, hb, hml, hown, hts⟩ (k_L_has l dC dI k5 a (va_up L.1 1 (lScan L 1 i (lScan L 0 8 (0, L.1 1))).2, L.2) 1 (by decide) i (by omega)) (cwV 2 hts (goodV wm_L_47 wn_L_has ws_L_has wi_L wc_L_has) rfl rfl rfl (by decide +kernel) ⟨Nat.le_of_ble_eq_true rfl, Nat.le_of_ble_eq_true rfl⟩) ⟨Nat.zero_le _, Nat.zero_le _⟩ hK hP hD 0 rfl rfl rfl hl.1 rfl (Nat.le_of_ble_eq_true rfl) d_L_findCounting_20 ?_
        refine W.eq (g2 := F0 m 23 ls [.int (bI (lHas 1 i L))]) rfl ?_
        refine lv_if_eq (tgt := 52) hx hb d_L_findCounting_23 (by decide) (fun hd => ?_) (fun hd => ?_)
        · refine lv_iinc (v := nI (i + 1)) (lv' := [(3, .int (nI (i + 1))), (2, .int 1), (1, .int ((lScan L 1 i (lScan L 0 8 (0, L.1 1))).1)), (0, .ref (a 12))]) hx hb d_L_findCounting_52 hl (k := 0) rfl (nI_1 i) (by decide) rfl (fun ls hl => ?_)
          refine lv_goto (tgt := 11) hx hb d_L_findCounting_55 (by decide) ?_
          have e : (lScan L 1 (i + 1) (lScan L 0 8 (0, L.1 1))) = (lScan L 1 i (lScan L 0 8 (0, L.1 1))) := if_neg (fun z => by rw [bI_f hd] at z; exact absurd z.1 Bool.false_ne_true)
          exact ih (i + 1) H locs ls (by omega) (by rw [e]; exact hP) (by rw [e]; exact hD) hS (by rw [e]; exact (lv_sub hl [0, 1, 2, 3] rfl))
        · refine lv_aload_n hx hb d_L_findCounting_26 rfl (lv_at hl 3 rfl) ?_
          refine va_get (D := (dC, dI)) (ci := 1) (v := .ref (a 13)) (C := R_L) (T := T_L) (N := 7) hx hb hts wu_L hown hK hP 0 rfl rfl 0 (by decide) (hts _ wf_L_11) (fun _ h9 => h9) rfl d_L_findCounting_27 ?_
          refine lv_iload_n hx hb d_L_findCounting_30 rfl (lv_at hl 1 rfl) ?_
          refine kx_aald hx hb hK hP 1 4 rfl rfl 1 (by decide) (by omega) (by omega) (v := (a 19)) rfl d_L_findCounting_31 ?_
          refine lv_iload_n hx hb d_L_findCounting_32 rfl (lv_at hl 0 rfl) ?_
          refine kx_iald hx hb hK hP 7 0 rfl rfl i (rfl) (by omega) (by omega) d_L_findCounting_33 ?_
          refine lv_iload_n hx hb d_L_findCounting_34 rfl (lv_at hl 2 rfl) ?_
          refine lv_icmp_le (tgt := 52) hx hb d_L_findCounting_35 (by decide) (fun he => ?_) (fun he => ?_)
          · refine lv_iinc (v := nI (i + 1)) (lv' := [(3, .int (nI (i + 1))), (2, .int 1), (1, .int ((lScan L 1 i (lScan L 0 8 (0, L.1 1))).1)), (0, .ref (a 12))]) hx hb d_L_findCounting_52 hl (k := 0) rfl (nI_1 i) (by decide) rfl (fun ls hl => ?_)
            refine lv_goto (tgt := 11) hx hb d_L_findCounting_55 (by decide) ?_
            have e : (lScan L 1 (i + 1) (lScan L 0 8 (0, L.1 1))) = (lScan L 1 i (lScan L 0 8 (0, L.1 1))) := if_neg (fun z => absurd z.2 (Int32.not_lt.mpr he))
            exact ih (i + 1) H locs ls (by omega) (by rw [e]; exact hP) (by rw [e]; exact hD) hS (by rw [e]; exact (lv_sub hl [0, 1, 2, 3] rfl))
          · refine lv_aload_n hx hb d_L_findCounting_38 rfl (lv_at hl 3 rfl) ?_
            refine va_get (D := (dC, dI)) (ci := 1) (v := .ref (a 13)) (C := R_L) (T := T_L) (N := 7) hx hb hts wu_L hown hK hP 0 rfl rfl 0 (by decide) (hts _ wf_L_11) (fun _ h9 => h9) rfl d_L_findCounting_39 ?_
            refine lv_iload_n hx hb d_L_findCounting_42 rfl (lv_at hl 1 rfl) ?_
            refine kx_aald hx hb hK hP 1 4 rfl rfl 1 (by decide) (by omega) (by omega) (v := (a 19)) rfl d_L_findCounting_43 ?_
            refine lv_iload_n hx hb d_L_findCounting_44 rfl (lv_at hl 0 rfl) ?_
            refine kx_iald hx hb hK hP 7 0 rfl rfl i (rfl) (by omega) (by omega) d_L_findCounting_45 ?_
            refine lv_istore_n (lv' := [(1, .int (((va_up L.1 1 (lScan L 1 i (lScan L 0 8 (0, L.1 1))).2, L.2).2 1) i)), (3, .int (nI i)), (2, .int 1), (0, .ref (a 12))]) hx hb d_L_findCounting_46 rfl hl (by decide) rfl (fun ls hl => ?_)
            refine lv_aload_n hx hb d_L_findCounting_47 rfl (lv_at hl 3 rfl) ?_
            refine lv_iload_n hx hb d_L_findCounting_48 rfl (lv_at hl 2 rfl) ?_
            refine kx_put (ws' := (wL a k5 (va_up L.1 1 (nI 1), L.2))) (D := (dC, dI)) (ci := 1) (v := .int 1) (ty := .int) (C := R_L) (T := T_L) (N := 7) hx hb hts wu_L ty_L ok_L nm_L hown hK hP hD hS 0 rfl rfl 6 (by decide) (hts _ wf_L_30) (fun _ h9 => h9) rfl (by decide +kernel) rfl rfl (Nat.le_of_ble_eq_true rfl) rfl d_L_findCounting_49 (fun H locs hP hD hS => ?_)
            refine lv_iinc (v := nI (i + 1)) (lv' := [(3, .int (nI (i + 1))), (1, .int (((va_up L.1 1 (lScan L 1 i (lScan L 0 8 (0, L.1 1))).2, L.2).2 1) i)), (2, .int 1), (0, .ref (a 12))]) hx hb d_L_findCounting_52 hl (k := 1) rfl (nI_1 i) (by decide) rfl (fun ls hl => ?_)
            refine lv_goto (tgt := 11) hx hb d_L_findCounting_55 (by decide) ?_
            have e : (lScan L 1 (i + 1) (lScan L 0 8 (0, L.1 1))) = (L.2 1 i, nI 1) := if_pos ⟨bI_t hd, Int32.not_le.mp he⟩
            exact ih (i + 1) H locs ls (by omega) (by rw [e]; exact hP) (by rw [e]; exact hD) hS (by rw [e]; exact (lv_sub hl [0, 2, 1, 3] rfl))
  have lp0 : ∀ (q9 i : Nat) (H : Heap) (locs : List Loc) (ls : Array Slot), i + q9 = 8 → va_P (dC, dI) clA (wL a k5 (va_up L.1 1 (lScan L 0 i (0, L.1 1)).2, L.2)) H → va_D (kx_A (wL a k5 L)) (wL a k5 (va_up L.1 1 (lScan L 0 i (0, L.1 1)).2, L.2)) → va_S (kx_A (wL a k5 L)) s.heap H locs → lv_has ls 4 [(3, .int (nI i)), (2, .int 0), (1, .int ((lScan L 0 i (0, L.1 1)).1)), (0, .ref (a 12))] → W p l e (headSpec w_L_findCounting ({ frames := 1, cells := 0, slots := 0, locals := 22 })).room s m ([.ref (a 12)] : List Value).toArray below meth c H locs 0 0 (MQ below (kx_Q (dC, dI) clA (wL a k5 L) (wL a k5 (lFind L)) none) ([.ref (a 12)] : List Value).toArray s 0 0 (kx_A (wL a k5 L))) (F0 m 11 ls []) := by
    intro q9
    induction q9 with
    | zero =>
      intro i H locs ls hi hP hD hS hl
      have hi : 8 = i := by omega
      subst hi
      refine lv_iload_n hx hb d_L_findCounting_11 rfl (lv_at hl 0 rfl) ?_
      refine lv_bipush (v := 8) hx hb d_L_findCounting_12 (by decide) ?_
      refine lv_icmp_ge (tgt := 58) hx hb d_L_findCounting_14 (by decide) (fun hc => ?_) (fun hc => ?_)
      · refine lv_iinc (v := 1) (lv' := [(2, .int 1), (3, .int (nI 8)), (1, .int ((lScan L 0 8 (0, L.1 1)).1)), (0, .ref (a 12))]) hx hb d_L_findCounting_58 hl (k := 1) rfl (by decide) (by decide) rfl (fun ls hl => ?_)
        refine lv_goto (tgt := 4) hx hb d_L_findCounting_61 (by decide) ?_
        refine lv_iload_n hx hb d_L_findCounting_4 rfl (lv_at hl 0 rfl) ?_
        refine lv_iconst (v := 2) hx hb d_L_findCounting_5 (by decide) ?_
        refine lv_icmp_ge (tgt := 64) hx hb d_L_findCounting_6 (by decide) (fun hc_2 => ?_) (fun hc_2 => ?_)
        · exact absurd hc_2 (by decide)
        · refine lv_iconst (v := 0) hx hb d_L_findCounting_9 (by decide) ?_
          refine lv_istore_n (lv' := [(3, .int 0), (2, .int 1), (1, .int ((lScan L 0 8 (0, L.1 1)).1)), (0, .ref (a 12))]) hx hb d_L_findCounting_10 rfl hl (by decide) rfl (fun ls hl => ?_)
          exact lp1 8 0 H locs ls (by omega) hP hD hS (lv_sub hl [0, 1, 2, 3] rfl)
      · exact absurd (by rw [show (8 : Int32) = nI 8 from rfl]; exact nI_le (by omega) (by omega)) hc
    | succ q9 ih =>
      intro i H locs ls hi hP hD hS hl
      refine lv_iload_n hx hb d_L_findCounting_11 rfl (lv_at hl 0 rfl) ?_
      refine lv_bipush (v := 8) hx hb d_L_findCounting_12 (by decide) ?_
      refine lv_icmp_ge (tgt := 58) hx hb d_L_findCounting_14 (by decide) (fun hc => ?_) (fun hc => ?_)
      · exact absurd hc (by rw [show (8 : Int32) = nI 8 from rfl]; exact nI_ge (by omega) (by omega))
      · refine lv_aload_n hx hb d_L_findCounting_17 rfl (lv_at hl 3 rfl) ?_
        refine lv_iload_n hx hb d_L_findCounting_18 rfl (lv_at hl 1 rfl) ?_
        refine lv_iload_n hx hb d_L_findCounting_19 rfl (lv_at hl 0 rfl) ?_
        refine kx_VRW (As := [.int (nI 0), .int (nI i)]) (rest := []) ⟨hx, hb, hml, hown, hts⟩ (k_L_has l dC dI k5 a (va_up L.1 1 (lScan L 0 i (0, L.1 1)).2, L.2) 0 (by decide) i (by omega)) (cwV 2 hts (goodV wm_L_47 wn_L_has ws_L_has wi_L wc_L_has) rfl rfl rfl (by decide +kernel) ⟨Nat.le_of_ble_eq_true rfl, Nat.le_of_ble_eq_true rfl⟩) ⟨Nat.zero_le _, Nat.zero_le _⟩ hK hP hD 0 rfl rfl rfl hl.1 rfl (Nat.le_of_ble_eq_true rfl) d_L_findCounting_20 ?_
        refine W.eq (g2 := F0 m 23 ls [.int (bI (lHas 0 i L))]) rfl ?_
        refine lv_if_eq (tgt := 52) hx hb d_L_findCounting_23 (by decide) (fun hd => ?_) (fun hd => ?_)
        · refine lv_iinc (v := nI (i + 1)) (lv' := [(3, .int (nI (i + 1))), (2, .int 0), (1, .int ((lScan L 0 i (0, L.1 1)).1)), (0, .ref (a 12))]) hx hb d_L_findCounting_52 hl (k := 0) rfl (nI_1 i) (by decide) rfl (fun ls hl => ?_)
          refine lv_goto (tgt := 11) hx hb d_L_findCounting_55 (by decide) ?_
          have e : (lScan L 0 (i + 1) (0, L.1 1)) = (lScan L 0 i (0, L.1 1)) := if_neg (fun z => by rw [bI_f hd] at z; exact absurd z.1 Bool.false_ne_true)
          exact ih (i + 1) H locs ls (by omega) (by rw [e]; exact hP) (by rw [e]; exact hD) hS (by rw [e]; exact (lv_sub hl [0, 1, 2, 3] rfl))
        · refine lv_aload_n hx hb d_L_findCounting_26 rfl (lv_at hl 3 rfl) ?_
          refine va_get (D := (dC, dI)) (ci := 1) (v := .ref (a 13)) (C := R_L) (T := T_L) (N := 7) hx hb hts wu_L hown hK hP 0 rfl rfl 0 (by decide) (hts _ wf_L_11) (fun _ h9 => h9) rfl d_L_findCounting_27 ?_
          refine lv_iload_n hx hb d_L_findCounting_30 rfl (lv_at hl 1 rfl) ?_
          refine kx_aald hx hb hK hP 1 4 rfl rfl 0 (by decide) (by omega) (by omega) (v := (a 18)) rfl d_L_findCounting_31 ?_
          refine lv_iload_n hx hb d_L_findCounting_32 rfl (lv_at hl 0 rfl) ?_
          refine kx_iald hx hb hK hP 6 0 rfl rfl i (rfl) (by omega) (by omega) d_L_findCounting_33 ?_
          refine lv_iload_n hx hb d_L_findCounting_34 rfl (lv_at hl 2 rfl) ?_
          refine lv_icmp_le (tgt := 52) hx hb d_L_findCounting_35 (by decide) (fun he => ?_) (fun he => ?_)
          · refine lv_iinc (v := nI (i + 1)) (lv' := [(3, .int (nI (i + 1))), (2, .int 0), (1, .int ((lScan L 0 i (0, L.1 1)).1)), (0, .ref (a 12))]) hx hb d_L_findCounting_52 hl (k := 0) rfl (nI_1 i) (by decide) rfl (fun ls hl => ?_)
            refine lv_goto (tgt := 11) hx hb d_L_findCounting_55 (by decide) ?_
            have e : (lScan L 0 (i + 1) (0, L.1 1)) = (lScan L 0 i (0, L.1 1)) := if_neg (fun z => absurd z.2 (Int32.not_lt.mpr he))
            exact ih (i + 1) H locs ls (by omega) (by rw [e]; exact hP) (by rw [e]; exact hD) hS (by rw [e]; exact (lv_sub hl [0, 1, 2, 3] rfl))
          · refine lv_aload_n hx hb d_L_findCounting_38 rfl (lv_at hl 3 rfl) ?_
            refine va_get (D := (dC, dI)) (ci := 1) (v := .ref (a 13)) (C := R_L) (T := T_L) (N := 7) hx hb hts wu_L hown hK hP 0 rfl rfl 0 (by decide) (hts _ wf_L_11) (fun _ h9 => h9) rfl d_L_findCounting_39 ?_
            refine lv_iload_n hx hb d_L_findCounting_42 rfl (lv_at hl 1 rfl) ?_
            refine kx_aald hx hb hK hP 1 4 rfl rfl 0 (by decide) (by omega) (by omega) (v := (a 18)) rfl d_L_findCounting_43 ?_
            refine lv_iload_n hx hb d_L_findCounting_44 rfl (lv_at hl 0 rfl) ?_
            refine kx_iald hx hb hK hP 6 0 rfl rfl i (rfl) (by omega) (by omega) d_L_findCounting_45 ?_
            refine lv_istore_n (lv' := [(1, .int (((va_up L.1 1 (lScan L 0 i (0, L.1 1)).2, L.2).2 0) i)), (3, .int (nI i)), (2, .int 0), (0, .ref (a 12))]) hx hb d_L_findCounting_46 rfl hl (by decide) rfl (fun ls hl => ?_)
            refine lv_aload_n hx hb d_L_findCounting_47 rfl (lv_at hl 3 rfl) ?_
            refine lv_iload_n hx hb d_L_findCounting_48 rfl (lv_at hl 2 rfl) ?_
            refine kx_put (ws' := (wL a k5 (va_up L.1 1 (nI 0), L.2))) (D := (dC, dI)) (ci := 1) (v := .int 0) (ty := .int) (C := R_L) (T := T_L) (N := 7) hx hb hts wu_L ty_L ok_L nm_L hown hK hP hD hS 0 rfl rfl 6 (by decide) (hts _ wf_L_30) (fun _ h9 => h9) rfl (by decide +kernel) rfl rfl (Nat.le_of_ble_eq_true rfl) rfl d_L_findCounting_49 (fun H locs hP hD hS => ?_)
            refine lv_iinc (v := nI (i + 1)) (lv' := [(3, .int (nI (i + 1))), (1, .int (((va_up L.1 1 (lScan L 0 i (0, L.1 1)).2, L.2).2 0) i)), (2, .int 0), (0, .ref (a 12))]) hx hb d_L_findCounting_52 hl (k := 1) rfl (nI_1 i) (by decide) rfl (fun ls hl => ?_)
            refine lv_goto (tgt := 11) hx hb d_L_findCounting_55 (by decide) ?_
            have e : (lScan L 0 (i + 1) (0, L.1 1)) = (L.2 0 i, nI 0) := if_pos ⟨bI_t hd, Int32.not_le.mp he⟩
            exact ih (i + 1) H locs ls (by omega) (by rw [e]; exact hP) (by rw [e]; exact hD) hS (by rw [e]; exact (lv_sub hl [0, 2, 1, 3] rfl))
  refine lv_iconst (v := 0) hx hb d_L_findCounting_0 (by decide) ?_
  refine lv_istore_n (lv' := [(1, .int 0), (0, .ref (a 12))]) hx hb d_L_findCounting_1 rfl hl (by decide) rfl (fun ls hl => ?_)
  refine lv_iconst (v := 0) hx hb d_L_findCounting_2 (by decide) ?_
  refine lv_istore_n (lv' := [(2, .int 0), (1, .int 0), (0, .ref (a 12))]) hx hb d_L_findCounting_3 rfl hl (by decide) rfl (fun ls hl => ?_)
  refine lv_iload_n hx hb d_L_findCounting_4 rfl (lv_at hl 0 rfl) ?_
  refine lv_iconst (v := 2) hx hb d_L_findCounting_5 (by decide) ?_
  refine lv_icmp_ge (tgt := 64) hx hb d_L_findCounting_6 (by decide) (fun hc_3 => ?_) (fun hc_3 => ?_)
  · exact absurd hc_3 (by decide)
  · refine lv_iconst (v := 0) hx hb d_L_findCounting_9 (by decide) ?_
    refine lv_istore_n (lv' := [(3, .int 0), (2, .int 0), (1, .int 0), (0, .ref (a 12))]) hx hb d_L_findCounting_10 rfl hl (by decide) rfl (fun ls hl => ?_)
    exact lp0 8 0 s.heap [] ls (by omega) hP hD hS (lv_sub hl [0, 1, 2, 3] rfl)
set_option maxHeartbeats 4000000 in
set_option maxRecDepth 100000 in
theorem k_D_layOut (l : Launch) (dC : Nat → ClassId) (dI : Nat → Nat → Nat) (k5 : Nat → ClassId) (a : Nat → Nat) (P : PP) (G J : GG) (L : LL) (x y : Int32) (n : Nat) (hn : x = nI n) (hn8 : n ≤ 8) (w : Nat) (hw : w = 0 ∨ w = 1) (hq : 1 - L.1 1 = nI w) : Met l y_D_layOut w_D_layOut ({ frames := 4, cells := 0, slots := 0, locals := 89 }) (kx_Pc (dC, dI) clA (tyL k5) (wD a k5 P G J L) [.ref (a 0), .int x, .int y]) (kx_Q (dC, dI) clA (wD a k5 P G J L) (wD a k5 (pLay x y P) (gClear G) J (lLay (pLay x y P) w n L)) none) 0 0 (kx_A (wD a k5 P G J L)) := by
  refine Met.ofW (cc := c_D_layOut) (maxL := 4) (ret := none) (by decide) rfl ?_
  intro p e s m args below meth c s₁ B hml hv
  obtain ⟨rfl, hP, hK, hD0⟩ := hv
  have hx := B.exec
  have hb := B.bytes
  have hr := B.returns
  have hts : ∀ w ∈ wsA, w.before _ s = true := fun w h => atoms_spec (ws := w_D_layOut) B.pre w (List.mem_cons_of_mem _ h)
  have hown : s.vm.findClass R_D = some m.cls := findClass_of_methodNamed B.named
  have hlocks := B.notSynchronized
  have hD := kx_D.self hD0
  have hS : va_S (kx_A (wD a k5 P G J L)) s.heap s.heap [] := va_S.rf
  have hl := lv_entry ([.ref (a 0), .int x, .int y]) (n := 4) (Nat.le_of_ble_eq_true rfl)
  rw [lg_entry_eq]
  generalize (lg_sl ([.ref (a 0), .int x, .int y]) ++ List.replicate (4 - (lg_sl ([.ref (a 0), .int x, .int y])).length) Slot.unset).toArray = ls at hl ⊢
  have hl : lv_has ls 4 [(0, .ref (a 0)), (1, .int x), (2, .int y)] := hl
  refine lv_aload_n hx hb d_D_layOut_0 rfl (lv_at hl 0 rfl) ?_
  refine lv_iload_n hx hb d_D_layOut_1 rfl (lv_at hl 1 rfl) ?_
  refine kx_put (ws' := (wD a k5 (x, P.2) G J L)) (D := (dC, dI)) (ci := 2) (v := .int x) (ty := .int) (C := R_D) (T := T_D) (N := 9) hx hb hts wu_D ty_D ok_D nm_D hown hK hP hD hS 0 rfl rfl 6 (by decide) (hts _ wf_D_64) (fun _ h9 => h9) rfl (by decide +kernel) rfl rfl (Nat.le_of_ble_eq_true rfl) rfl d_D_layOut_2 (fun H locs hP hD hS => ?_)
  refine lv_aload_n hx hb d_D_layOut_5 rfl (lv_at hl 0 rfl) ?_
  refine lv_iload_n hx hb d_D_layOut_6 rfl (lv_at hl 2 rfl) ?_
  refine kx_put (ws' := (wD a k5 (x, y, P.2.2) G J L)) (D := (dC, dI)) (ci := 2) (v := .int y) (ty := .int) (C := R_D) (T := T_D) (N := 9) hx hb hts wu_D ty_D ok_D nm_D hown hK hP hD hS 0 rfl rfl 7 (by decide) (hts _ wf_D_170) (fun _ h9 => h9) rfl (by decide +kernel) rfl rfl (Nat.le_of_ble_eq_true rfl) rfl d_D_layOut_7 (fun H locs hP hD hS => ?_)
  refine lv_aload_n hx hb d_D_layOut_10 rfl (lv_at hl 0 rfl) ?_
  refine lv_iconst (v := 1) hx hb d_D_layOut_11 (by decide) ?_
  refine kx_put (ws' := (wD a k5 (x, y, 1, P.2.2.2) G J L)) (D := (dC, dI)) (ci := 2) (v := .int 1) (ty := .boolean) (C := R_D) (T := T_D) (N := 9) hx hb hts wu_D ty_D ok_D nm_D hown hK hP hD hS 0 rfl rfl 8 (by decide) (hts _ wf_D_46) (fun _ h9 => h9) rfl (by decide +kernel) rfl rfl (Nat.le_of_ble_eq_true rfl) rfl d_D_layOut_12 (fun H locs hP hD hS => ?_)
  refine lv_aload_n hx hb d_D_layOut_15 rfl (lv_at hl 0 rfl) ?_
  refine va_get (D := (dC, dI)) (ci := 2) (v := .ref (a 1)) (C := R_D) (T := T_D) (N := 9) hx hb hts wu_D hown hK hP 0 rfl rfl 0 (by decide) (hts _ wf_D_9) (fun _ h9 => h9) rfl d_D_layOut_16 ?_
  refine lv_iload_n hx hb d_D_layOut_19 rfl (lv_at hl 2 rfl) ?_
  refine kx_S (ws2 := (wD a k5 (x, y, 1, fill0 (pMk P) y 8, P.2.2.2.2) G J L)) (As := [.ref (a 1), .int y]) (rest := []) ⟨hx, hb, hml, hown, hts⟩ (k_J_fillI l dC dI k5 (a 1) 8 (by omega) (pMk P) y) (va_cwS 2 hts (goodS wm_D_173 wt_J_fillI wi_J wc_J_fillI) rfl rfl rfl (by decide +kernel) ⟨Nat.le_of_ble_eq_true rfl, Nat.le_of_ble_eq_true rfl⟩) ⟨Nat.zero_le _, Nat.zero_le _⟩ hK hP hD hS [1] (by decide) rfl rfl rfl rfl rfl hl.1 rfl (Nat.le_of_ble_eq_true rfl) d_D_layOut_20 (fun H locs hP hD hS => ?_)
  refine W.eq (g2 := F0 m 23 ls []) rfl ?_
  refine lv_aload_n hx hb d_D_layOut_23 rfl (lv_at hl 0 rfl) ?_
  refine va_get (D := (dC, dI)) (ci := 2) (v := .ref (a 2)) (C := R_D) (T := T_D) (N := 9) hx hb hts wu_D hown hK hP 0 rfl rfl 1 (by decide) (hts _ wf_D_13) (fun _ h9 => h9) rfl d_D_layOut_24 ?_
  refine lv_lconst (v := 0) hx hb d_D_layOut_27 (by decide) ?_
  refine kx_S (ws2 := (wD a k5 (x, y, 1, fill0 (pMk P) y 8, fillL (pRt P) 0 8, P.2.2.2.2.2) G J L)) (As := [.ref (a 2), .long 0]) (rest := []) ⟨hx, hb, hml, hown, hts⟩ (k_J_fillJ l dC dI k5 (a 2) 8 (by omega) (pRt P) 0) (va_cwS 2 hts (goodS wm_D_179 wt_J_fillJ wi_J wc_J_fillJ) rfl rfl rfl (by decide +kernel) ⟨Nat.le_of_ble_eq_true rfl, Nat.le_of_ble_eq_true rfl⟩) ⟨Nat.zero_le _, Nat.zero_le _⟩ hK hP hD hS [2] (by decide) rfl rfl rfl rfl rfl hl.1 rfl (Nat.le_of_ble_eq_true rfl) d_D_layOut_28 (fun H locs hP hD hS => ?_)
  refine W.eq (g2 := F0 m 31 ls []) rfl ?_
  refine lv_aload_n hx hb d_D_layOut_31 rfl (lv_at hl 0 rfl) ?_
  refine va_get (D := (dC, dI)) (ci := 2) (v := .ref (a 3)) (C := R_D) (T := T_D) (N := 9) hx hb hts wu_D hown hK hP 0 rfl rfl 2 (by decide) (hts _ wf_D_17) (fun _ h9 => h9) rfl d_D_layOut_32 ?_
  refine lv_iconst (v := 0) hx hb d_D_layOut_35 (by decide) ?_
  refine kx_S (ws2 := (wD a k5 (pLay x y P) G J L)) (As := [.ref (a 3), .int 0]) (rest := []) ⟨hx, hb, hml, hown, hts⟩ (k_J_fillB l dC dI k5 (a 3) 13056 (by omega) (pKp P) 0) (va_cwS 2 hts (goodS wm_D_182 wt_J_fillB wi_J wc_J_fillB) rfl rfl rfl (by decide +kernel) ⟨Nat.le_of_ble_eq_true rfl, Nat.le_of_ble_eq_true rfl⟩) ⟨Nat.zero_le _, Nat.zero_le _⟩ hK hP hD hS [3] (by decide) rfl rfl rfl rfl rfl hl.1 rfl (Nat.le_of_ble_eq_true rfl) d_D_layOut_36 (fun H locs hP hD hS => ?_)
  refine W.eq (g2 := F0 m 39 ls []) rfl ?_
  refine lv_aload_n hx hb d_D_layOut_39 rfl (lv_at hl 0 rfl) ?_
  refine va_get (D := (dC, dI)) (ci := 2) (v := .ref (a 4)) (C := R_D) (T := T_D) (N := 9) hx hb hts wu_D hown hK hP 0 rfl rfl 3 (by decide) (hts _ wf_D_24) (fun _ h9 => h9) rfl d_D_layOut_40 ?_
  refine kx_V (ws2 := (wD a k5 (pLay x y P) (gClear G) J L)) (As := []) (rest := []) ⟨hx, hb, hml, hown, hts⟩ (k_G_clear l dC dI k5 (a 4) (a 5) (a 6) (a 7) (G.1) (G.2.1) (G.2.2.1) (G.2.2.2.1) (G.2.2.2.2) ) (cwV 0 hts (goodV wm_D_109 wn_G_clear ws_G_clear wi_G wc_G_clear) rfl rfl rfl (by decide +kernel) ⟨Nat.le_of_ble_eq_true rfl, Nat.le_of_ble_eq_true rfl⟩) ⟨Nat.zero_le _, Nat.zero_le _⟩ hK hP hD hS [4, 5, 6, 7] (by decide) rfl 0 rfl rfl rfl rfl rfl rfl hl.1 rfl (Nat.le_of_ble_eq_true rfl) d_D_layOut_43 (fun H locs hP hD hS => ?_)
  refine W.eq (g2 := F0 m 46 ls []) rfl ?_
  refine lv_iconst (v := 0) hx hb d_D_layOut_46 (by decide) ?_
  refine lv_istore_n (lv' := [(3, .int 0), (0, .ref (a 0)), (1, .int x), (2, .int y)]) hx hb d_D_layOut_47 rfl hl (by decide) rfl (fun ls hl => ?_)
  have lp : ∀ (q9 i : Nat) (H : Heap) (locs : List Loc) (ls : Array Slot), i + q9 = 8 → va_P (dC, dI) clA (wD a k5 (pLay x y P) (gClear G) J (lWipes L i)) H → va_D (kx_A (wD a k5 P G J L)) (wD a k5 (pLay x y P) (gClear G) J (lWipes L i)) → va_S (kx_A (wD a k5 P G J L)) s.heap H locs → lv_has ls 4 [(3, .int (nI i)), (0, .ref (a 0)), (1, .int x), (2, .int y)] → W p l e (headSpec w_D_layOut ({ frames := 4, cells := 0, slots := 0, locals := 89 })).room s m ([.ref (a 0), .int x, .int y] : List Value).toArray below meth c H locs 0 0 (MQ below (kx_Q (dC, dI) clA (wD a k5 P G J L) (wD a k5 (pLay x y P) (gClear G) J (lLay (pLay x y P) w n L)) none) ([.ref (a 0), .int x, .int y] : List Value).toArray s 0 0 (kx_A (wD a k5 P G J L))) (F0 m 48 ls []) := by
    intro q9
    induction q9 with
    | zero =>
      intro i H locs ls hi hP hD hS hl
      have hi : 8 = i := by omega
      subst hi
      refine lv_iload_n hx hb d_D_layOut_48 rfl (lv_at hl 0 rfl) ?_
      refine lv_bipush (v := 8) hx hb d_D_layOut_49 (by decide) ?_
      refine lv_icmp_ge (tgt := 68) hx hb d_D_layOut_51 (by decide) (fun hc => ?_) (fun hc => ?_)
      · have hq2 : 1 - (lWipes L 8).1 1 = nI w := by rw [lWipes_sc]; exact hq
        refine lv_aload_n hx hb d_D_layOut_68 rfl (lv_at hl 1 rfl) ?_
        refine va_get (D := (dC, dI)) (ci := 2) (v := .ref (a 12)) (C := R_D) (T := T_D) (N := 9) hx hb hts wu_D hown hK hP 0 rfl rfl 5 (by decide) (hts _ wf_D_34) (fun _ h9 => h9) rfl d_D_layOut_69 ?_
        refine lv_iconst (v := 0) hx hb d_D_layOut_72 (by decide) ?_
        refine lv_aload_n hx hb d_D_layOut_73 rfl (lv_at hl 1 rfl) ?_
        refine va_get (D := (dC, dI)) (ci := 2) (v := .ref (a 1)) (C := R_D) (T := T_D) (N := 9) hx hb hts wu_D hown hK hP 0 rfl rfl 0 (by decide) (hts _ wf_D_9) (fun _ h9 => h9) rfl d_D_layOut_74 ?_
        have hq := hq2
        refine kx_V (ws2 := (wD a k5 (pLay x y P) (gClear G) J (lDraft w 0 ((pLay x y P).2.2.2.1) (lWipes L 8)))) (As := [.int 0, .ref (a 1)]) (rest := []) ⟨hx, hb, hml, hown, hts⟩ (k_L_draft l dC dI k5 a (lWipes L 8) w hw hq (a 1) ((pLay x y P).2.2.2.1) 0 rfl) (cwV 2 hts (goodV wm_D_94 wn_L_draft ws_L_draft wi_L wc_L_draft) rfl rfl rfl (by decide +kernel) ⟨Nat.le_of_ble_eq_true rfl, Nat.le_of_ble_eq_true rfl⟩) ⟨Nat.zero_le _, Nat.zero_le _⟩ hK hP hD hS [12, 13, 14, 15, 16, 17, 18, 19, 20, 21, 22, 23, 1] (by decide) rfl 0 rfl rfl rfl rfl rfl rfl hl.1 rfl (Nat.le_of_ble_eq_true rfl) d_D_layOut_77 (fun H locs hP hD hS => ?_)
        refine W.eq (g2 := F0 m 80 ls []) rfl ?_
        refine lv_aload_n hx hb d_D_layOut_80 rfl (lv_at hl 1 rfl) ?_
        refine kx_VW (w1 := (wD a k5 (pLay x y P) (gClear G) J (lLay (pLay x y P) w n L))) (As := []) (rest := []) ⟨hx, hb, hml, hown, hts⟩ (k_D_finishLabel l dC dI k5 a (pLay x y P) (gClear G) J (lDraft w 0 (pMk (pLay x y P)) (lWipes L 8)) w hw hq n hn hn8) (cwV 0 hts (goodV wm_D_102 wn_D_finishLabel ws_D_finishLabel wi_D wc_D_finishLabel) rfl rfl rfl (by decide +kernel) ⟨Nat.le_of_ble_eq_true rfl, Nat.le_of_ble_eq_true rfl⟩) ⟨Nat.zero_le _, Nat.zero_le _⟩ hK hP hD hS 0 rfl rfl rfl rfl hl.1 rfl (Nat.le_of_ble_eq_true rfl) d_D_layOut_81 (fun H locs hP hD hS => ?_)
        refine W.eq (g2 := F0 m 84 ls []) rfl ?_
        exact W.vret hx hb hr (fun t ht hW => kx_Qv ht hP (rfl) hS rfl) hS.2.2 d_D_layOut_84
      · exact absurd (by rw [show (8 : Int32) = nI 8 from rfl]; exact nI_le (by omega) (by omega)) hc
    | succ q9 ih =>
      intro i H locs ls hi hP hD hS hl
      refine lv_iload_n hx hb d_D_layOut_48 rfl (lv_at hl 0 rfl) ?_
      refine lv_bipush (v := 8) hx hb d_D_layOut_49 (by decide) ?_
      refine lv_icmp_ge (tgt := 68) hx hb d_D_layOut_51 (by decide) (fun hc => ?_) (fun hc => ?_)
      · exact absurd hc (by rw [show (8 : Int32) = nI 8 from rfl]; exact nI_ge (by omega) (by omega))
      · refine lv_aload_n hx hb d_D_layOut_54 rfl (lv_at hl 1 rfl) ?_
        refine va_get (D := (dC, dI)) (ci := 2) (v := .ref (a 12)) (C := R_D) (T := T_D) (N := 9) hx hb hts wu_D hown hK hP 0 rfl rfl 5 (by decide) (hts _ wf_D_34) (fun _ h9 => h9) rfl d_D_layOut_55 ?_
        refine lv_iload_n hx hb d_D_layOut_58 rfl (lv_at hl 0 rfl) ?_
        refine kx_V (ws2 := (wD a k5 (pLay x y P) (gClear G) J (lWipes L (i + 1)))) (As := [.int (nI i)]) (rest := []) ⟨hx, hb, hml, hown, hts⟩ (k_L_wipe l dC dI k5 a (lWipes L i) i (by omega)) (cwV 1 hts (goodV wm_D_122 wn_L_wipe ws_L_wipe wi_L wc_L_wipe) rfl rfl rfl (by decide +kernel) ⟨Nat.le_of_ble_eq_true rfl, Nat.le_of_ble_eq_true rfl⟩) ⟨Nat.zero_le _, Nat.zero_le _⟩ hK hP hD hS [12, 13, 14, 15, 16, 17, 18, 19, 20, 21, 22, 23] (by decide) rfl 0 rfl rfl rfl rfl rfl rfl hl.1 rfl (Nat.le_of_ble_eq_true rfl) d_D_layOut_59 (fun H locs hP hD hS => ?_)
        refine W.eq (g2 := F0 m 62 ls []) rfl ?_
        refine lv_iinc (v := nI (i + 1)) (lv' := [(3, .int (nI (i + 1))), (0, .ref (a 0)), (1, .int x), (2, .int y)]) hx hb d_D_layOut_62 hl (k := 0) rfl (nI_1 i) (by decide) rfl (fun ls hl => ?_)
        refine lv_goto (tgt := 48) hx hb d_D_layOut_65 (by decide) ?_
        exact ih (i + 1) H locs ls (by omega) hP hD hS (lv_sub hl [0, 1, 2, 3] rfl)
  exact lp 8 0 H locs ls (by omega) hP hD hS (lv_sub hl [0, 1, 2, 3] rfl)
def d_fail (P : PP) (G J : GG) (L : LL)  : SS × Int32 := (if (P.2.2.1) = 0 then ((P, G, J, L), (-2)) else (((pPow 0 P), (gClear G), J, L), 0))
set_option maxHeartbeats 4000000 in
set_option maxRecDepth 100000 in
theorem k_D_fail (l : Launch) (dC : Nat → ClassId) (dI : Nat → Nat → Nat) (k5 : Nat → ClassId) (a : Nat → Nat) (P : PP) (G J : GG) (L : LL)   : Met l y_D_fail w_D_fail ({ frames := 2, cells := 0, slots := 0, locals := 40 }) (kx_Pc (dC, dI) clA (tyL k5) (wD a k5 P G J L) [.ref (a 0)]) (kx_Q (dC, dI) clA (wD a k5 P G J L) (wS a k5 (d_fail P G J L ).1) (some (.int (d_fail P G J L ).2))) 0 0 (kx_A (wD a k5 P G J L)) := by
  refine Met.ofW (cc := c_D_fail) (maxL := 1) (ret := (some .int)) (by decide) rfl ?_
  intro p e s m args below meth c s₁ B hml hv
  obtain ⟨rfl, hP, hK, hD0⟩ := hv
  have hx := B.exec
  have hb := B.bytes
  have hr := B.returns
  have hts : ∀ w ∈ wsA, w.before _ s = true := fun w h => atoms_spec (ws := w_D_fail) B.pre w (List.mem_cons_of_mem _ h)
  have hown : s.vm.findClass R_D = some m.cls := findClass_of_methodNamed B.named
  have hlocks := B.notSynchronized
  have hD := kx_D.self hD0
  have hS : va_S (kx_A (wD a k5 P G J L)) s.heap s.heap [] := va_S.rf
  have hl := lv_entry ([.ref (a 0)]) (n := 1) (Nat.le_of_ble_eq_true rfl)
  rw [lg_entry_eq]
  generalize (lg_sl ([.ref (a 0)]) ++ List.replicate (1 - (lg_sl ([.ref (a 0)])).length) Slot.unset).toArray = ls at hl ⊢
  have hl : lv_has ls 1 [(0, .ref (a 0))] := hl
  refine lv_aload_n hx hb d_D_fail_0 rfl (lv_at hl 0 rfl) ?_
  refine va_get (D := (dC, dI)) (ci := 2) (v := .int (P.2.2.1)) (C := R_D) (T := T_D) (N := 9) hx hb hts wu_D hown hK hP 0 rfl rfl 8 (by decide) (hts _ wf_D_46) (fun _ h9 => h9) rfl d_D_fail_1 ?_
  refine lv_if_ne (tgt := 10) hx hb d_D_fail_4 (by decide) (fun hc_1 => ?_) (fun hc_1 => ?_)
  · refine lv_aload_n hx hb d_D_fail_10 rfl (lv_at hl 0 rfl) ?_
    refine kx_VW (w1 := (wD a k5 (pPow 0 P) (gClear G) J L)) (As := []) (rest := []) ⟨hx, hb, hml, hown, hts⟩ (k_D_powerFails l dC dI k5 a P G J L) (cwV 0 hts (goodV wm_D_87 wn_D_powerFails ws_D_powerFails wi_D wc_D_powerFails) rfl rfl rfl (by decide +kernel) ⟨Nat.le_of_ble_eq_true rfl, Nat.le_of_ble_eq_true rfl⟩) ⟨Nat.zero_le _, Nat.zero_le _⟩ hK hP hD hS 0 rfl rfl rfl rfl hl.1 rfl (Nat.le_of_ble_eq_true rfl) d_D_fail_11 (fun H locs hP hD hS => ?_)
    refine W.eq (g2 := F0 m 14 ls [.int (-2)]) rfl ?_
    refine lv_pop hx hb d_D_fail_14 rfl ?_
    refine lv_iconst (v := 0) hx hb d_D_fail_15 (by decide) ?_
    have e : d_fail P G J L  = (((pPow 0 P), (gClear G), J, L), 0) := by unfold d_fail; rw [if_neg hc_1]
    exact W.iret (v := 0) hx hb hr (fun t ht hW => kx_Qi (by rw [e]) ht hP (by rw [e]) hS rfl) hS.2.2 d_D_fail_16
  · refine lv_bipush (v := (-2)) hx hb d_D_fail_7 (by decide) ?_
    have e : d_fail P G J L  = ((P, G, J, L), (-2)) := by unfold d_fail; rw [if_pos hc_1]
    exact W.iret (v := (-2)) hx hb hr (fun t ht hW => kx_Qi (by rw [e]) ht hP (by rw [e]) hS rfl) hS.2.2 d_D_fail_9
def d_check (P : PP) (G J : GG) (L : LL)  : SS × Int32 := (if (P.2.2.1) = 0 then ((P, G, J, L), (-2)) else ((P, G, J, L), 0))
set_option maxHeartbeats 4000000 in
set_option maxRecDepth 100000 in
theorem k_D_check (l : Launch) (dC : Nat → ClassId) (dI : Nat → Nat → Nat) (k5 : Nat → ClassId) (a : Nat → Nat) (P : PP) (G J : GG) (L : LL)   : Met l y_D_check w_D_check ({ frames := 0, cells := 0, slots := 0, locals := 0 }) (kx_Pc (dC, dI) clA (tyL k5) (wD a k5 P G J L) [.ref (a 0)]) (kx_Q (dC, dI) clA (wD a k5 P G J L) (wS a k5 (d_check P G J L ).1) (some (.int (d_check P G J L ).2))) 0 0 (kx_A (wD a k5 P G J L)) := by
  refine Met.ofW (cc := c_D_check) (maxL := 1) (ret := (some .int)) (by decide) rfl ?_
  intro p e s m args below meth c s₁ B hml hv
  obtain ⟨rfl, hP, hK, hD0⟩ := hv
  have hx := B.exec
  have hb := B.bytes
  have hr := B.returns
  have hts : ∀ w ∈ wsA, w.before _ s = true := fun w h => atoms_spec (ws := w_D_check) B.pre w (List.mem_cons_of_mem _ h)
  have hown : s.vm.findClass R_D = some m.cls := findClass_of_methodNamed B.named
  have hlocks := B.notSynchronized
  have hD := kx_D.self hD0
  have hS : va_S (kx_A (wD a k5 P G J L)) s.heap s.heap [] := va_S.rf
  have hl := lv_entry ([.ref (a 0)]) (n := 1) (Nat.le_of_ble_eq_true rfl)
  rw [lg_entry_eq]
  generalize (lg_sl ([.ref (a 0)]) ++ List.replicate (1 - (lg_sl ([.ref (a 0)])).length) Slot.unset).toArray = ls at hl ⊢
  have hl : lv_has ls 1 [(0, .ref (a 0))] := hl
  refine lv_aload_n hx hb d_D_check_0 rfl (lv_at hl 0 rfl) ?_
  refine va_get (D := (dC, dI)) (ci := 2) (v := .int (P.2.2.1)) (C := R_D) (T := T_D) (N := 9) hx hb hts wu_D hown hK hP 0 rfl rfl 8 (by decide) (hts _ wf_D_46) (fun _ h9 => h9) rfl d_D_check_1 ?_
  refine lv_if_eq (tgt := 11) hx hb d_D_check_4 (by decide) (fun hc_1 => ?_) (fun hc_1 => ?_)
  · refine lv_bipush (v := (-2)) hx hb d_D_check_11 (by decide) ?_
    have e : d_check P G J L  = ((P, G, J, L), (-2)) := by unfold d_check; rw [if_pos hc_1]
    exact W.iret (v := (-2)) hx hb hr (fun t ht hW => kx_Qi (by rw [e]) ht hP (by rw [e]) hS rfl) hS.2.2 d_D_check_13
  · refine lv_iconst (v := 0) hx hb d_D_check_7 (by decide) ?_
    refine lv_goto (tgt := 13) hx hb d_D_check_8 (by decide) ?_
    have e : d_check P G J L  = ((P, G, J, L), 0) := by unfold d_check; rw [if_neg hc_1]
    exact W.iret (v := 0) hx hb hr (fun t ht hW => kx_Qi (by rw [e]) ht hP (by rw [e]) hS rfl) hS.2.2 d_D_check_13
def d_gone (P : PP) (G J : GG) (L : LL) (n : Nat) (t : Int32) : SS × Int32 := (if (bI (decide (¬ t < 2 ∧ ¬ P.2.1 ≤ t))) = 0 then ((P, G, J, L), (-1)) else ((P, G, J, L), (nI (pGoneIn P t n))))
set_option maxHeartbeats 4000000 in
set_option maxRecDepth 100000 in
theorem k_D_gone (l : Launch) (dC : Nat → ClassId) (dI : Nat → Nat → Nat) (k5 : Nat → ClassId) (a : Nat → Nat) (P : PP) (G J : GG) (L : LL) (n : Nat) (t : Int32) (hn : P.1 = nI n) (hn8 : n ≤ 8) : Met l y_D_gone w_D_gone ({ frames := 3, cells := 0, slots := 0, locals := 67 }) (kx_Pc (dC, dI) clA (tyL k5) (wD a k5 P G J L) [.ref (a 0), .int t]) (kx_Q (dC, dI) clA (wD a k5 P G J L) (wS a k5 (d_gone P G J L n t).1) (some (.int (d_gone P G J L n t).2))) 0 0 (kx_A (wD a k5 P G J L)) := by
  refine Met.ofW (cc := c_D_gone) (maxL := 2) (ret := (some .int)) (by decide) rfl ?_
  intro p e s m args below meth c s₁ B hml hv
  obtain ⟨rfl, hP, hK, hD0⟩ := hv
  have hx := B.exec
  have hb := B.bytes
  have hr := B.returns
  have hts : ∀ w ∈ wsA, w.before _ s = true := fun w h => atoms_spec (ws := w_D_gone) B.pre w (List.mem_cons_of_mem _ h)
  have hown : s.vm.findClass R_D = some m.cls := findClass_of_methodNamed B.named
  have hlocks := B.notSynchronized
  have hD := kx_D.self hD0
  have hS : va_S (kx_A (wD a k5 P G J L)) s.heap s.heap [] := va_S.rf
  have hl := lv_entry ([.ref (a 0), .int t]) (n := 2) (Nat.le_of_ble_eq_true rfl)
  rw [lg_entry_eq]
  generalize (lg_sl ([.ref (a 0), .int t]) ++ List.replicate (2 - (lg_sl ([.ref (a 0), .int t])).length) Slot.unset).toArray = ls at hl ⊢
  have hl : lv_has ls 2 [(0, .ref (a 0)), (1, .int t)] := hl
  refine lv_aload_n hx hb d_D_gone_0 rfl (lv_at hl 0 rfl) ?_
  refine lv_iload_n hx hb d_D_gone_1 rfl (lv_at hl 1 rfl) ?_
  refine kx_VRW (As := [.int t]) (rest := []) ⟨hx, hb, hml, hown, hts⟩ (k_D_isRow l dC dI k5 a P G J L t) (cwV 1 hts (goodV wm_D_129 wn_D_isRow ws_D_isRow wi_D wc_D_isRow) rfl rfl rfl (by decide +kernel) ⟨Nat.le_of_ble_eq_true rfl, Nat.le_of_ble_eq_true rfl⟩) ⟨Nat.zero_le _, Nat.zero_le _⟩ hK hP hD 0 rfl rfl rfl hl.1 rfl (Nat.le_of_ble_eq_true rfl) d_D_gone_2 ?_
  refine W.eq (g2 := F0 m 5 ls [.int (bI (decide (¬ t < 2 ∧ ¬ P.2.1 ≤ t)))]) rfl ?_
  refine lv_if_eq (tgt := 16) hx hb d_D_gone_5 (by decide) (fun hc_1 => ?_) (fun hc_1 => ?_)
  · refine lv_iconst (v := (-1)) hx hb d_D_gone_16 (by decide) ?_
    have e : d_gone P G J L n t = ((P, G, J, L), (-1)) := by unfold d_gone; rw [if_pos hc_1]
    exact W.iret (v := (-1)) hx hb hr (fun t ht hW => kx_Qi (by rw [e]) ht hP (by rw [e]) hS rfl) hS.2.2 d_D_gone_17
  · refine lv_aload_n hx hb d_D_gone_8 rfl (lv_at hl 0 rfl) ?_
    refine lv_iload_n hx hb d_D_gone_9 rfl (lv_at hl 1 rfl) ?_
    refine kx_VRW (As := [.int t]) (rest := []) ⟨hx, hb, hml, hown, hts⟩ (k_D_goneIn l dC dI k5 a P G J L t n hn hn8) (cwV 1 hts (goodV wm_D_135 wn_D_goneIn ws_D_goneIn wi_D wc_D_goneIn) rfl rfl rfl (by decide +kernel) ⟨Nat.le_of_ble_eq_true rfl, Nat.le_of_ble_eq_true rfl⟩) ⟨Nat.zero_le _, Nat.zero_le _⟩ hK hP hD 0 rfl rfl rfl hl.1 rfl (Nat.le_of_ble_eq_true rfl) d_D_gone_10 ?_
    refine W.eq (g2 := F0 m 13 ls [.int (nI (pGoneIn P t n))]) rfl ?_
    refine lv_goto (tgt := 17) hx hb d_D_gone_13 (by decide) ?_
    have e : d_gone P G J L n t = ((P, G, J, L), (nI (pGoneIn P t n))) := by unfold d_gone; rw [if_neg hc_1]
    exact W.iret (v := (nI (pGoneIn P t n))) hx hb hr (fun t ht hW => kx_Qi (by rw [e]) ht hP (by rw [e]) hS rfl) hS.2.2 d_D_gone_17
def d_status (P : PP) (G J : GG) (L : LL) (n : Nat) (d : Int32) : SS × Int32 := (if (bI (decide (¬ d < 0 ∧ ¬ P.1 ≤ d))) = 0 then ((P, G, J, L), (-3)) else ((P, G, J, L), ((P.2.2.2.1) d.toNatClampNeg)))
set_option maxHeartbeats 4000000 in
set_option maxRecDepth 100000 in
theorem k_D_status (l : Launch) (dC : Nat → ClassId) (dI : Nat → Nat → Nat) (k5 : Nat → ClassId) (a : Nat → Nat) (P : PP) (G J : GG) (L : LL) (n : Nat) (d : Int32) (hn : P.1 = nI n) (hn8 : n ≤ 8) : Met l y_D_status w_D_status ({ frames := 1, cells := 0, slots := 0, locals := 21 }) (kx_Pc (dC, dI) clA (tyL k5) (wD a k5 P G J L) [.ref (a 0), .int d]) (kx_Q (dC, dI) clA (wD a k5 P G J L) (wS a k5 (d_status P G J L n d).1) (some (.int (d_status P G J L n d).2))) 0 0 (kx_A (wD a k5 P G J L)) := by
  refine Met.ofW (cc := c_D_status) (maxL := 2) (ret := (some .int)) (by decide) rfl ?_
  intro p e s m args below meth c s₁ B hml hv
  obtain ⟨rfl, hP, hK, hD0⟩ := hv
  have hx := B.exec
  have hb := B.bytes
  have hr := B.returns
  have hts : ∀ w ∈ wsA, w.before _ s = true := fun w h => atoms_spec (ws := w_D_status) B.pre w (List.mem_cons_of_mem _ h)
  have hown : s.vm.findClass R_D = some m.cls := findClass_of_methodNamed B.named
  have hlocks := B.notSynchronized
  have hD := kx_D.self hD0
  have hS : va_S (kx_A (wD a k5 P G J L)) s.heap s.heap [] := va_S.rf
  have hl := lv_entry ([.ref (a 0), .int d]) (n := 2) (Nat.le_of_ble_eq_true rfl)
  rw [lg_entry_eq]
  generalize (lg_sl ([.ref (a 0), .int d]) ++ List.replicate (2 - (lg_sl ([.ref (a 0), .int d])).length) Slot.unset).toArray = ls at hl ⊢
  have hl : lv_has ls 2 [(0, .ref (a 0)), (1, .int d)] := hl
  refine lv_aload_n hx hb d_D_status_0 rfl (lv_at hl 0 rfl) ?_
  refine lv_iload_n hx hb d_D_status_1 rfl (lv_at hl 1 rfl) ?_
  refine kx_VRW (As := [.int d]) (rest := []) ⟨hx, hb, hml, hown, hts⟩ (k_D_isDisk l dC dI k5 a P G J L d) (cwV 1 hts (goodV wm_D_115 wn_D_isDisk ws_D_isDisk wi_D wc_D_isDisk) rfl rfl rfl (by decide +kernel) ⟨Nat.le_of_ble_eq_true rfl, Nat.le_of_ble_eq_true rfl⟩) ⟨Nat.zero_le _, Nat.zero_le _⟩ hK hP hD 0 rfl rfl rfl hl.1 rfl (Nat.le_of_ble_eq_true rfl) d_D_status_2 ?_
  refine W.eq (g2 := F0 m 5 ls [.int (bI (decide (¬ d < 0 ∧ ¬ P.1 ≤ d)))]) rfl ?_
  refine lv_if_eq (tgt := 17) hx hb d_D_status_5 (by decide) (fun hc_1 => ?_) (fun hc_1 => ?_)
  · refine lv_bipush (v := (-3)) hx hb d_D_status_17 (by decide) ?_
    have e : d_status P G J L n d = ((P, G, J, L), (-3)) := by unfold d_status; rw [if_pos hc_1]
    exact W.iret (v := (-3)) hx hb hr (fun t ht hW => kx_Qi (by rw [e]) ht hP (by rw [e]) hS rfl) hS.2.2 d_D_status_19
  · refine lv_aload_n hx hb d_D_status_8 rfl (lv_at hl 0 rfl) ?_
    refine va_get (D := (dC, dI)) (ci := 2) (v := .ref (a 1)) (C := R_D) (T := T_D) (N := 9) hx hb hts wu_D hown hK hP 0 rfl rfl 0 (by decide) (hts _ wf_D_9) (fun _ h9 => h9) rfl d_D_status_9 ?_
    refine lv_iload_n hx hb d_D_status_12 rfl (lv_at hl 1 rfl) ?_
    refine kx_iald hx hb hK hP 1 0 rfl rfl d.toNatClampNeg ((isD (bI_t hc_1) hn (by omega)).1) (by have := (isD (bI_t hc_1) hn (by omega)).2; omega) (by omega) d_D_status_13 ?_
    refine lv_goto (tgt := 19) hx hb d_D_status_14 (by decide) ?_
    have e : d_status P G J L n d = ((P, G, J, L), ((P.2.2.2.1) d.toNatClampNeg)) := by unfold d_status; rw [if_neg hc_1]
    exact W.iret (v := ((P.2.2.2.1) d.toNatClampNeg)) hx hb hr (fun t ht hW => kx_Qi (by rw [e]) ht hP (by rw [e]) hS rfl) hS.2.2 d_D_status_19
def d_forget (P : PP) (G J : GG) (L : LL)  : SS × Int32 := (if (P.2.2.1) = 0 then ((P, G, J, L), (-2)) else ((P, (gClear G), J, L), G.1))
set_option maxHeartbeats 4000000 in
set_option maxRecDepth 100000 in
theorem k_D_forget (l : Launch) (dC : Nat → ClassId) (dI : Nat → Nat → Nat) (k5 : Nat → ClassId) (a : Nat → Nat) (P : PP) (G J : GG) (L : LL)   : Met l y_D_forget w_D_forget ({ frames := 1, cells := 0, slots := 0, locals := 20 }) (kx_Pc (dC, dI) clA (tyL k5) (wD a k5 P G J L) [.ref (a 0)]) (kx_Q (dC, dI) clA (wD a k5 P G J L) (wS a k5 (d_forget P G J L ).1) (some (.int (d_forget P G J L ).2))) 0 0 (kx_A (wD a k5 P G J L)) := by
  refine Met.ofW (cc := c_D_forget) (maxL := 2) (ret := (some .int)) (by decide) rfl ?_
  intro p e s m args below meth c s₁ B hml hv
  obtain ⟨rfl, hP, hK, hD0⟩ := hv
  have hx := B.exec
  have hb := B.bytes
  have hr := B.returns
  have hts : ∀ w ∈ wsA, w.before _ s = true := fun w h => atoms_spec (ws := w_D_forget) B.pre w (List.mem_cons_of_mem _ h)
  have hown : s.vm.findClass R_D = some m.cls := findClass_of_methodNamed B.named
  have hlocks := B.notSynchronized
  have hD := kx_D.self hD0
  have hS : va_S (kx_A (wD a k5 P G J L)) s.heap s.heap [] := va_S.rf
  have hl := lv_entry ([.ref (a 0)]) (n := 2) (Nat.le_of_ble_eq_true rfl)
  rw [lg_entry_eq]
  generalize (lg_sl ([.ref (a 0)]) ++ List.replicate (2 - (lg_sl ([.ref (a 0)])).length) Slot.unset).toArray = ls at hl ⊢
  have hl : lv_has ls 2 [(0, .ref (a 0))] := hl
  refine lv_aload_n hx hb d_D_forget_0 rfl (lv_at hl 0 rfl) ?_
  refine va_get (D := (dC, dI)) (ci := 2) (v := .int (P.2.2.1)) (C := R_D) (T := T_D) (N := 9) hx hb hts wu_D hown hK hP 0 rfl rfl 8 (by decide) (hts _ wf_D_46) (fun _ h9 => h9) rfl d_D_forget_1 ?_
  refine lv_if_ne (tgt := 10) hx hb d_D_forget_4 (by decide) (fun hc_1 => ?_) (fun hc_1 => ?_)
  · refine lv_aload_n hx hb d_D_forget_10 rfl (lv_at hl 0 rfl) ?_
    refine va_get (D := (dC, dI)) (ci := 2) (v := .ref (a 4)) (C := R_D) (T := T_D) (N := 9) hx hb hts wu_D hown hK hP 0 rfl rfl 3 (by decide) (hts _ wf_D_24) (fun _ h9 => h9) rfl d_D_forget_11 ?_
    refine kx_VR (As := []) (rest := []) ⟨hx, hb, hml, hown, hts⟩ (k_G_size l dC dI k5 (a 4) (a 5) (a 6) (a 7) (G.1) (G.2.1) (G.2.2.1) (G.2.2.2.1) (G.2.2.2.2) ) (cwV 0 hts (goodV wm_D_112 wn_G_size ws_G_size wi_G wc_G_size) rfl rfl rfl (by decide +kernel) ⟨Nat.le_of_ble_eq_true rfl, Nat.le_of_ble_eq_true rfl⟩) ⟨Nat.zero_le _, Nat.zero_le _⟩ hK hP hD [4, 5, 6, 7] (by decide) rfl 0 rfl rfl rfl hl.1 rfl (Nat.le_of_ble_eq_true rfl) d_D_forget_14 ?_
    refine W.eq (g2 := F0 m 17 ls [.int G.1]) rfl ?_
    refine lv_istore_n (lv' := [(1, .int G.1), (0, .ref (a 0))]) hx hb d_D_forget_17 rfl hl (by decide) rfl (fun ls hl => ?_)
    refine lv_aload_n hx hb d_D_forget_18 rfl (lv_at hl 1 rfl) ?_
    refine va_get (D := (dC, dI)) (ci := 2) (v := .ref (a 4)) (C := R_D) (T := T_D) (N := 9) hx hb hts wu_D hown hK hP 0 rfl rfl 3 (by decide) (hts _ wf_D_24) (fun _ h9 => h9) rfl d_D_forget_19 ?_
    refine kx_V (ws2 := (wD a k5 P (gClear G) J L)) (As := []) (rest := []) ⟨hx, hb, hml, hown, hts⟩ (k_G_clear l dC dI k5 (a 4) (a 5) (a 6) (a 7) (G.1) (G.2.1) (G.2.2.1) (G.2.2.2.1) (G.2.2.2.2) ) (cwV 0 hts (goodV wm_D_109 wn_G_clear ws_G_clear wi_G wc_G_clear) rfl rfl rfl (by decide +kernel) ⟨Nat.le_of_ble_eq_true rfl, Nat.le_of_ble_eq_true rfl⟩) ⟨Nat.zero_le _, Nat.zero_le _⟩ hK hP hD hS [4, 5, 6, 7] (by decide) rfl 0 rfl rfl rfl rfl rfl rfl hl.1 rfl (Nat.le_of_ble_eq_true rfl) d_D_forget_22 (fun H locs hP hD hS => ?_)
    refine W.eq (g2 := F0 m 25 ls []) rfl ?_
    refine lv_iload_n hx hb d_D_forget_25 rfl (lv_at hl 0 rfl) ?_
    have e : d_forget P G J L  = ((P, (gClear G), J, L), G.1) := by unfold d_forget; rw [if_neg hc_1]
    exact W.iret (v := G.1) hx hb hr (fun t ht hW => kx_Qi (by rw [e]) ht hP (by rw [e]) hS rfl) hS.2.2 d_D_forget_26
  · refine lv_bipush (v := (-2)) hx hb d_D_forget_7 (by decide) ?_
    have e : d_forget P G J L  = ((P, G, J, L), (-2)) := by unfold d_forget; rw [if_pos hc_1]
    exact W.iret (v := (-2)) hx hb hr (fun t ht hW => kx_Qi (by rw [e]) ht hP (by rw [e]) hS rfl) hS.2.2 d_D_forget_9
end
section
def d_lay (P : PP) (G J : GG) (L : LL) (w : Nat) (x y : Int32) : SS × Int32 := (if x < 4 then ((P, G, J, L), (-1)) else (if 8 < x then ((P, G, J, L), (-1)) else (if y < 12 then ((P, G, J, L), (-1)) else (if y ≤ 40 then (((pLay x y P), (gClear G), J, (lLay (pLay x y P) w (x.toNatClampNeg) L)), (((pLay x y P).1 - 2) * ((pLay x y P).2.1 - 6))) else ((P, G, J, L), (-1))))))
set_option maxHeartbeats 4000000 in
set_option maxRecDepth 100000 in
theorem k_D_lay (l : Launch) (dC : Nat → ClassId) (dI : Nat → Nat → Nat) (k5 : Nat → ClassId) (a : Nat → Nat) (P : PP) (G J : GG) (L : LL) (w : Nat) (x y : Int32) (hw : w = 0 ∨ w = 1) (hq : 1 - L.1 1 = nI w) : Met l y_D_lay w_D_lay ({ frames := 5, cells := 0, slots := 0, locals := 112 }) (kx_Pc (dC, dI) clA (tyL k5) (wD a k5 P G J L) [.ref (a 0), .int x, .int y]) (kx_Q (dC, dI) clA (wD a k5 P G J L) (wS a k5 (d_lay P G J L w x y).1) (some (.int (d_lay P G J L w x y).2))) 0 0 (kx_A (wD a k5 P G J L)) := by
  refine Met.ofW (cc := c_D_lay) (maxL := 3) (ret := (some .int)) (by decide) rfl ?_
  intro p e s m args below meth c s₁ B hml hv
  obtain ⟨rfl, hP, hK, hD0⟩ := hv
  have hx := B.exec
  have hb := B.bytes
  have hr := B.returns
  have hts : ∀ w ∈ wsA, w.before _ s = true := fun w h => atoms_spec (ws := w_D_lay) B.pre w (List.mem_cons_of_mem _ h)
  have hown : s.vm.findClass R_D = some m.cls := findClass_of_methodNamed B.named
  have hlocks := B.notSynchronized
  have hD := kx_D.self hD0
  have hS : va_S (kx_A (wD a k5 P G J L)) s.heap s.heap [] := va_S.rf
  have hl := lv_entry ([.ref (a 0), .int x, .int y]) (n := 3) (Nat.le_of_ble_eq_true rfl)
  rw [lg_entry_eq]
  generalize (lg_sl ([.ref (a 0), .int x, .int y]) ++ List.replicate (3 - (lg_sl ([.ref (a 0), .int x, .int y])).length) Slot.unset).toArray = ls at hl ⊢
  have hl : lv_has ls 3 [(0, .ref (a 0)), (1, .int x), (2, .int y)] := hl
  refine lv_iload_n hx hb d_D_lay_0 rfl (lv_at hl 1 rfl) ?_
  refine lv_iconst (v := 4) hx hb d_D_lay_1 (by decide) ?_
  refine lv_icmp_lt (tgt := 23) hx hb d_D_lay_2 (by decide) (fun hc_1 => ?_) (fun hc_1 => ?_)
  · refine lv_iconst (v := (-1)) hx hb d_D_lay_23 (by decide) ?_
    have e : d_lay P G J L w x y = ((P, G, J, L), (-1)) := by unfold d_lay; rw [if_pos hc_1]
    exact W.iret (v := (-1)) hx hb hr (fun t ht hW => kx_Qi (by rw [e]) ht hP (by rw [e]) hS rfl) hS.2.2 d_D_lay_24
  · refine lv_iload_n hx hb d_D_lay_5 rfl (lv_at hl 1 rfl) ?_
    refine lv_bipush (v := 8) hx hb d_D_lay_6 (by decide) ?_
    refine lv_icmp_gt (tgt := 23) hx hb d_D_lay_8 (by decide) (fun hc_2 => ?_) (fun hc_2 => ?_)
    · refine lv_iconst (v := (-1)) hx hb d_D_lay_23 (by decide) ?_
      have e : d_lay P G J L w x y = ((P, G, J, L), (-1)) := by unfold d_lay; rw [if_neg hc_1, if_pos hc_2]
      exact W.iret (v := (-1)) hx hb hr (fun t ht hW => kx_Qi (by rw [e]) ht hP (by rw [e]) hS rfl) hS.2.2 d_D_lay_24
    · refine lv_iload_n hx hb d_D_lay_11 rfl (lv_at hl 2 rfl) ?_
      refine lv_bipush (v := 12) hx hb d_D_lay_12 (by decide) ?_
      refine lv_icmp_lt (tgt := 23) hx hb d_D_lay_14 (by decide) (fun hc_3 => ?_) (fun hc_3 => ?_)
      · refine lv_iconst (v := (-1)) hx hb d_D_lay_23 (by decide) ?_
        have e : d_lay P G J L w x y = ((P, G, J, L), (-1)) := by unfold d_lay; rw [if_neg hc_1, if_neg hc_2, if_pos hc_3]
        exact W.iret (v := (-1)) hx hb hr (fun t ht hW => kx_Qi (by rw [e]) ht hP (by rw [e]) hS rfl) hS.2.2 d_D_lay_24
      · refine lv_iload_n hx hb d_D_lay_17 rfl (lv_at hl 2 rfl) ?_
        refine lv_bipush (v := 40) hx hb d_D_lay_18 (by decide) ?_
        refine lv_icmp_le (tgt := 25) hx hb d_D_lay_20 (by decide) (fun hc_4 => ?_) (fun hc_4 => ?_)
        · refine lv_aload_n hx hb d_D_lay_25 rfl (lv_at hl 0 rfl) ?_
          refine lv_iload_n hx hb d_D_lay_26 rfl (lv_at hl 1 rfl) ?_
          refine lv_iload_n hx hb d_D_lay_27 rfl (lv_at hl 2 rfl) ?_
          refine kx_VW (w1 := (wD a k5 (pLay x y P) (gClear G) J (lLay (pLay x y P) w (x.toNatClampNeg) L))) (As := [.int x, .int y]) (rest := []) ⟨hx, hb, hml, hown, hts⟩ (k_D_layOut l dC dI k5 a P G J L x y (x.toNatClampNeg) (lay_n hc_1 hc_2).1 (lay_n hc_1 hc_2).2.2 w hw hq) (cwV 2 hts (goodV wm_D_38 wn_D_layOut ws_D_layOut wi_D wc_D_layOut) rfl rfl rfl (by decide +kernel) ⟨Nat.le_of_ble_eq_true rfl, Nat.le_of_ble_eq_true rfl⟩) ⟨Nat.zero_le _, Nat.zero_le _⟩ hK hP hD hS 0 rfl rfl rfl rfl hl.1 rfl (Nat.le_of_ble_eq_true rfl) d_D_lay_28 (fun H locs hP hD hS => ?_)
          refine W.eq (g2 := F0 m 31 ls []) rfl ?_
          refine lv_aload_n hx hb d_D_lay_31 rfl (lv_at hl 0 rfl) ?_
          refine kx_VRW (As := []) (rest := []) ⟨hx, hb, hml, hown, hts⟩ (k_D_blocks l dC dI k5 a (pLay x y P) (gClear G) J (lLay (pLay x y P) w (x.toNatClampNeg) L)) (cwV 0 hts (goodV wm_D_42 wn_D_blocks ws_D_blocks wi_D wc_D_blocks) rfl rfl rfl (by decide +kernel) ⟨Nat.le_of_ble_eq_true rfl, Nat.le_of_ble_eq_true rfl⟩) ⟨Nat.zero_le _, Nat.zero_le _⟩ hK hP hD 0 rfl rfl rfl hl.1 rfl (Nat.le_of_ble_eq_true rfl) d_D_lay_32 ?_
          refine W.eq (g2 := F0 m 35 ls [.int (((pLay x y P).1 - 2) * ((pLay x y P).2.1 - 6))]) rfl ?_
          have e : d_lay P G J L w x y = (((pLay x y P), (gClear G), J, (lLay (pLay x y P) w (x.toNatClampNeg) L)), (((pLay x y P).1 - 2) * ((pLay x y P).2.1 - 6))) := by unfold d_lay; rw [if_neg hc_1, if_neg hc_2, if_neg hc_3, if_pos hc_4]
          exact W.iret (v := (((pLay x y P).1 - 2) * ((pLay x y P).2.1 - 6))) hx hb hr (fun t ht hW => kx_Qi (by rw [e]) ht hP (by rw [e]) hS rfl) hS.2.2 d_D_lay_35
        · refine lv_iconst (v := (-1)) hx hb d_D_lay_23 (by decide) ?_
          have e : d_lay P G J L w x y = ((P, G, J, L), (-1)) := by unfold d_lay; rw [if_neg hc_1, if_neg hc_2, if_neg hc_3, if_neg hc_4]
          exact W.iret (v := (-1)) hx hb hr (fun t ht hW => kx_Qi (by rw [e]) ht hP (by rw [e]) hS rfl) hS.2.2 d_D_lay_24
def d_read (P : PP) (G J : GG) (L : LL) (tk : Nat) (b t : Int32) : SS × Int32 := (if (P.2.2.1) = 0 then ((P, G, J, L), (-2)) else (if (bI (decide (¬ b < 0 ∧ ¬ (P.1 - 2) * (P.2.1 - 6) ≤ b ∧ ¬ t < 0 ∧ ¬ 64 ≤ t))) = 0 then ((P, G, J, L), (-1)) else (if 0 ≤ (oI (gFind G.2.2.1 b tk)) then ((P, G, J, L), (G.2.2.2.2 (((oI (gFind G.2.2.1 b tk)) * 64 + t).toNatClampNeg) &&& 255)) else ((P, G, J, L), (((P.2.2.2.2.2) ((b * 64 + t).toNatClampNeg)) &&& 255)))))
set_option maxHeartbeats 4000000 in
set_option maxRecDepth 100000 in
theorem k_D_read (l : Launch) (dC : Nat → ClassId) (dI : Nat → Nat → Nat) (k5 : Nat → ClassId) (a : Nat → Nat) (P : PP) (G J : GG) (L : LL) (tk : Nat) (b t : Int32) (n r : Nat) (hn : P.1 = nI n) (hn4 : 4 ≤ n) (hn8 : n ≤ 8) (er : P.2.1 = nI r) (hr2 : 12 ≤ r) (hr40 : r ≤ 40) (hG : GI G tk) : Met l y_D_read w_D_read ({ frames := 2, cells := 0, slots := 0, locals := 42 }) (kx_Pc (dC, dI) clA (tyL k5) (wD a k5 P G J L) [.ref (a 0), .int b, .int t]) (kx_Q (dC, dI) clA (wD a k5 P G J L) (wS a k5 (d_read P G J L tk b t).1) (some (.int (d_read P G J L tk b t).2))) 0 0 (kx_A (wD a k5 P G J L)) := by
  refine Met.ofW (cc := c_D_read) (maxL := 4) (ret := (some .int)) (by decide) rfl ?_
  intro p e s m args below meth c s₁ B hml hv
  obtain ⟨rfl, hP, hK, hD0⟩ := hv
  have hx := B.exec
  have hb := B.bytes
  have hr := B.returns
  have hts : ∀ w ∈ wsA, w.before _ s = true := fun w h => atoms_spec (ws := w_D_read) B.pre w (List.mem_cons_of_mem _ h)
  have hown : s.vm.findClass R_D = some m.cls := findClass_of_methodNamed B.named
  have hlocks := B.notSynchronized
  have hD := kx_D.self hD0
  have hS : va_S (kx_A (wD a k5 P G J L)) s.heap s.heap [] := va_S.rf
  have hl := lv_entry ([.ref (a 0), .int b, .int t]) (n := 4) (Nat.le_of_ble_eq_true rfl)
  rw [lg_entry_eq]
  generalize (lg_sl ([.ref (a 0), .int b, .int t]) ++ List.replicate (4 - (lg_sl ([.ref (a 0), .int b, .int t])).length) Slot.unset).toArray = ls at hl ⊢
  have hl : lv_has ls 4 [(0, .ref (a 0)), (1, .int b), (2, .int t)] := hl
  refine lv_aload_n hx hb d_D_read_0 rfl (lv_at hl 0 rfl) ?_
  refine va_get (D := (dC, dI)) (ci := 2) (v := .int (P.2.2.1)) (C := R_D) (T := T_D) (N := 9) hx hb hts wu_D hown hK hP 0 rfl rfl 8 (by decide) (hts _ wf_D_46) (fun _ h9 => h9) rfl d_D_read_1 ?_
  refine lv_if_ne (tgt := 10) hx hb d_D_read_4 (by decide) (fun hc_1 => ?_) (fun hc_1 => ?_)
  · refine lv_aload_n hx hb d_D_read_10 rfl (lv_at hl 0 rfl) ?_
    refine lv_iload_n hx hb d_D_read_11 rfl (lv_at hl 1 rfl) ?_
    refine lv_iload_n hx hb d_D_read_12 rfl (lv_at hl 2 rfl) ?_
    refine kx_VRW (As := [.int b, .int t]) (rest := []) ⟨hx, hb, hml, hown, hts⟩ (k_D_isByte l dC dI k5 a P G J L b t) (cwV 2 hts (goodV wm_D_50 wn_D_isByte ws_D_isByte wi_D wc_D_isByte) rfl rfl rfl (by decide +kernel) ⟨Nat.le_of_ble_eq_true rfl, Nat.le_of_ble_eq_true rfl⟩) ⟨Nat.zero_le _, Nat.zero_le _⟩ hK hP hD 0 rfl rfl rfl hl.1 rfl (Nat.le_of_ble_eq_true rfl) d_D_read_13 ?_
    refine W.eq (g2 := F0 m 16 ls [.int (bI (decide (¬ b < 0 ∧ ¬ (P.1 - 2) * (P.2.1 - 6) ≤ b ∧ ¬ t < 0 ∧ ¬ 64 ≤ t)))]) rfl ?_
    refine lv_if_ne (tgt := 21) hx hb d_D_read_16 (by decide) (fun hc_2 => ?_) (fun hc_2 => ?_)
    · obtain ⟨eb, et, hβ, hα, h204⟩ := isB (bI_t hc_2) hn er hn4 hn8 hr2 hr40
      refine lv_aload_n hx hb d_D_read_21 rfl (lv_at hl 0 rfl) ?_
      refine va_get (D := (dC, dI)) (ci := 2) (v := .ref (a 4)) (C := R_D) (T := T_D) (N := 9) hx hb hts wu_D hown hK hP 0 rfl rfl 3 (by decide) (hts _ wf_D_24) (fun _ h9 => h9) rfl d_D_read_22 ?_
      refine lv_iload_n hx hb d_D_read_25 rfl (lv_at hl 1 rfl) ?_
      refine kx_VR (As := [.int b]) (rest := []) ⟨hx, hb, hml, hown, hts⟩ (k_G_placeOf l dC dI k5 (a 4) (a 5) (a 6) (a 7) G.1 G.2.1 G.2.2.1 G.2.2.2.1 G.2.2.2.2 tk hG.2.1 b hG.1) (cwV 1 hts (goodV wm_D_54 wn_G_placeOf ws_G_placeOf wi_G wc_G_placeOf) rfl rfl rfl (by decide +kernel) ⟨Nat.le_of_ble_eq_true rfl, Nat.le_of_ble_eq_true rfl⟩) ⟨Nat.zero_le _, Nat.zero_le _⟩ hK hP hD [4, 5, 6, 7] (by decide) rfl 0 rfl rfl rfl hl.1 rfl (Nat.le_of_ble_eq_true rfl) d_D_read_26 ?_
      refine W.eq (g2 := F0 m 29 ls [.int (oI (gFind G.2.2.1 b tk))]) rfl ?_
      refine lv_istore_n (lv' := [(3, .int (oI (gFind G.2.2.1 b tk))), (0, .ref (a 0)), (1, .int b), (2, .int t)]) hx hb d_D_read_29 rfl hl (by decide) rfl (fun ls hl => ?_)
      refine lv_iload_n hx hb d_D_read_30 rfl (lv_at hl 0 rfl) ?_
      refine lv_if_ge (tgt := 52) hx hb d_D_read_31 (by decide) (fun hc_3 => ?_) (fun hc_3 => ?_)
      · refine lv_aload_n hx hb d_D_read_52 rfl (lv_at hl 1 rfl) ?_
        refine va_get (D := (dC, dI)) (ci := 2) (v := .ref (a 4)) (C := R_D) (T := T_D) (N := 9) hx hb hts wu_D hown hK hP 0 rfl rfl 3 (by decide) (hts _ wf_D_24) (fun _ h9 => h9) rfl d_D_read_53 ?_
        refine lv_iload_n hx hb d_D_read_56 rfl (lv_at hl 0 rfl) ?_
        refine lv_iload_n hx hb d_D_read_57 rfl (lv_at hl 3 rfl) ?_
        obtain ⟨p9, ep⟩ := oI_ge hc_3
        have hp9 := (gFind_spec ep).1
        have e9 : (oI (gFind G.2.2.1 b tk)) = nI p9 := by rw [ep]; rfl
        have i9 := idx64 (m := 24) e9 et (by have := hG.2.1; omega) hα (by omega)
        refine kx_VR (As := [.int (oI (gFind G.2.2.1 b tk)), .int t]) (rest := []) ⟨hx, hb, hml, hown, hts⟩ (k_G_byteAt l dC dI k5 (a 4) (a 5) (a 6) (a 7) G.1 G.2.1 G.2.2.1 G.2.2.2.1 G.2.2.2.2 (oI (gFind G.2.2.1 b tk)) t (((oI (gFind G.2.2.1 b tk)) * 64 + t).toNatClampNeg) (by have := hG.2.1; have := i9.2; omega) i9.1) (cwV 2 hts (goodV wm_D_79 wn_G_byteAt ws_G_byteAt wi_G wc_G_byteAt) rfl rfl rfl (by decide +kernel) ⟨Nat.le_of_ble_eq_true rfl, Nat.le_of_ble_eq_true rfl⟩) ⟨Nat.zero_le _, Nat.zero_le _⟩ hK hP hD [4, 5, 6, 7] (by decide) rfl 0 rfl rfl rfl hl.1 rfl (Nat.le_of_ble_eq_true rfl) d_D_read_58 ?_
        refine W.eq (g2 := F0 m 61 ls [.int (G.2.2.2.2 (((oI (gFind G.2.2.1 b tk)) * 64 + t).toNatClampNeg) &&& 255)]) rfl ?_
        have e : d_read P G J L tk b t = ((P, G, J, L), (G.2.2.2.2 (((oI (gFind G.2.2.1 b tk)) * 64 + t).toNatClampNeg) &&& 255)) := by unfold d_read; rw [if_neg hc_1, if_neg hc_2, if_pos hc_3]
        exact W.iret (v := (G.2.2.2.2 (((oI (gFind G.2.2.1 b tk)) * 64 + t).toNatClampNeg) &&& 255)) hx hb hr (fun t ht hW => kx_Qi (by rw [e]) ht hP (by rw [e]) hS rfl) hS.2.2 d_D_read_61
      · refine lv_aload_n hx hb d_D_read_34 rfl (lv_at hl 1 rfl) ?_
        refine va_get (D := (dC, dI)) (ci := 2) (v := .ref (a 3)) (C := R_D) (T := T_D) (N := 9) hx hb hts wu_D hown hK hP 0 rfl rfl 2 (by decide) (hts _ wf_D_17) (fun _ h9 => h9) rfl d_D_read_35 ?_
        refine lv_iload_n hx hb d_D_read_38 rfl (lv_at hl 2 rfl) ?_
        refine lv_bipush (v := 64) hx hb d_D_read_39 (by decide) ?_
        refine lv_imul hx hb d_D_read_41 ?_
        refine lv_iload_n hx hb d_D_read_42 rfl (lv_at hl 3 rfl) ?_
        refine lv_iadd hx hb d_D_read_43 ?_
        refine kx_bald hx hb hK hP 3 2 rfl rfl ((b * 64 + t).toNatClampNeg) ((idx64 (m := 204) eb et h204 hα (by omega)).1) (by have := (idx64 (m := 204) eb et h204 hα (by omega)).2; omega) (by omega) d_D_read_44 ?_
        refine lv_sipush (v := 255) hx hb d_D_read_45 (by decide) ?_
        refine lv_iand hx hb d_D_read_48 ?_
        refine lv_goto (tgt := 61) hx hb d_D_read_49 (by decide) ?_
        have e : d_read P G J L tk b t = ((P, G, J, L), (((P.2.2.2.2.2) ((b * 64 + t).toNatClampNeg)) &&& 255)) := by unfold d_read; rw [if_neg hc_1, if_neg hc_2, if_neg hc_3]
        exact W.iret (v := (((P.2.2.2.2.2) ((b * 64 + t).toNatClampNeg)) &&& 255)) hx hb hr (fun t ht hW => kx_Qi (by rw [e]) ht hP (by rw [e]) hS rfl) hS.2.2 d_D_read_61
    · refine lv_iconst (v := (-1)) hx hb d_D_read_19 (by decide) ?_
      have e : d_read P G J L tk b t = ((P, G, J, L), (-1)) := by unfold d_read; rw [if_neg hc_1, if_pos hc_2]
      exact W.iret (v := (-1)) hx hb hr (fun t ht hW => kx_Qi (by rw [e]) ht hP (by rw [e]) hS rfl) hS.2.2 d_D_read_20
  · refine lv_bipush (v := (-2)) hx hb d_D_read_7 (by decide) ?_
    have e : d_read P G J L tk b t = ((P, G, J, L), (-2)) := by unfold d_read; rw [if_pos hc_1]
    exact W.iret (v := (-2)) hx hb hr (fun t ht hW => kx_Qi (by rw [e]) ht hP (by rw [e]) hS rfl) hS.2.2 d_D_read_9
def d_lose (P : PP) (G J : GG) (L : LL) (n r : Nat) (d : Int32) : SS × Int32 := (if (bI (decide (¬ d < 0 ∧ ¬ P.1 ≤ d))) = 0 then ((P, G, J, L), (-1)) else (if ((P.2.2.2.1) d.toNatClampNeg) = (-1) then ((P, G, J, L), (-1)) else (if (bI (pMiss P (d.toNatClampNeg) n (r - 2))) = 0 then ((P, G, J, L), (-3)) else (((pRot (vp_updL (pRt P) (d.toNatClampNeg) 0) (pMark (upd (pMk P) (d.toNatClampNeg) (-1)) P)), G, J, (lWipe (d.toNatClampNeg) L)), (nI (pMarked (pRot (vp_updL (pRt P) (d.toNatClampNeg) 0) (pMark (upd (pMk P) (d.toNatClampNeg) (-1)) P)) (-1) (-1) n))))))
set_option maxHeartbeats 4000000 in
set_option maxRecDepth 100000 in
theorem k_D_lose (l : Launch) (dC : Nat → ClassId) (dI : Nat → Nat → Nat) (k5 : Nat → ClassId) (a : Nat → Nat) (P : PP) (G J : GG) (L : LL) (n r : Nat) (d : Int32) (hn : P.1 = nI n) (hn4 : 4 ≤ n) (hn8 : n ≤ 8) (er : P.2.1 = nI r) (hr2 : 12 ≤ r) (hr40 : r ≤ 40) : Met l y_D_lose w_D_lose ({ frames := 4, cells := 0, slots := 0, locals := 89 }) (kx_Pc (dC, dI) clA (tyL k5) (wD a k5 P G J L) [.ref (a 0), .int d]) (kx_Q (dC, dI) clA (wD a k5 P G J L) (wS a k5 (d_lose P G J L n r d).1) (some (.int (d_lose P G J L n r d).2))) 0 0 (kx_A (wD a k5 P G J L)) := by
  refine Met.ofW (cc := c_D_lose) (maxL := 2) (ret := (some .int)) (by decide) rfl ?_
  intro p e s m args below meth c s₁ B hml hv
  obtain ⟨rfl, hP, hK, hD0⟩ := hv
  have hx := B.exec
  have hb := B.bytes
  have hr := B.returns
  have hts : ∀ w ∈ wsA, w.before _ s = true := fun w h => atoms_spec (ws := w_D_lose) B.pre w (List.mem_cons_of_mem _ h)
  have hown : s.vm.findClass R_D = some m.cls := findClass_of_methodNamed B.named
  have hlocks := B.notSynchronized
  have hD := kx_D.self hD0
  have hS : va_S (kx_A (wD a k5 P G J L)) s.heap s.heap [] := va_S.rf
  have hl := lv_entry ([.ref (a 0), .int d]) (n := 2) (Nat.le_of_ble_eq_true rfl)
  rw [lg_entry_eq]
  generalize (lg_sl ([.ref (a 0), .int d]) ++ List.replicate (2 - (lg_sl ([.ref (a 0), .int d])).length) Slot.unset).toArray = ls at hl ⊢
  have hl : lv_has ls 2 [(0, .ref (a 0)), (1, .int d)] := hl
  refine lv_aload_n hx hb d_D_lose_0 rfl (lv_at hl 0 rfl) ?_
  refine lv_iload_n hx hb d_D_lose_1 rfl (lv_at hl 1 rfl) ?_
  refine kx_VRW (As := [.int d]) (rest := []) ⟨hx, hb, hml, hown, hts⟩ (k_D_isDisk l dC dI k5 a P G J L d) (cwV 1 hts (goodV wm_D_115 wn_D_isDisk ws_D_isDisk wi_D wc_D_isDisk) rfl rfl rfl (by decide +kernel) ⟨Nat.le_of_ble_eq_true rfl, Nat.le_of_ble_eq_true rfl⟩) ⟨Nat.zero_le _, Nat.zero_le _⟩ hK hP hD 0 rfl rfl rfl hl.1 rfl (Nat.le_of_ble_eq_true rfl) d_D_lose_2 ?_
  refine W.eq (g2 := F0 m 5 ls [.int (bI (decide (¬ d < 0 ∧ ¬ P.1 ≤ d)))]) rfl ?_
  refine lv_if_eq (tgt := 18) hx hb d_D_lose_5 (by decide) (fun hc_1 => ?_) (fun hc_1 => ?_)
  · refine lv_iconst (v := (-1)) hx hb d_D_lose_18 (by decide) ?_
    have e : d_lose P G J L n r d = ((P, G, J, L), (-1)) := by unfold d_lose; rw [if_pos hc_1]
    exact W.iret (v := (-1)) hx hb hr (fun t ht hW => kx_Qi (by rw [e]) ht hP (by rw [e]) hS rfl) hS.2.2 d_D_lose_19
  · refine lv_aload_n hx hb d_D_lose_8 rfl (lv_at hl 0 rfl) ?_
    refine va_get (D := (dC, dI)) (ci := 2) (v := .ref (a 1)) (C := R_D) (T := T_D) (N := 9) hx hb hts wu_D hown hK hP 0 rfl rfl 0 (by decide) (hts _ wf_D_9) (fun _ h9 => h9) rfl d_D_lose_9 ?_
    refine lv_iload_n hx hb d_D_lose_12 rfl (lv_at hl 1 rfl) ?_
    refine kx_iald hx hb hK hP 1 0 rfl rfl d.toNatClampNeg ((isD (bI_t hc_1) hn (by omega)).1) (by have := (isD (bI_t hc_1) hn (by omega)).2; omega) (by omega) d_D_lose_13 ?_
    refine lv_iconst (v := (-1)) hx hb d_D_lose_14 (by decide) ?_
    refine lv_icmp_ne (tgt := 20) hx hb d_D_lose_15 (by decide) (fun hc_2 => ?_) (fun hc_2 => ?_)
    · refine lv_aload_n hx hb d_D_lose_20 rfl (lv_at hl 0 rfl) ?_
      refine lv_iload_n hx hb d_D_lose_21 rfl (lv_at hl 1 rfl) ?_
      refine W.eq (g2 := F0 m 22 ls [.int (nI (d.toNatClampNeg)), .ref (a 0)]) (by rw [← (isD (bI_t hc_1) hn (by omega)).1]) ?_
      refine kx_VRW (As := [.int (nI (d.toNatClampNeg))]) (rest := []) ⟨hx, hb, hml, hown, hts⟩ (k_D_canBeMissed l dC dI k5 a P G J L (d.toNatClampNeg) (by have := (isD (bI_t hc_1) hn (by omega)).2; omega) n hn hn8 r er (by omega) hr40) (cwV 1 hts (goodV wm_D_119 wn_D_canBeMissed ws_D_canBeMissed wi_D wc_D_canBeMissed) rfl rfl rfl (by decide +kernel) ⟨Nat.le_of_ble_eq_true rfl, Nat.le_of_ble_eq_true rfl⟩) ⟨Nat.zero_le _, Nat.zero_le _⟩ hK hP hD 0 rfl rfl rfl hl.1 rfl (Nat.le_of_ble_eq_true rfl) d_D_lose_22 ?_
      refine W.eq (g2 := F0 m 25 ls [.int (bI (pMiss P (d.toNatClampNeg) n (r - 2)))]) rfl ?_
      refine lv_if_ne (tgt := 31) hx hb d_D_lose_25 (by decide) (fun hc_3 => ?_) (fun hc_3 => ?_)
      · refine lv_aload_n hx hb d_D_lose_31 rfl (lv_at hl 0 rfl) ?_
        refine va_get (D := (dC, dI)) (ci := 2) (v := .ref (a 1)) (C := R_D) (T := T_D) (N := 9) hx hb hts wu_D hown hK hP 0 rfl rfl 0 (by decide) (hts _ wf_D_9) (fun _ h9 => h9) rfl d_D_lose_32 ?_
        refine lv_iload_n hx hb d_D_lose_35 rfl (lv_at hl 1 rfl) ?_
        refine lv_iconst (v := (-1)) hx hb d_D_lose_36 (by decide) ?_
        refine kx_iast (ws' := (wD a k5 (pMark (upd (pMk P) (d.toNatClampNeg) (-1)) P) G J L)) hx hb hK hP hD hS 1 0 rfl rfl d.toNatClampNeg ((isD (bI_t hc_1) hn (by omega)).1) (by have := (isD (bI_t hc_1) hn (by omega)).2; omega) (by omega) rfl d_D_lose_37 (fun H locs hP hD hS => ?_)
        refine lv_aload_n hx hb d_D_lose_38 rfl (lv_at hl 0 rfl) ?_
        refine va_get (D := (dC, dI)) (ci := 2) (v := .ref (a 2)) (C := R_D) (T := T_D) (N := 9) hx hb hts wu_D hown hK hP 0 rfl rfl 1 (by decide) (hts _ wf_D_13) (fun _ h9 => h9) rfl d_D_lose_39 ?_
        refine lv_iload_n hx hb d_D_lose_42 rfl (lv_at hl 1 rfl) ?_
        refine lv_lconst (v := 0) hx hb d_D_lose_43 (by decide) ?_
        refine kx_last (ws' := (wD a k5 (pRot (vp_updL (pRt P) (d.toNatClampNeg) 0) (pMark (upd (pMk P) (d.toNatClampNeg) (-1)) P)) G J L)) hx hb hK hP hD hS 2 1 rfl rfl d.toNatClampNeg ((isD (bI_t hc_1) hn (by omega)).1) (by have := (isD (bI_t hc_1) hn (by omega)).2; omega) (by omega) rfl d_D_lose_44 (fun H locs hP hD hS => ?_)
        refine lv_aload_n hx hb d_D_lose_45 rfl (lv_at hl 0 rfl) ?_
        refine va_get (D := (dC, dI)) (ci := 2) (v := .ref (a 12)) (C := R_D) (T := T_D) (N := 9) hx hb hts wu_D hown hK hP 0 rfl rfl 5 (by decide) (hts _ wf_D_34) (fun _ h9 => h9) rfl d_D_lose_46 ?_
        refine lv_iload_n hx hb d_D_lose_49 rfl (lv_at hl 1 rfl) ?_
        refine W.eq (g2 := F0 m 50 ls [.int (nI (d.toNatClampNeg)), .ref (a 12)]) (by rw [← (isD (bI_t hc_1) hn (by omega)).1]) ?_
        refine kx_V (ws2 := (wD a k5 (pRot (vp_updL (pRt P) (d.toNatClampNeg) 0) (pMark (upd (pMk P) (d.toNatClampNeg) (-1)) P)) G J (lWipe (d.toNatClampNeg) L))) (As := [.int (nI (d.toNatClampNeg))]) (rest := []) ⟨hx, hb, hml, hown, hts⟩ (k_L_wipe l dC dI k5 a L (d.toNatClampNeg) (by have := (isD (bI_t hc_1) hn (by omega)).2; omega)) (cwV 1 hts (goodV wm_D_122 wn_L_wipe ws_L_wipe wi_L wc_L_wipe) rfl rfl rfl (by decide +kernel) ⟨Nat.le_of_ble_eq_true rfl, Nat.le_of_ble_eq_true rfl⟩) ⟨Nat.zero_le _, Nat.zero_le _⟩ hK hP hD hS [12, 13, 14, 15, 16, 17, 18, 19, 20, 21, 22, 23] (by decide) rfl 0 rfl rfl rfl rfl rfl rfl hl.1 rfl (Nat.le_of_ble_eq_true rfl) d_D_lose_50 (fun H locs hP hD hS => ?_)
        refine W.eq (g2 := F0 m 53 ls []) rfl ?_
        refine lv_aload_n hx hb d_D_lose_53 rfl (lv_at hl 0 rfl) ?_
        refine kx_VRW (As := []) (rest := []) ⟨hx, hb, hml, hown, hts⟩ (k_D_lostDisks l dC dI k5 a (pRot (vp_updL (pRt P) (d.toNatClampNeg) 0) (pMark (upd (pMk P) (d.toNatClampNeg) (-1)) P)) G J (lWipe (d.toNatClampNeg) L) n hn hn8) (cwV 0 hts (goodV wm_D_126 wn_D_lostDisks ws_D_lostDisks wi_D wc_D_lostDisks) rfl rfl rfl (by decide +kernel) ⟨Nat.le_of_ble_eq_true rfl, Nat.le_of_ble_eq_true rfl⟩) ⟨Nat.zero_le _, Nat.zero_le _⟩ hK hP hD 0 rfl rfl rfl hl.1 rfl (Nat.le_of_ble_eq_true rfl) d_D_lose_54 ?_
        refine W.eq (g2 := F0 m 57 ls [.int (nI (pMarked (pRot (vp_updL (pRt P) (d.toNatClampNeg) 0) (pMark (upd (pMk P) (d.toNatClampNeg) (-1)) P)) (-1) (-1) n))]) rfl ?_
        have e : d_lose P G J L n r d = (((pRot (vp_updL (pRt P) (d.toNatClampNeg) 0) (pMark (upd (pMk P) (d.toNatClampNeg) (-1)) P)), G, J, (lWipe (d.toNatClampNeg) L)), (nI (pMarked (pRot (vp_updL (pRt P) (d.toNatClampNeg) 0) (pMark (upd (pMk P) (d.toNatClampNeg) (-1)) P)) (-1) (-1) n))) := by unfold d_lose; rw [if_neg hc_1, if_neg hc_2, if_neg hc_3]
        exact W.iret (v := (nI (pMarked (pRot (vp_updL (pRt P) (d.toNatClampNeg) 0) (pMark (upd (pMk P) (d.toNatClampNeg) (-1)) P)) (-1) (-1) n))) hx hb hr (fun t ht hW => kx_Qi (by rw [e]) ht hP (by rw [e]) hS rfl) hS.2.2 d_D_lose_57
      · refine lv_bipush (v := (-3)) hx hb d_D_lose_28 (by decide) ?_
        have e : d_lose P G J L n r d = ((P, G, J, L), (-3)) := by unfold d_lose; rw [if_neg hc_1, if_neg hc_2, if_pos hc_3]
        exact W.iret (v := (-3)) hx hb hr (fun t ht hW => kx_Qi (by rw [e]) ht hP (by rw [e]) hS rfl) hS.2.2 d_D_lose_30
    · refine lv_iconst (v := (-1)) hx hb d_D_lose_18 (by decide) ?_
      have e : d_lose P G J L n r d = ((P, G, J, L), (-1)) := by unfold d_lose; rw [if_neg hc_1, if_pos hc_2]
      exact W.iret (v := (-1)) hx hb hr (fun t ht hW => kx_Qi (by rw [e]) ht hP (by rw [e]) hS rfl) hS.2.2 d_D_lose_19
def d_replace (P : PP) (G J : GG) (L : LL) (n w : Nat) (d : Int32) : SS × Int32 := (if (bI (decide (¬ d < 0 ∧ ¬ P.1 ≤ d))) = 0 then ((P, G, J, L), (-1)) else (if ((P.2.2.2.1) d.toNatClampNeg) = (-1) then (if ((pMark (upd (pMk P) (d.toNatClampNeg) 0) P).2.2.1) = 0 then (((pMark (upd (pMk P) (d.toNatClampNeg) 0) P), G, J, L), 0) else (((pMark (upd (pMk P) (d.toNatClampNeg) 0) P), G, J, (pFinish (pMark (upd (pMk P) (d.toNatClampNeg) 0) P) w n (lDraft w 0 (upd (pMk P) (d.toNatClampNeg) 0) L))), 0)) else ((P, G, J, L), (-1))))
set_option maxHeartbeats 4000000 in
set_option maxRecDepth 100000 in
theorem k_D_replace (l : Launch) (dC : Nat → ClassId) (dI : Nat → Nat → Nat) (k5 : Nat → ClassId) (a : Nat → Nat) (P : PP) (G J : GG) (L : LL) (n w : Nat) (d : Int32) (hn : P.1 = nI n) (hn4 : 4 ≤ n) (hn8 : n ≤ 8) (hw : w = 0 ∨ w = 1) (hq : 1 - L.1 1 = nI w) : Met l y_D_replace w_D_replace ({ frames := 4, cells := 0, slots := 0, locals := 89 }) (kx_Pc (dC, dI) clA (tyL k5) (wD a k5 P G J L) [.ref (a 0), .int d]) (kx_Q (dC, dI) clA (wD a k5 P G J L) (wS a k5 (d_replace P G J L n w d).1) (some (.int (d_replace P G J L n w d).2))) 0 0 (kx_A (wD a k5 P G J L)) := by
  refine Met.ofW (cc := c_D_replace) (maxL := 2) (ret := (some .int)) (by decide) rfl ?_
  intro p e s m args below meth c s₁ B hml hv
  obtain ⟨rfl, hP, hK, hD0⟩ := hv
  have hx := B.exec
  have hb := B.bytes
  have hr := B.returns
  have hts : ∀ w ∈ wsA, w.before _ s = true := fun w h => atoms_spec (ws := w_D_replace) B.pre w (List.mem_cons_of_mem _ h)
  have hown : s.vm.findClass R_D = some m.cls := findClass_of_methodNamed B.named
  have hlocks := B.notSynchronized
  have hD := kx_D.self hD0
  have hS : va_S (kx_A (wD a k5 P G J L)) s.heap s.heap [] := va_S.rf
  have hl := lv_entry ([.ref (a 0), .int d]) (n := 2) (Nat.le_of_ble_eq_true rfl)
  rw [lg_entry_eq]
  generalize (lg_sl ([.ref (a 0), .int d]) ++ List.replicate (2 - (lg_sl ([.ref (a 0), .int d])).length) Slot.unset).toArray = ls at hl ⊢
  have hl : lv_has ls 2 [(0, .ref (a 0)), (1, .int d)] := hl
  refine lv_aload_n hx hb d_D_replace_0 rfl (lv_at hl 0 rfl) ?_
  refine lv_iload_n hx hb d_D_replace_1 rfl (lv_at hl 1 rfl) ?_
  refine kx_VRW (As := [.int d]) (rest := []) ⟨hx, hb, hml, hown, hts⟩ (k_D_isDisk l dC dI k5 a P G J L d) (cwV 1 hts (goodV wm_D_115 wn_D_isDisk ws_D_isDisk wi_D wc_D_isDisk) rfl rfl rfl (by decide +kernel) ⟨Nat.le_of_ble_eq_true rfl, Nat.le_of_ble_eq_true rfl⟩) ⟨Nat.zero_le _, Nat.zero_le _⟩ hK hP hD 0 rfl rfl rfl hl.1 rfl (Nat.le_of_ble_eq_true rfl) d_D_replace_2 ?_
  refine W.eq (g2 := F0 m 5 ls [.int (bI (decide (¬ d < 0 ∧ ¬ P.1 ≤ d)))]) rfl ?_
  refine lv_if_eq (tgt := 18) hx hb d_D_replace_5 (by decide) (fun hc_1 => ?_) (fun hc_1 => ?_)
  · refine lv_iconst (v := (-1)) hx hb d_D_replace_18 (by decide) ?_
    have e : d_replace P G J L n w d = ((P, G, J, L), (-1)) := by unfold d_replace; rw [if_pos hc_1]
    exact W.iret (v := (-1)) hx hb hr (fun t ht hW => kx_Qi (by rw [e]) ht hP (by rw [e]) hS rfl) hS.2.2 d_D_replace_19
  · refine lv_aload_n hx hb d_D_replace_8 rfl (lv_at hl 0 rfl) ?_
    refine va_get (D := (dC, dI)) (ci := 2) (v := .ref (a 1)) (C := R_D) (T := T_D) (N := 9) hx hb hts wu_D hown hK hP 0 rfl rfl 0 (by decide) (hts _ wf_D_9) (fun _ h9 => h9) rfl d_D_replace_9 ?_
    refine lv_iload_n hx hb d_D_replace_12 rfl (lv_at hl 1 rfl) ?_
    refine kx_iald hx hb hK hP 1 0 rfl rfl d.toNatClampNeg ((isD (bI_t hc_1) hn (by omega)).1) (by have := (isD (bI_t hc_1) hn (by omega)).2; omega) (by omega) d_D_replace_13 ?_
    refine lv_iconst (v := (-1)) hx hb d_D_replace_14 (by decide) ?_
    refine lv_icmp_eq (tgt := 20) hx hb d_D_replace_15 (by decide) (fun hc_2 => ?_) (fun hc_2 => ?_)
    · refine lv_aload_n hx hb d_D_replace_20 rfl (lv_at hl 0 rfl) ?_
      refine va_get (D := (dC, dI)) (ci := 2) (v := .ref (a 1)) (C := R_D) (T := T_D) (N := 9) hx hb hts wu_D hown hK hP 0 rfl rfl 0 (by decide) (hts _ wf_D_9) (fun _ h9 => h9) rfl d_D_replace_21 ?_
      refine lv_iload_n hx hb d_D_replace_24 rfl (lv_at hl 1 rfl) ?_
      refine lv_iconst (v := 0) hx hb d_D_replace_25 (by decide) ?_
      refine kx_iast (ws' := (wD a k5 (pMark (upd (pMk P) (d.toNatClampNeg) 0) P) G J L)) hx hb hK hP hD hS 1 0 rfl rfl d.toNatClampNeg ((isD (bI_t hc_1) hn (by omega)).1) (by have := (isD (bI_t hc_1) hn (by omega)).2; omega) (by omega) rfl d_D_replace_26 (fun H locs hP hD hS => ?_)
      refine lv_aload_n hx hb d_D_replace_27 rfl (lv_at hl 0 rfl) ?_
      refine va_get (D := (dC, dI)) (ci := 2) (v := .int ((pMark (upd (pMk P) (d.toNatClampNeg) 0) P).2.2.1)) (C := R_D) (T := T_D) (N := 9) hx hb hts wu_D hown hK hP 0 rfl rfl 8 (by decide) (hts _ wf_D_46) (fun _ h9 => h9) rfl d_D_replace_28 ?_
      refine lv_if_eq (tgt := 50) hx hb d_D_replace_31 (by decide) (fun hc_3 => ?_) (fun hc_3 => ?_)
      · refine lv_iconst (v := 0) hx hb d_D_replace_50 (by decide) ?_
        have e : d_replace P G J L n w d = (((pMark (upd (pMk P) (d.toNatClampNeg) 0) P), G, J, L), 0) := by unfold d_replace; rw [if_neg hc_1, if_pos hc_2, if_pos hc_3]
        exact W.iret (v := 0) hx hb hr (fun t ht hW => kx_Qi (by rw [e]) ht hP (by rw [e]) hS rfl) hS.2.2 d_D_replace_51
      · refine lv_aload_n hx hb d_D_replace_34 rfl (lv_at hl 0 rfl) ?_
        refine va_get (D := (dC, dI)) (ci := 2) (v := .ref (a 12)) (C := R_D) (T := T_D) (N := 9) hx hb hts wu_D hown hK hP 0 rfl rfl 5 (by decide) (hts _ wf_D_34) (fun _ h9 => h9) rfl d_D_replace_35 ?_
        refine lv_iconst (v := 0) hx hb d_D_replace_38 (by decide) ?_
        refine lv_aload_n hx hb d_D_replace_39 rfl (lv_at hl 0 rfl) ?_
        refine va_get (D := (dC, dI)) (ci := 2) (v := .ref (a 1)) (C := R_D) (T := T_D) (N := 9) hx hb hts wu_D hown hK hP 0 rfl rfl 0 (by decide) (hts _ wf_D_9) (fun _ h9 => h9) rfl d_D_replace_40 ?_
        refine kx_V (ws2 := (wD a k5 (pMark (upd (pMk P) (d.toNatClampNeg) 0) P) G J (lDraft w 0 (upd (pMk P) (d.toNatClampNeg) 0) L))) (As := [.int 0, .ref (a 1)]) (rest := []) ⟨hx, hb, hml, hown, hts⟩ (k_L_draft l dC dI k5 a L w hw hq (a 1) (upd (pMk P) (d.toNatClampNeg) 0) 0 rfl) (cwV 2 hts (goodV wm_D_94 wn_L_draft ws_L_draft wi_L wc_L_draft) rfl rfl rfl (by decide +kernel) ⟨Nat.le_of_ble_eq_true rfl, Nat.le_of_ble_eq_true rfl⟩) ⟨Nat.zero_le _, Nat.zero_le _⟩ hK hP hD hS [12, 13, 14, 15, 16, 17, 18, 19, 20, 21, 22, 23, 1] (by decide) rfl 0 rfl rfl rfl rfl rfl rfl hl.1 rfl (Nat.le_of_ble_eq_true rfl) d_D_replace_43 (fun H locs hP hD hS => ?_)
        refine W.eq (g2 := F0 m 46 ls []) rfl ?_
        refine lv_aload_n hx hb d_D_replace_46 rfl (lv_at hl 0 rfl) ?_
        refine kx_VW (w1 := (wD a k5 (pMark (upd (pMk P) (d.toNatClampNeg) 0) P) G J (pFinish (pMark (upd (pMk P) (d.toNatClampNeg) 0) P) w n (lDraft w 0 (upd (pMk P) (d.toNatClampNeg) 0) L)))) (As := []) (rest := []) ⟨hx, hb, hml, hown, hts⟩ (k_D_finishLabel l dC dI k5 a (pMark (upd (pMk P) (d.toNatClampNeg) 0) P) G J (lDraft w 0 (upd (pMk P) (d.toNatClampNeg) 0) L) w hw hq n hn hn8) (cwV 0 hts (goodV wm_D_102 wn_D_finishLabel ws_D_finishLabel wi_D wc_D_finishLabel) rfl rfl rfl (by decide +kernel) ⟨Nat.le_of_ble_eq_true rfl, Nat.le_of_ble_eq_true rfl⟩) ⟨Nat.zero_le _, Nat.zero_le _⟩ hK hP hD hS 0 rfl rfl rfl rfl hl.1 rfl (Nat.le_of_ble_eq_true rfl) d_D_replace_47 (fun H locs hP hD hS => ?_)
        refine W.eq (g2 := F0 m 50 ls []) rfl ?_
        refine lv_iconst (v := 0) hx hb d_D_replace_50 (by decide) ?_
        have e : d_replace P G J L n w d = (((pMark (upd (pMk P) (d.toNatClampNeg) 0) P), G, J, (pFinish (pMark (upd (pMk P) (d.toNatClampNeg) 0) P) w n (lDraft w 0 (upd (pMk P) (d.toNatClampNeg) 0) L))), 0) := by unfold d_replace; rw [if_neg hc_1, if_pos hc_2, if_neg hc_3]
        exact W.iret (v := 0) hx hb hr (fun t ht hW => kx_Qi (by rw [e]) ht hP (by rw [e]) hS rfl) hS.2.2 d_D_replace_51
    · refine lv_iconst (v := (-1)) hx hb d_D_replace_18 (by decide) ?_
      have e : d_replace P G J L n w d = ((P, G, J, L), (-1)) := by unfold d_replace; rw [if_neg hc_1, if_neg hc_2]
      exact W.iret (v := (-1)) hx hb hr (fun t ht hW => kx_Qi (by rw [e]) ht hP (by rw [e]) hS rfl) hS.2.2 d_D_replace_19
def d_rot (P : PP) (G J : GG) (L : LL) (n : Nat) (d t : Int32) : SS × Int32 := (if (bI (decide (¬ d < 0 ∧ ¬ P.1 ≤ d))) = 0 then ((P, G, J, L), (-1)) else (if (bI (decide (¬ t < 2 ∧ ¬ P.2.1 ≤ t))) = 0 then ((P, G, J, L), (-1)) else (if (bI (pGone P (d.toNatClampNeg) t)) = 0 then (if (nI (pGoneIn P t n)) < 2 then (((pRot (vp_updL (pRt P) (d.toNatClampNeg) (pRt P (d.toNatClampNeg) ||| (1 <<< (t.toInt64 &&& 63)))) P), G, J, L), ((nI (pGoneIn P t n)) + 1)) else ((P, G, J, L), (-3))) else ((P, G, J, L), (-1)))))
set_option maxHeartbeats 4000000 in
set_option maxRecDepth 100000 in
theorem k_D_rot (l : Launch) (dC : Nat → ClassId) (dI : Nat → Nat → Nat) (k5 : Nat → ClassId) (a : Nat → Nat) (P : PP) (G J : GG) (L : LL) (n : Nat) (d t : Int32) (hn : P.1 = nI n) (hn4 : 4 ≤ n) (hn8 : n ≤ 8) : Met l y_D_rot w_D_rot ({ frames := 3, cells := 0, slots := 0, locals := 67 }) (kx_Pc (dC, dI) clA (tyL k5) (wD a k5 P G J L) [.ref (a 0), .int d, .int t]) (kx_Q (dC, dI) clA (wD a k5 P G J L) (wS a k5 (d_rot P G J L n d t).1) (some (.int (d_rot P G J L n d t).2))) 0 0 (kx_A (wD a k5 P G J L)) := by
  refine Met.ofW (cc := c_D_rot) (maxL := 4) (ret := (some .int)) (by decide) rfl ?_
  intro p e s m args below meth c s₁ B hml hv
  obtain ⟨rfl, hP, hK, hD0⟩ := hv
  have hx := B.exec
  have hb := B.bytes
  have hr := B.returns
  have hts : ∀ w ∈ wsA, w.before _ s = true := fun w h => atoms_spec (ws := w_D_rot) B.pre w (List.mem_cons_of_mem _ h)
  have hown : s.vm.findClass R_D = some m.cls := findClass_of_methodNamed B.named
  have hlocks := B.notSynchronized
  have hD := kx_D.self hD0
  have hS : va_S (kx_A (wD a k5 P G J L)) s.heap s.heap [] := va_S.rf
  have hl := lv_entry ([.ref (a 0), .int d, .int t]) (n := 4) (Nat.le_of_ble_eq_true rfl)
  rw [lg_entry_eq]
  generalize (lg_sl ([.ref (a 0), .int d, .int t]) ++ List.replicate (4 - (lg_sl ([.ref (a 0), .int d, .int t])).length) Slot.unset).toArray = ls at hl ⊢
  have hl : lv_has ls 4 [(0, .ref (a 0)), (1, .int d), (2, .int t)] := hl
  refine lv_aload_n hx hb d_D_rot_0 rfl (lv_at hl 0 rfl) ?_
  refine lv_iload_n hx hb d_D_rot_1 rfl (lv_at hl 1 rfl) ?_
  refine kx_VRW (As := [.int d]) (rest := []) ⟨hx, hb, hml, hown, hts⟩ (k_D_isDisk l dC dI k5 a P G J L d) (cwV 1 hts (goodV wm_D_115 wn_D_isDisk ws_D_isDisk wi_D wc_D_isDisk) rfl rfl rfl (by decide +kernel) ⟨Nat.le_of_ble_eq_true rfl, Nat.le_of_ble_eq_true rfl⟩) ⟨Nat.zero_le _, Nat.zero_le _⟩ hK hP hD 0 rfl rfl rfl hl.1 rfl (Nat.le_of_ble_eq_true rfl) d_D_rot_2 ?_
  refine W.eq (g2 := F0 m 5 ls [.int (bI (decide (¬ d < 0 ∧ ¬ P.1 ≤ d)))]) rfl ?_
  refine lv_if_eq (tgt := 25) hx hb d_D_rot_5 (by decide) (fun hc_1 => ?_) (fun hc_1 => ?_)
  · refine lv_iconst (v := (-1)) hx hb d_D_rot_25 (by decide) ?_
    have e : d_rot P G J L n d t = ((P, G, J, L), (-1)) := by unfold d_rot; rw [if_pos hc_1]
    exact W.iret (v := (-1)) hx hb hr (fun t ht hW => kx_Qi (by rw [e]) ht hP (by rw [e]) hS rfl) hS.2.2 d_D_rot_26
  · refine lv_aload_n hx hb d_D_rot_8 rfl (lv_at hl 0 rfl) ?_
    refine lv_iload_n hx hb d_D_rot_9 rfl (lv_at hl 2 rfl) ?_
    refine kx_VRW (As := [.int t]) (rest := []) ⟨hx, hb, hml, hown, hts⟩ (k_D_isRow l dC dI k5 a P G J L t) (cwV 1 hts (goodV wm_D_129 wn_D_isRow ws_D_isRow wi_D wc_D_isRow) rfl rfl rfl (by decide +kernel) ⟨Nat.le_of_ble_eq_true rfl, Nat.le_of_ble_eq_true rfl⟩) ⟨Nat.zero_le _, Nat.zero_le _⟩ hK hP hD 0 rfl rfl rfl hl.1 rfl (Nat.le_of_ble_eq_true rfl) d_D_rot_10 ?_
    refine W.eq (g2 := F0 m 13 ls [.int (bI (decide (¬ t < 2 ∧ ¬ P.2.1 ≤ t)))]) rfl ?_
    refine lv_if_eq (tgt := 25) hx hb d_D_rot_13 (by decide) (fun hc_2 => ?_) (fun hc_2 => ?_)
    · refine lv_iconst (v := (-1)) hx hb d_D_rot_25 (by decide) ?_
      have e : d_rot P G J L n d t = ((P, G, J, L), (-1)) := by unfold d_rot; rw [if_neg hc_1, if_pos hc_2]
      exact W.iret (v := (-1)) hx hb hr (fun t ht hW => kx_Qi (by rw [e]) ht hP (by rw [e]) hS rfl) hS.2.2 d_D_rot_26
    · refine lv_aload_n hx hb d_D_rot_16 rfl (lv_at hl 0 rfl) ?_
      refine lv_iload_n hx hb d_D_rot_17 rfl (lv_at hl 1 rfl) ?_
      refine lv_iload_n hx hb d_D_rot_18 rfl (lv_at hl 2 rfl) ?_
      refine W.eq (g2 := F0 m 19 ls [.int t, .int (nI (d.toNatClampNeg)), .ref (a 0)]) (by rw [← (isD (bI_t hc_1) hn (by omega)).1]) ?_
      refine kx_VRW (As := [.int (nI (d.toNatClampNeg)), .int t]) (rest := []) ⟨hx, hb, hml, hown, hts⟩ (k_D_isGone l dC dI k5 a P G J L (d.toNatClampNeg) (by have := (isD (bI_t hc_1) hn (by omega)).2; omega) t) (cwV 2 hts (goodV wm_D_132 wn_D_isGone ws_D_isGone wi_D wc_D_isGone) rfl rfl rfl (by decide +kernel) ⟨Nat.le_of_ble_eq_true rfl, Nat.le_of_ble_eq_true rfl⟩) ⟨Nat.zero_le _, Nat.zero_le _⟩ hK hP hD 0 rfl rfl rfl hl.1 rfl (Nat.le_of_ble_eq_true rfl) d_D_rot_19 ?_
      refine W.eq (g2 := F0 m 22 ls [.int (bI (pGone P (d.toNatClampNeg) t))]) rfl ?_
      refine lv_if_eq (tgt := 27) hx hb d_D_rot_22 (by decide) (fun hc_3 => ?_) (fun hc_3 => ?_)
      · refine lv_aload_n hx hb d_D_rot_27 rfl (lv_at hl 0 rfl) ?_
        refine lv_iload_n hx hb d_D_rot_28 rfl (lv_at hl 2 rfl) ?_
        refine kx_VRW (As := [.int t]) (rest := []) ⟨hx, hb, hml, hown, hts⟩ (k_D_goneIn l dC dI k5 a P G J L t n hn hn8) (cwV 1 hts (goodV wm_D_135 wn_D_goneIn ws_D_goneIn wi_D wc_D_goneIn) rfl rfl rfl (by decide +kernel) ⟨Nat.le_of_ble_eq_true rfl, Nat.le_of_ble_eq_true rfl⟩) ⟨Nat.zero_le _, Nat.zero_le _⟩ hK hP hD 0 rfl rfl rfl hl.1 rfl (Nat.le_of_ble_eq_true rfl) d_D_rot_29 ?_
        refine W.eq (g2 := F0 m 32 ls [.int (nI (pGoneIn P t n))]) rfl ?_
        refine lv_istore_n (lv' := [(3, .int (nI (pGoneIn P t n))), (0, .ref (a 0)), (1, .int d), (2, .int t)]) hx hb d_D_rot_32 rfl hl (by decide) rfl (fun ls hl => ?_)
        refine lv_iload_n hx hb d_D_rot_33 rfl (lv_at hl 0 rfl) ?_
        refine lv_iconst (v := 2) hx hb d_D_rot_34 (by decide) ?_
        refine lv_icmp_lt (tgt := 41) hx hb d_D_rot_35 (by decide) (fun hc_4 => ?_) (fun hc_4 => ?_)
        · refine lv_aload_n hx hb d_D_rot_41 rfl (lv_at hl 1 rfl) ?_
          refine va_get (D := (dC, dI)) (ci := 2) (v := .ref (a 2)) (C := R_D) (T := T_D) (N := 9) hx hb hts wu_D hown hK hP 0 rfl rfl 1 (by decide) (hts _ wf_D_13) (fun _ h9 => h9) rfl d_D_rot_42 ?_
          refine lv_iload_n hx hb d_D_rot_45 rfl (lv_at hl 2 rfl) ?_
          refine lv_dup2_11 hx hb d_D_rot_46 rfl rfl ?_
          refine kx_lald hx hb hK hP 2 1 rfl rfl d.toNatClampNeg ((isD (bI_t hc_1) hn (by omega)).1) (by have := (isD (bI_t hc_1) hn (by omega)).2; omega) (by omega) d_D_rot_47 ?_
          refine lv_lconst (v := 1) hx hb d_D_rot_48 (by decide) ?_
          refine lv_iload_n hx hb d_D_rot_49 rfl (lv_at hl 3 rfl) ?_
          refine lv_lshl (v := (1 <<< (t.toInt64 &&& 63))) hx hb d_D_rot_50 rfl ?_
          refine lv_lor hx hb d_D_rot_51 ?_
          refine kx_last (ws' := (wD a k5 (pRot (vp_updL (pRt P) (d.toNatClampNeg) (pRt P (d.toNatClampNeg) ||| (1 <<< (t.toInt64 &&& 63)))) P) G J L)) hx hb hK hP hD hS 2 1 rfl rfl d.toNatClampNeg ((isD (bI_t hc_1) hn (by omega)).1) (by have := (isD (bI_t hc_1) hn (by omega)).2; omega) (by omega) rfl d_D_rot_52 (fun H locs hP hD hS => ?_)
          refine lv_iload_n hx hb d_D_rot_53 rfl (lv_at hl 0 rfl) ?_
          refine lv_iconst (v := 1) hx hb d_D_rot_54 (by decide) ?_
          refine lv_iadd hx hb d_D_rot_55 ?_
          have e : d_rot P G J L n d t = (((pRot (vp_updL (pRt P) (d.toNatClampNeg) (pRt P (d.toNatClampNeg) ||| (1 <<< (t.toInt64 &&& 63)))) P), G, J, L), ((nI (pGoneIn P t n)) + 1)) := by unfold d_rot; rw [if_neg hc_1, if_neg hc_2, if_pos hc_3, if_pos hc_4]
          exact W.iret (v := ((nI (pGoneIn P t n)) + 1)) hx hb hr (fun t ht hW => kx_Qi (by rw [e]) ht hP (by rw [e]) hS rfl) hS.2.2 d_D_rot_56
        · refine lv_bipush (v := (-3)) hx hb d_D_rot_38 (by decide) ?_
          have e : d_rot P G J L n d t = ((P, G, J, L), (-3)) := by unfold d_rot; rw [if_neg hc_1, if_neg hc_2, if_pos hc_3, if_neg hc_4]
          exact W.iret (v := (-3)) hx hb hr (fun t ht hW => kx_Qi (by rw [e]) ht hP (by rw [e]) hS rfl) hS.2.2 d_D_rot_40
      · refine lv_iconst (v := (-1)) hx hb d_D_rot_25 (by decide) ?_
        have e : d_rot P G J L n d t = ((P, G, J, L), (-1)) := by unfold d_rot; rw [if_neg hc_1, if_neg hc_2, if_neg hc_3]
        exact W.iret (v := (-1)) hx hb hr (fun t ht hW => kx_Qi (by rw [e]) ht hP (by rw [e]) hS rfl) hS.2.2 d_D_rot_26
def d_count (P : PP) (G J : GG) (L : LL) (n : Nat) (x : Int32) : SS × Int32 := (if (P.2.2.1) = 0 then ((P, G, J, L), (-2)) else (if x = 0 then ((P, G, J, L), ((P.1 - 2) * (P.2.1 - 6))) else if x = 1 then ((P, G, J, L), (gUse G)) else if x = 2 then ((P, G, J, L), G.1) else if x = 3 then ((P, G, J, L), (nI (pMarked P (-1) (-1) n))) else if x = 4 then ((P, G, J, L), (nI (pMarked P 0 (P.2.1 - 1) n))) else ((P, G, J, L), (-1))))
set_option maxHeartbeats 4000000 in
set_option maxRecDepth 100000 in
theorem k_D_count (l : Launch) (dC : Nat → ClassId) (dI : Nat → Nat → Nat) (k5 : Nat → ClassId) (a : Nat → Nat) (P : PP) (G J : GG) (L : LL) (n : Nat) (x : Int32) (hn : P.1 = nI n) (hn4 : 4 ≤ n) (hn8 : n ≤ 8) : Met l y_D_count w_D_count ({ frames := 2, cells := 0, slots := 0, locals := 44 }) (kx_Pc (dC, dI) clA (tyL k5) (wD a k5 P G J L) [.ref (a 0), .int x]) (kx_Q (dC, dI) clA (wD a k5 P G J L) (wS a k5 (d_count P G J L n x).1) (some (.int (d_count P G J L n x).2))) 0 0 (kx_A (wD a k5 P G J L)) := by
  refine Met.ofW (cc := c_D_count) (maxL := 2) (ret := (some .int)) (by decide) rfl ?_
  intro p e s m args below meth c s₁ B hml hv
  obtain ⟨rfl, hP, hK, hD0⟩ := hv
  have hx := B.exec
  have hb := B.bytes
  have hr := B.returns
  have hts : ∀ w ∈ wsA, w.before _ s = true := fun w h => atoms_spec (ws := w_D_count) B.pre w (List.mem_cons_of_mem _ h)
  have hown : s.vm.findClass R_D = some m.cls := findClass_of_methodNamed B.named
  have hlocks := B.notSynchronized
  have hD := kx_D.self hD0
  have hS : va_S (kx_A (wD a k5 P G J L)) s.heap s.heap [] := va_S.rf
  have hl := lv_entry ([.ref (a 0), .int x]) (n := 2) (Nat.le_of_ble_eq_true rfl)
  rw [lg_entry_eq]
  generalize (lg_sl ([.ref (a 0), .int x]) ++ List.replicate (2 - (lg_sl ([.ref (a 0), .int x])).length) Slot.unset).toArray = ls at hl ⊢
  have hl : lv_has ls 2 [(0, .ref (a 0)), (1, .int x)] := hl
  refine lv_aload_n hx hb d_D_count_0 rfl (lv_at hl 0 rfl) ?_
  refine va_get (D := (dC, dI)) (ci := 2) (v := .int (P.2.2.1)) (C := R_D) (T := T_D) (N := 9) hx hb hts wu_D hown hK hP 0 rfl rfl 8 (by decide) (hts _ wf_D_46) (fun _ h9 => h9) rfl d_D_count_1 ?_
  refine lv_if_ne (tgt := 10) hx hb d_D_count_4 (by decide) (fun hc_1 => ?_) (fun hc_1 => ?_)
  · refine lv_iload_n hx hb d_D_count_10 rfl (lv_at hl 1 rfl) ?_
    by_cases hs_2 : x = 0
    · refine lv_tableIn (off := 33) (tgt := 44) hx hb d_D_count_11 (by rw [hs_2]; decide) (by rw [hs_2]; decide) (by rw [hs_2]; rfl) (by decide) ?_
      refine lv_aload_n hx hb d_D_count_44 rfl (lv_at hl 0 rfl) ?_
      refine kx_VRW (As := []) (rest := []) ⟨hx, hb, hml, hown, hts⟩ (k_D_blocks l dC dI k5 a P G J L ) (cwV 0 hts (goodV wm_D_42 wn_D_blocks ws_D_blocks wi_D wc_D_blocks) rfl rfl rfl (by decide +kernel) ⟨Nat.le_of_ble_eq_true rfl, Nat.le_of_ble_eq_true rfl⟩) ⟨Nat.zero_le _, Nat.zero_le _⟩ hK hP hD 0 rfl rfl rfl hl.1 rfl (Nat.le_of_ble_eq_true rfl) d_D_count_45 ?_
      refine W.eq (g2 := F0 m 48 ls [.int ((P.1 - 2) * (P.2.1 - 6))]) rfl ?_
      have e : d_count P G J L n x = ((P, G, J, L), ((P.1 - 2) * (P.2.1 - 6))) := by unfold d_count; rw [if_neg hc_1, if_pos hs_2]
      exact W.iret (v := ((P.1 - 2) * (P.2.1 - 6))) hx hb hr (fun t ht hW => kx_Qi (by rw [e]) ht hP (by rw [e]) hS rfl) hS.2.2 d_D_count_48
    · by_cases hs_3 : x = 1
      · refine lv_tableIn (off := 38) (tgt := 49) hx hb d_D_count_11 (by rw [hs_3]; decide) (by rw [hs_3]; decide) (by rw [hs_3]; rfl) (by decide) ?_
        refine lv_aload_n hx hb d_D_count_49 rfl (lv_at hl 0 rfl) ?_
        refine va_get (D := (dC, dI)) (ci := 2) (v := .ref (a 4)) (C := R_D) (T := T_D) (N := 9) hx hb hts wu_D hown hK hP 0 rfl rfl 3 (by decide) (hts _ wf_D_24) (fun _ h9 => h9) rfl d_D_count_50 ?_
        refine kx_VR (As := []) (rest := []) ⟨hx, hb, hml, hown, hts⟩ (k_G_use l dC dI k5 (a 4) (a 5) (a 6) (a 7) G.1 G.2.1 G.2.2.1 G.2.2.2.1 G.2.2.2.2 ) (cwV 0 hts (goodV wm_D_76 wn_G_use ws_G_use wi_G wc_G_use) rfl rfl rfl (by decide +kernel) ⟨Nat.le_of_ble_eq_true rfl, Nat.le_of_ble_eq_true rfl⟩) ⟨Nat.zero_le _, Nat.zero_le _⟩ hK hP hD [4, 5, 6, 7] (by decide) rfl 0 rfl rfl rfl hl.1 rfl (Nat.le_of_ble_eq_true rfl) d_D_count_53 ?_
        refine W.eq (g2 := F0 m 56 ls [.int (gUse G)]) rfl ?_
        have e : d_count P G J L n x = ((P, G, J, L), (gUse G)) := by unfold d_count; rw [if_neg hc_1, if_neg hs_2, if_pos hs_3]
        exact W.iret (v := (gUse G)) hx hb hr (fun t ht hW => kx_Qi (by rw [e]) ht hP (by rw [e]) hS rfl) hS.2.2 d_D_count_56
      · by_cases hs_4 : x = 2
        · refine lv_tableIn (off := 46) (tgt := 57) hx hb d_D_count_11 (by rw [hs_4]; decide) (by rw [hs_4]; decide) (by rw [hs_4]; rfl) (by decide) ?_
          refine lv_aload_n hx hb d_D_count_57 rfl (lv_at hl 0 rfl) ?_
          refine va_get (D := (dC, dI)) (ci := 2) (v := .ref (a 4)) (C := R_D) (T := T_D) (N := 9) hx hb hts wu_D hown hK hP 0 rfl rfl 3 (by decide) (hts _ wf_D_24) (fun _ h9 => h9) rfl d_D_count_58 ?_
          refine kx_VR (As := []) (rest := []) ⟨hx, hb, hml, hown, hts⟩ (k_G_size l dC dI k5 (a 4) (a 5) (a 6) (a 7) G.1 G.2.1 G.2.2.1 G.2.2.2.1 G.2.2.2.2 ) (cwV 0 hts (goodV wm_D_112 wn_G_size ws_G_size wi_G wc_G_size) rfl rfl rfl (by decide +kernel) ⟨Nat.le_of_ble_eq_true rfl, Nat.le_of_ble_eq_true rfl⟩) ⟨Nat.zero_le _, Nat.zero_le _⟩ hK hP hD [4, 5, 6, 7] (by decide) rfl 0 rfl rfl rfl hl.1 rfl (Nat.le_of_ble_eq_true rfl) d_D_count_61 ?_
          refine W.eq (g2 := F0 m 64 ls [.int G.1]) rfl ?_
          have e : d_count P G J L n x = ((P, G, J, L), G.1) := by unfold d_count; rw [if_neg hc_1, if_neg hs_2, if_neg hs_3, if_pos hs_4]
          exact W.iret (v := G.1) hx hb hr (fun t ht hW => kx_Qi (by rw [e]) ht hP (by rw [e]) hS rfl) hS.2.2 d_D_count_64
        · by_cases hs_5 : x = 3
          · refine lv_tableIn (off := 54) (tgt := 65) hx hb d_D_count_11 (by rw [hs_5]; decide) (by rw [hs_5]; decide) (by rw [hs_5]; rfl) (by decide) ?_
            refine lv_aload_n hx hb d_D_count_65 rfl (lv_at hl 0 rfl) ?_
            refine kx_VRW (As := []) (rest := []) ⟨hx, hb, hml, hown, hts⟩ (k_D_lostDisks l dC dI k5 a P G J L n hn hn8) (cwV 0 hts (goodV wm_D_126 wn_D_lostDisks ws_D_lostDisks wi_D wc_D_lostDisks) rfl rfl rfl (by decide +kernel) ⟨Nat.le_of_ble_eq_true rfl, Nat.le_of_ble_eq_true rfl⟩) ⟨Nat.zero_le _, Nat.zero_le _⟩ hK hP hD 0 rfl rfl rfl hl.1 rfl (Nat.le_of_ble_eq_true rfl) d_D_count_66 ?_
            refine W.eq (g2 := F0 m 69 ls [.int (nI (pMarked P (-1) (-1) n))]) rfl ?_
            have e : d_count P G J L n x = ((P, G, J, L), (nI (pMarked P (-1) (-1) n))) := by unfold d_count; rw [if_neg hc_1, if_neg hs_2, if_neg hs_3, if_neg hs_4, if_pos hs_5]
            exact W.iret (v := (nI (pMarked P (-1) (-1) n))) hx hb hr (fun t ht hW => kx_Qi (by rw [e]) ht hP (by rw [e]) hS rfl) hS.2.2 d_D_count_69
          · by_cases hs_6 : x = 4
            · refine lv_tableIn (off := 59) (tgt := 70) hx hb d_D_count_11 (by rw [hs_6]; decide) (by rw [hs_6]; decide) (by rw [hs_6]; rfl) (by decide) ?_
              refine lv_aload_n hx hb d_D_count_70 rfl (lv_at hl 0 rfl) ?_
              refine kx_VRW (As := []) (rest := []) ⟨hx, hb, hml, hown, hts⟩ (k_D_blankDisks l dC dI k5 a P G J L n hn hn8) (cwV 0 hts (goodV wm_D_167 wn_D_blankDisks ws_D_blankDisks wi_D wc_D_blankDisks) rfl rfl rfl (by decide +kernel) ⟨Nat.le_of_ble_eq_true rfl, Nat.le_of_ble_eq_true rfl⟩) ⟨Nat.zero_le _, Nat.zero_le _⟩ hK hP hD 0 rfl rfl rfl hl.1 rfl (Nat.le_of_ble_eq_true rfl) d_D_count_71 ?_
              refine W.eq (g2 := F0 m 74 ls [.int (nI (pMarked P 0 (P.2.1 - 1) n))]) rfl ?_
              have e : d_count P G J L n x = ((P, G, J, L), (nI (pMarked P 0 (P.2.1 - 1) n))) := by unfold d_count; rw [if_neg hc_1, if_neg hs_2, if_neg hs_3, if_neg hs_4, if_neg hs_5, if_pos hs_6]
              exact W.iret (v := (nI (pMarked P 0 (P.2.1 - 1) n))) hx hb hr (fun t ht hW => kx_Qi (by rw [e]) ht hP (by rw [e]) hS rfl) hS.2.2 d_D_count_74
            · refine lv_tableOut (tgt := 75) hx hb d_D_count_11 (by have q0 := lv_neT (a := 0) hs_2 (by decide); have q1 := lv_neT (a := 1) hs_3 (by decide); have q2 := lv_neT (a := 2) hs_4 (by decide); have q3 := lv_neT (a := 3) hs_5 (by decide); have q4 := lv_neT (a := 4) hs_6 (by decide); omega) (by decide) ?_
              refine lv_iconst (v := (-1)) hx hb d_D_count_75 (by decide) ?_
              have e : d_count P G J L n x = ((P, G, J, L), (-1)) := by unfold d_count; rw [if_neg hc_1, if_neg hs_2, if_neg hs_3, if_neg hs_4, if_neg hs_5, if_neg hs_6]
              exact W.iret (v := (-1)) hx hb hr (fun t ht hW => kx_Qi (by rw [e]) ht hP (by rw [e]) hS rfl) hS.2.2 d_D_count_76
  · refine lv_bipush (v := (-2)) hx hb d_D_count_7 (by decide) ?_
    have e : d_count P G J L n x = ((P, G, J, L), (-2)) := by unfold d_count; rw [if_pos hc_1]
    exact W.iret (v := (-2)) hx hb hr (fun t ht hW => kx_Qi (by rw [e]) ht hP (by rw [e]) hS rfl) hS.2.2 d_D_count_9
end
section
theorem pFinish_c {P : PP} {w n : Nat} {L : LL} (hq : 1 - L.1 1 = nI w) : (pFinish P w n L).1 1 = nI w := by
  show va_up (pWrite P 6148914691236517205 w n L).1.1 1 (1 - (pWrite P 6148914691236517205 w n L).1.1 1) 1 = nI w
  rw [va_up_self, pWrite_sc]; exact hq
theorem flipW {w : Nat} (hw : w = 0 ∨ w = 1) : (1 : Int32) - nI w = nI (1 - w) := by rcases hw with rfl | rfl <;> decide
theorem pFinish_q {P : PP} {w n : Nat} {L : LL} (hw : w = 0 ∨ w = 1) (hq : 1 - L.1 1 = nI w) : 1 - (pFinish P w n L).1 1 = nI (1 - w) := by rw [pFinish_c hq]; exact flipW hw
theorem flipO {w : Nat} (hw : w = 0 ∨ w = 1) : 1 - w = 0 ∨ 1 - w = 1 := by omega
theorem lPut_ar (w d : Nat) (hw : w = 0 ∨ w = 1) (part : Int32) (L : LL) (k : Nat) (hk : 4 ≤ k) : (lPut w d part L).2 k = L.2 k := by
  have e1 : ∀ M : LL, (lP1 w d part M).2 k = M.2 k := fun M => by
    unfold lP1; split
    · exact va_up_ne _ _ (by omega)
    · rfl
  have e2 : ∀ M : LL, (lP2 w d part M).2 k = M.2 k := fun M => by
    unfold lP2; split
    · exact va_up_ne _ _ (by omega)
    · rfl
  unfold lPut; rw [e2, e1]
theorem pAgain_ar (bits : Int64) (w : Nat) (hw : w = 0 ∨ w = 1) (L : LL) (k : Nat) (hk : 4 ≤ k) : ∀ d, (pAgain bits w d L).1.2 k = L.2 k
  | 0 => rfl
  | d + 1 => by
    rw [pAgain]; split
    · show (lPut w d _ _).2 k = _
      rw [lPut_ar w d hw _ _ k hk]; exact pAgain_ar bits w hw L k hk d
    · exact pAgain_ar bits w hw L k hk d
theorem pWrite_ar (P : PP) (bits : Int64) (w : Nat) (hw : w = 0 ∨ w = 1) (L : LL) (k : Nat) (hk : 4 ≤ k) : ∀ d, (pWrite P bits w d L).1.2 k = L.2 k
  | 0 => rfl
  | d + 1 => by
    rw [pWrite]; split
    · exact pWrite_ar P bits w hw L k hk d
    · show (lPut w d _ _).2 k = _
      rw [lPut_ar w d hw _ _ k hk]; exact pWrite_ar P bits w hw L k hk d
theorem narB {x : Int32} (h : x = 0 ∨ x = 1) : narrow .boolean (.int x) = .int x := by rcases h with rfl | rfl <;> rfl
/-- n bytes from a place of a group on -/
theorem set64 {pl t cn : Int32} {p n : Nat} (hp : pl = nI p) (ht : t = nI t.toNatClampNeg) (h64 : t.toNatClampNeg < 64) (h24 : p < 24) (h1 : ¬ cn < 1) (h2 : ¬ 64 - t < cn) :
    pl * 64 + t = nI (pl * 64 + t).toNatClampNeg ∧ pl * 64 + t + cn = nI ((pl * 64 + t).toNatClampNeg + cn.toNatClampNeg) ∧ (pl * 64 + t).toNatClampNeg + cn.toNatClampNeg ≤ 1536 ∧ (pl * 64 + t).toNatClampNeg = p * 64 + t.toNatClampNeg ∧ cn = nI cn.toNatClampNeg ∧ 1 ≤ cn.toNatClampNeg ∧ t.toNatClampNeg + cn.toNatClampNeg ≤ 64 := by
  have h0 : ¬ cn < 0 := fun z => h1 (Int32.lt_trans z (by decide))
  have ec := clamp_nI h0
  generalize hc : cn.toNatClampNeg = k at ec ⊢
  generalize ht2 : t.toNatClampNeg = α at ht h64 ⊢
  obtain ⟨e1, e2⟩ := idx64 (m := 24) hp ht h24 h64 (by omega)
  rw [ht, show (64 - nI α) = nI (64 - α) from pk_sub (a := 64) (b := α) (by omega), ec] at h2
  rw [ec] at h1
  have hk31 : k < 2 ^ 31 := by
    obtain ⟨j, hj, ej⟩ := nI_of h0
    rw [ej, nI_clamp hj] at hc
    omega
  have hk : k ≤ 64 - α := Nat.not_lt.mp (fun z => h2 (nI_lt z hk31))
  have hk1 : 1 ≤ k := Nat.not_lt.mp (fun z => h1 (nI_lt (b := 1) z (by omega)))
  refine ⟨e1, ?_, by omega, e2, ec, hk1, by omega⟩
  rw [e2, show pl * 64 + t = nI (p * 64 + α) from e1.trans (by rw [e2]), ec]
  exact nI_add _ _
end
section
def d_write (P : PP) (G J : GG) (L : LL) (tk : Nat) (b t cn v : Int32) : SS × Int32 := (if (P.2.2.1) = 0 then ((P, G, J, L), (-2)) else (if (bI (decide (¬ b < 0 ∧ ¬ (P.1 - 2) * (P.2.1 - 6) ≤ b ∧ ¬ t < 0 ∧ ¬ 64 ≤ t))) = 0 then ((P, G, J, L), (-1)) else (if cn < 1 then ((P, G, J, L), (-1)) else (if (64 - t) < cn then ((P, G, J, L), (-1)) else (if v < 0 then ((P, G, J, L), (-1)) else (if v ≤ 255 then (if 0 ≤ (oI (gFind G.2.2.1 b tk)) then ((P, (gSet (((oI (gFind G.2.2.1 b tk)) * 64 + t).toNatClampNeg) (cn.toNatClampNeg) v.toInt8.toInt32 G), J, L), (gUse (gSet (((oI (gFind G.2.2.1 b tk)) * 64 + t).toNatClampNeg) (cn.toNatClampNeg) v.toInt8.toInt32 G))) else (if (gMore G tk (6 + b / (P.1 - 2))) ≤ (4 * ((P.1) - 2)) then ((P, (gSet (((nI tk) * 64 + t).toNatClampNeg) (cn.toNatClampNeg) v.toInt8.toInt32 (gTake (b.toNatClampNeg) tk (6 + b / (P.1 - 2)) (pKp P) G)), J, L), (gUse (gSet (((nI tk) * 64 + t).toNatClampNeg) (cn.toNatClampNeg) v.toInt8.toInt32 (gTake (b.toNatClampNeg) tk (6 + b / (P.1 - 2)) (pKp P) G)))) else ((P, G, J, L), (-3)))) else ((P, G, J, L), (-1))))))))
set_option maxHeartbeats 4000000 in
set_option maxRecDepth 100000 in
theorem k_D_write (l : Launch) (dC : Nat → ClassId) (dI : Nat → Nat → Nat) (k5 : Nat → ClassId) (a : Nat → Nat) (P : PP) (G J : GG) (L : LL) (tk : Nat) (b t cn v : Int32) (n r : Nat) (hn : P.1 = nI n) (hn4 : 4 ≤ n) (hn8 : n ≤ 8) (er : P.2.1 = nI r) (hr2 : 12 ≤ r) (hr40 : r ≤ 40) (hG : GI G tk) (htk : tk ≤ 21) (hK2 : sb_Fit (pKp P)) : Met l y_D_write w_D_write ({ frames := 3, cells := 0, slots := 0, locals := 71 }) (kx_Pc (dC, dI) clA (tyL k5) (wD a k5 P G J L) [.ref (a 0), .int b, .int t, .int cn, .int v]) (kx_Q (dC, dI) clA (wD a k5 P G J L) (wS a k5 (d_write P G J L tk b t cn v).1) (some (.int (d_write P G J L tk b t cn v).2))) 0 0 (kx_A (wD a k5 P G J L)) := by
  refine Met.ofW (cc := c_D_write) (maxL := 7) (ret := (some .int)) (by decide) rfl ?_
  intro p e s m args below meth c s₁ B hml hv
  obtain ⟨rfl, hP, hK, hD0⟩ := hv
  have hx := B.exec
  have hb := B.bytes
  have hr := B.returns
  have hts : ∀ w ∈ wsA, w.before _ s = true := fun w h => atoms_spec (ws := w_D_write) B.pre w (List.mem_cons_of_mem _ h)
  have hown : s.vm.findClass R_D = some m.cls := findClass_of_methodNamed B.named
  have hlocks := B.notSynchronized
  have hD := kx_D.self hD0
  have hS : va_S (kx_A (wD a k5 P G J L)) s.heap s.heap [] := va_S.rf
  have hl := lv_entry ([.ref (a 0), .int b, .int t, .int cn, .int v]) (n := 7) (Nat.le_of_ble_eq_true rfl)
  rw [lg_entry_eq]
  generalize (lg_sl ([.ref (a 0), .int b, .int t, .int cn, .int v]) ++ List.replicate (7 - (lg_sl ([.ref (a 0), .int b, .int t, .int cn, .int v])).length) Slot.unset).toArray = ls at hl ⊢
  have hl : lv_has ls 7 [(0, .ref (a 0)), (1, .int b), (2, .int t), (3, .int cn), (4, .int v)] := hl
  refine lv_aload_n hx hb d_D_write_0 rfl (lv_at hl 0 rfl) ?_
  refine va_get (D := (dC, dI)) (ci := 2) (v := .int (P.2.2.1)) (C := R_D) (T := T_D) (N := 9) hx hb hts wu_D hown hK hP 0 rfl rfl 8 (by decide) (hts _ wf_D_46) (fun _ h9 => h9) rfl d_D_write_1 ?_
  refine lv_if_ne (tgt := 10) hx hb d_D_write_4 (by decide) (fun hc_1 => ?_) (fun hc_1 => ?_)
  · refine lv_aload_n hx hb d_D_write_10 rfl (lv_at hl 0 rfl) ?_
    refine lv_iload_n hx hb d_D_write_11 rfl (lv_at hl 1 rfl) ?_
    refine lv_iload_n hx hb d_D_write_12 rfl (lv_at hl 2 rfl) ?_
    refine kx_VRW (As := [.int b, .int t]) (rest := []) ⟨hx, hb, hml, hown, hts⟩ (k_D_isByte l dC dI k5 a P G J L b t) (cwV 2 hts (goodV wm_D_50 wn_D_isByte ws_D_isByte wi_D wc_D_isByte) rfl rfl rfl (by decide +kernel) ⟨Nat.le_of_ble_eq_true rfl, Nat.le_of_ble_eq_true rfl⟩) ⟨Nat.zero_le _, Nat.zero_le _⟩ hK hP hD 0 rfl rfl rfl hl.1 rfl (Nat.le_of_ble_eq_true rfl) d_D_write_13 ?_
    refine W.eq (g2 := F0 m 16 ls [.int (bI (decide (¬ b < 0 ∧ ¬ (P.1 - 2) * (P.2.1 - 6) ≤ b ∧ ¬ t < 0 ∧ ¬ 64 ≤ t)))]) rfl ?_
    refine lv_if_eq (tgt := 45) hx hb d_D_write_16 (by decide) (fun hc_2 => ?_) (fun hc_2 => ?_)
    · refine lv_iconst (v := (-1)) hx hb d_D_write_45 (by decide) ?_
      have e : d_write P G J L tk b t cn v = ((P, G, J, L), (-1)) := by unfold d_write; rw [if_neg hc_1, if_pos hc_2]
      exact W.iret (v := (-1)) hx hb hr (fun t ht hW => kx_Qi (by rw [e]) ht hP (by rw [e]) hS rfl) hS.2.2 d_D_write_46
    · refine lv_iload_n hx hb d_D_write_19 rfl (lv_at hl 3 rfl) ?_
      refine lv_iconst (v := 1) hx hb d_D_write_20 (by decide) ?_
      refine lv_icmp_lt (tgt := 45) hx hb d_D_write_21 (by decide) (fun hc_3 => ?_) (fun hc_3 => ?_)
      · refine lv_iconst (v := (-1)) hx hb d_D_write_45 (by decide) ?_
        have e : d_write P G J L tk b t cn v = ((P, G, J, L), (-1)) := by unfold d_write; rw [if_neg hc_1, if_neg hc_2, if_pos hc_3]
        exact W.iret (v := (-1)) hx hb hr (fun t ht hW => kx_Qi (by rw [e]) ht hP (by rw [e]) hS rfl) hS.2.2 d_D_write_46
      · refine lv_iload_n hx hb d_D_write_24 rfl (lv_at hl 3 rfl) ?_
        refine lv_bipush (v := 64) hx hb d_D_write_25 (by decide) ?_
        refine lv_iload_n hx hb d_D_write_27 rfl (lv_at hl 2 rfl) ?_
        refine lv_isub hx hb d_D_write_28 ?_
        refine lv_icmp_gt (tgt := 45) hx hb d_D_write_29 (by decide) (fun hc_4 => ?_) (fun hc_4 => ?_)
        · refine lv_iconst (v := (-1)) hx hb d_D_write_45 (by decide) ?_
          have e : d_write P G J L tk b t cn v = ((P, G, J, L), (-1)) := by unfold d_write; rw [if_neg hc_1, if_neg hc_2, if_neg hc_3, if_pos hc_4]
          exact W.iret (v := (-1)) hx hb hr (fun t ht hW => kx_Qi (by rw [e]) ht hP (by rw [e]) hS rfl) hS.2.2 d_D_write_46
        · refine lv_iload hx hb d_D_write_32 (lv_at hl 4 rfl) ?_
          refine lv_if_lt (tgt := 45) hx hb d_D_write_34 (by decide) (fun hc_5 => ?_) (fun hc_5 => ?_)
          · refine lv_iconst (v := (-1)) hx hb d_D_write_45 (by decide) ?_
            have e : d_write P G J L tk b t cn v = ((P, G, J, L), (-1)) := by unfold d_write; rw [if_neg hc_1, if_neg hc_2, if_neg hc_3, if_neg hc_4, if_pos hc_5]
            exact W.iret (v := (-1)) hx hb hr (fun t ht hW => kx_Qi (by rw [e]) ht hP (by rw [e]) hS rfl) hS.2.2 d_D_write_46
          · refine lv_iload hx hb d_D_write_37 (lv_at hl 4 rfl) ?_
            refine lv_sipush (v := 255) hx hb d_D_write_39 (by decide) ?_
            refine lv_icmp_le (tgt := 47) hx hb d_D_write_42 (by decide) (fun hc_6 => ?_) (fun hc_6 => ?_)
            · obtain ⟨eb, et, hβ, hα, h204⟩ := isB (bI_t hc_2) hn er hn4 hn8 hr2 hr40
              refine lv_aload_n hx hb d_D_write_47 rfl (lv_at hl 0 rfl) ?_
              refine va_get (D := (dC, dI)) (ci := 2) (v := .ref (a 4)) (C := R_D) (T := T_D) (N := 9) hx hb hts wu_D hown hK hP 0 rfl rfl 3 (by decide) (hts _ wf_D_24) (fun _ h9 => h9) rfl d_D_write_48 ?_
              refine lv_iload_n hx hb d_D_write_51 rfl (lv_at hl 1 rfl) ?_
              refine kx_VR (As := [.int b]) (rest := []) ⟨hx, hb, hml, hown, hts⟩ (k_G_placeOf l dC dI k5 (a 4) (a 5) (a 6) (a 7) (G.1) (G.2.1) (G.2.2.1) (G.2.2.2.1) (G.2.2.2.2) tk hG.2.1 b hG.1) (cwV 1 hts (goodV wm_D_54 wn_G_placeOf ws_G_placeOf wi_G wc_G_placeOf) rfl rfl rfl (by decide +kernel) ⟨Nat.le_of_ble_eq_true rfl, Nat.le_of_ble_eq_true rfl⟩) ⟨Nat.zero_le _, Nat.zero_le _⟩ hK hP hD [4, 5, 6, 7] (by decide) rfl 0 rfl rfl rfl hl.1 rfl (Nat.le_of_ble_eq_true rfl) d_D_write_52 ?_
              refine W.eq (g2 := F0 m 55 ls [.int (oI (gFind G.2.2.1 b tk))]) rfl ?_
              refine lv_istore (lv' := [(5, .int (oI (gFind G.2.2.1 b tk))), (0, .ref (a 0)), (1, .int b), (2, .int t), (3, .int cn), (4, .int v)]) hx hb d_D_write_55 hl (by decide) rfl (fun ls hl => ?_)
              refine lv_iload hx hb d_D_write_57 (lv_at hl 0 rfl) ?_
              refine lv_if_ge (tgt := 108) hx hb d_D_write_59 (by decide) (fun hc_7 => ?_) (fun hc_7 => ?_)
              · refine lv_aload_n hx hb d_D_write_108 rfl (lv_at hl 1 rfl) ?_
                refine va_get (D := (dC, dI)) (ci := 2) (v := .ref (a 4)) (C := R_D) (T := T_D) (N := 9) hx hb hts wu_D hown hK hP 0 rfl rfl 3 (by decide) (hts _ wf_D_24) (fun _ h9 => h9) rfl d_D_write_109 ?_
                refine lv_iload hx hb d_D_write_112 (lv_at hl 0 rfl) ?_
                refine lv_iload_n hx hb d_D_write_114 rfl (lv_at hl 3 rfl) ?_
                refine lv_iload_n hx hb d_D_write_115 rfl (lv_at hl 4 rfl) ?_
                refine lv_iload hx hb d_D_write_116 (lv_at hl 5 rfl) ?_
                obtain ⟨p9, ep⟩ := oI_ge hc_7
                have hp9 := (gFind_spec ep).1
                have s9 := set64 (pl := (oI (gFind G.2.2.1 b tk))) (p := p9) (n := 0) (by rw [ep]; rfl) et hα (by omega) hc_3 hc_4
                refine kx_V (ws2 := (wD a k5 P (gSet (((oI (gFind G.2.2.1 b tk)) * 64 + t).toNatClampNeg) (cn.toNatClampNeg) v.toInt8.toInt32 G) J L)) (As := [.int (oI (gFind G.2.2.1 b tk)), .int t, .int cn, .int v]) (rest := []) ⟨hx, hb, hml, hown, hts⟩ (k_G_set l dC dI k5 (a 4) (a 5) (a 6) (a 7) (G.1) (G.2.1) (G.2.2.1) (G.2.2.2.1) (G.2.2.2.2) (oI (gFind G.2.2.1 b tk)) t cn v (((oI (gFind G.2.2.1 b tk)) * 64 + t).toNatClampNeg) (cn.toNatClampNeg) s9.2.2.1 s9.1 s9.2.1) (cwV 4 hts (goodV wm_D_72 wn_G_set ws_G_set wi_G wc_G_set) rfl rfl rfl (by decide +kernel) ⟨Nat.le_of_ble_eq_true rfl, Nat.le_of_ble_eq_true rfl⟩) ⟨Nat.zero_le _, Nat.zero_le _⟩ hK hP hD hS [4, 5, 6, 7] (by decide) rfl 0 rfl rfl rfl rfl rfl rfl hl.1 rfl (Nat.le_of_ble_eq_true rfl) d_D_write_118 (fun H locs hP hD hS => ?_)
                refine W.eq (g2 := F0 m 121 ls []) rfl ?_
                refine lv_aload_n hx hb d_D_write_121 rfl (lv_at hl 1 rfl) ?_
                refine va_get (D := (dC, dI)) (ci := 2) (v := .ref (a 4)) (C := R_D) (T := T_D) (N := 9) hx hb hts wu_D hown hK hP 0 rfl rfl 3 (by decide) (hts _ wf_D_24) (fun _ h9 => h9) rfl d_D_write_122 ?_
                refine kx_VR (As := []) (rest := []) ⟨hx, hb, hml, hown, hts⟩ (k_G_use l dC dI k5 (a 4) (a 5) (a 6) (a 7) ((gSet (((oI (gFind G.2.2.1 b tk)) * 64 + t).toNatClampNeg) (cn.toNatClampNeg) v.toInt8.toInt32 G).1) ((gSet (((oI (gFind G.2.2.1 b tk)) * 64 + t).toNatClampNeg) (cn.toNatClampNeg) v.toInt8.toInt32 G).2.1) ((gSet (((oI (gFind G.2.2.1 b tk)) * 64 + t).toNatClampNeg) (cn.toNatClampNeg) v.toInt8.toInt32 G).2.2.1) ((gSet (((oI (gFind G.2.2.1 b tk)) * 64 + t).toNatClampNeg) (cn.toNatClampNeg) v.toInt8.toInt32 G).2.2.2.1) ((gSet (((oI (gFind G.2.2.1 b tk)) * 64 + t).toNatClampNeg) (cn.toNatClampNeg) v.toInt8.toInt32 G).2.2.2.2) ) (cwV 0 hts (goodV wm_D_76 wn_G_use ws_G_use wi_G wc_G_use) rfl rfl rfl (by decide +kernel) ⟨Nat.le_of_ble_eq_true rfl, Nat.le_of_ble_eq_true rfl⟩) ⟨Nat.zero_le _, Nat.zero_le _⟩ hK hP hD [4, 5, 6, 7] (by decide) rfl 0 rfl rfl rfl hl.1 rfl (Nat.le_of_ble_eq_true rfl) d_D_write_125 ?_
                refine W.eq (g2 := F0 m 128 ls [.int (gUse (gSet (((oI (gFind G.2.2.1 b tk)) * 64 + t).toNatClampNeg) (cn.toNatClampNeg) v.toInt8.toInt32 G))]) rfl ?_
                have e : d_write P G J L tk b t cn v = ((P, (gSet (((oI (gFind G.2.2.1 b tk)) * 64 + t).toNatClampNeg) (cn.toNatClampNeg) v.toInt8.toInt32 G), J, L), (gUse (gSet (((oI (gFind G.2.2.1 b tk)) * 64 + t).toNatClampNeg) (cn.toNatClampNeg) v.toInt8.toInt32 G))) := by unfold d_write; rw [if_neg hc_1, if_neg hc_2, if_neg hc_3, if_neg hc_4, if_neg hc_5, if_pos hc_6, if_pos hc_7]
                exact W.iret (v := (gUse (gSet (((oI (gFind G.2.2.1 b tk)) * 64 + t).toNatClampNeg) (cn.toNatClampNeg) v.toInt8.toInt32 G))) hx hb hr (fun t ht hW => kx_Qi (by rw [e]) ht hP (by rw [e]) hS rfl) hS.2.2 d_D_write_128
              · refine lv_aload_n hx hb d_D_write_62 rfl (lv_at hl 1 rfl) ?_
                refine lv_iload_n hx hb d_D_write_63 rfl (lv_at hl 2 rfl) ?_
                refine kx_VRW (As := [.int b]) (rest := []) ⟨hx, hb, hml, hown, hts⟩ (k_D_rowOf l dC dI k5 a P G J L b (by rw [hn, show (nI n - 2) = nI (n - 2) from pk_sub (a := n) (b := 2) (by omega)]; exact nI_ne0 (by omega) (by omega))) (cwV 1 hts (goodV wm_D_58 wn_D_rowOf ws_D_rowOf wi_D wc_D_rowOf) rfl rfl rfl (by decide +kernel) ⟨Nat.le_of_ble_eq_true rfl, Nat.le_of_ble_eq_true rfl⟩) ⟨Nat.zero_le _, Nat.zero_le _⟩ hK hP hD 0 rfl rfl rfl hl.1 rfl (Nat.le_of_ble_eq_true rfl) d_D_write_64 ?_
                refine W.eq (g2 := F0 m 67 ls [.int (6 + b / (P.1 - 2))]) rfl ?_
                refine lv_istore (lv' := [(6, .int (6 + b / (P.1 - 2))), (5, .int (oI (gFind G.2.2.1 b tk))), (0, .ref (a 0)), (1, .int b), (2, .int t), (3, .int cn), (4, .int v)]) hx hb d_D_write_67 hl (by decide) rfl (fun ls hl => ?_)
                refine lv_aload_n hx hb d_D_write_69 rfl (lv_at hl 2 rfl) ?_
                refine va_get (D := (dC, dI)) (ci := 2) (v := .ref (a 4)) (C := R_D) (T := T_D) (N := 9) hx hb hts wu_D hown hK hP 0 rfl rfl 3 (by decide) (hts _ wf_D_24) (fun _ h9 => h9) rfl d_D_write_70 ?_
                refine lv_iload hx hb d_D_write_73 (lv_at hl 0 rfl) ?_
                refine kx_VR (As := [.int (6 + b / (P.1 - 2))]) (rest := []) ⟨hx, hb, hml, hown, hts⟩ (k_G_useWithOneMore l dC dI k5 (a 4) (a 5) (a 6) (a 7) (G.1) (G.2.1) (G.2.2.1) (G.2.2.2.1) (G.2.2.2.2) tk hG.2.1 (6 + b / (P.1 - 2)) hG.1) (cwV 1 hts (goodV wm_D_61 wn_G_useWithOneMore ws_G_useWithOneMore wi_G wc_G_useWithOneMore) rfl rfl rfl (by decide +kernel) ⟨Nat.le_of_ble_eq_true rfl, Nat.le_of_ble_eq_true rfl⟩) ⟨Nat.zero_le _, Nat.zero_le _⟩ hK hP hD [4, 5, 6, 7] (by decide) rfl 0 rfl rfl rfl hl.1 rfl (Nat.le_of_ble_eq_true rfl) d_D_write_75 ?_
                refine W.eq (g2 := F0 m 78 ls [.int (gMore G tk (6 + b / (P.1 - 2)))]) rfl ?_
                refine lv_iconst (v := 4) hx hb d_D_write_78 (by decide) ?_
                refine lv_aload_n hx hb d_D_write_79 rfl (lv_at hl 2 rfl) ?_
                refine va_get (D := (dC, dI)) (ci := 2) (v := .int (P.1)) (C := R_D) (T := T_D) (N := 9) hx hb hts wu_D hown hK hP 0 rfl rfl 6 (by decide) (hts _ wf_D_64) (fun _ h9 => h9) rfl d_D_write_80 ?_
                refine lv_iconst (v := 2) hx hb d_D_write_83 (by decide) ?_
                refine lv_isub hx hb d_D_write_84 ?_
                refine lv_imul hx hb d_D_write_85 ?_
                refine lv_icmp_le (tgt := 92) hx hb d_D_write_86 (by decide) (fun hc_8 => ?_) (fun hc_8 => ?_)
                · refine lv_aload_n hx hb d_D_write_92 rfl (lv_at hl 2 rfl) ?_
                  refine va_get (D := (dC, dI)) (ci := 2) (v := .ref (a 4)) (C := R_D) (T := T_D) (N := 9) hx hb hts wu_D hown hK hP 0 rfl rfl 3 (by decide) (hts _ wf_D_24) (fun _ h9 => h9) rfl d_D_write_93 ?_
                  refine lv_iload_n hx hb d_D_write_96 rfl (lv_at hl 3 rfl) ?_
                  refine lv_iload hx hb d_D_write_97 (lv_at hl 0 rfl) ?_
                  refine lv_aload_n hx hb d_D_write_99 rfl (lv_at hl 2 rfl) ?_
                  refine va_get (D := (dC, dI)) (ci := 2) (v := .ref (a 3)) (C := R_D) (T := T_D) (N := 9) hx hb hts wu_D hown hK hP 0 rfl rfl 2 (by decide) (hts _ wf_D_17) (fun _ h9 => h9) rfl d_D_write_100 ?_
                  refine W.eq (g2 := F0 m 103 ls [.ref (a 3), .int (6 + b / (P.1 - 2)), .int (nI (b.toNatClampNeg)), .ref (a 4)]) (by rw [← eb]) ?_
                  refine kx_V (ws2 := (wD a k5 P (gTake (b.toNatClampNeg) tk (6 + b / (P.1 - 2)) (pKp P) G) J L)) (As := [.int (nI (b.toNatClampNeg)), .int (6 + b / (P.1 - 2)), .ref (a 3)]) (rest := []) ⟨hx, hb, hml, hown, hts⟩ (k_G_take l dC dI k5 (a 4) (a 5) (a 6) (a 7) (G.1) (G.2.1) (G.2.2.1) (G.2.2.2.1) (G.2.2.2.2) (a 3) (pKp P) tk (b.toNatClampNeg) (by omega) h204 (6 + b / (P.1 - 2)) hG.1 hK2) (cwV 3 hts (goodV wm_D_68 wn_G_take ws_G_take wi_G wc_G_take) rfl rfl rfl (by decide +kernel) ⟨Nat.le_of_ble_eq_true rfl, Nat.le_of_ble_eq_true rfl⟩) ⟨Nat.zero_le _, Nat.zero_le _⟩ hK hP hD hS [4, 5, 6, 7, 3] (by decide) rfl 0 rfl rfl rfl rfl rfl rfl hl.1 rfl (Nat.le_of_ble_eq_true rfl) d_D_write_103 (fun H locs hP hD hS => ?_)
                  refine W.eq (g2 := F0 m 106 ls [.int (nI tk)]) rfl ?_
                  refine lv_istore (lv' := [(5, .int (nI tk)), (6, .int (6 + b / (P.1 - 2))), (0, .ref (a 0)), (1, .int b), (2, .int t), (3, .int cn), (4, .int v)]) hx hb d_D_write_106 hl (by decide) rfl (fun ls hl => ?_)
                  refine lv_aload_n hx hb d_D_write_108 rfl (lv_at hl 2 rfl) ?_
                  refine va_get (D := (dC, dI)) (ci := 2) (v := .ref (a 4)) (C := R_D) (T := T_D) (N := 9) hx hb hts wu_D hown hK hP 0 rfl rfl 3 (by decide) (hts _ wf_D_24) (fun _ h9 => h9) rfl d_D_write_109 ?_
                  refine lv_iload hx hb d_D_write_112 (lv_at hl 0 rfl) ?_
                  refine lv_iload_n hx hb d_D_write_114 rfl (lv_at hl 4 rfl) ?_
                  refine lv_iload_n hx hb d_D_write_115 rfl (lv_at hl 5 rfl) ?_
                  refine lv_iload hx hb d_D_write_116 (lv_at hl 6 rfl) ?_
                  have s9 := set64 (pl := (nI tk)) (p := tk) (n := 0) (rfl) et hα (by omega) hc_3 hc_4
                  refine kx_V (ws2 := (wD a k5 P (gSet (((nI tk) * 64 + t).toNatClampNeg) (cn.toNatClampNeg) v.toInt8.toInt32 (gTake (b.toNatClampNeg) tk (6 + b / (P.1 - 2)) (pKp P) G)) J L)) (As := [.int (nI tk), .int t, .int cn, .int v]) (rest := []) ⟨hx, hb, hml, hown, hts⟩ (k_G_set l dC dI k5 (a 4) (a 5) (a 6) (a 7) ((gTake (b.toNatClampNeg) tk (6 + b / (P.1 - 2)) (pKp P) G).1) ((gTake (b.toNatClampNeg) tk (6 + b / (P.1 - 2)) (pKp P) G).2.1) ((gTake (b.toNatClampNeg) tk (6 + b / (P.1 - 2)) (pKp P) G).2.2.1) ((gTake (b.toNatClampNeg) tk (6 + b / (P.1 - 2)) (pKp P) G).2.2.2.1) ((gTake (b.toNatClampNeg) tk (6 + b / (P.1 - 2)) (pKp P) G).2.2.2.2) (nI tk) t cn v (((nI tk) * 64 + t).toNatClampNeg) (cn.toNatClampNeg) s9.2.2.1 s9.1 s9.2.1) (cwV 4 hts (goodV wm_D_72 wn_G_set ws_G_set wi_G wc_G_set) rfl rfl rfl (by decide +kernel) ⟨Nat.le_of_ble_eq_true rfl, Nat.le_of_ble_eq_true rfl⟩) ⟨Nat.zero_le _, Nat.zero_le _⟩ hK hP hD hS [4, 5, 6, 7] (by decide) rfl 0 rfl rfl rfl rfl rfl rfl hl.1 rfl (Nat.le_of_ble_eq_true rfl) d_D_write_118 (fun H locs hP hD hS => ?_)
                  refine W.eq (g2 := F0 m 121 ls []) rfl ?_
                  refine lv_aload_n hx hb d_D_write_121 rfl (lv_at hl 2 rfl) ?_
                  refine va_get (D := (dC, dI)) (ci := 2) (v := .ref (a 4)) (C := R_D) (T := T_D) (N := 9) hx hb hts wu_D hown hK hP 0 rfl rfl 3 (by decide) (hts _ wf_D_24) (fun _ h9 => h9) rfl d_D_write_122 ?_
                  refine kx_VR (As := []) (rest := []) ⟨hx, hb, hml, hown, hts⟩ (k_G_use l dC dI k5 (a 4) (a 5) (a 6) (a 7) ((gSet (((nI tk) * 64 + t).toNatClampNeg) (cn.toNatClampNeg) v.toInt8.toInt32 (gTake (b.toNatClampNeg) tk (6 + b / (P.1 - 2)) (pKp P) G)).1) ((gSet (((nI tk) * 64 + t).toNatClampNeg) (cn.toNatClampNeg) v.toInt8.toInt32 (gTake (b.toNatClampNeg) tk (6 + b / (P.1 - 2)) (pKp P) G)).2.1) ((gSet (((nI tk) * 64 + t).toNatClampNeg) (cn.toNatClampNeg) v.toInt8.toInt32 (gTake (b.toNatClampNeg) tk (6 + b / (P.1 - 2)) (pKp P) G)).2.2.1) ((gSet (((nI tk) * 64 + t).toNatClampNeg) (cn.toNatClampNeg) v.toInt8.toInt32 (gTake (b.toNatClampNeg) tk (6 + b / (P.1 - 2)) (pKp P) G)).2.2.2.1) ((gSet (((nI tk) * 64 + t).toNatClampNeg) (cn.toNatClampNeg) v.toInt8.toInt32 (gTake (b.toNatClampNeg) tk (6 + b / (P.1 - 2)) (pKp P) G)).2.2.2.2) ) (cwV 0 hts (goodV wm_D_76 wn_G_use ws_G_use wi_G wc_G_use) rfl rfl rfl (by decide +kernel) ⟨Nat.le_of_ble_eq_true rfl, Nat.le_of_ble_eq_true rfl⟩) ⟨Nat.zero_le _, Nat.zero_le _⟩ hK hP hD [4, 5, 6, 7] (by decide) rfl 0 rfl rfl rfl hl.1 rfl (Nat.le_of_ble_eq_true rfl) d_D_write_125 ?_
                  refine W.eq (g2 := F0 m 128 ls [.int (gUse (gSet (((nI tk) * 64 + t).toNatClampNeg) (cn.toNatClampNeg) v.toInt8.toInt32 (gTake (b.toNatClampNeg) tk (6 + b / (P.1 - 2)) (pKp P) G)))]) rfl ?_
                  have e : d_write P G J L tk b t cn v = ((P, (gSet (((nI tk) * 64 + t).toNatClampNeg) (cn.toNatClampNeg) v.toInt8.toInt32 (gTake (b.toNatClampNeg) tk (6 + b / (P.1 - 2)) (pKp P) G)), J, L), (gUse (gSet (((nI tk) * 64 + t).toNatClampNeg) (cn.toNatClampNeg) v.toInt8.toInt32 (gTake (b.toNatClampNeg) tk (6 + b / (P.1 - 2)) (pKp P) G)))) := by unfold d_write; rw [if_neg hc_1, if_neg hc_2, if_neg hc_3, if_neg hc_4, if_neg hc_5, if_pos hc_6, if_neg hc_7, if_pos hc_8]
                  exact W.iret (v := (gUse (gSet (((nI tk) * 64 + t).toNatClampNeg) (cn.toNatClampNeg) v.toInt8.toInt32 (gTake (b.toNatClampNeg) tk (6 + b / (P.1 - 2)) (pKp P) G)))) hx hb hr (fun t ht hW => kx_Qi (by rw [e]) ht hP (by rw [e]) hS rfl) hS.2.2 d_D_write_128
                · refine lv_bipush (v := (-3)) hx hb d_D_write_89 (by decide) ?_
                  have e : d_write P G J L tk b t cn v = ((P, G, J, L), (-3)) := by unfold d_write; rw [if_neg hc_1, if_neg hc_2, if_neg hc_3, if_neg hc_4, if_neg hc_5, if_pos hc_6, if_neg hc_7, if_neg hc_8]
                  exact W.iret (v := (-3)) hx hb hr (fun t ht hW => kx_Qi (by rw [e]) ht hP (by rw [e]) hS rfl) hS.2.2 d_D_write_91
            · refine lv_iconst (v := (-1)) hx hb d_D_write_45 (by decide) ?_
              have e : d_write P G J L tk b t cn v = ((P, G, J, L), (-1)) := by unfold d_write; rw [if_neg hc_1, if_neg hc_2, if_neg hc_3, if_neg hc_4, if_neg hc_5, if_neg hc_6]
              exact W.iret (v := (-1)) hx hb hr (fun t ht hW => kx_Qi (by rw [e]) ht hP (by rw [e]) hS rfl) hS.2.2 d_D_write_46
  · refine lv_bipush (v := (-2)) hx hb d_D_write_7 (by decide) ?_
    have e : d_write P G J L tk b t cn v = ((P, G, J, L), (-2)) := by unfold d_write; rw [if_pos hc_1]
    exact W.iret (v := (-2)) hx hb hr (fun t ht hW => kx_Qi (by rw [e]) ht hP (by rw [e]) hS rfl) hS.2.2 d_D_write_9
def d_commit (P : PP) (G J : GG) (L : LL) (n w tk : Nat) (x : Int32) (bits : Int64) : SS × Int32 := (if (P.2.2.1) = 0 then ((P, G, J, L), (-2)) else (if x < 0 then ((P, G, J, L), (-1)) else (if x ≤ 4 then (if (bI (decide (G.1 = 0))) = 0 then (if x = 1 then (((pPow 0 P), (gClear G), J, L), (-2)) else (if x = 2 then (((pPow 0 P), (gClear G), (gBecome tk G J), ((pWrite P bits w n (lDraft w 1 (P.2.2.2.1) L)).1)), (-2)) else (if x = 3 then (((pPow 0 P), (gClear G), (gBecome tk G J), (pFinish P w n (lDraft w 1 (P.2.2.2.1) L))), (-2)) else (if x = 4 then (((pPow 0 (pKeep (gKeep (gBecome tk G J) tk (P.2.2.2.2.2)) P)), (gClear G), (gBecome tk G J), ((pWrite (pKeep (gKeep (gBecome tk G J) tk (P.2.2.2.2.2)) P) bits (1 - w) n (lDraft (1 - w) 0 ((pKeep (gKeep (gBecome tk G J) tk (P.2.2.2.2.2)) P).2.2.2.1) (pFinish P w n (lDraft w 1 (P.2.2.2.1) L)))).1)), (-2)) else (((pKeep (gKeep (gBecome tk G J) tk (P.2.2.2.2.2)) P), (gClear G), (gBecome tk G J), (pFinish (pKeep (gKeep (gBecome tk G J) tk (P.2.2.2.2.2)) P) (1 - w) n (lDraft (1 - w) 0 ((pKeep (gKeep (gBecome tk G J) tk (P.2.2.2.2.2)) P).2.2.2.1) (pFinish P w n (lDraft w 1 (P.2.2.2.1) L))))), (gUse G)))))) else ((P, G, J, L), 0)) else ((P, G, J, L), (-1)))))
set_option maxHeartbeats 4000000 in
set_option maxRecDepth 100000 in
theorem k_D_commit (l : Launch) (dC : Nat → ClassId) (dI : Nat → Nat → Nat) (k5 : Nat → ClassId) (a : Nat → Nat) (P : PP) (G J : GG) (L : LL) (n w tk : Nat) (x : Int32) (bits : Int64) (tj : Nat) (hn : P.1 = nI n) (hn4 : 4 ≤ n) (hn8 : n ≤ 8) (hw : w = 0 ∨ w = 1) (hq : 1 - L.1 1 = nI w) (hG : GI G tk) (hJ : GI J tj) : Met l y_D_commit w_D_commit ({ frames := 4, cells := 0, slots := 0, locals := 91 }) (kx_Pc (dC, dI) clA (tyL k5) (wD a k5 P G J L) [.ref (a 0), .int x, .long bits]) (kx_Q (dC, dI) clA (wD a k5 P G J L) (wS a k5 (d_commit P G J L n w tk x bits).1) (some (.int (d_commit P G J L n w tk x bits).2))) 0 0 (kx_A (wD a k5 P G J L)) := by
  refine Met.ofW (cc := c_D_commit) (maxL := 5) (ret := (some .int)) (by decide) rfl ?_
  intro p e s m args below meth c s₁ B hml hv
  obtain ⟨rfl, hP, hK, hD0⟩ := hv
  have hx := B.exec
  have hb := B.bytes
  have hr := B.returns
  have hts : ∀ w ∈ wsA, w.before _ s = true := fun w h => atoms_spec (ws := w_D_commit) B.pre w (List.mem_cons_of_mem _ h)
  have hown : s.vm.findClass R_D = some m.cls := findClass_of_methodNamed B.named
  have hlocks := B.notSynchronized
  have hD := kx_D.self hD0
  have hS : va_S (kx_A (wD a k5 P G J L)) s.heap s.heap [] := va_S.rf
  have hl := lv_entry ([.ref (a 0), .int x, .long bits]) (n := 5) (Nat.le_of_ble_eq_true rfl)
  rw [lg_entry_eq]
  generalize (lg_sl ([.ref (a 0), .int x, .long bits]) ++ List.replicate (5 - (lg_sl ([.ref (a 0), .int x, .long bits])).length) Slot.unset).toArray = ls at hl ⊢
  have hl : lv_has ls 5 [(0, .ref (a 0)), (1, .int x), (2, .long bits)] := hl
  refine lv_aload_n hx hb d_D_commit_0 rfl (lv_at hl 0 rfl) ?_
  refine va_get (D := (dC, dI)) (ci := 2) (v := .int (P.2.2.1)) (C := R_D) (T := T_D) (N := 9) hx hb hts wu_D hown hK hP 0 rfl rfl 8 (by decide) (hts _ wf_D_46) (fun _ h9 => h9) rfl d_D_commit_1 ?_
  refine lv_if_ne (tgt := 10) hx hb d_D_commit_4 (by decide) (fun hc_1 => ?_) (fun hc_1 => ?_)
  · refine lv_iload_n hx hb d_D_commit_10 rfl (lv_at hl 1 rfl) ?_
    refine lv_if_lt (tgt := 19) hx hb d_D_commit_11 (by decide) (fun hc_2 => ?_) (fun hc_2 => ?_)
    · refine lv_iconst (v := (-1)) hx hb d_D_commit_19 (by decide) ?_
      have e : d_commit P G J L n w tk x bits = ((P, G, J, L), (-1)) := by unfold d_commit; rw [if_neg hc_1, if_pos hc_2]
      exact W.iret (v := (-1)) hx hb hr (fun t ht hW => kx_Qi (by rw [e]) ht hP (by rw [e]) hS rfl) hS.2.2 d_D_commit_20
    · refine lv_iload_n hx hb d_D_commit_14 rfl (lv_at hl 1 rfl) ?_
      refine lv_iconst (v := 4) hx hb d_D_commit_15 (by decide) ?_
      refine lv_icmp_le (tgt := 21) hx hb d_D_commit_16 (by decide) (fun hc_3 => ?_) (fun hc_3 => ?_)
      · refine lv_aload_n hx hb d_D_commit_21 rfl (lv_at hl 0 rfl) ?_
        refine va_get (D := (dC, dI)) (ci := 2) (v := .ref (a 4)) (C := R_D) (T := T_D) (N := 9) hx hb hts wu_D hown hK hP 0 rfl rfl 3 (by decide) (hts _ wf_D_24) (fun _ h9 => h9) rfl d_D_commit_22 ?_
        refine kx_VR (As := []) (rest := []) ⟨hx, hb, hml, hown, hts⟩ (k_G_isEmpty l dC dI k5 (a 4) (a 5) (a 6) (a 7) (G.1) (G.2.1) (G.2.2.1) (G.2.2.2.1) (G.2.2.2.2) ) (cwV 0 hts (goodV wm_D_83 wn_G_isEmpty ws_G_isEmpty wi_G wc_G_isEmpty) rfl rfl rfl (by decide +kernel) ⟨Nat.le_of_ble_eq_true rfl, Nat.le_of_ble_eq_true rfl⟩) ⟨Nat.zero_le _, Nat.zero_le _⟩ hK hP hD [4, 5, 6, 7] (by decide) rfl 0 rfl rfl rfl hl.1 rfl (Nat.le_of_ble_eq_true rfl) d_D_commit_25 ?_
        refine W.eq (g2 := F0 m 28 ls [.int (bI (decide (G.1 = 0)))]) rfl ?_
        refine lv_if_eq (tgt := 33) hx hb d_D_commit_28 (by decide) (fun hc_4 => ?_) (fun hc_4 => ?_)
        · refine lv_iload_n hx hb d_D_commit_33 rfl (lv_at hl 1 rfl) ?_
          refine lv_iconst (v := 1) hx hb d_D_commit_34 (by decide) ?_
          refine lv_icmp_ne (tgt := 43) hx hb d_D_commit_35 (by decide) (fun hc_5 => ?_) (fun hc_5 => ?_)
          · refine lv_aload_n hx hb d_D_commit_43 rfl (lv_at hl 0 rfl) ?_
            refine va_get (D := (dC, dI)) (ci := 2) (v := .ref (a 8)) (C := R_D) (T := T_D) (N := 9) hx hb hts wu_D hown hK hP 0 rfl rfl 4 (by decide) (hts _ wf_D_28) (fun _ h9 => h9) rfl d_D_commit_44 ?_
            refine lv_aload_n hx hb d_D_commit_47 rfl (lv_at hl 0 rfl) ?_
            refine va_get (D := (dC, dI)) (ci := 2) (v := .ref (a 4)) (C := R_D) (T := T_D) (N := 9) hx hb hts wu_D hown hK hP 0 rfl rfl 3 (by decide) (hts _ wf_D_24) (fun _ h9 => h9) rfl d_D_commit_48 ?_
            refine kx_V (ws2 := (wD a k5 P G (gBecome tk G J) L)) (As := [.ref (a 4)]) (rest := []) ⟨hx, hb, hml, hown, hts⟩ (k_G_become l dC dI k5 (a 8) (a 9) (a 10) (a 11) (J.1) (J.2.1) (J.2.2.1) (J.2.2.2.1) (J.2.2.2.2) (a 4) (a 5) (a 6) (a 7) (G.1) (G.2.1) (G.2.2.1) (G.2.2.2.1) (G.2.2.2.2) tk hG.2.1 hG.1 hG.2.2.1) (cwV 1 hts (goodV wm_D_90 wn_G_become ws_G_become wi_G wc_G_become) rfl rfl rfl (by decide +kernel) ⟨Nat.le_of_ble_eq_true rfl, Nat.le_of_ble_eq_true rfl⟩) ⟨Nat.zero_le _, Nat.zero_le _⟩ hK hP hD hS [8, 9, 10, 11, 4, 5, 6, 7] (by decide) rfl 0 rfl rfl rfl rfl rfl rfl hl.1 rfl (Nat.le_of_ble_eq_true rfl) d_D_commit_51 (fun H locs hP hD hS => ?_)
            refine W.eq (g2 := F0 m 54 ls []) rfl ?_
            refine lv_aload_n hx hb d_D_commit_54 rfl (lv_at hl 0 rfl) ?_
            refine va_get (D := (dC, dI)) (ci := 2) (v := .ref (a 12)) (C := R_D) (T := T_D) (N := 9) hx hb hts wu_D hown hK hP 0 rfl rfl 5 (by decide) (hts _ wf_D_34) (fun _ h9 => h9) rfl d_D_commit_55 ?_
            refine lv_iconst (v := 1) hx hb d_D_commit_58 (by decide) ?_
            refine lv_aload_n hx hb d_D_commit_59 rfl (lv_at hl 0 rfl) ?_
            refine va_get (D := (dC, dI)) (ci := 2) (v := .ref (a 1)) (C := R_D) (T := T_D) (N := 9) hx hb hts wu_D hown hK hP 0 rfl rfl 0 (by decide) (hts _ wf_D_9) (fun _ h9 => h9) rfl d_D_commit_60 ?_
            refine kx_V (ws2 := (wD a k5 P G (gBecome tk G J) (lDraft w 1 (P.2.2.2.1) L))) (As := [.int 1, .ref (a 1)]) (rest := []) ⟨hx, hb, hml, hown, hts⟩ (k_L_draft l dC dI k5 a L w hw hq (a 1) (P.2.2.2.1) 1 rfl) (cwV 2 hts (goodV wm_D_94 wn_L_draft ws_L_draft wi_L wc_L_draft) rfl rfl rfl (by decide +kernel) ⟨Nat.le_of_ble_eq_true rfl, Nat.le_of_ble_eq_true rfl⟩) ⟨Nat.zero_le _, Nat.zero_le _⟩ hK hP hD hS [12, 13, 14, 15, 16, 17, 18, 19, 20, 21, 22, 23, 1] (by decide) rfl 0 rfl rfl rfl rfl rfl rfl hl.1 rfl (Nat.le_of_ble_eq_true rfl) d_D_commit_63 (fun H locs hP hD hS => ?_)
            refine W.eq (g2 := F0 m 66 ls []) rfl ?_
            refine lv_iload_n hx hb d_D_commit_66 rfl (lv_at hl 1 rfl) ?_
            refine lv_iconst (v := 2) hx hb d_D_commit_67 (by decide) ?_
            refine lv_icmp_ne (tgt := 77) hx hb d_D_commit_68 (by decide) (fun hc_6 => ?_) (fun hc_6 => ?_)
            · refine lv_aload_n hx hb d_D_commit_77 rfl (lv_at hl 0 rfl) ?_
              refine kx_VW (w1 := (wD a k5 P G (gBecome tk G J) (pFinish P w n (lDraft w 1 (P.2.2.2.1) L)))) (As := []) (rest := []) ⟨hx, hb, hml, hown, hts⟩ (k_D_finishLabel l dC dI k5 a P G (gBecome tk G J) (lDraft w 1 (P.2.2.2.1) L) w hw hq n hn hn8) (cwV 0 hts (goodV wm_D_102 wn_D_finishLabel ws_D_finishLabel wi_D wc_D_finishLabel) rfl rfl rfl (by decide +kernel) ⟨Nat.le_of_ble_eq_true rfl, Nat.le_of_ble_eq_true rfl⟩) ⟨Nat.zero_le _, Nat.zero_le _⟩ hK hP hD hS 0 rfl rfl rfl rfl hl.1 rfl (Nat.le_of_ble_eq_true rfl) d_D_commit_78 (fun H locs hP hD hS => ?_)
              refine W.eq (g2 := F0 m 81 ls []) rfl ?_
              refine lv_iload_n hx hb d_D_commit_81 rfl (lv_at hl 1 rfl) ?_
              refine lv_iconst (v := 3) hx hb d_D_commit_82 (by decide) ?_
              refine lv_icmp_ne (tgt := 91) hx hb d_D_commit_83 (by decide) (fun hc_7 => ?_) (fun hc_7 => ?_)
              · refine lv_aload_n hx hb d_D_commit_91 rfl (lv_at hl 0 rfl) ?_
                refine va_get (D := (dC, dI)) (ci := 2) (v := .ref (a 8)) (C := R_D) (T := T_D) (N := 9) hx hb hts wu_D hown hK hP 0 rfl rfl 4 (by decide) (hts _ wf_D_28) (fun _ h9 => h9) rfl d_D_commit_92 ?_
                refine lv_aload_n hx hb d_D_commit_95 rfl (lv_at hl 0 rfl) ?_
                refine va_get (D := (dC, dI)) (ci := 2) (v := .ref (a 3)) (C := R_D) (T := T_D) (N := 9) hx hb hts wu_D hown hK hP 0 rfl rfl 2 (by decide) (hts _ wf_D_17) (fun _ h9 => h9) rfl d_D_commit_96 ?_
                refine kx_V (ws2 := (wD a k5 (pKeep (gKeep (gBecome tk G J) tk (P.2.2.2.2.2)) P) G (gBecome tk G J) (pFinish P w n (lDraft w 1 (P.2.2.2.1) L)))) (As := [.ref (a 3)]) (rest := []) ⟨hx, hb, hml, hown, hts⟩ (k_G_keepIn l dC dI k5 (a 8) (a 9) (a 10) (a 11) ((gBecome tk G J).1) ((gBecome tk G J).2.1) ((gBecome tk G J).2.2.1) ((gBecome tk G J).2.2.2.1) ((gBecome tk G J).2.2.2.2) (a 3) (P.2.2.2.2.2) tk (GI_become hG hJ).2.1 (GI_become hG hJ).1 (GI_become hG hJ).2.2.1 (GI_become hG hJ).2.2.2.1) (cwV 1 hts (goodV wm_D_105 wn_G_keepIn ws_G_keepIn wi_G wc_G_keepIn) rfl rfl rfl (by decide +kernel) ⟨Nat.le_of_ble_eq_true rfl, Nat.le_of_ble_eq_true rfl⟩) ⟨Nat.zero_le _, Nat.zero_le _⟩ hK hP hD hS [8, 9, 10, 11, 3] (by decide) rfl 0 rfl rfl rfl rfl rfl rfl hl.1 rfl (Nat.le_of_ble_eq_true rfl) d_D_commit_99 (fun H locs hP hD hS => ?_)
                refine W.eq (g2 := F0 m 102 ls []) rfl ?_
                refine lv_aload_n hx hb d_D_commit_102 rfl (lv_at hl 0 rfl) ?_
                refine va_get (D := (dC, dI)) (ci := 2) (v := .ref (a 12)) (C := R_D) (T := T_D) (N := 9) hx hb hts wu_D hown hK hP 0 rfl rfl 5 (by decide) (hts _ wf_D_34) (fun _ h9 => h9) rfl d_D_commit_103 ?_
                refine lv_iconst (v := 0) hx hb d_D_commit_106 (by decide) ?_
                refine lv_aload_n hx hb d_D_commit_107 rfl (lv_at hl 0 rfl) ?_
                refine va_get (D := (dC, dI)) (ci := 2) (v := .ref (a 1)) (C := R_D) (T := T_D) (N := 9) hx hb hts wu_D hown hK hP 0 rfl rfl 0 (by decide) (hts _ wf_D_9) (fun _ h9 => h9) rfl d_D_commit_108 ?_
                refine kx_V (ws2 := (wD a k5 (pKeep (gKeep (gBecome tk G J) tk (P.2.2.2.2.2)) P) G (gBecome tk G J) (lDraft (1 - w) 0 ((pKeep (gKeep (gBecome tk G J) tk (P.2.2.2.2.2)) P).2.2.2.1) (pFinish P w n (lDraft w 1 (P.2.2.2.1) L))))) (As := [.int 0, .ref (a 1)]) (rest := []) ⟨hx, hb, hml, hown, hts⟩ (k_L_draft l dC dI k5 a (pFinish P w n (lDraft w 1 (P.2.2.2.1) L)) (1 - w) (flipO hw) (pFinish_q hw hq) (a 1) ((pKeep (gKeep (gBecome tk G J) tk (P.2.2.2.2.2)) P).2.2.2.1) 0 rfl) (cwV 2 hts (goodV wm_D_94 wn_L_draft ws_L_draft wi_L wc_L_draft) rfl rfl rfl (by decide +kernel) ⟨Nat.le_of_ble_eq_true rfl, Nat.le_of_ble_eq_true rfl⟩) ⟨Nat.zero_le _, Nat.zero_le _⟩ hK hP hD hS [12, 13, 14, 15, 16, 17, 18, 19, 20, 21, 22, 23, 1] (by decide) rfl 0 rfl rfl rfl rfl rfl rfl hl.1 rfl (Nat.le_of_ble_eq_true rfl) d_D_commit_111 (fun H locs hP hD hS => ?_)
                refine W.eq (g2 := F0 m 114 ls []) rfl ?_
                refine lv_iload_n hx hb d_D_commit_114 rfl (lv_at hl 1 rfl) ?_
                refine lv_iconst (v := 4) hx hb d_D_commit_115 (by decide) ?_
                refine lv_icmp_ne (tgt := 125) hx hb d_D_commit_116 (by decide) (fun hc_8 => ?_) (fun hc_8 => ?_)
                · refine lv_aload_n hx hb d_D_commit_125 rfl (lv_at hl 0 rfl) ?_
                  refine kx_VW (w1 := (wD a k5 (pKeep (gKeep (gBecome tk G J) tk (P.2.2.2.2.2)) P) G (gBecome tk G J) (pFinish (pKeep (gKeep (gBecome tk G J) tk (P.2.2.2.2.2)) P) (1 - w) n (lDraft (1 - w) 0 ((pKeep (gKeep (gBecome tk G J) tk (P.2.2.2.2.2)) P).2.2.2.1) (pFinish P w n (lDraft w 1 (P.2.2.2.1) L)))))) (As := []) (rest := []) ⟨hx, hb, hml, hown, hts⟩ (k_D_finishLabel l dC dI k5 a (pKeep (gKeep (gBecome tk G J) tk (P.2.2.2.2.2)) P) G (gBecome tk G J) (lDraft (1 - w) 0 ((pKeep (gKeep (gBecome tk G J) tk (P.2.2.2.2.2)) P).2.2.2.1) (pFinish P w n (lDraft w 1 (P.2.2.2.1) L))) (1 - w) (flipO hw) (pFinish_q hw hq) n hn hn8) (cwV 0 hts (goodV wm_D_102 wn_D_finishLabel ws_D_finishLabel wi_D wc_D_finishLabel) rfl rfl rfl (by decide +kernel) ⟨Nat.le_of_ble_eq_true rfl, Nat.le_of_ble_eq_true rfl⟩) ⟨Nat.zero_le _, Nat.zero_le _⟩ hK hP hD hS 0 rfl rfl rfl rfl hl.1 rfl (Nat.le_of_ble_eq_true rfl) d_D_commit_126 (fun H locs hP hD hS => ?_)
                  refine W.eq (g2 := F0 m 129 ls []) rfl ?_
                  refine lv_aload_n hx hb d_D_commit_129 rfl (lv_at hl 0 rfl) ?_
                  refine va_get (D := (dC, dI)) (ci := 2) (v := .ref (a 4)) (C := R_D) (T := T_D) (N := 9) hx hb hts wu_D hown hK hP 0 rfl rfl 3 (by decide) (hts _ wf_D_24) (fun _ h9 => h9) rfl d_D_commit_130 ?_
                  refine kx_VR (As := []) (rest := []) ⟨hx, hb, hml, hown, hts⟩ (k_G_use l dC dI k5 (a 4) (a 5) (a 6) (a 7) (G.1) (G.2.1) (G.2.2.1) (G.2.2.2.1) (G.2.2.2.2) ) (cwV 0 hts (goodV wm_D_76 wn_G_use ws_G_use wi_G wc_G_use) rfl rfl rfl (by decide +kernel) ⟨Nat.le_of_ble_eq_true rfl, Nat.le_of_ble_eq_true rfl⟩) ⟨Nat.zero_le _, Nat.zero_le _⟩ hK hP hD [4, 5, 6, 7] (by decide) rfl 0 rfl rfl rfl hl.1 rfl (Nat.le_of_ble_eq_true rfl) d_D_commit_133 ?_
                  refine W.eq (g2 := F0 m 136 ls [.int (gUse G)]) rfl ?_
                  refine lv_istore (lv' := [(4, .int (gUse G)), (0, .ref (a 0)), (1, .int x), (2, .long bits)]) hx hb d_D_commit_136 hl (by decide) rfl (fun ls hl => ?_)
                  refine lv_aload_n hx hb d_D_commit_138 rfl (lv_at hl 1 rfl) ?_
                  refine va_get (D := (dC, dI)) (ci := 2) (v := .ref (a 4)) (C := R_D) (T := T_D) (N := 9) hx hb hts wu_D hown hK hP 0 rfl rfl 3 (by decide) (hts _ wf_D_24) (fun _ h9 => h9) rfl d_D_commit_139 ?_
                  refine kx_V (ws2 := (wD a k5 (pKeep (gKeep (gBecome tk G J) tk (P.2.2.2.2.2)) P) (gClear G) (gBecome tk G J) (pFinish (pKeep (gKeep (gBecome tk G J) tk (P.2.2.2.2.2)) P) (1 - w) n (lDraft (1 - w) 0 ((pKeep (gKeep (gBecome tk G J) tk (P.2.2.2.2.2)) P).2.2.2.1) (pFinish P w n (lDraft w 1 (P.2.2.2.1) L)))))) (As := []) (rest := []) ⟨hx, hb, hml, hown, hts⟩ (k_G_clear l dC dI k5 (a 4) (a 5) (a 6) (a 7) (G.1) (G.2.1) (G.2.2.1) (G.2.2.2.1) (G.2.2.2.2)) (cwV 0 hts (goodV wm_D_109 wn_G_clear ws_G_clear wi_G wc_G_clear) rfl rfl rfl (by decide +kernel) ⟨Nat.le_of_ble_eq_true rfl, Nat.le_of_ble_eq_true rfl⟩) ⟨Nat.zero_le _, Nat.zero_le _⟩ hK hP hD hS [4, 5, 6, 7] (by decide) rfl 0 rfl rfl rfl rfl rfl rfl hl.1 rfl (Nat.le_of_ble_eq_true rfl) d_D_commit_142 (fun H locs hP hD hS => ?_)
                  refine W.eq (g2 := F0 m 145 ls []) rfl ?_
                  refine lv_iload hx hb d_D_commit_145 (lv_at hl 0 rfl) ?_
                  have e : d_commit P G J L n w tk x bits = (((pKeep (gKeep (gBecome tk G J) tk (P.2.2.2.2.2)) P), (gClear G), (gBecome tk G J), (pFinish (pKeep (gKeep (gBecome tk G J) tk (P.2.2.2.2.2)) P) (1 - w) n (lDraft (1 - w) 0 ((pKeep (gKeep (gBecome tk G J) tk (P.2.2.2.2.2)) P).2.2.2.1) (pFinish P w n (lDraft w 1 (P.2.2.2.1) L))))), (gUse G)) := by unfold d_commit; rw [if_neg hc_1, if_neg hc_2, if_pos hc_3, if_pos hc_4, if_neg hc_5, if_neg hc_6, if_neg hc_7, if_neg hc_8]
                  exact W.iret (v := (gUse G)) hx hb hr (fun t ht hW => kx_Qi (by rw [e]) ht hP (by rw [e]) hS rfl) hS.2.2 d_D_commit_147
                · refine lv_aload_n hx hb d_D_commit_119 rfl (lv_at hl 0 rfl) ?_
                  refine lv_lload_n hx hb d_D_commit_120 rfl (lv_at hl 2 rfl) ?_
                  refine kx_VW (w1 := (wD a k5 (pPow 0 (pKeep (gKeep (gBecome tk G J) tk (P.2.2.2.2.2)) P)) (gClear G) (gBecome tk G J) ((pWrite (pKeep (gKeep (gBecome tk G J) tk (P.2.2.2.2.2)) P) bits (1 - w) n (lDraft (1 - w) 0 ((pKeep (gKeep (gBecome tk G J) tk (P.2.2.2.2.2)) P).2.2.2.1) (pFinish P w n (lDraft w 1 (P.2.2.2.1) L)))).1))) (As := [.long bits]) (rest := []) ⟨hx, hb, hml, hown, hts⟩ (k_D_powerFailsInLabel l dC dI k5 a (pKeep (gKeep (gBecome tk G J) tk (P.2.2.2.2.2)) P) G (gBecome tk G J) (lDraft (1 - w) 0 ((pKeep (gKeep (gBecome tk G J) tk (P.2.2.2.2.2)) P).2.2.2.1) (pFinish P w n (lDraft w 1 (P.2.2.2.1) L))) bits (1 - w) (flipO hw) (pFinish_q hw hq) n hn hn8) (cwV 1 hts (goodV wm_D_98 wn_D_powerFailsInLabel ws_D_powerFailsInLabel wi_D wc_D_powerFailsInLabel) rfl rfl rfl (by decide +kernel) ⟨Nat.le_of_ble_eq_true rfl, Nat.le_of_ble_eq_true rfl⟩) ⟨Nat.zero_le _, Nat.zero_le _⟩ hK hP hD hS 0 rfl rfl rfl rfl hl.1 rfl (Nat.le_of_ble_eq_true rfl) d_D_commit_121 (fun H locs hP hD hS => ?_)
                  refine W.eq (g2 := F0 m 124 ls [.int (-2)]) rfl ?_
                  have e : d_commit P G J L n w tk x bits = (((pPow 0 (pKeep (gKeep (gBecome tk G J) tk (P.2.2.2.2.2)) P)), (gClear G), (gBecome tk G J), ((pWrite (pKeep (gKeep (gBecome tk G J) tk (P.2.2.2.2.2)) P) bits (1 - w) n (lDraft (1 - w) 0 ((pKeep (gKeep (gBecome tk G J) tk (P.2.2.2.2.2)) P).2.2.2.1) (pFinish P w n (lDraft w 1 (P.2.2.2.1) L)))).1)), (-2)) := by unfold d_commit; rw [if_neg hc_1, if_neg hc_2, if_pos hc_3, if_pos hc_4, if_neg hc_5, if_neg hc_6, if_neg hc_7, if_pos hc_8]
                  exact W.iret (v := (-2)) hx hb hr (fun t ht hW => kx_Qi (by rw [e]) ht hP (by rw [e]) hS rfl) hS.2.2 d_D_commit_124
              · refine lv_aload_n hx hb d_D_commit_86 rfl (lv_at hl 0 rfl) ?_
                refine kx_VW (w1 := (wD a k5 (pPow 0 P) (gClear G) (gBecome tk G J) (pFinish P w n (lDraft w 1 (P.2.2.2.1) L)))) (As := []) (rest := []) ⟨hx, hb, hml, hown, hts⟩ (k_D_powerFails l dC dI k5 a P G (gBecome tk G J) (pFinish P w n (lDraft w 1 (P.2.2.2.1) L))) (cwV 0 hts (goodV wm_D_87 wn_D_powerFails ws_D_powerFails wi_D wc_D_powerFails) rfl rfl rfl (by decide +kernel) ⟨Nat.le_of_ble_eq_true rfl, Nat.le_of_ble_eq_true rfl⟩) ⟨Nat.zero_le _, Nat.zero_le _⟩ hK hP hD hS 0 rfl rfl rfl rfl hl.1 rfl (Nat.le_of_ble_eq_true rfl) d_D_commit_87 (fun H locs hP hD hS => ?_)
                refine W.eq (g2 := F0 m 90 ls [.int (-2)]) rfl ?_
                have e : d_commit P G J L n w tk x bits = (((pPow 0 P), (gClear G), (gBecome tk G J), (pFinish P w n (lDraft w 1 (P.2.2.2.1) L))), (-2)) := by unfold d_commit; rw [if_neg hc_1, if_neg hc_2, if_pos hc_3, if_pos hc_4, if_neg hc_5, if_neg hc_6, if_pos hc_7]
                exact W.iret (v := (-2)) hx hb hr (fun t ht hW => kx_Qi (by rw [e]) ht hP (by rw [e]) hS rfl) hS.2.2 d_D_commit_90
            · refine lv_aload_n hx hb d_D_commit_71 rfl (lv_at hl 0 rfl) ?_
              refine lv_lload_n hx hb d_D_commit_72 rfl (lv_at hl 2 rfl) ?_
              refine kx_VW (w1 := (wD a k5 (pPow 0 P) (gClear G) (gBecome tk G J) ((pWrite P bits w n (lDraft w 1 (P.2.2.2.1) L)).1))) (As := [.long bits]) (rest := []) ⟨hx, hb, hml, hown, hts⟩ (k_D_powerFailsInLabel l dC dI k5 a P G (gBecome tk G J) (lDraft w 1 (P.2.2.2.1) L) bits w hw hq n hn hn8) (cwV 1 hts (goodV wm_D_98 wn_D_powerFailsInLabel ws_D_powerFailsInLabel wi_D wc_D_powerFailsInLabel) rfl rfl rfl (by decide +kernel) ⟨Nat.le_of_ble_eq_true rfl, Nat.le_of_ble_eq_true rfl⟩) ⟨Nat.zero_le _, Nat.zero_le _⟩ hK hP hD hS 0 rfl rfl rfl rfl hl.1 rfl (Nat.le_of_ble_eq_true rfl) d_D_commit_73 (fun H locs hP hD hS => ?_)
              refine W.eq (g2 := F0 m 76 ls [.int (-2)]) rfl ?_
              have e : d_commit P G J L n w tk x bits = (((pPow 0 P), (gClear G), (gBecome tk G J), ((pWrite P bits w n (lDraft w 1 (P.2.2.2.1) L)).1)), (-2)) := by unfold d_commit; rw [if_neg hc_1, if_neg hc_2, if_pos hc_3, if_pos hc_4, if_neg hc_5, if_pos hc_6]
              exact W.iret (v := (-2)) hx hb hr (fun t ht hW => kx_Qi (by rw [e]) ht hP (by rw [e]) hS rfl) hS.2.2 d_D_commit_76
          · refine lv_aload_n hx hb d_D_commit_38 rfl (lv_at hl 0 rfl) ?_
            refine kx_VW (w1 := (wD a k5 (pPow 0 P) (gClear G) J L)) (As := []) (rest := []) ⟨hx, hb, hml, hown, hts⟩ (k_D_powerFails l dC dI k5 a P G J L) (cwV 0 hts (goodV wm_D_87 wn_D_powerFails ws_D_powerFails wi_D wc_D_powerFails) rfl rfl rfl (by decide +kernel) ⟨Nat.le_of_ble_eq_true rfl, Nat.le_of_ble_eq_true rfl⟩) ⟨Nat.zero_le _, Nat.zero_le _⟩ hK hP hD hS 0 rfl rfl rfl rfl hl.1 rfl (Nat.le_of_ble_eq_true rfl) d_D_commit_39 (fun H locs hP hD hS => ?_)
            refine W.eq (g2 := F0 m 42 ls [.int (-2)]) rfl ?_
            have e : d_commit P G J L n w tk x bits = (((pPow 0 P), (gClear G), J, L), (-2)) := by unfold d_commit; rw [if_neg hc_1, if_neg hc_2, if_pos hc_3, if_pos hc_4, if_pos hc_5]
            exact W.iret (v := (-2)) hx hb hr (fun t ht hW => kx_Qi (by rw [e]) ht hP (by rw [e]) hS rfl) hS.2.2 d_D_commit_42
        · refine lv_iconst (v := 0) hx hb d_D_commit_31 (by decide) ?_
          have e : d_commit P G J L n w tk x bits = ((P, G, J, L), 0) := by unfold d_commit; rw [if_neg hc_1, if_neg hc_2, if_pos hc_3, if_neg hc_4]
          exact W.iret (v := 0) hx hb hr (fun t ht hW => kx_Qi (by rw [e]) ht hP (by rw [e]) hS rfl) hS.2.2 d_D_commit_32
      · refine lv_iconst (v := (-1)) hx hb d_D_commit_19 (by decide) ?_
        have e : d_commit P G J L n w tk x bits = ((P, G, J, L), (-1)) := by unfold d_commit; rw [if_neg hc_1, if_neg hc_2, if_neg hc_3]
        exact W.iret (v := (-1)) hx hb hr (fun t ht hW => kx_Qi (by rw [e]) ht hP (by rw [e]) hS rfl) hS.2.2 d_D_commit_20
  · refine lv_bipush (v := (-2)) hx hb d_D_commit_7 (by decide) ?_
    have e : d_commit P G J L n w tk x bits = ((P, G, J, L), (-2)) := by unfold d_commit; rw [if_pos hc_1]
    exact W.iret (v := (-2)) hx hb hr (fun t ht hW => kx_Qi (by rw [e]) ht hP (by rw [e]) hS rfl) hS.2.2 d_D_commit_9
def d_fill (P : PP) (G J : GG) (L : LL) (n w : Nat) (d x : Int32) (bits : Int64) : SS × Int32 := (if (P.2.2.1) = 0 then ((P, G, J, L), (-2)) else (if (bI (decide (¬ d < 0 ∧ ¬ P.1 ≤ d))) = 0 then ((P, G, J, L), (-1)) else (if (bI (decide (¬ pMk P (d.toNatClampNeg) = -1 ∧ ¬ P.2.1 ≤ pMk P (d.toNatClampNeg)))) = 0 then ((P, G, J, L), (-1)) else (if x < 0 then ((P, G, J, L), (-1)) else (if x ≤ 2 then (if x = 1 then (((pPow 0 P), (gClear G), J, L), (-2)) else (if x = 2 then (((pPow 0 P), (gClear G), J, ((pWrite P bits w n (lTell w (d.toNatClampNeg) (pMk P (d.toNatClampNeg) + 1) (lDraft w 0 (P.2.2.2.1) L))).1)), (-2)) else (((pMark (upd (pMk P) (d.toNatClampNeg) (pMk P (d.toNatClampNeg) + 1)) P), G, J, (pFinish P w n (lTell w (d.toNatClampNeg) (pMk P (d.toNatClampNeg) + 1) (lDraft w 0 (pMk P) L)))), (((P.2.2.2.1) d.toNatClampNeg) + 1)))) else ((P, G, J, L), (-1)))))))
set_option maxHeartbeats 4000000 in
set_option maxRecDepth 100000 in
theorem k_D_fill (l : Launch) (dC : Nat → ClassId) (dI : Nat → Nat → Nat) (k5 : Nat → ClassId) (a : Nat → Nat) (P : PP) (G J : GG) (L : LL) (n w : Nat) (d x : Int32) (bits : Int64) (hn : P.1 = nI n) (hn4 : 4 ≤ n) (hn8 : n ≤ 8) (hw : w = 0 ∨ w = 1) (hq : 1 - L.1 1 = nI w) : Met l y_D_fill w_D_fill ({ frames := 4, cells := 0, slots := 0, locals := 91 }) (kx_Pc (dC, dI) clA (tyL k5) (wD a k5 P G J L) [.ref (a 0), .int d, .int x, .long bits]) (kx_Q (dC, dI) clA (wD a k5 P G J L) (wS a k5 (d_fill P G J L n w d x bits).1) (some (.int (d_fill P G J L n w d x bits).2))) 0 0 (kx_A (wD a k5 P G J L)) := by
  refine Met.ofW (cc := c_D_fill) (maxL := 6) (ret := (some .int)) (by decide) rfl ?_
  intro p e s m args below meth c s₁ B hml hv
  obtain ⟨rfl, hP, hK, hD0⟩ := hv
  have hx := B.exec
  have hb := B.bytes
  have hr := B.returns
  have hts : ∀ w ∈ wsA, w.before _ s = true := fun w h => atoms_spec (ws := w_D_fill) B.pre w (List.mem_cons_of_mem _ h)
  have hown : s.vm.findClass R_D = some m.cls := findClass_of_methodNamed B.named
  have hlocks := B.notSynchronized
  have hD := kx_D.self hD0
  have hS : va_S (kx_A (wD a k5 P G J L)) s.heap s.heap [] := va_S.rf
  have hl := lv_entry ([.ref (a 0), .int d, .int x, .long bits]) (n := 6) (Nat.le_of_ble_eq_true rfl)
  rw [lg_entry_eq]
  generalize (lg_sl ([.ref (a 0), .int d, .int x, .long bits]) ++ List.replicate (6 - (lg_sl ([.ref (a 0), .int d, .int x, .long bits])).length) Slot.unset).toArray = ls at hl ⊢
  have hl : lv_has ls 6 [(0, .ref (a 0)), (1, .int d), (2, .int x), (3, .long bits)] := hl
  refine lv_aload_n hx hb d_D_fill_0 rfl (lv_at hl 0 rfl) ?_
  refine va_get (D := (dC, dI)) (ci := 2) (v := .int (P.2.2.1)) (C := R_D) (T := T_D) (N := 9) hx hb hts wu_D hown hK hP 0 rfl rfl 8 (by decide) (hts _ wf_D_46) (fun _ h9 => h9) rfl d_D_fill_1 ?_
  refine lv_if_ne (tgt := 10) hx hb d_D_fill_4 (by decide) (fun hc_1 => ?_) (fun hc_1 => ?_)
  · refine lv_aload_n hx hb d_D_fill_10 rfl (lv_at hl 0 rfl) ?_
    refine lv_iload_n hx hb d_D_fill_11 rfl (lv_at hl 1 rfl) ?_
    refine kx_VRW (As := [.int d]) (rest := []) ⟨hx, hb, hml, hown, hts⟩ (k_D_isDisk l dC dI k5 a P G J L d) (cwV 1 hts (goodV wm_D_115 wn_D_isDisk ws_D_isDisk wi_D wc_D_isDisk) rfl rfl rfl (by decide +kernel) ⟨Nat.le_of_ble_eq_true rfl, Nat.le_of_ble_eq_true rfl⟩) ⟨Nat.zero_le _, Nat.zero_le _⟩ hK hP hD 0 rfl rfl rfl hl.1 rfl (Nat.le_of_ble_eq_true rfl) d_D_fill_12 ?_
    refine W.eq (g2 := F0 m 15 ls [.int (bI (decide (¬ d < 0 ∧ ¬ P.1 ≤ d)))]) rfl ?_
    refine lv_if_eq (tgt := 35) hx hb d_D_fill_15 (by decide) (fun hc_2 => ?_) (fun hc_2 => ?_)
    · refine lv_iconst (v := (-1)) hx hb d_D_fill_35 (by decide) ?_
      have e : d_fill P G J L n w d x bits = ((P, G, J, L), (-1)) := by unfold d_fill; rw [if_neg hc_1, if_pos hc_2]
      exact W.iret (v := (-1)) hx hb hr (fun t ht hW => kx_Qi (by rw [e]) ht hP (by rw [e]) hS rfl) hS.2.2 d_D_fill_36
    · refine lv_aload_n hx hb d_D_fill_18 rfl (lv_at hl 0 rfl) ?_
      refine lv_iload_n hx hb d_D_fill_19 rfl (lv_at hl 1 rfl) ?_
      refine W.eq (g2 := F0 m 20 ls [.int (nI (d.toNatClampNeg)), .ref (a 0)]) (by rw [← (isD (bI_t hc_2) hn (by omega)).1]) ?_
      refine kx_VRW (As := [.int (nI (d.toNatClampNeg))]) (rest := []) ⟨hx, hb, hml, hown, hts⟩ (k_D_isBlank l dC dI k5 a P G J L (d.toNatClampNeg) (by have := (isD (bI_t hc_2) hn (by omega)).2; omega)) (cwV 1 hts (goodV wm_D_138 wn_D_isBlank ws_D_isBlank wi_D wc_D_isBlank) rfl rfl rfl (by decide +kernel) ⟨Nat.le_of_ble_eq_true rfl, Nat.le_of_ble_eq_true rfl⟩) ⟨Nat.zero_le _, Nat.zero_le _⟩ hK hP hD 0 rfl rfl rfl hl.1 rfl (Nat.le_of_ble_eq_true rfl) d_D_fill_20 ?_
      refine W.eq (g2 := F0 m 23 ls [.int (bI (decide (¬ pMk P (d.toNatClampNeg) = -1 ∧ ¬ P.2.1 ≤ pMk P (d.toNatClampNeg))))]) rfl ?_
      refine lv_if_eq (tgt := 35) hx hb d_D_fill_23 (by decide) (fun hc_3 => ?_) (fun hc_3 => ?_)
      · refine lv_iconst (v := (-1)) hx hb d_D_fill_35 (by decide) ?_
        have e : d_fill P G J L n w d x bits = ((P, G, J, L), (-1)) := by unfold d_fill; rw [if_neg hc_1, if_neg hc_2, if_pos hc_3]
        exact W.iret (v := (-1)) hx hb hr (fun t ht hW => kx_Qi (by rw [e]) ht hP (by rw [e]) hS rfl) hS.2.2 d_D_fill_36
      · refine lv_iload_n hx hb d_D_fill_26 rfl (lv_at hl 2 rfl) ?_
        refine lv_if_lt (tgt := 35) hx hb d_D_fill_27 (by decide) (fun hc_4 => ?_) (fun hc_4 => ?_)
        · refine lv_iconst (v := (-1)) hx hb d_D_fill_35 (by decide) ?_
          have e : d_fill P G J L n w d x bits = ((P, G, J, L), (-1)) := by unfold d_fill; rw [if_neg hc_1, if_neg hc_2, if_neg hc_3, if_pos hc_4]
          exact W.iret (v := (-1)) hx hb hr (fun t ht hW => kx_Qi (by rw [e]) ht hP (by rw [e]) hS rfl) hS.2.2 d_D_fill_36
        · refine lv_iload_n hx hb d_D_fill_30 rfl (lv_at hl 2 rfl) ?_
          refine lv_iconst (v := 2) hx hb d_D_fill_31 (by decide) ?_
          refine lv_icmp_le (tgt := 37) hx hb d_D_fill_32 (by decide) (fun hc_5 => ?_) (fun hc_5 => ?_)
          · refine lv_iload_n hx hb d_D_fill_37 rfl (lv_at hl 2 rfl) ?_
            refine lv_iconst (v := 1) hx hb d_D_fill_38 (by decide) ?_
            refine lv_icmp_ne (tgt := 47) hx hb d_D_fill_39 (by decide) (fun hc_6 => ?_) (fun hc_6 => ?_)
            · refine lv_aload_n hx hb d_D_fill_47 rfl (lv_at hl 0 rfl) ?_
              refine va_get (D := (dC, dI)) (ci := 2) (v := .ref (a 1)) (C := R_D) (T := T_D) (N := 9) hx hb hts wu_D hown hK hP 0 rfl rfl 0 (by decide) (hts _ wf_D_9) (fun _ h9 => h9) rfl d_D_fill_48 ?_
              refine lv_iload_n hx hb d_D_fill_51 rfl (lv_at hl 1 rfl) ?_
              refine kx_iald hx hb hK hP 1 0 rfl rfl d.toNatClampNeg ((isD (bI_t hc_2) hn (by omega)).1) (by have := (isD (bI_t hc_2) hn (by omega)).2; omega) (by omega) d_D_fill_52 ?_
              refine lv_iconst (v := 1) hx hb d_D_fill_53 (by decide) ?_
              refine lv_iadd hx hb d_D_fill_54 ?_
              refine lv_istore (lv' := [(5, .int (((P.2.2.2.1) d.toNatClampNeg) + 1)), (0, .ref (a 0)), (1, .int d), (2, .int x), (3, .long bits)]) hx hb d_D_fill_55 hl (by decide) rfl (fun ls hl => ?_)
              refine lv_aload_n hx hb d_D_fill_57 rfl (lv_at hl 1 rfl) ?_
              refine va_get (D := (dC, dI)) (ci := 2) (v := .ref (a 12)) (C := R_D) (T := T_D) (N := 9) hx hb hts wu_D hown hK hP 0 rfl rfl 5 (by decide) (hts _ wf_D_34) (fun _ h9 => h9) rfl d_D_fill_58 ?_
              refine lv_iconst (v := 0) hx hb d_D_fill_61 (by decide) ?_
              refine lv_aload_n hx hb d_D_fill_62 rfl (lv_at hl 1 rfl) ?_
              refine va_get (D := (dC, dI)) (ci := 2) (v := .ref (a 1)) (C := R_D) (T := T_D) (N := 9) hx hb hts wu_D hown hK hP 0 rfl rfl 0 (by decide) (hts _ wf_D_9) (fun _ h9 => h9) rfl d_D_fill_63 ?_
              refine kx_V (ws2 := (wD a k5 P G J (lDraft w 0 (P.2.2.2.1) L))) (As := [.int 0, .ref (a 1)]) (rest := []) ⟨hx, hb, hml, hown, hts⟩ (k_L_draft l dC dI k5 a L w hw hq (a 1) (P.2.2.2.1) 0 rfl) (cwV 2 hts (goodV wm_D_94 wn_L_draft ws_L_draft wi_L wc_L_draft) rfl rfl rfl (by decide +kernel) ⟨Nat.le_of_ble_eq_true rfl, Nat.le_of_ble_eq_true rfl⟩) ⟨Nat.zero_le _, Nat.zero_le _⟩ hK hP hD hS [12, 13, 14, 15, 16, 17, 18, 19, 20, 21, 22, 23, 1] (by decide) rfl 0 rfl rfl rfl rfl rfl rfl hl.1 rfl (Nat.le_of_ble_eq_true rfl) d_D_fill_66 (fun H locs hP hD hS => ?_)
              refine W.eq (g2 := F0 m 69 ls []) rfl ?_
              refine lv_aload_n hx hb d_D_fill_69 rfl (lv_at hl 1 rfl) ?_
              refine va_get (D := (dC, dI)) (ci := 2) (v := .ref (a 12)) (C := R_D) (T := T_D) (N := 9) hx hb hts wu_D hown hK hP 0 rfl rfl 5 (by decide) (hts _ wf_D_34) (fun _ h9 => h9) rfl d_D_fill_70 ?_
              refine lv_iload_n hx hb d_D_fill_73 rfl (lv_at hl 2 rfl) ?_
              refine lv_iload hx hb d_D_fill_74 (lv_at hl 0 rfl) ?_
              refine W.eq (g2 := F0 m 76 ls [.int (((P.2.2.2.1) d.toNatClampNeg) + 1), .int (nI (d.toNatClampNeg)), .ref (a 12)]) (by rw [← (isD (bI_t hc_2) hn (by omega)).1]) ?_
              refine kx_V (ws2 := (wD a k5 P G J (lTell w (d.toNatClampNeg) (pMk P (d.toNatClampNeg) + 1) (lDraft w 0 (P.2.2.2.1) L)))) (As := [.int (nI (d.toNatClampNeg)), .int (((P.2.2.2.1) d.toNatClampNeg) + 1)]) (rest := []) ⟨hx, hb, hml, hown, hts⟩ (k_L_tell l dC dI k5 a (lDraft w 0 (P.2.2.2.1) L) w hw hq (d.toNatClampNeg) (by have := (isD (bI_t hc_2) hn (by omega)).2; omega) (pMk P (d.toNatClampNeg) + 1)) (cwV 2 hts (goodV wm_D_141 wn_L_tell ws_L_tell wi_L wc_L_tell) rfl rfl rfl (by decide +kernel) ⟨Nat.le_of_ble_eq_true rfl, Nat.le_of_ble_eq_true rfl⟩) ⟨Nat.zero_le _, Nat.zero_le _⟩ hK hP hD hS [12, 13, 14, 15, 16, 17, 18, 19, 20, 21, 22, 23] (by decide) rfl 0 rfl rfl rfl rfl rfl rfl hl.1 rfl (Nat.le_of_ble_eq_true rfl) d_D_fill_76 (fun H locs hP hD hS => ?_)
              refine W.eq (g2 := F0 m 79 ls []) rfl ?_
              refine lv_iload_n hx hb d_D_fill_79 rfl (lv_at hl 3 rfl) ?_
              refine lv_iconst (v := 2) hx hb d_D_fill_80 (by decide) ?_
              refine lv_icmp_ne (tgt := 90) hx hb d_D_fill_81 (by decide) (fun hc_7 => ?_) (fun hc_7 => ?_)
              · refine lv_aload_n hx hb d_D_fill_90 rfl (lv_at hl 1 rfl) ?_
                refine kx_VW (w1 := (wD a k5 P G J (pFinish P w n (lTell w (d.toNatClampNeg) (pMk P (d.toNatClampNeg) + 1) (lDraft w 0 (P.2.2.2.1) L))))) (As := []) (rest := []) ⟨hx, hb, hml, hown, hts⟩ (k_D_finishLabel l dC dI k5 a P G J (lTell w (d.toNatClampNeg) (pMk P (d.toNatClampNeg) + 1) (lDraft w 0 (P.2.2.2.1) L)) w hw hq n hn hn8) (cwV 0 hts (goodV wm_D_102 wn_D_finishLabel ws_D_finishLabel wi_D wc_D_finishLabel) rfl rfl rfl (by decide +kernel) ⟨Nat.le_of_ble_eq_true rfl, Nat.le_of_ble_eq_true rfl⟩) ⟨Nat.zero_le _, Nat.zero_le _⟩ hK hP hD hS 0 rfl rfl rfl rfl hl.1 rfl (Nat.le_of_ble_eq_true rfl) d_D_fill_91 (fun H locs hP hD hS => ?_)
                refine W.eq (g2 := F0 m 94 ls []) rfl ?_
                refine lv_aload_n hx hb d_D_fill_94 rfl (lv_at hl 1 rfl) ?_
                refine va_get (D := (dC, dI)) (ci := 2) (v := .ref (a 1)) (C := R_D) (T := T_D) (N := 9) hx hb hts wu_D hown hK hP 0 rfl rfl 0 (by decide) (hts _ wf_D_9) (fun _ h9 => h9) rfl d_D_fill_95 ?_
                refine lv_iload_n hx hb d_D_fill_98 rfl (lv_at hl 2 rfl) ?_
                refine lv_iload hx hb d_D_fill_99 (lv_at hl 0 rfl) ?_
                refine kx_iast (ws' := (wD a k5 (pMark (upd (pMk P) (d.toNatClampNeg) (pMk P (d.toNatClampNeg) + 1)) P) G J (pFinish P w n (lTell w (d.toNatClampNeg) (pMk P (d.toNatClampNeg) + 1) (lDraft w 0 (pMk P) L))))) hx hb hK hP hD hS 1 0 rfl rfl d.toNatClampNeg ((isD (bI_t hc_2) hn (by omega)).1) (by have := (isD (bI_t hc_2) hn (by omega)).2; omega) (by omega) rfl d_D_fill_101 (fun H locs hP hD hS => ?_)
                refine lv_iload hx hb d_D_fill_102 (lv_at hl 0 rfl) ?_
                have e : d_fill P G J L n w d x bits = (((pMark (upd (pMk P) (d.toNatClampNeg) (pMk P (d.toNatClampNeg) + 1)) P), G, J, (pFinish P w n (lTell w (d.toNatClampNeg) (pMk P (d.toNatClampNeg) + 1) (lDraft w 0 (pMk P) L)))), (((P.2.2.2.1) d.toNatClampNeg) + 1)) := by unfold d_fill; rw [if_neg hc_1, if_neg hc_2, if_neg hc_3, if_neg hc_4, if_pos hc_5, if_neg hc_6, if_neg hc_7]
                exact W.iret (v := (((P.2.2.2.1) d.toNatClampNeg) + 1)) hx hb hr (fun t ht hW => kx_Qi (by rw [e]) ht hP (by rw [e]) hS rfl) hS.2.2 d_D_fill_104
              · refine lv_aload_n hx hb d_D_fill_84 rfl (lv_at hl 1 rfl) ?_
                refine lv_lload_n hx hb d_D_fill_85 rfl (lv_at hl 4 rfl) ?_
                refine kx_VW (w1 := (wD a k5 (pPow 0 P) (gClear G) J ((pWrite P bits w n (lTell w (d.toNatClampNeg) (pMk P (d.toNatClampNeg) + 1) (lDraft w 0 (P.2.2.2.1) L))).1))) (As := [.long bits]) (rest := []) ⟨hx, hb, hml, hown, hts⟩ (k_D_powerFailsInLabel l dC dI k5 a P G J (lTell w (d.toNatClampNeg) (pMk P (d.toNatClampNeg) + 1) (lDraft w 0 (P.2.2.2.1) L)) bits w hw hq n hn hn8) (cwV 1 hts (goodV wm_D_98 wn_D_powerFailsInLabel ws_D_powerFailsInLabel wi_D wc_D_powerFailsInLabel) rfl rfl rfl (by decide +kernel) ⟨Nat.le_of_ble_eq_true rfl, Nat.le_of_ble_eq_true rfl⟩) ⟨Nat.zero_le _, Nat.zero_le _⟩ hK hP hD hS 0 rfl rfl rfl rfl hl.1 rfl (Nat.le_of_ble_eq_true rfl) d_D_fill_86 (fun H locs hP hD hS => ?_)
                refine W.eq (g2 := F0 m 89 ls [.int (-2)]) rfl ?_
                have e : d_fill P G J L n w d x bits = (((pPow 0 P), (gClear G), J, ((pWrite P bits w n (lTell w (d.toNatClampNeg) (pMk P (d.toNatClampNeg) + 1) (lDraft w 0 (P.2.2.2.1) L))).1)), (-2)) := by unfold d_fill; rw [if_neg hc_1, if_neg hc_2, if_neg hc_3, if_neg hc_4, if_pos hc_5, if_neg hc_6, if_pos hc_7]
                exact W.iret (v := (-2)) hx hb hr (fun t ht hW => kx_Qi (by rw [e]) ht hP (by rw [e]) hS rfl) hS.2.2 d_D_fill_89
            · refine lv_aload_n hx hb d_D_fill_42 rfl (lv_at hl 0 rfl) ?_
              refine kx_VW (w1 := (wD a k5 (pPow 0 P) (gClear G) J L)) (As := []) (rest := []) ⟨hx, hb, hml, hown, hts⟩ (k_D_powerFails l dC dI k5 a P G J L) (cwV 0 hts (goodV wm_D_87 wn_D_powerFails ws_D_powerFails wi_D wc_D_powerFails) rfl rfl rfl (by decide +kernel) ⟨Nat.le_of_ble_eq_true rfl, Nat.le_of_ble_eq_true rfl⟩) ⟨Nat.zero_le _, Nat.zero_le _⟩ hK hP hD hS 0 rfl rfl rfl rfl hl.1 rfl (Nat.le_of_ble_eq_true rfl) d_D_fill_43 (fun H locs hP hD hS => ?_)
              refine W.eq (g2 := F0 m 46 ls [.int (-2)]) rfl ?_
              have e : d_fill P G J L n w d x bits = (((pPow 0 P), (gClear G), J, L), (-2)) := by unfold d_fill; rw [if_neg hc_1, if_neg hc_2, if_neg hc_3, if_neg hc_4, if_pos hc_5, if_pos hc_6]
              exact W.iret (v := (-2)) hx hb hr (fun t ht hW => kx_Qi (by rw [e]) ht hP (by rw [e]) hS rfl) hS.2.2 d_D_fill_46
          · refine lv_iconst (v := (-1)) hx hb d_D_fill_35 (by decide) ?_
            have e : d_fill P G J L n w d x bits = ((P, G, J, L), (-1)) := by unfold d_fill; rw [if_neg hc_1, if_neg hc_2, if_neg hc_3, if_neg hc_4, if_neg hc_5]
            exact W.iret (v := (-1)) hx hb hr (fun t ht hW => kx_Qi (by rw [e]) ht hP (by rw [e]) hS rfl) hS.2.2 d_D_fill_36
  · refine lv_bipush (v := (-2)) hx hb d_D_fill_7 (by decide) ?_
    have e : d_fill P G J L n w d x bits = ((P, G, J, L), (-2)) := by unfold d_fill; rw [if_pos hc_1]
    exact W.iret (v := (-2)) hx hb hr (fun t ht hW => kx_Qi (by rw [e]) ht hP (by rw [e]) hS rfl) hS.2.2 d_D_fill_9
def d_mount (P : PP) (G J : GG) (L : LL) (n w tj : Nat) (x : Int32) (bits : Int64) : SS × Int32 := (if (P.2.2.1) = 0 then (if x < 0 then ((P, G, J, L), (-1)) else (if x ≤ 3 then (if x = 1 then ((P, G, J, ((pAgain bits w n (lFind L)).1)), (-2)) else (if (((pAgain 6148914691236517205 w n (lFind L)).1).2 7 w) = 0 then (if x = 3 then (((pPow 0 (pMark (pTake ((pAgain 6148914691236517205 w n (lFind L)).1) w (pMk P) n) P)), (gClear G), J, ((pWrite (pMark (pTake ((pAgain 6148914691236517205 w n (lFind L)).1) w (pMk P) n) P) bits (1 - w) n (lDraft (1 - w) 0 ((pMark (pTake ((pAgain 6148914691236517205 w n (lFind L)).1) w (pMk P) n) P).2.2.2.1) ((pAgain 6148914691236517205 w n (lFind L)).1))).1)), (-2)) else (((pPow 1 (pMark (pTake ((pAgain 6148914691236517205 w n (lFind L)).1) w (pMk P) n) P)), G, J, (pFinish (pMark (pTake ((pAgain 6148914691236517205 w n (lFind L)).1) w (pMk P) n) P) (1 - w) n (lDraft (1 - w) 0 ((pMark (pTake ((pAgain 6148914691236517205 w n (lFind L)).1) w (pMk P) n) P).2.2.2.1) ((pAgain 6148914691236517205 w n (lFind L)).1)))), 0)) else (if x = 2 then (((pMark (pTake ((pAgain 6148914691236517205 w n (lFind L)).1) w (pMk P) n) P), G, J, ((pAgain 6148914691236517205 w n (lFind L)).1)), (-2)) else (if x = 3 then (((pPow 0 (pKeep (gKeep J tj ((pMark (pTake ((pAgain 6148914691236517205 w n (lFind L)).1) w (pMk P) n) P).2.2.2.2.2)) (pMark (pTake ((pAgain 6148914691236517205 w n (lFind L)).1) w (pMk P) n) P))), (gClear G), J, ((pWrite (pKeep (gKeep J tj ((pMark (pTake ((pAgain 6148914691236517205 w n (lFind L)).1) w (pMk P) n) P).2.2.2.2.2)) (pMark (pTake ((pAgain 6148914691236517205 w n (lFind L)).1) w (pMk P) n) P)) bits (1 - w) n (lDraft (1 - w) 0 ((pKeep (gKeep J tj ((pMark (pTake ((pAgain 6148914691236517205 w n (lFind L)).1) w (pMk P) n) P).2.2.2.2.2)) (pMark (pTake ((pAgain 6148914691236517205 w n (lFind L)).1) w (pMk P) n) P)).2.2.2.1) ((pAgain 6148914691236517205 w n (lFind L)).1))).1)), (-2)) else (((pPow 1 (pKeep (gKeep J tj ((pMark (pTake ((pAgain 6148914691236517205 w n (lFind L)).1) w (pMk P) n) P).2.2.2.2.2)) (pMark (pTake ((pAgain 6148914691236517205 w n (lFind L)).1) w (pMk P) n) P))), G, J, (pFinish (pKeep (gKeep J tj ((pMark (pTake ((pAgain 6148914691236517205 w n (lFind L)).1) w (pMk P) n) P).2.2.2.2.2)) (pMark (pTake ((pAgain 6148914691236517205 w n (lFind L)).1) w (pMk P) n) P)) (1 - w) n (lDraft (1 - w) 0 ((pKeep (gKeep J tj ((pMark (pTake ((pAgain 6148914691236517205 w n (lFind L)).1) w (pMk P) n) P).2.2.2.2.2)) (pMark (pTake ((pAgain 6148914691236517205 w n (lFind L)).1) w (pMk P) n) P)).2.2.2.1) ((pAgain 6148914691236517205 w n (lFind L)).1)))), (jU (pKeep (gKeep J tj ((pMark (pTake ((pAgain 6148914691236517205 w n (lFind L)).1) w (pMk P) n) P).2.2.2.2.2)) (pMark (pTake ((pAgain 6148914691236517205 w n (lFind L)).1) w (pMk P) n) P)) J n tj tj)))))) else ((P, G, J, L), (-1)))) else ((P, G, J, L), (-1)))
set_option maxHeartbeats 4000000 in
set_option maxRecDepth 100000 in
theorem k_D_mount (l : Launch) (dC : Nat → ClassId) (dI : Nat → Nat → Nat) (k5 : Nat → ClassId) (a : Nat → Nat) (P : PP) (G J : GG) (L : LL) (n w tj : Nat) (x : Int32) (bits : Int64) (hn : P.1 = nI n) (hn4 : 4 ≤ n) (hn8 : n ≤ 8) (hw : w = 0 ∨ w = 1) (hf : (lFind L).1 1 = nI w) (hz : L.2 7 w = 0 ∨ L.2 7 w = 1) (hJ : GI J tj) : Met l y_D_mount w_D_mount ({ frames := 4, cells := 0, slots := 0, locals := 91 }) (kx_Pc (dC, dI) clA (tyL k5) (wD a k5 P G J L) [.ref (a 0), .int x, .long bits]) (kx_Q (dC, dI) clA (wD a k5 P G J L) (wS a k5 (d_mount P G J L n w tj x bits).1) (some (.int (d_mount P G J L n w tj x bits).2))) 0 0 (kx_A (wD a k5 P G J L)) := by
  refine Met.ofW (cc := c_D_mount) (maxL := 5) (ret := (some .int)) (by decide) rfl ?_
  intro p e s m args below meth c s₁ B hml hv
  obtain ⟨rfl, hP, hK, hD0⟩ := hv
  have hx := B.exec
  have hb := B.bytes
  have hr := B.returns
  have hts : ∀ w ∈ wsA, w.before _ s = true := fun w h => atoms_spec (ws := w_D_mount) B.pre w (List.mem_cons_of_mem _ h)
  have hown : s.vm.findClass R_D = some m.cls := findClass_of_methodNamed B.named
  have hlocks := B.notSynchronized
  have hD := kx_D.self hD0
  have hS : va_S (kx_A (wD a k5 P G J L)) s.heap s.heap [] := va_S.rf
  have hl := lv_entry ([.ref (a 0), .int x, .long bits]) (n := 5) (Nat.le_of_ble_eq_true rfl)
  rw [lg_entry_eq]
  generalize (lg_sl ([.ref (a 0), .int x, .long bits]) ++ List.replicate (5 - (lg_sl ([.ref (a 0), .int x, .long bits])).length) Slot.unset).toArray = ls at hl ⊢
  have hl : lv_has ls 5 [(0, .ref (a 0)), (1, .int x), (2, .long bits)] := hl
  refine lv_aload_n hx hb d_D_mount_0 rfl (lv_at hl 0 rfl) ?_
  refine va_get (D := (dC, dI)) (ci := 2) (v := .int (P.2.2.1)) (C := R_D) (T := T_D) (N := 9) hx hb hts wu_D hown hK hP 0 rfl rfl 8 (by decide) (hts _ wf_D_46) (fun _ h9 => h9) rfl d_D_mount_1 ?_
  refine lv_if_ne (tgt := 16) hx hb d_D_mount_4 (by decide) (fun hc_1 => ?_) (fun hc_1 => ?_)
  · refine lv_iconst (v := (-1)) hx hb d_D_mount_16 (by decide) ?_
    have e : d_mount P G J L n w tj x bits = ((P, G, J, L), (-1)) := by unfold d_mount; rw [if_neg hc_1]
    exact W.iret (v := (-1)) hx hb hr (fun t ht hW => kx_Qi (by rw [e]) ht hP (by rw [e]) hS rfl) hS.2.2 d_D_mount_17
  · refine lv_iload_n hx hb d_D_mount_7 rfl (lv_at hl 1 rfl) ?_
    refine lv_if_lt (tgt := 16) hx hb d_D_mount_8 (by decide) (fun hc_2 => ?_) (fun hc_2 => ?_)
    · refine lv_iconst (v := (-1)) hx hb d_D_mount_16 (by decide) ?_
      have e : d_mount P G J L n w tj x bits = ((P, G, J, L), (-1)) := by unfold d_mount; rw [if_pos hc_1, if_pos hc_2]
      exact W.iret (v := (-1)) hx hb hr (fun t ht hW => kx_Qi (by rw [e]) ht hP (by rw [e]) hS rfl) hS.2.2 d_D_mount_17
    · refine lv_iload_n hx hb d_D_mount_11 rfl (lv_at hl 1 rfl) ?_
      refine lv_iconst (v := 3) hx hb d_D_mount_12 (by decide) ?_
      refine lv_icmp_le (tgt := 18) hx hb d_D_mount_13 (by decide) (fun hc_3 => ?_) (fun hc_3 => ?_)
      · refine lv_aload_n hx hb d_D_mount_18 rfl (lv_at hl 0 rfl) ?_
        refine va_get (D := (dC, dI)) (ci := 2) (v := .ref (a 12)) (C := R_D) (T := T_D) (N := 9) hx hb hts wu_D hown hK hP 0 rfl rfl 5 (by decide) (hts _ wf_D_34) (fun _ h9 => h9) rfl d_D_mount_19 ?_
        refine kx_V (ws2 := (wD a k5 P G J (lFind L))) (As := []) (rest := []) ⟨hx, hb, hml, hown, hts⟩ (k_L_findCounting l dC dI k5 a L) (cwV 0 hts (goodV wm_D_149 wn_L_findCounting ws_L_findCounting wi_L wc_L_findCounting) rfl rfl rfl (by decide +kernel) ⟨Nat.le_of_ble_eq_true rfl, Nat.le_of_ble_eq_true rfl⟩) ⟨Nat.zero_le _, Nat.zero_le _⟩ hK hP hD hS [12, 13, 14, 15, 16, 17, 18, 19, 20, 21, 22, 23] (by decide) rfl 0 rfl rfl rfl rfl rfl rfl hl.1 rfl (Nat.le_of_ble_eq_true rfl) d_D_mount_22 (fun H locs hP hD hS => ?_)
        refine W.eq (g2 := F0 m 25 ls []) rfl ?_
        refine lv_iload_n hx hb d_D_mount_25 rfl (lv_at hl 1 rfl) ?_
        refine lv_iconst (v := 1) hx hb d_D_mount_26 (by decide) ?_
        refine lv_icmp_ne (tgt := 38) hx hb d_D_mount_27 (by decide) (fun hc_4 => ?_) (fun hc_4 => ?_)
        · refine lv_aload_n hx hb d_D_mount_38 rfl (lv_at hl 0 rfl) ?_
          refine lv_ldc2 hx hb hown (hts _ wk_D_156) d_D_mount_39 ?_
          refine kx_VW (w1 := (wD a k5 P G J ((pAgain 6148914691236517205 w n (lFind L)).1))) (As := [.long 6148914691236517205]) (rest := []) ⟨hx, hb, hml, hown, hts⟩ (k_D_writeLabelAgain l dC dI k5 a P G J (lFind L) 6148914691236517205 w hw hf n hn hn8) (cwV 1 hts (goodV wm_D_152 wn_D_writeLabelAgain ws_D_writeLabelAgain wi_D wc_D_writeLabelAgain) rfl rfl rfl (by decide +kernel) ⟨Nat.le_of_ble_eq_true rfl, Nat.le_of_ble_eq_true rfl⟩) ⟨Nat.zero_le _, Nat.zero_le _⟩ hK hP hD hS 0 rfl rfl rfl rfl hl.1 rfl (Nat.le_of_ble_eq_true rfl) d_D_mount_42 (fun H locs hP hD hS => ?_)
          refine W.eq (g2 := F0 m 45 ls []) rfl ?_
          refine lv_aload_n hx hb d_D_mount_45 rfl (lv_at hl 0 rfl) ?_
          refine kx_VW (w1 := (wD a k5 (pMark (pTake ((pAgain 6148914691236517205 w n (lFind L)).1) w (pMk P) n) P) G J ((pAgain 6148914691236517205 w n (lFind L)).1))) (As := []) (rest := []) ⟨hx, hb, hml, hown, hts⟩ (k_D_takeMarksOfLabel l dC dI k5 a P G J ((pAgain 6148914691236517205 w n (lFind L)).1) w hw (show (((pAgain 6148914691236517205 w n (lFind L)).1)).1 1 = nI w by rw [pAgain_sc]; exact hf) n hn hn8) (cwV 0 hts (goodV wm_D_158 wn_D_takeMarksOfLabel ws_D_takeMarksOfLabel wi_D wc_D_takeMarksOfLabel) rfl rfl rfl (by decide +kernel) ⟨Nat.le_of_ble_eq_true rfl, Nat.le_of_ble_eq_true rfl⟩) ⟨Nat.zero_le _, Nat.zero_le _⟩ hK hP hD hS 0 rfl rfl rfl rfl hl.1 rfl (Nat.le_of_ble_eq_true rfl) d_D_mount_46 (fun H locs hP hD hS => ?_)
          refine W.eq (g2 := F0 m 49 ls []) rfl ?_
          refine lv_iconst (v := 0) hx hb d_D_mount_49 (by decide) ?_
          refine lv_istore (lv' := [(4, .int 0), (0, .ref (a 0)), (1, .int x), (2, .long bits)]) hx hb d_D_mount_50 hl (by decide) rfl (fun ls hl => ?_)
          refine lv_aload_n hx hb d_D_mount_52 rfl (lv_at hl 1 rfl) ?_
          refine va_get (D := (dC, dI)) (ci := 2) (v := .ref (a 12)) (C := R_D) (T := T_D) (N := 9) hx hb hts wu_D hown hK hP 0 rfl rfl 5 (by decide) (hts _ wf_D_34) (fun _ h9 => h9) rfl d_D_mount_53 ?_
          refine kx_VR (As := []) (rest := []) ⟨hx, hb, hml, hown, hts⟩ (k_L_tellsOfGroup l dC dI k5 a ((pAgain 6148914691236517205 w n (lFind L)).1) w hw (show (((pAgain 6148914691236517205 w n (lFind L)).1)).1 1 = nI w by rw [pAgain_sc]; exact hf) (narB (by rw [pAgain_ar _ _ hw _ 7 (by omega)]; exact hz))) (cwV 0 hts (goodV wm_D_161 wn_L_tellsOfGroup ws_L_tellsOfGroup wi_L wc_L_tellsOfGroup) rfl rfl rfl (by decide +kernel) ⟨Nat.le_of_ble_eq_true rfl, Nat.le_of_ble_eq_true rfl⟩) ⟨Nat.zero_le _, Nat.zero_le _⟩ hK hP hD [12, 13, 14, 15, 16, 17, 18, 19, 20, 21, 22, 23] (by decide) rfl 0 rfl rfl rfl hl.1 rfl (Nat.le_of_ble_eq_true rfl) d_D_mount_56 ?_
          refine W.eq (g2 := F0 m 59 ls [.int (((pAgain 6148914691236517205 w n (lFind L)).1).2 7 w)]) rfl ?_
          refine lv_if_eq (tgt := 87) hx hb d_D_mount_59 (by decide) (fun hc_5 => ?_) (fun hc_5 => ?_)
          · refine lv_aload_n hx hb d_D_mount_87 rfl (lv_at hl 1 rfl) ?_
            refine va_get (D := (dC, dI)) (ci := 2) (v := .ref (a 12)) (C := R_D) (T := T_D) (N := 9) hx hb hts wu_D hown hK hP 0 rfl rfl 5 (by decide) (hts _ wf_D_34) (fun _ h9 => h9) rfl d_D_mount_88 ?_
            refine lv_iconst (v := 0) hx hb d_D_mount_91 (by decide) ?_
            refine lv_aload_n hx hb d_D_mount_92 rfl (lv_at hl 1 rfl) ?_
            refine va_get (D := (dC, dI)) (ci := 2) (v := .ref (a 1)) (C := R_D) (T := T_D) (N := 9) hx hb hts wu_D hown hK hP 0 rfl rfl 0 (by decide) (hts _ wf_D_9) (fun _ h9 => h9) rfl d_D_mount_93 ?_
            refine kx_V (ws2 := (wD a k5 (pMark (pTake ((pAgain 6148914691236517205 w n (lFind L)).1) w (pMk P) n) P) G J (lDraft (1 - w) 0 ((pMark (pTake ((pAgain 6148914691236517205 w n (lFind L)).1) w (pMk P) n) P).2.2.2.1) ((pAgain 6148914691236517205 w n (lFind L)).1)))) (As := [.int 0, .ref (a 1)]) (rest := []) ⟨hx, hb, hml, hown, hts⟩ (k_L_draft l dC dI k5 a ((pAgain 6148914691236517205 w n (lFind L)).1) (1 - w) (flipO hw) (show 1 - (((pAgain 6148914691236517205 w n (lFind L)).1)).1 1 = nI (1 - w) by rw [pAgain_sc, hf]; exact flipW hw) (a 1) ((pMark (pTake ((pAgain 6148914691236517205 w n (lFind L)).1) w (pMk P) n) P).2.2.2.1) 0 rfl) (cwV 2 hts (goodV wm_D_94 wn_L_draft ws_L_draft wi_L wc_L_draft) rfl rfl rfl (by decide +kernel) ⟨Nat.le_of_ble_eq_true rfl, Nat.le_of_ble_eq_true rfl⟩) ⟨Nat.zero_le _, Nat.zero_le _⟩ hK hP hD hS [12, 13, 14, 15, 16, 17, 18, 19, 20, 21, 22, 23, 1] (by decide) rfl 0 rfl rfl rfl rfl rfl rfl hl.1 rfl (Nat.le_of_ble_eq_true rfl) d_D_mount_96 (fun H locs hP hD hS => ?_)
            refine W.eq (g2 := F0 m 99 ls []) rfl ?_
            refine lv_iload_n hx hb d_D_mount_99 rfl (lv_at hl 2 rfl) ?_
            refine lv_iconst (v := 3) hx hb d_D_mount_100 (by decide) ?_
            refine lv_icmp_ne (tgt := 110) hx hb d_D_mount_101 (by decide) (fun hc_6 => ?_) (fun hc_6 => ?_)
            · refine lv_aload_n hx hb d_D_mount_110 rfl (lv_at hl 1 rfl) ?_
              refine kx_VW (w1 := (wD a k5 (pMark (pTake ((pAgain 6148914691236517205 w n (lFind L)).1) w (pMk P) n) P) G J (pFinish (pMark (pTake ((pAgain 6148914691236517205 w n (lFind L)).1) w (pMk P) n) P) (1 - w) n (lDraft (1 - w) 0 ((pMark (pTake ((pAgain 6148914691236517205 w n (lFind L)).1) w (pMk P) n) P).2.2.2.1) ((pAgain 6148914691236517205 w n (lFind L)).1))))) (As := []) (rest := []) ⟨hx, hb, hml, hown, hts⟩ (k_D_finishLabel l dC dI k5 a (pMark (pTake ((pAgain 6148914691236517205 w n (lFind L)).1) w (pMk P) n) P) G J (lDraft (1 - w) 0 ((pMark (pTake ((pAgain 6148914691236517205 w n (lFind L)).1) w (pMk P) n) P).2.2.2.1) ((pAgain 6148914691236517205 w n (lFind L)).1)) (1 - w) (flipO hw) (show 1 - (((pAgain 6148914691236517205 w n (lFind L)).1)).1 1 = nI (1 - w) by rw [pAgain_sc, hf]; exact flipW hw) n hn hn8) (cwV 0 hts (goodV wm_D_102 wn_D_finishLabel ws_D_finishLabel wi_D wc_D_finishLabel) rfl rfl rfl (by decide +kernel) ⟨Nat.le_of_ble_eq_true rfl, Nat.le_of_ble_eq_true rfl⟩) ⟨Nat.zero_le _, Nat.zero_le _⟩ hK hP hD hS 0 rfl rfl rfl rfl hl.1 rfl (Nat.le_of_ble_eq_true rfl) d_D_mount_111 (fun H locs hP hD hS => ?_)
              refine W.eq (g2 := F0 m 114 ls []) rfl ?_
              refine lv_aload_n hx hb d_D_mount_114 rfl (lv_at hl 1 rfl) ?_
              refine lv_iconst (v := 1) hx hb d_D_mount_115 (by decide) ?_
              refine kx_put (ws' := (wD a k5 (pPow 1 (pMark (pTake ((pAgain 6148914691236517205 w n (lFind L)).1) w (pMk P) n) P)) G J (pFinish (pMark (pTake ((pAgain 6148914691236517205 w n (lFind L)).1) w (pMk P) n) P) (1 - w) n (lDraft (1 - w) 0 ((pMark (pTake ((pAgain 6148914691236517205 w n (lFind L)).1) w (pMk P) n) P).2.2.2.1) ((pAgain 6148914691236517205 w n (lFind L)).1))))) (D := (dC, dI)) (ci := 2) (v := .int 1) (ty := .boolean) (C := R_D) (T := T_D) (N := 9) hx hb hts wu_D ty_D ok_D nm_D hown hK hP hD hS 0 rfl rfl 8 (by decide) (hts _ wf_D_46) (fun _ h9 => h9) rfl (by decide +kernel) rfl rfl (Nat.le_of_ble_eq_true rfl) rfl d_D_mount_116 (fun H locs hP hD hS => ?_)
              refine lv_iload hx hb d_D_mount_119 (lv_at hl 0 rfl) ?_
              have e : d_mount P G J L n w tj x bits = (((pPow 1 (pMark (pTake ((pAgain 6148914691236517205 w n (lFind L)).1) w (pMk P) n) P)), G, J, (pFinish (pMark (pTake ((pAgain 6148914691236517205 w n (lFind L)).1) w (pMk P) n) P) (1 - w) n (lDraft (1 - w) 0 ((pMark (pTake ((pAgain 6148914691236517205 w n (lFind L)).1) w (pMk P) n) P).2.2.2.1) ((pAgain 6148914691236517205 w n (lFind L)).1)))), 0) := by unfold d_mount; rw [if_pos hc_1, if_neg hc_2, if_pos hc_3, if_neg hc_4, if_pos hc_5, if_neg hc_6]
              exact W.iret (v := 0) hx hb hr (fun t ht hW => kx_Qi (by rw [e]) ht hP (by rw [e]) hS rfl) hS.2.2 d_D_mount_121
            · refine lv_aload_n hx hb d_D_mount_104 rfl (lv_at hl 1 rfl) ?_
              refine lv_lload_n hx hb d_D_mount_105 rfl (lv_at hl 3 rfl) ?_
              refine kx_VW (w1 := (wD a k5 (pPow 0 (pMark (pTake ((pAgain 6148914691236517205 w n (lFind L)).1) w (pMk P) n) P)) (gClear G) J ((pWrite (pMark (pTake ((pAgain 6148914691236517205 w n (lFind L)).1) w (pMk P) n) P) bits (1 - w) n (lDraft (1 - w) 0 ((pMark (pTake ((pAgain 6148914691236517205 w n (lFind L)).1) w (pMk P) n) P).2.2.2.1) ((pAgain 6148914691236517205 w n (lFind L)).1))).1))) (As := [.long bits]) (rest := []) ⟨hx, hb, hml, hown, hts⟩ (k_D_powerFailsInLabel l dC dI k5 a (pMark (pTake ((pAgain 6148914691236517205 w n (lFind L)).1) w (pMk P) n) P) G J (lDraft (1 - w) 0 ((pMark (pTake ((pAgain 6148914691236517205 w n (lFind L)).1) w (pMk P) n) P).2.2.2.1) ((pAgain 6148914691236517205 w n (lFind L)).1)) bits (1 - w) (flipO hw) (show 1 - (((pAgain 6148914691236517205 w n (lFind L)).1)).1 1 = nI (1 - w) by rw [pAgain_sc, hf]; exact flipW hw) n hn hn8) (cwV 1 hts (goodV wm_D_98 wn_D_powerFailsInLabel ws_D_powerFailsInLabel wi_D wc_D_powerFailsInLabel) rfl rfl rfl (by decide +kernel) ⟨Nat.le_of_ble_eq_true rfl, Nat.le_of_ble_eq_true rfl⟩) ⟨Nat.zero_le _, Nat.zero_le _⟩ hK hP hD hS 0 rfl rfl rfl rfl hl.1 rfl (Nat.le_of_ble_eq_true rfl) d_D_mount_106 (fun H locs hP hD hS => ?_)
              refine W.eq (g2 := F0 m 109 ls [.int (-2)]) rfl ?_
              have e : d_mount P G J L n w tj x bits = (((pPow 0 (pMark (pTake ((pAgain 6148914691236517205 w n (lFind L)).1) w (pMk P) n) P)), (gClear G), J, ((pWrite (pMark (pTake ((pAgain 6148914691236517205 w n (lFind L)).1) w (pMk P) n) P) bits (1 - w) n (lDraft (1 - w) 0 ((pMark (pTake ((pAgain 6148914691236517205 w n (lFind L)).1) w (pMk P) n) P).2.2.2.1) ((pAgain 6148914691236517205 w n (lFind L)).1))).1)), (-2)) := by unfold d_mount; rw [if_pos hc_1, if_neg hc_2, if_pos hc_3, if_neg hc_4, if_pos hc_5, if_pos hc_6]
              exact W.iret (v := (-2)) hx hb hr (fun t ht hW => kx_Qi (by rw [e]) ht hP (by rw [e]) hS rfl) hS.2.2 d_D_mount_109
          · refine lv_iload_n hx hb d_D_mount_62 rfl (lv_at hl 2 rfl) ?_
            refine lv_iconst (v := 2) hx hb d_D_mount_63 (by decide) ?_
            refine lv_icmp_ne (tgt := 70) hx hb d_D_mount_64 (by decide) (fun hc_7 => ?_) (fun hc_7 => ?_)
            · refine lv_aload_n hx hb d_D_mount_70 rfl (lv_at hl 1 rfl) ?_
              refine va_get (D := (dC, dI)) (ci := 2) (v := .ref (a 8)) (C := R_D) (T := T_D) (N := 9) hx hb hts wu_D hown hK hP 0 rfl rfl 4 (by decide) (hts _ wf_D_28) (fun _ h9 => h9) rfl d_D_mount_71 ?_
              refine lv_aload_n hx hb d_D_mount_74 rfl (lv_at hl 1 rfl) ?_
              refine va_get (D := (dC, dI)) (ci := 2) (v := .ref (a 3)) (C := R_D) (T := T_D) (N := 9) hx hb hts wu_D hown hK hP 0 rfl rfl 2 (by decide) (hts _ wf_D_17) (fun _ h9 => h9) rfl d_D_mount_75 ?_
              refine kx_V (ws2 := (wD a k5 (pKeep (gKeep J tj ((pMark (pTake ((pAgain 6148914691236517205 w n (lFind L)).1) w (pMk P) n) P).2.2.2.2.2)) (pMark (pTake ((pAgain 6148914691236517205 w n (lFind L)).1) w (pMk P) n) P)) G J ((pAgain 6148914691236517205 w n (lFind L)).1))) (As := [.ref (a 3)]) (rest := []) ⟨hx, hb, hml, hown, hts⟩ (k_G_keepIn l dC dI k5 (a 8) (a 9) (a 10) (a 11) (J.1) (J.2.1) (J.2.2.1) (J.2.2.2.1) (J.2.2.2.2) (a 3) ((pMark (pTake ((pAgain 6148914691236517205 w n (lFind L)).1) w (pMk P) n) P).2.2.2.2.2) tj hJ.2.1 hJ.1 hJ.2.2.1 hJ.2.2.2.1) (cwV 1 hts (goodV wm_D_105 wn_G_keepIn ws_G_keepIn wi_G wc_G_keepIn) rfl rfl rfl (by decide +kernel) ⟨Nat.le_of_ble_eq_true rfl, Nat.le_of_ble_eq_true rfl⟩) ⟨Nat.zero_le _, Nat.zero_le _⟩ hK hP hD hS [8, 9, 10, 11, 3] (by decide) rfl 0 rfl rfl rfl rfl rfl rfl hl.1 rfl (Nat.le_of_ble_eq_true rfl) d_D_mount_78 (fun H locs hP hD hS => ?_)
              refine W.eq (g2 := F0 m 81 ls []) rfl ?_
              refine lv_aload_n hx hb d_D_mount_81 rfl (lv_at hl 1 rfl) ?_
              refine kx_VRW (As := []) (rest := []) ⟨hx, hb, hml, hown, hts⟩ (k_D_unitsOfJournal l dC dI k5 a (pKeep (gKeep J tj ((pMark (pTake ((pAgain 6148914691236517205 w n (lFind L)).1) w (pMk P) n) P).2.2.2.2.2)) (pMark (pTake ((pAgain 6148914691236517205 w n (lFind L)).1) w (pMk P) n) P)) G J ((pAgain 6148914691236517205 w n (lFind L)).1) n hn hn8 hn4 tj hJ.2.1 hJ.1 hJ.2.2.2.1 hJ.2.2.2.2) (cwV 0 hts (goodV wm_D_164 wn_D_unitsOfJournal ws_D_unitsOfJournal wi_D wc_D_unitsOfJournal) rfl rfl rfl (by decide +kernel) ⟨Nat.le_of_ble_eq_true rfl, Nat.le_of_ble_eq_true rfl⟩) ⟨Nat.zero_le _, Nat.zero_le _⟩ hK hP hD 0 rfl rfl rfl hl.1 rfl (Nat.le_of_ble_eq_true rfl) d_D_mount_82 ?_
              refine W.eq (g2 := F0 m 85 ls [.int (jU (pKeep (gKeep J tj ((pMark (pTake ((pAgain 6148914691236517205 w n (lFind L)).1) w (pMk P) n) P).2.2.2.2.2)) (pMark (pTake ((pAgain 6148914691236517205 w n (lFind L)).1) w (pMk P) n) P)) J n tj tj)]) rfl ?_
              refine lv_istore (lv' := [(4, .int (jU (pKeep (gKeep J tj ((pMark (pTake ((pAgain 6148914691236517205 w n (lFind L)).1) w (pMk P) n) P).2.2.2.2.2)) (pMark (pTake ((pAgain 6148914691236517205 w n (lFind L)).1) w (pMk P) n) P)) J n tj tj)), (0, .ref (a 0)), (1, .int x), (2, .long bits)]) hx hb d_D_mount_85 hl (by decide) rfl (fun ls hl => ?_)
              refine lv_aload_n hx hb d_D_mount_87 rfl (lv_at hl 1 rfl) ?_
              refine va_get (D := (dC, dI)) (ci := 2) (v := .ref (a 12)) (C := R_D) (T := T_D) (N := 9) hx hb hts wu_D hown hK hP 0 rfl rfl 5 (by decide) (hts _ wf_D_34) (fun _ h9 => h9) rfl d_D_mount_88 ?_
              refine lv_iconst (v := 0) hx hb d_D_mount_91 (by decide) ?_
              refine lv_aload_n hx hb d_D_mount_92 rfl (lv_at hl 1 rfl) ?_
              refine va_get (D := (dC, dI)) (ci := 2) (v := .ref (a 1)) (C := R_D) (T := T_D) (N := 9) hx hb hts wu_D hown hK hP 0 rfl rfl 0 (by decide) (hts _ wf_D_9) (fun _ h9 => h9) rfl d_D_mount_93 ?_
              refine kx_V (ws2 := (wD a k5 (pKeep (gKeep J tj ((pMark (pTake ((pAgain 6148914691236517205 w n (lFind L)).1) w (pMk P) n) P).2.2.2.2.2)) (pMark (pTake ((pAgain 6148914691236517205 w n (lFind L)).1) w (pMk P) n) P)) G J (lDraft (1 - w) 0 ((pKeep (gKeep J tj ((pMark (pTake ((pAgain 6148914691236517205 w n (lFind L)).1) w (pMk P) n) P).2.2.2.2.2)) (pMark (pTake ((pAgain 6148914691236517205 w n (lFind L)).1) w (pMk P) n) P)).2.2.2.1) ((pAgain 6148914691236517205 w n (lFind L)).1)))) (As := [.int 0, .ref (a 1)]) (rest := []) ⟨hx, hb, hml, hown, hts⟩ (k_L_draft l dC dI k5 a ((pAgain 6148914691236517205 w n (lFind L)).1) (1 - w) (flipO hw) (show 1 - (((pAgain 6148914691236517205 w n (lFind L)).1)).1 1 = nI (1 - w) by rw [pAgain_sc, hf]; exact flipW hw) (a 1) ((pKeep (gKeep J tj ((pMark (pTake ((pAgain 6148914691236517205 w n (lFind L)).1) w (pMk P) n) P).2.2.2.2.2)) (pMark (pTake ((pAgain 6148914691236517205 w n (lFind L)).1) w (pMk P) n) P)).2.2.2.1) 0 rfl) (cwV 2 hts (goodV wm_D_94 wn_L_draft ws_L_draft wi_L wc_L_draft) rfl rfl rfl (by decide +kernel) ⟨Nat.le_of_ble_eq_true rfl, Nat.le_of_ble_eq_true rfl⟩) ⟨Nat.zero_le _, Nat.zero_le _⟩ hK hP hD hS [12, 13, 14, 15, 16, 17, 18, 19, 20, 21, 22, 23, 1] (by decide) rfl 0 rfl rfl rfl rfl rfl rfl hl.1 rfl (Nat.le_of_ble_eq_true rfl) d_D_mount_96 (fun H locs hP hD hS => ?_)
              refine W.eq (g2 := F0 m 99 ls []) rfl ?_
              refine lv_iload_n hx hb d_D_mount_99 rfl (lv_at hl 2 rfl) ?_
              refine lv_iconst (v := 3) hx hb d_D_mount_100 (by decide) ?_
              refine lv_icmp_ne (tgt := 110) hx hb d_D_mount_101 (by decide) (fun hc_8 => ?_) (fun hc_8 => ?_)
              · refine lv_aload_n hx hb d_D_mount_110 rfl (lv_at hl 1 rfl) ?_
                refine kx_VW (w1 := (wD a k5 (pKeep (gKeep J tj ((pMark (pTake ((pAgain 6148914691236517205 w n (lFind L)).1) w (pMk P) n) P).2.2.2.2.2)) (pMark (pTake ((pAgain 6148914691236517205 w n (lFind L)).1) w (pMk P) n) P)) G J (pFinish (pKeep (gKeep J tj ((pMark (pTake ((pAgain 6148914691236517205 w n (lFind L)).1) w (pMk P) n) P).2.2.2.2.2)) (pMark (pTake ((pAgain 6148914691236517205 w n (lFind L)).1) w (pMk P) n) P)) (1 - w) n (lDraft (1 - w) 0 ((pKeep (gKeep J tj ((pMark (pTake ((pAgain 6148914691236517205 w n (lFind L)).1) w (pMk P) n) P).2.2.2.2.2)) (pMark (pTake ((pAgain 6148914691236517205 w n (lFind L)).1) w (pMk P) n) P)).2.2.2.1) ((pAgain 6148914691236517205 w n (lFind L)).1))))) (As := []) (rest := []) ⟨hx, hb, hml, hown, hts⟩ (k_D_finishLabel l dC dI k5 a (pKeep (gKeep J tj ((pMark (pTake ((pAgain 6148914691236517205 w n (lFind L)).1) w (pMk P) n) P).2.2.2.2.2)) (pMark (pTake ((pAgain 6148914691236517205 w n (lFind L)).1) w (pMk P) n) P)) G J (lDraft (1 - w) 0 ((pKeep (gKeep J tj ((pMark (pTake ((pAgain 6148914691236517205 w n (lFind L)).1) w (pMk P) n) P).2.2.2.2.2)) (pMark (pTake ((pAgain 6148914691236517205 w n (lFind L)).1) w (pMk P) n) P)).2.2.2.1) ((pAgain 6148914691236517205 w n (lFind L)).1)) (1 - w) (flipO hw) (show 1 - (((pAgain 6148914691236517205 w n (lFind L)).1)).1 1 = nI (1 - w) by rw [pAgain_sc, hf]; exact flipW hw) n hn hn8) (cwV 0 hts (goodV wm_D_102 wn_D_finishLabel ws_D_finishLabel wi_D wc_D_finishLabel) rfl rfl rfl (by decide +kernel) ⟨Nat.le_of_ble_eq_true rfl, Nat.le_of_ble_eq_true rfl⟩) ⟨Nat.zero_le _, Nat.zero_le _⟩ hK hP hD hS 0 rfl rfl rfl rfl hl.1 rfl (Nat.le_of_ble_eq_true rfl) d_D_mount_111 (fun H locs hP hD hS => ?_)
                refine W.eq (g2 := F0 m 114 ls []) rfl ?_
                refine lv_aload_n hx hb d_D_mount_114 rfl (lv_at hl 1 rfl) ?_
                refine lv_iconst (v := 1) hx hb d_D_mount_115 (by decide) ?_
                refine kx_put (ws' := (wD a k5 (pPow 1 (pKeep (gKeep J tj ((pMark (pTake ((pAgain 6148914691236517205 w n (lFind L)).1) w (pMk P) n) P).2.2.2.2.2)) (pMark (pTake ((pAgain 6148914691236517205 w n (lFind L)).1) w (pMk P) n) P))) G J (pFinish (pKeep (gKeep J tj ((pMark (pTake ((pAgain 6148914691236517205 w n (lFind L)).1) w (pMk P) n) P).2.2.2.2.2)) (pMark (pTake ((pAgain 6148914691236517205 w n (lFind L)).1) w (pMk P) n) P)) (1 - w) n (lDraft (1 - w) 0 ((pKeep (gKeep J tj ((pMark (pTake ((pAgain 6148914691236517205 w n (lFind L)).1) w (pMk P) n) P).2.2.2.2.2)) (pMark (pTake ((pAgain 6148914691236517205 w n (lFind L)).1) w (pMk P) n) P)).2.2.2.1) ((pAgain 6148914691236517205 w n (lFind L)).1))))) (D := (dC, dI)) (ci := 2) (v := .int 1) (ty := .boolean) (C := R_D) (T := T_D) (N := 9) hx hb hts wu_D ty_D ok_D nm_D hown hK hP hD hS 0 rfl rfl 8 (by decide) (hts _ wf_D_46) (fun _ h9 => h9) rfl (by decide +kernel) rfl rfl (Nat.le_of_ble_eq_true rfl) rfl d_D_mount_116 (fun H locs hP hD hS => ?_)
                refine lv_iload hx hb d_D_mount_119 (lv_at hl 0 rfl) ?_
                have e : d_mount P G J L n w tj x bits = (((pPow 1 (pKeep (gKeep J tj ((pMark (pTake ((pAgain 6148914691236517205 w n (lFind L)).1) w (pMk P) n) P).2.2.2.2.2)) (pMark (pTake ((pAgain 6148914691236517205 w n (lFind L)).1) w (pMk P) n) P))), G, J, (pFinish (pKeep (gKeep J tj ((pMark (pTake ((pAgain 6148914691236517205 w n (lFind L)).1) w (pMk P) n) P).2.2.2.2.2)) (pMark (pTake ((pAgain 6148914691236517205 w n (lFind L)).1) w (pMk P) n) P)) (1 - w) n (lDraft (1 - w) 0 ((pKeep (gKeep J tj ((pMark (pTake ((pAgain 6148914691236517205 w n (lFind L)).1) w (pMk P) n) P).2.2.2.2.2)) (pMark (pTake ((pAgain 6148914691236517205 w n (lFind L)).1) w (pMk P) n) P)).2.2.2.1) ((pAgain 6148914691236517205 w n (lFind L)).1)))), (jU (pKeep (gKeep J tj ((pMark (pTake ((pAgain 6148914691236517205 w n (lFind L)).1) w (pMk P) n) P).2.2.2.2.2)) (pMark (pTake ((pAgain 6148914691236517205 w n (lFind L)).1) w (pMk P) n) P)) J n tj tj)) := by unfold d_mount; rw [if_pos hc_1, if_neg hc_2, if_pos hc_3, if_neg hc_4, if_neg hc_5, if_neg hc_7, if_neg hc_8]
                exact W.iret (v := (jU (pKeep (gKeep J tj ((pMark (pTake ((pAgain 6148914691236517205 w n (lFind L)).1) w (pMk P) n) P).2.2.2.2.2)) (pMark (pTake ((pAgain 6148914691236517205 w n (lFind L)).1) w (pMk P) n) P)) J n tj tj)) hx hb hr (fun t ht hW => kx_Qi (by rw [e]) ht hP (by rw [e]) hS rfl) hS.2.2 d_D_mount_121
              · refine lv_aload_n hx hb d_D_mount_104 rfl (lv_at hl 1 rfl) ?_
                refine lv_lload_n hx hb d_D_mount_105 rfl (lv_at hl 3 rfl) ?_
                refine kx_VW (w1 := (wD a k5 (pPow 0 (pKeep (gKeep J tj ((pMark (pTake ((pAgain 6148914691236517205 w n (lFind L)).1) w (pMk P) n) P).2.2.2.2.2)) (pMark (pTake ((pAgain 6148914691236517205 w n (lFind L)).1) w (pMk P) n) P))) (gClear G) J ((pWrite (pKeep (gKeep J tj ((pMark (pTake ((pAgain 6148914691236517205 w n (lFind L)).1) w (pMk P) n) P).2.2.2.2.2)) (pMark (pTake ((pAgain 6148914691236517205 w n (lFind L)).1) w (pMk P) n) P)) bits (1 - w) n (lDraft (1 - w) 0 ((pKeep (gKeep J tj ((pMark (pTake ((pAgain 6148914691236517205 w n (lFind L)).1) w (pMk P) n) P).2.2.2.2.2)) (pMark (pTake ((pAgain 6148914691236517205 w n (lFind L)).1) w (pMk P) n) P)).2.2.2.1) ((pAgain 6148914691236517205 w n (lFind L)).1))).1))) (As := [.long bits]) (rest := []) ⟨hx, hb, hml, hown, hts⟩ (k_D_powerFailsInLabel l dC dI k5 a (pKeep (gKeep J tj ((pMark (pTake ((pAgain 6148914691236517205 w n (lFind L)).1) w (pMk P) n) P).2.2.2.2.2)) (pMark (pTake ((pAgain 6148914691236517205 w n (lFind L)).1) w (pMk P) n) P)) G J (lDraft (1 - w) 0 ((pKeep (gKeep J tj ((pMark (pTake ((pAgain 6148914691236517205 w n (lFind L)).1) w (pMk P) n) P).2.2.2.2.2)) (pMark (pTake ((pAgain 6148914691236517205 w n (lFind L)).1) w (pMk P) n) P)).2.2.2.1) ((pAgain 6148914691236517205 w n (lFind L)).1)) bits (1 - w) (flipO hw) (show 1 - (((pAgain 6148914691236517205 w n (lFind L)).1)).1 1 = nI (1 - w) by rw [pAgain_sc, hf]; exact flipW hw) n hn hn8) (cwV 1 hts (goodV wm_D_98 wn_D_powerFailsInLabel ws_D_powerFailsInLabel wi_D wc_D_powerFailsInLabel) rfl rfl rfl (by decide +kernel) ⟨Nat.le_of_ble_eq_true rfl, Nat.le_of_ble_eq_true rfl⟩) ⟨Nat.zero_le _, Nat.zero_le _⟩ hK hP hD hS 0 rfl rfl rfl rfl hl.1 rfl (Nat.le_of_ble_eq_true rfl) d_D_mount_106 (fun H locs hP hD hS => ?_)
                refine W.eq (g2 := F0 m 109 ls [.int (-2)]) rfl ?_
                have e : d_mount P G J L n w tj x bits = (((pPow 0 (pKeep (gKeep J tj ((pMark (pTake ((pAgain 6148914691236517205 w n (lFind L)).1) w (pMk P) n) P).2.2.2.2.2)) (pMark (pTake ((pAgain 6148914691236517205 w n (lFind L)).1) w (pMk P) n) P))), (gClear G), J, ((pWrite (pKeep (gKeep J tj ((pMark (pTake ((pAgain 6148914691236517205 w n (lFind L)).1) w (pMk P) n) P).2.2.2.2.2)) (pMark (pTake ((pAgain 6148914691236517205 w n (lFind L)).1) w (pMk P) n) P)) bits (1 - w) n (lDraft (1 - w) 0 ((pKeep (gKeep J tj ((pMark (pTake ((pAgain 6148914691236517205 w n (lFind L)).1) w (pMk P) n) P).2.2.2.2.2)) (pMark (pTake ((pAgain 6148914691236517205 w n (lFind L)).1) w (pMk P) n) P)).2.2.2.1) ((pAgain 6148914691236517205 w n (lFind L)).1))).1)), (-2)) := by unfold d_mount; rw [if_pos hc_1, if_neg hc_2, if_pos hc_3, if_neg hc_4, if_neg hc_5, if_neg hc_7, if_pos hc_8]
                exact W.iret (v := (-2)) hx hb hr (fun t ht hW => kx_Qi (by rw [e]) ht hP (by rw [e]) hS rfl) hS.2.2 d_D_mount_109
            · refine lv_bipush (v := (-2)) hx hb d_D_mount_67 (by decide) ?_
              have e : d_mount P G J L n w tj x bits = (((pMark (pTake ((pAgain 6148914691236517205 w n (lFind L)).1) w (pMk P) n) P), G, J, ((pAgain 6148914691236517205 w n (lFind L)).1)), (-2)) := by unfold d_mount; rw [if_pos hc_1, if_neg hc_2, if_pos hc_3, if_neg hc_4, if_neg hc_5, if_pos hc_7]
              exact W.iret (v := (-2)) hx hb hr (fun t ht hW => kx_Qi (by rw [e]) ht hP (by rw [e]) hS rfl) hS.2.2 d_D_mount_69
        · refine lv_aload_n hx hb d_D_mount_30 rfl (lv_at hl 0 rfl) ?_
          refine lv_lload_n hx hb d_D_mount_31 rfl (lv_at hl 2 rfl) ?_
          refine kx_VW (w1 := (wD a k5 P G J ((pAgain bits w n (lFind L)).1))) (As := [.long bits]) (rest := []) ⟨hx, hb, hml, hown, hts⟩ (k_D_writeLabelAgain l dC dI k5 a P G J (lFind L) bits w hw hf n hn hn8) (cwV 1 hts (goodV wm_D_152 wn_D_writeLabelAgain ws_D_writeLabelAgain wi_D wc_D_writeLabelAgain) rfl rfl rfl (by decide +kernel) ⟨Nat.le_of_ble_eq_true rfl, Nat.le_of_ble_eq_true rfl⟩) ⟨Nat.zero_le _, Nat.zero_le _⟩ hK hP hD hS 0 rfl rfl rfl rfl hl.1 rfl (Nat.le_of_ble_eq_true rfl) d_D_mount_32 (fun H locs hP hD hS => ?_)
          refine W.eq (g2 := F0 m 35 ls []) rfl ?_
          refine lv_bipush (v := (-2)) hx hb d_D_mount_35 (by decide) ?_
          have e : d_mount P G J L n w tj x bits = ((P, G, J, ((pAgain bits w n (lFind L)).1)), (-2)) := by unfold d_mount; rw [if_pos hc_1, if_neg hc_2, if_pos hc_3, if_pos hc_4]
          exact W.iret (v := (-2)) hx hb hr (fun t ht hW => kx_Qi (by rw [e]) ht hP (by rw [e]) hS rfl) hS.2.2 d_D_mount_37
      · refine lv_iconst (v := (-1)) hx hb d_D_mount_16 (by decide) ?_
        have e : d_mount P G J L n w tj x bits = ((P, G, J, L), (-1)) := by unfold d_mount; rw [if_pos hc_1, if_neg hc_2, if_neg hc_3]
        exact W.iret (v := (-1)) hx hb hr (fun t ht hW => kx_Qi (by rw [e]) ht hP (by rw [e]) hS rfl) hS.2.2 d_D_mount_17
def d_scrub (P : PP) (G J : GG) (L : LL) (n : Nat) (t x : Int32) (bits : Int64) : SS × Int32 := (if (P.2.2.1) = 0 then ((P, G, J, L), (-2)) else (if (bI (decide (¬ t < 2 ∧ ¬ P.2.1 ≤ t))) = 0 then ((P, G, J, L), (-1)) else (if x < 0 then ((P, G, J, L), (-1)) else (if x ≤ 1 then (if (nI (pRotIn P t n)) = 0 then ((P, G, J, L), 0) else (if x = 1 then (((pPow 0 P), (gClear G), J, L), (-2)) else ((pRot (pScrub (pRt P) t n) P, G, J, L), nI (pRotIn P t n)))) else ((P, G, J, L), (-1))))))
set_option maxHeartbeats 4000000 in
set_option maxRecDepth 100000 in
theorem k_D_scrub (l : Launch) (dC : Nat → ClassId) (dI : Nat → Nat → Nat) (k5 : Nat → ClassId) (a : Nat → Nat) (P : PP) (G J : GG) (L : LL) (n : Nat) (t x : Int32) (bits : Int64) (hn : P.1 = nI n) (hn4 : 4 ≤ n) (hn8 : n ≤ 8) : Met l y_D_scrub w_D_scrub ({ frames := 2, cells := 0, slots := 0, locals := 45 }) (kx_Pc (dC, dI) clA (tyL k5) (wD a k5 P G J L) [.ref (a 0), .int t, .int x, .long bits]) (kx_Q (dC, dI) clA (wD a k5 P G J L) (wS a k5 (d_scrub P G J L n t x bits).1) (some (.int (d_scrub P G J L n t x bits).2))) 0 0 (kx_A (wD a k5 P G J L)) := by
  refine Met.ofW (cc := c_D_scrub) (maxL := 7) (ret := (some .int)) (by decide) rfl ?_
  intro p e s m args below meth c s₁ B hml hv
  obtain ⟨rfl, hP, hK, hD0⟩ := hv
  have hx := B.exec
  have hb := B.bytes
  have hr := B.returns
  have hts : ∀ w ∈ wsA, w.before _ s = true := fun w h => atoms_spec (ws := w_D_scrub) B.pre w (List.mem_cons_of_mem _ h)
  have hown : s.vm.findClass R_D = some m.cls := findClass_of_methodNamed B.named
  have hlocks := B.notSynchronized
  have hD := kx_D.self hD0
  have hS : va_S (kx_A (wD a k5 P G J L)) s.heap s.heap [] := va_S.rf
  have hl := lv_entry ([.ref (a 0), .int t, .int x, .long bits]) (n := 7) (Nat.le_of_ble_eq_true rfl)
  rw [lg_entry_eq]
  generalize (lg_sl ([.ref (a 0), .int t, .int x, .long bits]) ++ List.replicate (7 - (lg_sl ([.ref (a 0), .int t, .int x, .long bits])).length) Slot.unset).toArray = ls at hl ⊢
  have hl : lv_has ls 7 [(0, .ref (a 0)), (1, .int t), (2, .int x), (3, .long bits)] := hl
  refine lv_aload_n hx hb d_D_scrub_0 rfl (lv_at hl 0 rfl) ?_
  refine va_get (D := (dC, dI)) (ci := 2) (v := .int (P.2.2.1)) (C := R_D) (T := T_D) (N := 9) hx hb hts wu_D hown hK hP 0 rfl rfl 8 (by decide) (hts _ wf_D_46) (fun _ h9 => h9) rfl d_D_scrub_1 ?_
  refine lv_if_ne (tgt := 10) hx hb d_D_scrub_4 (by decide) (fun hc_1 => ?_) (fun hc_1 => ?_)
  · refine lv_aload_n hx hb d_D_scrub_10 rfl (lv_at hl 0 rfl) ?_
    refine lv_iload_n hx hb d_D_scrub_11 rfl (lv_at hl 1 rfl) ?_
    refine kx_VRW (As := [.int t]) (rest := []) ⟨hx, hb, hml, hown, hts⟩ (k_D_isRow l dC dI k5 a P G J L t) (cwV 1 hts (goodV wm_D_129 wn_D_isRow ws_D_isRow wi_D wc_D_isRow) rfl rfl rfl (by decide +kernel) ⟨Nat.le_of_ble_eq_true rfl, Nat.le_of_ble_eq_true rfl⟩) ⟨Nat.zero_le _, Nat.zero_le _⟩ hK hP hD 0 rfl rfl rfl hl.1 rfl (Nat.le_of_ble_eq_true rfl) d_D_scrub_12 ?_
    refine W.eq (g2 := F0 m 15 ls [.int (bI (decide (¬ t < 2 ∧ ¬ P.2.1 ≤ t)))]) rfl ?_
    refine lv_if_eq (tgt := 27) hx hb d_D_scrub_15 (by decide) (fun hc_2 => ?_) (fun hc_2 => ?_)
    · refine lv_iconst (v := (-1)) hx hb d_D_scrub_27 (by decide) ?_
      have e : d_scrub P G J L n t x bits = ((P, G, J, L), (-1)) := by unfold d_scrub; rw [if_neg hc_1, if_pos hc_2]
      exact W.iret (v := (-1)) hx hb hr (fun t ht hW => kx_Qi (by rw [e]) ht hP (by rw [e]) hS rfl) hS.2.2 d_D_scrub_28
    · refine lv_iload_n hx hb d_D_scrub_18 rfl (lv_at hl 2 rfl) ?_
      refine lv_if_lt (tgt := 27) hx hb d_D_scrub_19 (by decide) (fun hc_3 => ?_) (fun hc_3 => ?_)
      · refine lv_iconst (v := (-1)) hx hb d_D_scrub_27 (by decide) ?_
        have e : d_scrub P G J L n t x bits = ((P, G, J, L), (-1)) := by unfold d_scrub; rw [if_neg hc_1, if_neg hc_2, if_pos hc_3]
        exact W.iret (v := (-1)) hx hb hr (fun t ht hW => kx_Qi (by rw [e]) ht hP (by rw [e]) hS rfl) hS.2.2 d_D_scrub_28
      · refine lv_iload_n hx hb d_D_scrub_22 rfl (lv_at hl 2 rfl) ?_
        refine lv_iconst (v := 1) hx hb d_D_scrub_23 (by decide) ?_
        refine lv_icmp_le (tgt := 29) hx hb d_D_scrub_24 (by decide) (fun hc_4 => ?_) (fun hc_4 => ?_)
        · refine lv_aload_n hx hb d_D_scrub_29 rfl (lv_at hl 0 rfl) ?_
          refine lv_iload_n hx hb d_D_scrub_30 rfl (lv_at hl 1 rfl) ?_
          refine kx_VRW (As := [.int t]) (rest := []) ⟨hx, hb, hml, hown, hts⟩ (k_D_rottenIn l dC dI k5 a P G J L t n hn hn8) (cwV 1 hts (goodV wm_D_144 wn_D_rottenIn ws_D_rottenIn wi_D wc_D_rottenIn) rfl rfl rfl (by decide +kernel) ⟨Nat.le_of_ble_eq_true rfl, Nat.le_of_ble_eq_true rfl⟩) ⟨Nat.zero_le _, Nat.zero_le _⟩ hK hP hD 0 rfl rfl rfl hl.1 rfl (Nat.le_of_ble_eq_true rfl) d_D_scrub_31 ?_
          refine W.eq (g2 := F0 m 34 ls [.int (nI (pRotIn P t n))]) rfl ?_
          refine lv_istore (lv' := [(5, .int (nI (pRotIn P t n))), (0, .ref (a 0)), (1, .int t), (2, .int x), (3, .long bits)]) hx hb d_D_scrub_34 hl (by decide) rfl (fun ls hl => ?_)
          refine lv_iload hx hb d_D_scrub_36 (lv_at hl 0 rfl) ?_
          refine lv_if_ne (tgt := 43) hx hb d_D_scrub_38 (by decide) (fun hc_5 => ?_) (fun hc_5 => ?_)
          · refine lv_iload_n hx hb d_D_scrub_43 rfl (lv_at hl 3 rfl) ?_
            refine lv_iconst (v := 1) hx hb d_D_scrub_44 (by decide) ?_
            refine lv_icmp_ne (tgt := 53) hx hb d_D_scrub_45 (by decide) (fun hc_6 => ?_) (fun hc_6 => ?_)
            · refine lv_iconst (v := 0) hx hb d_D_scrub_53 (by decide) ?_
              refine lv_istore (lv' := [(6, .int 0), (5, .int (nI (pRotIn P t n))), (0, .ref (a 0)), (1, .int t), (2, .int x), (3, .long bits)]) hx hb d_D_scrub_54 hl (by decide) rfl (fun ls hl => ?_)
              have lp : ∀ (q9 i : Nat) (H : Heap) (locs : List Loc) (ls : Array Slot), i + q9 = n → va_P (dC, dI) clA (wD a k5 (pRot (pScrub (pRt P) t i) P) G J L) H → va_D (kx_A (wD a k5 P G J L)) (wD a k5 (pRot (pScrub (pRt P) t i) P) G J L) → va_S (kx_A (wD a k5 P G J L)) s.heap H locs → lv_has ls 7 [(6, .int (nI i)), (5, .int (nI (pRotIn P t n))), (0, .ref (a 0)), (1, .int t), (2, .int x), (3, .long bits)] → W p l e (headSpec w_D_scrub ({ frames := 2, cells := 0, slots := 0, locals := 45 })).room s m ([.ref (a 0), .int t, .int x, .long bits] : List Value).toArray below meth c H locs 0 0 (MQ below (kx_Q (dC, dI) clA (wD a k5 P G J L) (wS a k5 (d_scrub P G J L n t x bits).1) (some (.int (d_scrub P G J L n t x bits).2))) ([.ref (a 0), .int t, .int x, .long bits] : List Value).toArray s 0 0 (kx_A (wD a k5 P G J L))) (F0 m 56 ls []) := by
                intro q9
                induction q9 with
                | zero =>
                  intro i H locs ls hi hP hD hS hl
                  have hi : n = i := by omega
                  subst hi
                  refine lv_iload hx hb d_D_scrub_56 (lv_at hl 0 rfl) ?_
                  refine lv_aload_n hx hb d_D_scrub_58 rfl (lv_at hl 2 rfl) ?_
                  refine va_get (D := (dC, dI)) (ci := 2) (v := .int ((pRot (pScrub (pRt P) t n) P).1)) (C := R_D) (T := T_D) (N := 9) hx hb hts wu_D hown hK hP 0 rfl rfl 6 (by decide) (hts _ wf_D_64) (fun _ h9 => h9) rfl d_D_scrub_59 ?_
                  refine lv_icmp_ge (tgt := 88) hx hb d_D_scrub_62 (by decide) (fun hc => ?_) (fun hc => ?_)
                  · refine lv_iload hx hb d_D_scrub_88 (lv_at hl 1 rfl) ?_
                    have e : d_scrub P G J L n t x bits = (((pRot (pScrub (pRt P) t n) P), G, J, L), (nI (pRotIn P t n))) := by unfold d_scrub; rw [if_neg hc_1, if_neg hc_2, if_neg hc_3, if_pos hc_4, if_neg hc_5, if_neg hc_6]
                    exact W.iret (v := (nI (pRotIn P t n))) hx hb hr (fun t ht hW => kx_Qi (by rw [e]) ht hP (by rw [e]) hS rfl) hS.2.2 d_D_scrub_90
                  · exact absurd (by show P.1 ≤ _; rw [hn]; exact nI_le (by omega) (by omega)) hc
                | succ q9 ih =>
                  intro i H locs ls hi hP hD hS hl
                  refine lv_iload hx hb d_D_scrub_56 (lv_at hl 0 rfl) ?_
                  refine lv_aload_n hx hb d_D_scrub_58 rfl (lv_at hl 2 rfl) ?_
                  refine va_get (D := (dC, dI)) (ci := 2) (v := .int ((pRot (pScrub (pRt P) t i) P).1)) (C := R_D) (T := T_D) (N := 9) hx hb hts wu_D hown hK hP 0 rfl rfl 6 (by decide) (hts _ wf_D_64) (fun _ h9 => h9) rfl d_D_scrub_59 ?_
                  refine lv_icmp_ge (tgt := 88) hx hb d_D_scrub_62 (by decide) (fun hc => ?_) (fun hc => ?_)
                  · exact absurd hc (by show ¬ P.1 ≤ _; rw [hn]; exact nI_ge (by omega) (by omega))
                  · refine lv_aload_n hx hb d_D_scrub_65 rfl (lv_at hl 2 rfl) ?_
                    refine va_get (D := (dC, dI)) (ci := 2) (v := .ref (a 2)) (C := R_D) (T := T_D) (N := 9) hx hb hts wu_D hown hK hP 0 rfl rfl 1 (by decide) (hts _ wf_D_13) (fun _ h9 => h9) rfl d_D_scrub_66 ?_
                    refine lv_iload hx hb d_D_scrub_69 (lv_at hl 0 rfl) ?_
                    refine lv_dup2_11 hx hb d_D_scrub_71 rfl rfl ?_
                    refine kx_lald hx hb hK hP 2 1 rfl rfl i (rfl) (by omega) (by omega) d_D_scrub_72 ?_
                    refine lv_lconst (v := 1) hx hb d_D_scrub_73 (by decide) ?_
                    refine lv_iload_n hx hb d_D_scrub_74 rfl (lv_at hl 3 rfl) ?_
                    refine lv_lshl (v := (1 <<< (t.toInt64 &&& 63))) hx hb d_D_scrub_75 rfl ?_
                    refine lv_ldc2 hx hb hown (hts _ wk_D_147) d_D_scrub_76 ?_
                    refine lv_lxor hx hb d_D_scrub_79 ?_
                    refine lv_land hx hb d_D_scrub_80 ?_
                    refine kx_last (ws' := (wD a k5 (pRot (pScrub (pRt P) t (i + 1)) P) G J L)) hx hb hK hP hD hS 2 1 rfl rfl i (rfl) (by omega) (by omega) rfl d_D_scrub_81 (fun H locs hP hD hS => ?_)
                    refine lv_iinc (v := nI (i + 1)) (lv' := [(6, .int (nI (i + 1))), (5, .int (nI (pRotIn P t n))), (0, .ref (a 0)), (1, .int t), (2, .int x), (3, .long bits)]) hx hb d_D_scrub_82 hl (k := 0) rfl (nI_1 i) (by decide) rfl (fun ls hl => ?_)
                    refine lv_goto (tgt := 56) hx hb d_D_scrub_85 (by decide) ?_
                    exact ih (i + 1) H locs ls (by omega) hP hD hS (lv_sub hl [0, 1, 2, 3, 4, 5] rfl)
              exact lp n 0 s.heap [] ls (by omega) hP hD hS (lv_sub hl [0, 1, 2, 3, 4, 5] rfl)
            · refine lv_aload_n hx hb d_D_scrub_48 rfl (lv_at hl 1 rfl) ?_
              refine kx_VW (w1 := (wD a k5 (pPow 0 P) (gClear G) J L)) (As := []) (rest := []) ⟨hx, hb, hml, hown, hts⟩ (k_D_powerFails l dC dI k5 a P G J L) (cwV 0 hts (goodV wm_D_87 wn_D_powerFails ws_D_powerFails wi_D wc_D_powerFails) rfl rfl rfl (by decide +kernel) ⟨Nat.le_of_ble_eq_true rfl, Nat.le_of_ble_eq_true rfl⟩) ⟨Nat.zero_le _, Nat.zero_le _⟩ hK hP hD hS 0 rfl rfl rfl rfl hl.1 rfl (Nat.le_of_ble_eq_true rfl) d_D_scrub_49 (fun H locs hP hD hS => ?_)
              refine W.eq (g2 := F0 m 52 ls [.int (-2)]) rfl ?_
              have e : d_scrub P G J L n t x bits = (((pPow 0 P), (gClear G), J, L), (-2)) := by unfold d_scrub; rw [if_neg hc_1, if_neg hc_2, if_neg hc_3, if_pos hc_4, if_neg hc_5, if_pos hc_6]
              exact W.iret (v := (-2)) hx hb hr (fun t ht hW => kx_Qi (by rw [e]) ht hP (by rw [e]) hS rfl) hS.2.2 d_D_scrub_52
          · refine lv_iconst (v := 0) hx hb d_D_scrub_41 (by decide) ?_
            have e : d_scrub P G J L n t x bits = ((P, G, J, L), 0) := by unfold d_scrub; rw [if_neg hc_1, if_neg hc_2, if_neg hc_3, if_pos hc_4, if_pos hc_5]
            exact W.iret (v := 0) hx hb hr (fun t ht hW => kx_Qi (by rw [e]) ht hP (by rw [e]) hS rfl) hS.2.2 d_D_scrub_42
        · refine lv_iconst (v := (-1)) hx hb d_D_scrub_27 (by decide) ?_
          have e : d_scrub P G J L n t x bits = ((P, G, J, L), (-1)) := by unfold d_scrub; rw [if_neg hc_1, if_neg hc_2, if_neg hc_3, if_neg hc_4]
          exact W.iret (v := (-1)) hx hb hr (fun t ht hW => kx_Qi (by rw [e]) ht hP (by rw [e]) hS rfl) hS.2.2 d_D_scrub_28
  · refine lv_bipush (v := (-2)) hx hb d_D_scrub_7 (by decide) ?_
    have e : d_scrub P G J L n t x bits = ((P, G, J, L), (-2)) := by unfold d_scrub; rw [if_pos hc_1]
    exact W.iret (v := (-2)) hx hb hr (fun t ht hW => kx_Qi (by rw [e]) ht hP (by rw [e]) hS rfl) hS.2.2 d_D_scrub_9
end
section
theorem d_M_init_0 : decode c_M_init 0 = .ok (.aload_n 0, 1) := by decide +kernel
theorem d_M_init_1 : decode c_M_init 1 = .ok (.invokespecial 1, 3) := by decide +kernel
theorem d_M_init_4 : decode c_M_init 4 = .ok (.aload_n 0, 1) := by decide +kernel
theorem d_M_init_5 : decode c_M_init 5 = .ok (.sipush 13056, 3) := by decide +kernel
theorem d_M_init_8 : decode c_M_init 8 = .ok (.newarray .byte, 2) := by decide +kernel
theorem d_M_init_10 : decode c_M_init 10 = .ok (.putfield 7, 3) := by decide +kernel
theorem d_M_init_13 : decode c_M_init 13 = .ok (.aload_n 0, 1) := by decide +kernel
theorem d_M_init_14 : decode c_M_init 14 = .ok (.sipush 13056, 3) := by decide +kernel
theorem d_M_init_17 : decode c_M_init 17 = .ok (.newarray .byte, 2) := by decide +kernel
theorem d_M_init_19 : decode c_M_init 19 = .ok (.putfield 13, 3) := by decide +kernel
theorem d_M_init_22 : decode c_M_init 22 = .ok (.aload_n 0, 1) := by decide +kernel
theorem d_M_init_23 : decode c_M_init 23 = .ok (.sipush 204, 3) := by decide +kernel
theorem d_M_init_26 : decode c_M_init 26 = .ok (.newarray .boolean, 2) := by decide +kernel
theorem d_M_init_28 : decode c_M_init 28 = .ok (.putfield 16, 3) := by decide +kernel
theorem d_M_init_31 : decode c_M_init 31 = .ok (.aload_n 0, 1) := by decide +kernel
theorem d_M_init_32 : decode c_M_init 32 = .ok (.bipush 8, 2) := by decide +kernel
theorem d_M_init_34 : decode c_M_init 34 = .ok (.newarray .boolean, 2) := by decide +kernel
theorem d_M_init_36 : decode c_M_init 36 = .ok (.putfield 20, 3) := by decide +kernel
theorem d_M_init_39 : decode c_M_init 39 = .ok (.aload_n 0, 1) := by decide +kernel
theorem d_M_init_40 : decode c_M_init 40 = .ok (.bipush 8, 2) := by decide +kernel
theorem d_M_init_42 : decode c_M_init 42 = .ok (.newarray .int, 2) := by decide +kernel
theorem d_M_init_44 : decode c_M_init 44 = .ok (.putfield 23, 3) := by decide +kernel
theorem d_M_init_47 : decode c_M_init 47 = .ok (.aload_n 0, 1) := by decide +kernel
theorem d_M_init_48 : decode c_M_init 48 = .ok (.bipush 8, 2) := by decide +kernel
theorem d_M_init_50 : decode c_M_init 50 = .ok (.newarray .int, 2) := by decide +kernel
theorem d_M_init_52 : decode c_M_init 52 = .ok (.putfield 27, 3) := by decide +kernel
theorem d_M_init_55 : decode c_M_init 55 = .ok (.aload_n 0, 1) := by decide +kernel
theorem d_M_init_56 : decode c_M_init 56 = .ok (.sipush 320, 3) := by decide +kernel
theorem d_M_init_59 : decode c_M_init 59 = .ok (.newarray .boolean, 2) := by decide +kernel
theorem d_M_init_61 : decode c_M_init 61 = .ok (.putfield 30, 3) := by decide +kernel
theorem d_M_init_64 : decode c_M_init 64 = .ok (.aload_n 0, 1) := by decide +kernel
theorem d_M_init_65 : decode c_M_init 65 = .ok (.bipush 16, 2) := by decide +kernel
theorem d_M_init_67 : decode c_M_init 67 = .ok (.newarray .int, 2) := by decide +kernel
theorem d_M_init_69 : decode c_M_init 69 = .ok (.putfield 33, 3) := by decide +kernel
theorem d_M_init_72 : decode c_M_init 72 = .ok (.aload_n 0, 1) := by decide +kernel
theorem d_M_init_73 : decode c_M_init 73 = .ok (.bipush 16, 2) := by decide +kernel
theorem d_M_init_75 : decode c_M_init 75 = .ok (.newarray .int, 2) := by decide +kernel
theorem d_M_init_77 : decode c_M_init 77 = .ok (.putfield 36, 3) := by decide +kernel
theorem d_M_init_80 : decode c_M_init 80 = .ok (.aload_n 0, 1) := by decide +kernel
theorem d_M_init_81 : decode c_M_init 81 = .ok (.sipush 1300, 3) := by decide +kernel
theorem d_M_init_84 : decode c_M_init 84 = .ok (.newarray .int, 2) := by decide +kernel
theorem d_M_init_86 : decode c_M_init 86 = .ok (.putfield 39, 3) := by decide +kernel
theorem d_M_init_89 : decode c_M_init 89 = .ok (.aload_n 0, 1) := by decide +kernel
theorem d_M_init_90 : decode c_M_init 90 = .ok (.sipush 1300, 3) := by decide +kernel
theorem d_M_init_93 : decode c_M_init 93 = .ok (.newarray .boolean, 2) := by decide +kernel
theorem d_M_init_95 : decode c_M_init 95 = .ok (.putfield 42, 3) := by decide +kernel
theorem d_M_init_98 : decode c_M_init 98 = .ok (.aload_n 0, 1) := by decide +kernel
theorem d_M_init_99 : decode c_M_init 99 = .ok (.sipush 10400, 3) := by decide +kernel
theorem d_M_init_102 : decode c_M_init 102 = .ok (.newarray .int, 2) := by decide +kernel
theorem d_M_init_104 : decode c_M_init 104 = .ok (.putfield 45, 3) := by decide +kernel
theorem d_M_init_107 : decode c_M_init 107 = .ok (.aload_n 0, 1) := by decide +kernel
theorem d_M_init_108 : decode c_M_init 108 = .ok (.sipush 13056, 3) := by decide +kernel
theorem d_M_init_111 : decode c_M_init 111 = .ok (.newarray .byte, 2) := by decide +kernel
theorem d_M_init_113 : decode c_M_init 113 = .ok (.putfield 48, 3) := by decide +kernel
theorem d_M_init_116 : decode c_M_init 116 = .ok (.aload_n 0, 1) := by decide +kernel
theorem d_M_init_117 : decode c_M_init 117 = .ok (.sipush 204, 3) := by decide +kernel
theorem d_M_init_120 : decode c_M_init 120 = .ok (.newarray .boolean, 2) := by decide +kernel
theorem d_M_init_122 : decode c_M_init 122 = .ok (.putfield 51, 3) := by decide +kernel
theorem d_M_init_125 : decode c_M_init 125 = .ok (.aload_n 0, 1) := by decide +kernel
theorem d_M_init_126 : decode c_M_init 126 = .ok (.iconst 4, 1) := by decide +kernel
theorem d_M_init_127 : decode c_M_init 127 = .ok (.bipush 12, 2) := by decide +kernel
theorem d_M_init_129 : decode c_M_init 129 = .ok (.invokevirtual 54, 3) := by decide +kernel
theorem d_M_init_132 : decode c_M_init 132 = .ok (.istore_n 1, 1) := by decide +kernel
theorem d_M_init_133 : decode c_M_init 133 = .ok (.return_, 1) := by decide +kernel
theorem d_M_lay_0 : decode c_M_lay 0 = .ok (.aload_n 0, 1) := by decide +kernel
theorem d_M_lay_1 : decode c_M_lay 1 = .ok (.iconst 0, 1) := by decide +kernel
theorem d_M_lay_2 : decode c_M_lay 2 = .ok (.putfield 58, 3) := by decide +kernel
theorem d_M_lay_5 : decode c_M_lay 5 = .ok (.iload_n 1, 1) := by decide +kernel
theorem d_M_lay_6 : decode c_M_lay 6 = .ok (.iconst 4, 1) := by decide +kernel
theorem d_M_lay_7 : decode c_M_lay 7 = .ok (.if_icmp .lt 21, 3) := by decide +kernel
theorem d_M_lay_10 : decode c_M_lay 10 = .ok (.iload_n 1, 1) := by decide +kernel
theorem d_M_lay_11 : decode c_M_lay 11 = .ok (.bipush 8, 2) := by decide +kernel
theorem d_M_lay_13 : decode c_M_lay 13 = .ok (.if_icmp .gt 15, 3) := by decide +kernel
theorem d_M_lay_16 : decode c_M_lay 16 = .ok (.iload_n 2, 1) := by decide +kernel
theorem d_M_lay_17 : decode c_M_lay 17 = .ok (.bipush 12, 2) := by decide +kernel
theorem d_M_lay_19 : decode c_M_lay 19 = .ok (.if_icmp .lt 9, 3) := by decide +kernel
theorem d_M_lay_22 : decode c_M_lay 22 = .ok (.iload_n 2, 1) := by decide +kernel
theorem d_M_lay_23 : decode c_M_lay 23 = .ok (.bipush 40, 2) := by decide +kernel
theorem d_M_lay_25 : decode c_M_lay 25 = .ok (.if_icmp .le 5, 3) := by decide +kernel
theorem d_M_lay_28 : decode c_M_lay 28 = .ok (.iconst (-1), 1) := by decide +kernel
theorem d_M_lay_29 : decode c_M_lay 29 = .ok (.ireturn, 1) := by decide +kernel
theorem d_M_lay_30 : decode c_M_lay 30 = .ok (.aload_n 0, 1) := by decide +kernel
theorem d_M_lay_31 : decode c_M_lay 31 = .ok (.iload_n 1, 1) := by decide +kernel
theorem d_M_lay_32 : decode c_M_lay 32 = .ok (.putfield 62, 3) := by decide +kernel
theorem d_M_lay_35 : decode c_M_lay 35 = .ok (.aload_n 0, 1) := by decide +kernel
theorem d_M_lay_36 : decode c_M_lay 36 = .ok (.iload_n 2, 1) := by decide +kernel
theorem d_M_lay_37 : decode c_M_lay 37 = .ok (.putfield 65, 3) := by decide +kernel
theorem d_M_lay_40 : decode c_M_lay 40 = .ok (.aload_n 0, 1) := by decide +kernel
theorem d_M_lay_41 : decode c_M_lay 41 = .ok (.iconst 0, 1) := by decide +kernel
theorem d_M_lay_42 : decode c_M_lay 42 = .ok (.putfield 68, 3) := by decide +kernel
theorem d_M_lay_45 : decode c_M_lay 45 = .ok (.iconst 0, 1) := by decide +kernel
theorem d_M_lay_46 : decode c_M_lay 46 = .ok (.istore_n 3, 1) := by decide +kernel
theorem d_M_lay_47 : decode c_M_lay 47 = .ok (.iload_n 3, 1) := by decide +kernel
theorem d_M_lay_48 : decode c_M_lay 48 = .ok (.sipush 13056, 3) := by decide +kernel
theorem d_M_lay_51 : decode c_M_lay 51 = .ok (.if_icmp .ge 23, 3) := by decide +kernel
theorem d_M_lay_54 : decode c_M_lay 54 = .ok (.aload_n 0, 1) := by decide +kernel
theorem d_M_lay_55 : decode c_M_lay 55 = .ok (.getfield 7, 3) := by decide +kernel
theorem d_M_lay_58 : decode c_M_lay 58 = .ok (.iload_n 3, 1) := by decide +kernel
theorem d_M_lay_59 : decode c_M_lay 59 = .ok (.iconst 0, 1) := by decide +kernel
theorem d_M_lay_60 : decode c_M_lay 60 = .ok (.bastore, 1) := by decide +kernel
theorem d_M_lay_61 : decode c_M_lay 61 = .ok (.aload_n 0, 1) := by decide +kernel
theorem d_M_lay_62 : decode c_M_lay 62 = .ok (.getfield 13, 3) := by decide +kernel
theorem d_M_lay_65 : decode c_M_lay 65 = .ok (.iload_n 3, 1) := by decide +kernel
theorem d_M_lay_66 : decode c_M_lay 66 = .ok (.iconst 0, 1) := by decide +kernel
theorem d_M_lay_67 : decode c_M_lay 67 = .ok (.bastore, 1) := by decide +kernel
theorem d_M_lay_68 : decode c_M_lay 68 = .ok (.iinc 3 1, 3) := by decide +kernel
theorem d_M_lay_71 : decode c_M_lay 71 = .ok (.goto (-24), 3) := by decide +kernel
theorem d_M_lay_74 : decode c_M_lay 74 = .ok (.iconst 0, 1) := by decide +kernel
theorem d_M_lay_75 : decode c_M_lay 75 = .ok (.istore_n 3, 1) := by decide +kernel
theorem d_M_lay_76 : decode c_M_lay 76 = .ok (.iload_n 3, 1) := by decide +kernel
theorem d_M_lay_77 : decode c_M_lay 77 = .ok (.sipush 204, 3) := by decide +kernel
theorem d_M_lay_80 : decode c_M_lay 80 = .ok (.if_icmp .ge 23, 3) := by decide +kernel
theorem d_M_lay_83 : decode c_M_lay 83 = .ok (.aload_n 0, 1) := by decide +kernel
theorem d_M_lay_84 : decode c_M_lay 84 = .ok (.getfield 16, 3) := by decide +kernel
theorem d_M_lay_87 : decode c_M_lay 87 = .ok (.iload_n 3, 1) := by decide +kernel
theorem d_M_lay_88 : decode c_M_lay 88 = .ok (.iconst 0, 1) := by decide +kernel
theorem d_M_lay_89 : decode c_M_lay 89 = .ok (.bastore, 1) := by decide +kernel
theorem d_M_lay_90 : decode c_M_lay 90 = .ok (.aload_n 0, 1) := by decide +kernel
theorem d_M_lay_91 : decode c_M_lay 91 = .ok (.getfield 51, 3) := by decide +kernel
theorem d_M_lay_94 : decode c_M_lay 94 = .ok (.iload_n 3, 1) := by decide +kernel
theorem d_M_lay_95 : decode c_M_lay 95 = .ok (.iconst 0, 1) := by decide +kernel
theorem d_M_lay_96 : decode c_M_lay 96 = .ok (.bastore, 1) := by decide +kernel
theorem d_M_lay_97 : decode c_M_lay 97 = .ok (.iinc 3 1, 3) := by decide +kernel
theorem d_M_lay_100 : decode c_M_lay 100 = .ok (.goto (-24), 3) := by decide +kernel
theorem d_M_lay_103 : decode c_M_lay 103 = .ok (.iconst 0, 1) := by decide +kernel
theorem d_M_lay_104 : decode c_M_lay 104 = .ok (.istore_n 3, 1) := by decide +kernel
theorem d_M_lay_105 : decode c_M_lay 105 = .ok (.iload_n 3, 1) := by decide +kernel
theorem d_M_lay_106 : decode c_M_lay 106 = .ok (.sipush 320, 3) := by decide +kernel
theorem d_M_lay_109 : decode c_M_lay 109 = .ok (.if_icmp .ge 16, 3) := by decide +kernel
theorem d_M_lay_112 : decode c_M_lay 112 = .ok (.aload_n 0, 1) := by decide +kernel
theorem d_M_lay_113 : decode c_M_lay 113 = .ok (.getfield 30, 3) := by decide +kernel
theorem d_M_lay_116 : decode c_M_lay 116 = .ok (.iload_n 3, 1) := by decide +kernel
theorem d_M_lay_117 : decode c_M_lay 117 = .ok (.iconst 0, 1) := by decide +kernel
theorem d_M_lay_118 : decode c_M_lay 118 = .ok (.bastore, 1) := by decide +kernel
theorem d_M_lay_119 : decode c_M_lay 119 = .ok (.iinc 3 1, 3) := by decide +kernel
theorem d_M_lay_122 : decode c_M_lay 122 = .ok (.goto (-17), 3) := by decide +kernel
theorem d_M_lay_125 : decode c_M_lay 125 = .ok (.aload_n 0, 1) := by decide +kernel
theorem d_M_lay_126 : decode c_M_lay 126 = .ok (.iconst 0, 1) := by decide +kernel
theorem d_M_lay_127 : decode c_M_lay 127 = .ok (.putfield 72, 3) := by decide +kernel
theorem d_M_lay_130 : decode c_M_lay 130 = .ok (.aload_n 0, 1) := by decide +kernel
theorem d_M_lay_131 : decode c_M_lay 131 = .ok (.iconst 0, 1) := by decide +kernel
theorem d_M_lay_132 : decode c_M_lay 132 = .ok (.putfield 75, 3) := by decide +kernel
theorem d_M_lay_135 : decode c_M_lay 135 = .ok (.aload_n 0, 1) := by decide +kernel
theorem d_M_lay_136 : decode c_M_lay 136 = .ok (.getfield 39, 3) := by decide +kernel
theorem d_M_lay_139 : decode c_M_lay 139 = .ok (.iconst 0, 1) := by decide +kernel
theorem d_M_lay_140 : decode c_M_lay 140 = .ok (.iconst 0, 1) := by decide +kernel
theorem d_M_lay_141 : decode c_M_lay 141 = .ok (.iastore, 1) := by decide +kernel
theorem d_M_lay_142 : decode c_M_lay 142 = .ok (.iconst 0, 1) := by decide +kernel
theorem d_M_lay_143 : decode c_M_lay 143 = .ok (.istore_n 3, 1) := by decide +kernel
theorem d_M_lay_144 : decode c_M_lay 144 = .ok (.iload_n 3, 1) := by decide +kernel
theorem d_M_lay_145 : decode c_M_lay 145 = .ok (.bipush 8, 2) := by decide +kernel
theorem d_M_lay_147 : decode c_M_lay 147 = .ok (.if_icmp .ge 31, 3) := by decide +kernel
theorem d_M_lay_150 : decode c_M_lay 150 = .ok (.aload_n 0, 1) := by decide +kernel
theorem d_M_lay_151 : decode c_M_lay 151 = .ok (.getfield 20, 3) := by decide +kernel
theorem d_M_lay_154 : decode c_M_lay 154 = .ok (.iload_n 3, 1) := by decide +kernel
theorem d_M_lay_155 : decode c_M_lay 155 = .ok (.iconst 0, 1) := by decide +kernel
theorem d_M_lay_156 : decode c_M_lay 156 = .ok (.bastore, 1) := by decide +kernel
theorem d_M_lay_157 : decode c_M_lay 157 = .ok (.aload_n 0, 1) := by decide +kernel
theorem d_M_lay_158 : decode c_M_lay 158 = .ok (.getfield 23, 3) := by decide +kernel
theorem d_M_lay_161 : decode c_M_lay 161 = .ok (.iload_n 3, 1) := by decide +kernel
theorem d_M_lay_162 : decode c_M_lay 162 = .ok (.aload_n 0, 1) := by decide +kernel
theorem d_M_lay_163 : decode c_M_lay 163 = .ok (.getfield 65, 3) := by decide +kernel
theorem d_M_lay_166 : decode c_M_lay 166 = .ok (.iastore, 1) := by decide +kernel
theorem d_M_lay_167 : decode c_M_lay 167 = .ok (.aload_n 0, 1) := by decide +kernel
theorem d_M_lay_168 : decode c_M_lay 168 = .ok (.iload_n 3, 1) := by decide +kernel
theorem d_M_lay_169 : decode c_M_lay 169 = .ok (.invokevirtual 78, 3) := by decide +kernel
theorem d_M_lay_172 : decode c_M_lay 172 = .ok (.iinc 3 1, 3) := by decide +kernel
theorem d_M_lay_175 : decode c_M_lay 175 = .ok (.goto (-31), 3) := by decide +kernel
theorem d_M_lay_178 : decode c_M_lay 178 = .ok (.aload_n 0, 1) := by decide +kernel
theorem d_M_lay_179 : decode c_M_lay 179 = .ok (.iconst 0, 1) := by decide +kernel
theorem d_M_lay_180 : decode c_M_lay 180 = .ok (.invokevirtual 82, 3) := by decide +kernel
theorem d_M_lay_183 : decode c_M_lay 183 = .ok (.aload_n 0, 1) := by decide +kernel
theorem d_M_lay_184 : decode c_M_lay 184 = .ok (.invokevirtual 86, 3) := by decide +kernel
theorem d_M_lay_187 : decode c_M_lay 187 = .ok (.ireturn, 1) := by decide +kernel
theorem d_M_blocks_0 : decode c_M_blocks 0 = .ok (.aload_n 0, 1) := by decide +kernel
theorem d_M_blocks_1 : decode c_M_blocks 1 = .ok (.getfield 62, 3) := by decide +kernel
theorem d_M_blocks_4 : decode c_M_blocks 4 = .ok (.iconst 2, 1) := by decide +kernel
theorem d_M_blocks_5 : decode c_M_blocks 5 = .ok (.isub, 1) := by decide +kernel
theorem d_M_blocks_6 : decode c_M_blocks 6 = .ok (.aload_n 0, 1) := by decide +kernel
theorem d_M_blocks_7 : decode c_M_blocks 7 = .ok (.getfield 65, 3) := by decide +kernel
theorem d_M_blocks_10 : decode c_M_blocks 10 = .ok (.bipush 6, 2) := by decide +kernel
theorem d_M_blocks_12 : decode c_M_blocks 12 = .ok (.isub, 1) := by decide +kernel
theorem d_M_blocks_13 : decode c_M_blocks 13 = .ok (.imul, 1) := by decide +kernel
theorem d_M_blocks_14 : decode c_M_blocks 14 = .ok (.ireturn, 1) := by decide +kernel
theorem d_M_wipe_0 : decode c_M_wipe 0 = .ok (.iconst 0, 1) := by decide +kernel
theorem d_M_wipe_1 : decode c_M_wipe 1 = .ok (.istore_n 2, 1) := by decide +kernel
theorem d_M_wipe_2 : decode c_M_wipe 2 = .ok (.iload_n 2, 1) := by decide +kernel
theorem d_M_wipe_3 : decode c_M_wipe 3 = .ok (.iconst 2, 1) := by decide +kernel
theorem d_M_wipe_4 : decode c_M_wipe 4 = .ok (.if_icmp .ge 31, 3) := by decide +kernel
theorem d_M_wipe_7 : decode c_M_wipe 7 = .ok (.aload_n 0, 1) := by decide +kernel
theorem d_M_wipe_8 : decode c_M_wipe 8 = .ok (.getfield 33, 3) := by decide +kernel
theorem d_M_wipe_11 : decode c_M_wipe 11 = .ok (.iconst 2, 1) := by decide +kernel
theorem d_M_wipe_12 : decode c_M_wipe 12 = .ok (.iload_n 1, 1) := by decide +kernel
theorem d_M_wipe_13 : decode c_M_wipe 13 = .ok (.imul, 1) := by decide +kernel
theorem d_M_wipe_14 : decode c_M_wipe 14 = .ok (.iload_n 2, 1) := by decide +kernel
theorem d_M_wipe_15 : decode c_M_wipe 15 = .ok (.iadd, 1) := by decide +kernel
theorem d_M_wipe_16 : decode c_M_wipe 16 = .ok (.iconst 0, 1) := by decide +kernel
theorem d_M_wipe_17 : decode c_M_wipe 17 = .ok (.iastore, 1) := by decide +kernel
theorem d_M_wipe_18 : decode c_M_wipe 18 = .ok (.aload_n 0, 1) := by decide +kernel
theorem d_M_wipe_19 : decode c_M_wipe 19 = .ok (.getfield 36, 3) := by decide +kernel
theorem d_M_wipe_22 : decode c_M_wipe 22 = .ok (.iconst 2, 1) := by decide +kernel
theorem d_M_wipe_23 : decode c_M_wipe 23 = .ok (.iload_n 1, 1) := by decide +kernel
theorem d_M_wipe_24 : decode c_M_wipe 24 = .ok (.imul, 1) := by decide +kernel
theorem d_M_wipe_25 : decode c_M_wipe 25 = .ok (.iload_n 2, 1) := by decide +kernel
theorem d_M_wipe_26 : decode c_M_wipe 26 = .ok (.iadd, 1) := by decide +kernel
theorem d_M_wipe_27 : decode c_M_wipe 27 = .ok (.iconst 0, 1) := by decide +kernel
theorem d_M_wipe_28 : decode c_M_wipe 28 = .ok (.iastore, 1) := by decide +kernel
theorem d_M_wipe_29 : decode c_M_wipe 29 = .ok (.iinc 2 1, 3) := by decide +kernel
theorem d_M_wipe_32 : decode c_M_wipe 32 = .ok (.goto (-30), 3) := by decide +kernel
theorem d_M_wipe_35 : decode c_M_wipe 35 = .ok (.return_, 1) := by decide +kernel
theorem d_M_newLabel_0 : decode c_M_newLabel 0 = .ok (.iconst 1, 1) := by decide +kernel
theorem d_M_newLabel_1 : decode c_M_newLabel 1 = .ok (.aload_n 0, 1) := by decide +kernel
theorem d_M_newLabel_2 : decode c_M_newLabel 2 = .ok (.getfield 39, 3) := by decide +kernel
theorem d_M_newLabel_5 : decode c_M_newLabel 5 = .ok (.aload_n 0, 1) := by decide +kernel
theorem d_M_newLabel_6 : decode c_M_newLabel 6 = .ok (.getfield 75, 3) := by decide +kernel
theorem d_M_newLabel_9 : decode c_M_newLabel 9 = .ok (.iaload, 1) := by decide +kernel
theorem d_M_newLabel_10 : decode c_M_newLabel 10 = .ok (.isub, 1) := by decide +kernel
theorem d_M_newLabel_11 : decode c_M_newLabel 11 = .ok (.istore_n 2, 1) := by decide +kernel
theorem d_M_newLabel_12 : decode c_M_newLabel 12 = .ok (.aload_n 0, 1) := by decide +kernel
theorem d_M_newLabel_13 : decode c_M_newLabel 13 = .ok (.dup, 1) := by decide +kernel
theorem d_M_newLabel_14 : decode c_M_newLabel 14 = .ok (.getfield 72, 3) := by decide +kernel
theorem d_M_newLabel_17 : decode c_M_newLabel 17 = .ok (.iconst 1, 1) := by decide +kernel
theorem d_M_newLabel_18 : decode c_M_newLabel 18 = .ok (.iadd, 1) := by decide +kernel
theorem d_M_newLabel_19 : decode c_M_newLabel 19 = .ok (.putfield 72, 3) := by decide +kernel
theorem d_M_newLabel_22 : decode c_M_newLabel 22 = .ok (.aload_n 0, 1) := by decide +kernel
theorem d_M_newLabel_23 : decode c_M_newLabel 23 = .ok (.getfield 39, 3) := by decide +kernel
theorem d_M_newLabel_26 : decode c_M_newLabel 26 = .ok (.aload_n 0, 1) := by decide +kernel
theorem d_M_newLabel_27 : decode c_M_newLabel 27 = .ok (.getfield 72, 3) := by decide +kernel
theorem d_M_newLabel_30 : decode c_M_newLabel 30 = .ok (.iload_n 2, 1) := by decide +kernel
theorem d_M_newLabel_31 : decode c_M_newLabel 31 = .ok (.iastore, 1) := by decide +kernel
theorem d_M_newLabel_32 : decode c_M_newLabel 32 = .ok (.aload_n 0, 1) := by decide +kernel
theorem d_M_newLabel_33 : decode c_M_newLabel 33 = .ok (.getfield 42, 3) := by decide +kernel
theorem d_M_newLabel_36 : decode c_M_newLabel 36 = .ok (.aload_n 0, 1) := by decide +kernel
theorem d_M_newLabel_37 : decode c_M_newLabel 37 = .ok (.getfield 72, 3) := by decide +kernel
theorem d_M_newLabel_40 : decode c_M_newLabel 40 = .ok (.iload_n 1, 1) := by decide +kernel
theorem d_M_newLabel_41 : decode c_M_newLabel 41 = .ok (.bastore, 1) := by decide +kernel
theorem d_M_newLabel_42 : decode c_M_newLabel 42 = .ok (.iconst 0, 1) := by decide +kernel
theorem d_M_newLabel_43 : decode c_M_newLabel 43 = .ok (.istore_n 3, 1) := by decide +kernel
theorem d_M_newLabel_44 : decode c_M_newLabel 44 = .ok (.iload_n 3, 1) := by decide +kernel
theorem d_M_newLabel_45 : decode c_M_newLabel 45 = .ok (.bipush 8, 2) := by decide +kernel
theorem d_M_newLabel_47 : decode c_M_newLabel 47 = .ok (.if_icmp .ge 29, 3) := by decide +kernel
theorem d_M_newLabel_50 : decode c_M_newLabel 50 = .ok (.aload_n 0, 1) := by decide +kernel
theorem d_M_newLabel_51 : decode c_M_newLabel 51 = .ok (.getfield 45, 3) := by decide +kernel
theorem d_M_newLabel_54 : decode c_M_newLabel 54 = .ok (.bipush 8, 2) := by decide +kernel
theorem d_M_newLabel_56 : decode c_M_newLabel 56 = .ok (.aload_n 0, 1) := by decide +kernel
theorem d_M_newLabel_57 : decode c_M_newLabel 57 = .ok (.getfield 72, 3) := by decide +kernel
theorem d_M_newLabel_60 : decode c_M_newLabel 60 = .ok (.imul, 1) := by decide +kernel
theorem d_M_newLabel_61 : decode c_M_newLabel 61 = .ok (.iload_n 3, 1) := by decide +kernel
theorem d_M_newLabel_62 : decode c_M_newLabel 62 = .ok (.iadd, 1) := by decide +kernel
theorem d_M_newLabel_63 : decode c_M_newLabel 63 = .ok (.aload_n 0, 1) := by decide +kernel
theorem d_M_newLabel_64 : decode c_M_newLabel 64 = .ok (.getfield 23, 3) := by decide +kernel
theorem d_M_newLabel_67 : decode c_M_newLabel 67 = .ok (.iload_n 3, 1) := by decide +kernel
theorem d_M_newLabel_68 : decode c_M_newLabel 68 = .ok (.iaload, 1) := by decide +kernel
theorem d_M_newLabel_69 : decode c_M_newLabel 69 = .ok (.iastore, 1) := by decide +kernel
theorem d_M_newLabel_70 : decode c_M_newLabel 70 = .ok (.iinc 3 1, 3) := by decide +kernel
theorem d_M_newLabel_73 : decode c_M_newLabel 73 = .ok (.goto (-29), 3) := by decide +kernel
theorem d_M_newLabel_76 : decode c_M_newLabel 76 = .ok (.return_, 1) := by decide +kernel
theorem d_M_has_0 : decode c_M_has 0 = .ok (.iconst 0, 1) := by decide +kernel
theorem d_M_has_1 : decode c_M_has 1 = .ok (.istore_n 2, 1) := by decide +kernel
theorem d_M_has_2 : decode c_M_has 2 = .ok (.iconst 2, 1) := by decide +kernel
theorem d_M_has_3 : decode c_M_has 3 = .ok (.iload_n 1, 1) := by decide +kernel
theorem d_M_has_4 : decode c_M_has 4 = .ok (.imul, 1) := by decide +kernel
theorem d_M_has_5 : decode c_M_has 5 = .ok (.istore_n 3, 1) := by decide +kernel
theorem d_M_has_6 : decode c_M_has 6 = .ok (.iload_n 3, 1) := by decide +kernel
theorem d_M_has_7 : decode c_M_has 7 = .ok (.iconst 2, 1) := by decide +kernel
theorem d_M_has_8 : decode c_M_has 8 = .ok (.iload_n 1, 1) := by decide +kernel
theorem d_M_has_9 : decode c_M_has 9 = .ok (.imul, 1) := by decide +kernel
theorem d_M_has_10 : decode c_M_has 10 = .ok (.iconst 2, 1) := by decide +kernel
theorem d_M_has_11 : decode c_M_has 11 = .ok (.iadd, 1) := by decide +kernel
theorem d_M_has_12 : decode c_M_has 12 = .ok (.if_icmp .ge 54, 3) := by decide +kernel
theorem d_M_has_15 : decode c_M_has 15 = .ok (.aload_n 0, 1) := by decide +kernel
theorem d_M_has_16 : decode c_M_has 16 = .ok (.getfield 20, 3) := by decide +kernel
theorem d_M_has_19 : decode c_M_has 19 = .ok (.iload_n 1, 1) := by decide +kernel
theorem d_M_has_20 : decode c_M_has 20 = .ok (.baload, 1) := by decide +kernel
theorem d_M_has_21 : decode c_M_has 21 = .ok (.ifCond .ne 45, 3) := by decide +kernel
theorem d_M_has_24 : decode c_M_has 24 = .ok (.aload_n 0, 1) := by decide +kernel
theorem d_M_has_25 : decode c_M_has 25 = .ok (.getfield 33, 3) := by decide +kernel
theorem d_M_has_28 : decode c_M_has 28 = .ok (.iload_n 3, 1) := by decide +kernel
theorem d_M_has_29 : decode c_M_has 29 = .ok (.iaload, 1) := by decide +kernel
theorem d_M_has_30 : decode c_M_has 30 = .ok (.aload_n 0, 1) := by decide +kernel
theorem d_M_has_31 : decode c_M_has 31 = .ok (.getfield 36, 3) := by decide +kernel
theorem d_M_has_34 : decode c_M_has 34 = .ok (.iload_n 3, 1) := by decide +kernel
theorem d_M_has_35 : decode c_M_has 35 = .ok (.iaload, 1) := by decide +kernel
theorem d_M_has_36 : decode c_M_has 36 = .ok (.if_icmp .ne 22, 3) := by decide +kernel
theorem d_M_has_39 : decode c_M_has 39 = .ok (.aload_n 0, 1) := by decide +kernel
theorem d_M_has_40 : decode c_M_has 40 = .ok (.getfield 33, 3) := by decide +kernel
theorem d_M_has_43 : decode c_M_has 43 = .ok (.iload_n 3, 1) := by decide +kernel
theorem d_M_has_44 : decode c_M_has 44 = .ok (.iaload, 1) := by decide +kernel
theorem d_M_has_45 : decode c_M_has 45 = .ok (.iload_n 2, 1) := by decide +kernel
theorem d_M_has_46 : decode c_M_has 46 = .ok (.if_icmp .le 12, 3) := by decide +kernel
theorem d_M_has_49 : decode c_M_has 49 = .ok (.aload_n 0, 1) := by decide +kernel
theorem d_M_has_50 : decode c_M_has 50 = .ok (.getfield 33, 3) := by decide +kernel
theorem d_M_has_53 : decode c_M_has 53 = .ok (.iload_n 3, 1) := by decide +kernel
theorem d_M_has_54 : decode c_M_has 54 = .ok (.iaload, 1) := by decide +kernel
theorem d_M_has_55 : decode c_M_has 55 = .ok (.goto 4, 3) := by decide +kernel
theorem d_M_has_58 : decode c_M_has 58 = .ok (.iload_n 2, 1) := by decide +kernel
theorem d_M_has_59 : decode c_M_has 59 = .ok (.istore_n 2, 1) := by decide +kernel
theorem d_M_has_60 : decode c_M_has 60 = .ok (.iinc 3 1, 3) := by decide +kernel
theorem d_M_has_63 : decode c_M_has 63 = .ok (.goto (-57), 3) := by decide +kernel
theorem d_M_has_66 : decode c_M_has 66 = .ok (.iload_n 2, 1) := by decide +kernel
theorem d_M_has_67 : decode c_M_has 67 = .ok (.ireturn, 1) := by decide +kernel
theorem d_M_bitsOf_0 : decode c_M_bitsOf 0 = .ok (.iload_n 3, 1) := by decide +kernel
theorem d_M_bitsOf_1 : decode c_M_bitsOf 1 = .ok (.bipush 31, 2) := by decide +kernel
theorem d_M_bitsOf_3 : decode c_M_bitsOf 3 = .ok (.if_icmp .le 7, 3) := by decide +kernel
theorem d_M_bitsOf_6 : decode c_M_bitsOf 6 = .ok (.iconst 0, 1) := by decide +kernel
theorem d_M_bitsOf_7 : decode c_M_bitsOf 7 = .ok (.goto 13, 3) := by decide +kernel
theorem d_M_bitsOf_10 : decode c_M_bitsOf 10 = .ok (.lload_n 1, 1) := by decide +kernel
theorem d_M_bitsOf_11 : decode c_M_bitsOf 11 = .ok (.iconst 2, 1) := by decide +kernel
theorem d_M_bitsOf_12 : decode c_M_bitsOf 12 = .ok (.iload_n 3, 1) := by decide +kernel
theorem d_M_bitsOf_13 : decode c_M_bitsOf 13 = .ok (.imul, 1) := by decide +kernel
theorem d_M_bitsOf_14 : decode c_M_bitsOf 14 = .ok (.lshr, 1) := by decide +kernel
theorem d_M_bitsOf_15 : decode c_M_bitsOf 15 = .ok (.ldc2_w 90, 3) := by decide +kernel
theorem d_M_bitsOf_18 : decode c_M_bitsOf 18 = .ok (.land, 1) := by decide +kernel
theorem d_M_bitsOf_19 : decode c_M_bitsOf 19 = .ok (.l2i, 1) := by decide +kernel
theorem d_M_bitsOf_20 : decode c_M_bitsOf 20 = .ok (.ireturn, 1) := by decide +kernel
theorem d_M_spread_0 : decode c_M_spread 0 = .ok (.iconst 0, 1) := by decide +kernel
theorem d_M_spread_1 : decode c_M_spread 1 = .ok (.istore 6, 2) := by decide +kernel
theorem d_M_spread_3 : decode c_M_spread 3 = .ok (.iconst 0, 1) := by decide +kernel
theorem d_M_spread_4 : decode c_M_spread 4 = .ok (.istore 7, 2) := by decide +kernel
theorem d_M_spread_6 : decode c_M_spread 6 = .ok (.iload 7, 2) := by decide +kernel
theorem d_M_spread_8 : decode c_M_spread 8 = .ok (.aload_n 0, 1) := by decide +kernel
theorem d_M_spread_9 : decode c_M_spread 9 = .ok (.getfield 62, 3) := by decide +kernel
theorem d_M_spread_12 : decode c_M_spread 12 = .ok (.if_icmp .ge 126, 3) := by decide +kernel
theorem d_M_spread_15 : decode c_M_spread 15 = .ok (.aload_n 0, 1) := by decide +kernel
theorem d_M_spread_16 : decode c_M_spread 16 = .ok (.getfield 20, 3) := by decide +kernel
theorem d_M_spread_19 : decode c_M_spread 19 = .ok (.iload 7, 2) := by decide +kernel
theorem d_M_spread_21 : decode c_M_spread 21 = .ok (.baload, 1) := by decide +kernel
theorem d_M_spread_22 : decode c_M_spread 22 = .ok (.ifCond .ne 110, 3) := by decide +kernel
theorem d_M_spread_25 : decode c_M_spread 25 = .ok (.iload_n 2, 1) := by decide +kernel
theorem d_M_spread_26 : decode c_M_spread 26 = .ok (.ifCond .eq 12, 3) := by decide +kernel
theorem d_M_spread_29 : decode c_M_spread 29 = .ok (.aload_n 0, 1) := by decide +kernel
theorem d_M_spread_30 : decode c_M_spread 30 = .ok (.iload 7, 2) := by decide +kernel
theorem d_M_spread_32 : decode c_M_spread 32 = .ok (.invokevirtual 92, 3) := by decide +kernel
theorem d_M_spread_35 : decode c_M_spread 35 = .ok (.ifCond .le 97, 3) := by decide +kernel
theorem d_M_spread_38 : decode c_M_spread 38 = .ok (.iload_n 3, 1) := by decide +kernel
theorem d_M_spread_39 : decode c_M_spread 39 = .ok (.ifCond .eq 14, 3) := by decide +kernel
theorem d_M_spread_42 : decode c_M_spread 42 = .ok (.aload_n 0, 1) := by decide +kernel
theorem d_M_spread_43 : decode c_M_spread 43 = .ok (.lload 4, 2) := by decide +kernel
theorem d_M_spread_45 : decode c_M_spread 45 = .ok (.iload 6, 2) := by decide +kernel
theorem d_M_spread_47 : decode c_M_spread 47 = .ok (.invokevirtual 96, 3) := by decide +kernel
theorem d_M_spread_50 : decode c_M_spread 50 = .ok (.goto 4, 3) := by decide +kernel
theorem d_M_spread_53 : decode c_M_spread 53 = .ok (.iconst 1, 1) := by decide +kernel
theorem d_M_spread_54 : decode c_M_spread 54 = .ok (.istore 8, 2) := by decide +kernel
theorem d_M_spread_56 : decode c_M_spread 56 = .ok (.iconst 2, 1) := by decide +kernel
theorem d_M_spread_57 : decode c_M_spread 57 = .ok (.iload 7, 2) := by decide +kernel
theorem d_M_spread_59 : decode c_M_spread 59 = .ok (.imul, 1) := by decide +kernel
theorem d_M_spread_60 : decode c_M_spread 60 = .ok (.aload_n 0, 1) := by decide +kernel
theorem d_M_spread_61 : decode c_M_spread 61 = .ok (.getfield 39, 3) := by decide +kernel
theorem d_M_spread_64 : decode c_M_spread 64 = .ok (.iload_n 1, 1) := by decide +kernel
theorem d_M_spread_65 : decode c_M_spread 65 = .ok (.iaload, 1) := by decide +kernel
theorem d_M_spread_66 : decode c_M_spread 66 = .ok (.iadd, 1) := by decide +kernel
theorem d_M_spread_67 : decode c_M_spread 67 = .ok (.istore 9, 2) := by decide +kernel
theorem d_M_spread_69 : decode c_M_spread 69 = .ok (.aload_n 0, 1) := by decide +kernel
theorem d_M_spread_70 : decode c_M_spread 70 = .ok (.getfield 33, 3) := by decide +kernel
theorem d_M_spread_73 : decode c_M_spread 73 = .ok (.iload 9, 2) := by decide +kernel
theorem d_M_spread_75 : decode c_M_spread 75 = .ok (.iload 8, 2) := by decide +kernel
theorem d_M_spread_77 : decode c_M_spread 77 = .ok (.iconst 1, 1) := by decide +kernel
theorem d_M_spread_78 : decode c_M_spread 78 = .ok (.if_icmp .eq 9, 3) := by decide +kernel
theorem d_M_spread_81 : decode c_M_spread 81 = .ok (.iload 8, 2) := by decide +kernel
theorem d_M_spread_83 : decode c_M_spread 83 = .ok (.iconst 2, 1) := by decide +kernel
theorem d_M_spread_84 : decode c_M_spread 84 = .ok (.if_icmp .ne 7, 3) := by decide +kernel
theorem d_M_spread_87 : decode c_M_spread 87 = .ok (.iload_n 1, 1) := by decide +kernel
theorem d_M_spread_88 : decode c_M_spread 88 = .ok (.goto 10, 3) := by decide +kernel
theorem d_M_spread_91 : decode c_M_spread 91 = .ok (.aload_n 0, 1) := by decide +kernel
theorem d_M_spread_92 : decode c_M_spread 92 = .ok (.getfield 33, 3) := by decide +kernel
theorem d_M_spread_95 : decode c_M_spread 95 = .ok (.iload 9, 2) := by decide +kernel
theorem d_M_spread_97 : decode c_M_spread 97 = .ok (.iaload, 1) := by decide +kernel
theorem d_M_spread_98 : decode c_M_spread 98 = .ok (.iastore, 1) := by decide +kernel
theorem d_M_spread_99 : decode c_M_spread 99 = .ok (.aload_n 0, 1) := by decide +kernel
theorem d_M_spread_100 : decode c_M_spread 100 = .ok (.getfield 36, 3) := by decide +kernel
theorem d_M_spread_103 : decode c_M_spread 103 = .ok (.iload 9, 2) := by decide +kernel
theorem d_M_spread_105 : decode c_M_spread 105 = .ok (.iload 8, 2) := by decide +kernel
theorem d_M_spread_107 : decode c_M_spread 107 = .ok (.iconst 1, 1) := by decide +kernel
theorem d_M_spread_108 : decode c_M_spread 108 = .ok (.if_icmp .eq 9, 3) := by decide +kernel
theorem d_M_spread_111 : decode c_M_spread 111 = .ok (.iload 8, 2) := by decide +kernel
theorem d_M_spread_113 : decode c_M_spread 113 = .ok (.iconst 3, 1) := by decide +kernel
theorem d_M_spread_114 : decode c_M_spread 114 = .ok (.if_icmp .ne 7, 3) := by decide +kernel
theorem d_M_spread_117 : decode c_M_spread 117 = .ok (.iload_n 1, 1) := by decide +kernel
theorem d_M_spread_118 : decode c_M_spread 118 = .ok (.goto 10, 3) := by decide +kernel
theorem d_M_spread_121 : decode c_M_spread 121 = .ok (.aload_n 0, 1) := by decide +kernel
theorem d_M_spread_122 : decode c_M_spread 122 = .ok (.getfield 36, 3) := by decide +kernel
theorem d_M_spread_125 : decode c_M_spread 125 = .ok (.iload 9, 2) := by decide +kernel
theorem d_M_spread_127 : decode c_M_spread 127 = .ok (.iaload, 1) := by decide +kernel
theorem d_M_spread_128 : decode c_M_spread 128 = .ok (.iastore, 1) := by decide +kernel
theorem d_M_spread_129 : decode c_M_spread 129 = .ok (.iinc 6 1, 3) := by decide +kernel
theorem d_M_spread_132 : decode c_M_spread 132 = .ok (.iinc 7 1, 3) := by decide +kernel
theorem d_M_spread_135 : decode c_M_spread 135 = .ok (.goto (-129), 3) := by decide +kernel
theorem d_M_spread_138 : decode c_M_spread 138 = .ok (.return_, 1) := by decide +kernel
theorem d_M_label_0 : decode c_M_label 0 = .ok (.aload_n 0, 1) := by decide +kernel
theorem d_M_label_1 : decode c_M_label 1 = .ok (.iload_n 1, 1) := by decide +kernel
theorem d_M_label_2 : decode c_M_label 2 = .ok (.invokevirtual 100, 3) := by decide +kernel
theorem d_M_label_5 : decode c_M_label 5 = .ok (.aload_n 0, 1) := by decide +kernel
theorem d_M_label_6 : decode c_M_label 6 = .ok (.aload_n 0, 1) := by decide +kernel
theorem d_M_label_7 : decode c_M_label 7 = .ok (.getfield 72, 3) := by decide +kernel
theorem d_M_label_10 : decode c_M_label 10 = .ok (.iconst 0, 1) := by decide +kernel
theorem d_M_label_11 : decode c_M_label 11 = .ok (.iconst 0, 1) := by decide +kernel
theorem d_M_label_12 : decode c_M_label 12 = .ok (.lconst 0, 1) := by decide +kernel
theorem d_M_label_13 : decode c_M_label 13 = .ok (.invokevirtual 103, 3) := by decide +kernel
theorem d_M_label_16 : decode c_M_label 16 = .ok (.aload_n 0, 1) := by decide +kernel
theorem d_M_label_17 : decode c_M_label 17 = .ok (.aload_n 0, 1) := by decide +kernel
theorem d_M_label_18 : decode c_M_label 18 = .ok (.getfield 72, 3) := by decide +kernel
theorem d_M_label_21 : decode c_M_label 21 = .ok (.putfield 75, 3) := by decide +kernel
theorem d_M_label_24 : decode c_M_label 24 = .ok (.return_, 1) := by decide +kernel
theorem d_M_stopAtLabel_0 : decode c_M_stopAtLabel 0 = .ok (.aload_n 0, 1) := by decide +kernel
theorem d_M_stopAtLabel_1 : decode c_M_stopAtLabel 1 = .ok (.iload_n 1, 1) := by decide +kernel
theorem d_M_stopAtLabel_2 : decode c_M_stopAtLabel 2 = .ok (.invokevirtual 100, 3) := by decide +kernel
theorem d_M_stopAtLabel_5 : decode c_M_stopAtLabel 5 = .ok (.aload_n 0, 1) := by decide +kernel
theorem d_M_stopAtLabel_6 : decode c_M_stopAtLabel 6 = .ok (.aload_n 0, 1) := by decide +kernel
theorem d_M_stopAtLabel_7 : decode c_M_stopAtLabel 7 = .ok (.getfield 72, 3) := by decide +kernel
theorem d_M_stopAtLabel_10 : decode c_M_stopAtLabel 10 = .ok (.iconst 0, 1) := by decide +kernel
theorem d_M_stopAtLabel_11 : decode c_M_stopAtLabel 11 = .ok (.iconst 1, 1) := by decide +kernel
theorem d_M_stopAtLabel_12 : decode c_M_stopAtLabel 12 = .ok (.lload_n 2, 1) := by decide +kernel
theorem d_M_stopAtLabel_13 : decode c_M_stopAtLabel 13 = .ok (.invokevirtual 103, 3) := by decide +kernel
theorem d_M_stopAtLabel_16 : decode c_M_stopAtLabel 16 = .ok (.aload_n 0, 1) := by decide +kernel
theorem d_M_stopAtLabel_17 : decode c_M_stopAtLabel 17 = .ok (.invokevirtual 107, 3) := by decide +kernel
theorem d_M_stopAtLabel_20 : decode c_M_stopAtLabel 20 = .ok (.ireturn, 1) := by decide +kernel
theorem d_M_powerOff_0 : decode c_M_powerOff 0 = .ok (.aload_n 0, 1) := by decide +kernel
theorem d_M_powerOff_1 : decode c_M_powerOff 1 = .ok (.iconst 1, 1) := by decide +kernel
theorem d_M_powerOff_2 : decode c_M_powerOff 2 = .ok (.putfield 68, 3) := by decide +kernel
theorem d_M_powerOff_5 : decode c_M_powerOff 5 = .ok (.iconst 0, 1) := by decide +kernel
theorem d_M_powerOff_6 : decode c_M_powerOff 6 = .ok (.istore_n 1, 1) := by decide +kernel
theorem d_M_powerOff_7 : decode c_M_powerOff 7 = .ok (.iload_n 1, 1) := by decide +kernel
theorem d_M_powerOff_8 : decode c_M_powerOff 8 = .ok (.sipush 204, 3) := by decide +kernel
theorem d_M_powerOff_11 : decode c_M_powerOff 11 = .ok (.if_icmp .ge 16, 3) := by decide +kernel
theorem d_M_powerOff_14 : decode c_M_powerOff 14 = .ok (.aload_n 0, 1) := by decide +kernel
theorem d_M_powerOff_15 : decode c_M_powerOff 15 = .ok (.getfield 16, 3) := by decide +kernel
theorem d_M_powerOff_18 : decode c_M_powerOff 18 = .ok (.iload_n 1, 1) := by decide +kernel
theorem d_M_powerOff_19 : decode c_M_powerOff 19 = .ok (.iconst 0, 1) := by decide +kernel
theorem d_M_powerOff_20 : decode c_M_powerOff 20 = .ok (.bastore, 1) := by decide +kernel
theorem d_M_powerOff_21 : decode c_M_powerOff 21 = .ok (.iinc 1 1, 3) := by decide +kernel
theorem d_M_powerOff_24 : decode c_M_powerOff 24 = .ok (.goto (-17), 3) := by decide +kernel
theorem d_M_powerOff_27 : decode c_M_powerOff 27 = .ok (.bipush (-2), 2) := by decide +kernel
theorem d_M_powerOff_29 : decode c_M_powerOff 29 = .ok (.ireturn, 1) := by decide +kernel
theorem d_M_isGone_0 : decode c_M_isGone 0 = .ok (.aload_n 0, 1) := by decide +kernel
theorem d_M_isGone_1 : decode c_M_isGone 1 = .ok (.getfield 20, 3) := by decide +kernel
theorem d_M_isGone_4 : decode c_M_isGone 4 = .ok (.iload_n 1, 1) := by decide +kernel
theorem d_M_isGone_5 : decode c_M_isGone 5 = .ok (.baload, 1) := by decide +kernel
theorem d_M_isGone_6 : decode c_M_isGone 6 = .ok (.ifCond .ne 27, 3) := by decide +kernel
theorem d_M_isGone_9 : decode c_M_isGone 9 = .ok (.iload_n 2, 1) := by decide +kernel
theorem d_M_isGone_10 : decode c_M_isGone 10 = .ok (.aload_n 0, 1) := by decide +kernel
theorem d_M_isGone_11 : decode c_M_isGone 11 = .ok (.getfield 23, 3) := by decide +kernel
theorem d_M_isGone_14 : decode c_M_isGone 14 = .ok (.iload_n 1, 1) := by decide +kernel
theorem d_M_isGone_15 : decode c_M_isGone 15 = .ok (.iaload, 1) := by decide +kernel
theorem d_M_isGone_16 : decode c_M_isGone 16 = .ok (.if_icmp .ge 17, 3) := by decide +kernel
theorem d_M_isGone_19 : decode c_M_isGone 19 = .ok (.aload_n 0, 1) := by decide +kernel
theorem d_M_isGone_20 : decode c_M_isGone 20 = .ok (.getfield 30, 3) := by decide +kernel
theorem d_M_isGone_23 : decode c_M_isGone 23 = .ok (.bipush 40, 2) := by decide +kernel
theorem d_M_isGone_25 : decode c_M_isGone 25 = .ok (.iload_n 1, 1) := by decide +kernel
theorem d_M_isGone_26 : decode c_M_isGone 26 = .ok (.imul, 1) := by decide +kernel
theorem d_M_isGone_27 : decode c_M_isGone 27 = .ok (.iload_n 2, 1) := by decide +kernel
theorem d_M_isGone_28 : decode c_M_isGone 28 = .ok (.iadd, 1) := by decide +kernel
theorem d_M_isGone_29 : decode c_M_isGone 29 = .ok (.baload, 1) := by decide +kernel
theorem d_M_isGone_30 : decode c_M_isGone 30 = .ok (.ifCond .eq 7, 3) := by decide +kernel
theorem d_M_isGone_33 : decode c_M_isGone 33 = .ok (.iconst 1, 1) := by decide +kernel
theorem d_M_isGone_34 : decode c_M_isGone 34 = .ok (.goto 4, 3) := by decide +kernel
theorem d_M_isGone_37 : decode c_M_isGone 37 = .ok (.iconst 0, 1) := by decide +kernel
theorem d_M_isGone_38 : decode c_M_isGone 38 = .ok (.ireturn, 1) := by decide +kernel
theorem d_M_goneIn_0 : decode c_M_goneIn 0 = .ok (.iconst 0, 1) := by decide +kernel
theorem d_M_goneIn_1 : decode c_M_goneIn 1 = .ok (.istore_n 2, 1) := by decide +kernel
theorem d_M_goneIn_2 : decode c_M_goneIn 2 = .ok (.iconst 0, 1) := by decide +kernel
theorem d_M_goneIn_3 : decode c_M_goneIn 3 = .ok (.istore_n 3, 1) := by decide +kernel
theorem d_M_goneIn_4 : decode c_M_goneIn 4 = .ok (.iload_n 3, 1) := by decide +kernel
theorem d_M_goneIn_5 : decode c_M_goneIn 5 = .ok (.aload_n 0, 1) := by decide +kernel
theorem d_M_goneIn_6 : decode c_M_goneIn 6 = .ok (.getfield 62, 3) := by decide +kernel
theorem d_M_goneIn_9 : decode c_M_goneIn 9 = .ok (.if_icmp .ge 26, 3) := by decide +kernel
theorem d_M_goneIn_12 : decode c_M_goneIn 12 = .ok (.iload_n 2, 1) := by decide +kernel
theorem d_M_goneIn_13 : decode c_M_goneIn 13 = .ok (.aload_n 0, 1) := by decide +kernel
theorem d_M_goneIn_14 : decode c_M_goneIn 14 = .ok (.iload_n 3, 1) := by decide +kernel
theorem d_M_goneIn_15 : decode c_M_goneIn 15 = .ok (.iload_n 1, 1) := by decide +kernel
theorem d_M_goneIn_16 : decode c_M_goneIn 16 = .ok (.invokevirtual 110, 3) := by decide +kernel
theorem d_M_goneIn_19 : decode c_M_goneIn 19 = .ok (.ifCond .eq 7, 3) := by decide +kernel
theorem d_M_goneIn_22 : decode c_M_goneIn 22 = .ok (.iconst 1, 1) := by decide +kernel
theorem d_M_goneIn_23 : decode c_M_goneIn 23 = .ok (.goto 4, 3) := by decide +kernel
theorem d_M_goneIn_26 : decode c_M_goneIn 26 = .ok (.iconst 0, 1) := by decide +kernel
theorem d_M_goneIn_27 : decode c_M_goneIn 27 = .ok (.iadd, 1) := by decide +kernel
theorem d_M_goneIn_28 : decode c_M_goneIn 28 = .ok (.istore_n 2, 1) := by decide +kernel
theorem d_M_goneIn_29 : decode c_M_goneIn 29 = .ok (.iinc 3 1, 3) := by decide +kernel
theorem d_M_goneIn_32 : decode c_M_goneIn 32 = .ok (.goto (-28), 3) := by decide +kernel
theorem d_M_goneIn_35 : decode c_M_goneIn 35 = .ok (.iload_n 2, 1) := by decide +kernel
theorem d_M_goneIn_36 : decode c_M_goneIn 36 = .ok (.ireturn, 1) := by decide +kernel
theorem d_M_gone_0 : decode c_M_gone 0 = .ok (.aload_n 0, 1) := by decide +kernel
theorem d_M_gone_1 : decode c_M_gone 1 = .ok (.iconst 0, 1) := by decide +kernel
theorem d_M_gone_2 : decode c_M_gone 2 = .ok (.putfield 58, 3) := by decide +kernel
theorem d_M_gone_5 : decode c_M_gone 5 = .ok (.iload_n 1, 1) := by decide +kernel
theorem d_M_gone_6 : decode c_M_gone 6 = .ok (.iconst 2, 1) := by decide +kernel
theorem d_M_gone_7 : decode c_M_gone 7 = .ok (.if_icmp .lt 11, 3) := by decide +kernel
theorem d_M_gone_10 : decode c_M_gone 10 = .ok (.iload_n 1, 1) := by decide +kernel
theorem d_M_gone_11 : decode c_M_gone 11 = .ok (.aload_n 0, 1) := by decide +kernel
theorem d_M_gone_12 : decode c_M_gone 12 = .ok (.getfield 65, 3) := by decide +kernel
theorem d_M_gone_15 : decode c_M_gone 15 = .ok (.if_icmp .lt 7, 3) := by decide +kernel
theorem d_M_gone_18 : decode c_M_gone 18 = .ok (.iconst (-1), 1) := by decide +kernel
theorem d_M_gone_19 : decode c_M_gone 19 = .ok (.goto 8, 3) := by decide +kernel
theorem d_M_gone_22 : decode c_M_gone 22 = .ok (.aload_n 0, 1) := by decide +kernel
theorem d_M_gone_23 : decode c_M_gone 23 = .ok (.iload_n 1, 1) := by decide +kernel
theorem d_M_gone_24 : decode c_M_gone 24 = .ok (.invokevirtual 114, 3) := by decide +kernel
theorem d_M_gone_27 : decode c_M_gone 27 = .ok (.ireturn, 1) := by decide +kernel
theorem d_M_noDisk_0 : decode c_M_noDisk 0 = .ok (.iload_n 1, 1) := by decide +kernel
theorem d_M_noDisk_1 : decode c_M_noDisk 1 = .ok (.ifCond .lt 11, 3) := by decide +kernel
theorem d_M_noDisk_4 : decode c_M_noDisk 4 = .ok (.iload_n 1, 1) := by decide +kernel
theorem d_M_noDisk_5 : decode c_M_noDisk 5 = .ok (.aload_n 0, 1) := by decide +kernel
theorem d_M_noDisk_6 : decode c_M_noDisk 6 = .ok (.getfield 62, 3) := by decide +kernel
theorem d_M_noDisk_9 : decode c_M_noDisk 9 = .ok (.if_icmp .lt 7, 3) := by decide +kernel
theorem d_M_noDisk_12 : decode c_M_noDisk 12 = .ok (.iconst 1, 1) := by decide +kernel
theorem d_M_noDisk_13 : decode c_M_noDisk 13 = .ok (.goto 4, 3) := by decide +kernel
theorem d_M_noDisk_16 : decode c_M_noDisk 16 = .ok (.iconst 0, 1) := by decide +kernel
theorem d_M_noDisk_17 : decode c_M_noDisk 17 = .ok (.ireturn, 1) := by decide +kernel
theorem d_M_status_0 : decode c_M_status 0 = .ok (.aload_n 0, 1) := by decide +kernel
theorem d_M_status_1 : decode c_M_status 1 = .ok (.iconst 0, 1) := by decide +kernel
theorem d_M_status_2 : decode c_M_status 2 = .ok (.putfield 58, 3) := by decide +kernel
theorem d_M_status_5 : decode c_M_status 5 = .ok (.aload_n 0, 1) := by decide +kernel
theorem d_M_status_6 : decode c_M_status 6 = .ok (.iload_n 1, 1) := by decide +kernel
theorem d_M_status_7 : decode c_M_status 7 = .ok (.invokevirtual 117, 3) := by decide +kernel
theorem d_M_status_10 : decode c_M_status 10 = .ok (.ifCond .eq 8, 3) := by decide +kernel
theorem d_M_status_13 : decode c_M_status 13 = .ok (.bipush (-3), 2) := by decide +kernel
theorem d_M_status_15 : decode c_M_status 15 = .ok (.goto 22, 3) := by decide +kernel
theorem d_M_status_18 : decode c_M_status 18 = .ok (.aload_n 0, 1) := by decide +kernel
theorem d_M_status_19 : decode c_M_status 19 = .ok (.getfield 20, 3) := by decide +kernel
theorem d_M_status_22 : decode c_M_status 22 = .ok (.iload_n 1, 1) := by decide +kernel
theorem d_M_status_23 : decode c_M_status 23 = .ok (.baload, 1) := by decide +kernel
theorem d_M_status_24 : decode c_M_status 24 = .ok (.ifCond .eq 7, 3) := by decide +kernel
theorem d_M_status_27 : decode c_M_status 27 = .ok (.iconst (-1), 1) := by decide +kernel
theorem d_M_status_28 : decode c_M_status 28 = .ok (.goto 9, 3) := by decide +kernel
theorem d_M_status_31 : decode c_M_status 31 = .ok (.aload_n 0, 1) := by decide +kernel
theorem d_M_status_32 : decode c_M_status 32 = .ok (.getfield 23, 3) := by decide +kernel
theorem d_M_status_35 : decode c_M_status 35 = .ok (.iload_n 1, 1) := by decide +kernel
theorem d_M_status_36 : decode c_M_status 36 = .ok (.iaload, 1) := by decide +kernel
theorem d_M_status_37 : decode c_M_status 37 = .ok (.ireturn, 1) := by decide +kernel
theorem d_M_manyLost_0 : decode c_M_manyLost 0 = .ok (.iconst 0, 1) := by decide +kernel
theorem d_M_manyLost_1 : decode c_M_manyLost 1 = .ok (.istore_n 1, 1) := by decide +kernel
theorem d_M_manyLost_2 : decode c_M_manyLost 2 = .ok (.iconst 0, 1) := by decide +kernel
theorem d_M_manyLost_3 : decode c_M_manyLost 3 = .ok (.istore_n 2, 1) := by decide +kernel
theorem d_M_manyLost_4 : decode c_M_manyLost 4 = .ok (.iload_n 2, 1) := by decide +kernel
theorem d_M_manyLost_5 : decode c_M_manyLost 5 = .ok (.aload_n 0, 1) := by decide +kernel
theorem d_M_manyLost_6 : decode c_M_manyLost 6 = .ok (.getfield 62, 3) := by decide +kernel
theorem d_M_manyLost_9 : decode c_M_manyLost 9 = .ok (.if_icmp .ge 26, 3) := by decide +kernel
theorem d_M_manyLost_12 : decode c_M_manyLost 12 = .ok (.iload_n 1, 1) := by decide +kernel
theorem d_M_manyLost_13 : decode c_M_manyLost 13 = .ok (.aload_n 0, 1) := by decide +kernel
theorem d_M_manyLost_14 : decode c_M_manyLost 14 = .ok (.getfield 20, 3) := by decide +kernel
theorem d_M_manyLost_17 : decode c_M_manyLost 17 = .ok (.iload_n 2, 1) := by decide +kernel
theorem d_M_manyLost_18 : decode c_M_manyLost 18 = .ok (.baload, 1) := by decide +kernel
theorem d_M_manyLost_19 : decode c_M_manyLost 19 = .ok (.ifCond .eq 7, 3) := by decide +kernel
theorem d_M_manyLost_22 : decode c_M_manyLost 22 = .ok (.iconst 1, 1) := by decide +kernel
theorem d_M_manyLost_23 : decode c_M_manyLost 23 = .ok (.goto 4, 3) := by decide +kernel
theorem d_M_manyLost_26 : decode c_M_manyLost 26 = .ok (.iconst 0, 1) := by decide +kernel
theorem d_M_manyLost_27 : decode c_M_manyLost 27 = .ok (.iadd, 1) := by decide +kernel
theorem d_M_manyLost_28 : decode c_M_manyLost 28 = .ok (.istore_n 1, 1) := by decide +kernel
theorem d_M_manyLost_29 : decode c_M_manyLost 29 = .ok (.iinc 2 1, 3) := by decide +kernel
theorem d_M_manyLost_32 : decode c_M_manyLost 32 = .ok (.goto (-28), 3) := by decide +kernel
theorem d_M_manyLost_35 : decode c_M_manyLost 35 = .ok (.iload_n 1, 1) := by decide +kernel
theorem d_M_manyLost_36 : decode c_M_manyLost 36 = .ok (.ireturn, 1) := by decide +kernel
theorem d_M_isBlank_0 : decode c_M_isBlank 0 = .ok (.aload_n 0, 1) := by decide +kernel
theorem d_M_isBlank_1 : decode c_M_isBlank 1 = .ok (.getfield 20, 3) := by decide +kernel
theorem d_M_isBlank_4 : decode c_M_isBlank 4 = .ok (.iload_n 1, 1) := by decide +kernel
theorem d_M_isBlank_5 : decode c_M_isBlank 5 = .ok (.baload, 1) := by decide +kernel
theorem d_M_isBlank_6 : decode c_M_isBlank 6 = .ok (.ifCond .ne 20, 3) := by decide +kernel
theorem d_M_isBlank_9 : decode c_M_isBlank 9 = .ok (.aload_n 0, 1) := by decide +kernel
theorem d_M_isBlank_10 : decode c_M_isBlank 10 = .ok (.getfield 23, 3) := by decide +kernel
theorem d_M_isBlank_13 : decode c_M_isBlank 13 = .ok (.iload_n 1, 1) := by decide +kernel
theorem d_M_isBlank_14 : decode c_M_isBlank 14 = .ok (.iaload, 1) := by decide +kernel
theorem d_M_isBlank_15 : decode c_M_isBlank 15 = .ok (.aload_n 0, 1) := by decide +kernel
theorem d_M_isBlank_16 : decode c_M_isBlank 16 = .ok (.getfield 65, 3) := by decide +kernel
theorem d_M_isBlank_19 : decode c_M_isBlank 19 = .ok (.if_icmp .ge 7, 3) := by decide +kernel
theorem d_M_isBlank_22 : decode c_M_isBlank 22 = .ok (.iconst 1, 1) := by decide +kernel
theorem d_M_isBlank_23 : decode c_M_isBlank 23 = .ok (.goto 4, 3) := by decide +kernel
theorem d_M_isBlank_26 : decode c_M_isBlank 26 = .ok (.iconst 0, 1) := by decide +kernel
theorem d_M_isBlank_27 : decode c_M_isBlank 27 = .ok (.ireturn, 1) := by decide +kernel
theorem d_M_noBlock_0 : decode c_M_noBlock 0 = .ok (.iload_n 1, 1) := by decide +kernel
theorem d_M_noBlock_1 : decode c_M_noBlock 1 = .ok (.ifCond .lt 11, 3) := by decide +kernel
theorem d_M_noBlock_4 : decode c_M_noBlock 4 = .ok (.iload_n 1, 1) := by decide +kernel
theorem d_M_noBlock_5 : decode c_M_noBlock 5 = .ok (.aload_n 0, 1) := by decide +kernel
theorem d_M_noBlock_6 : decode c_M_noBlock 6 = .ok (.invokevirtual 86, 3) := by decide +kernel
theorem d_M_noBlock_9 : decode c_M_noBlock 9 = .ok (.if_icmp .lt 7, 3) := by decide +kernel
theorem d_M_noBlock_12 : decode c_M_noBlock 12 = .ok (.iconst 1, 1) := by decide +kernel
theorem d_M_noBlock_13 : decode c_M_noBlock 13 = .ok (.goto 4, 3) := by decide +kernel
theorem d_M_noBlock_16 : decode c_M_noBlock 16 = .ok (.iconst 0, 1) := by decide +kernel
theorem d_M_noBlock_17 : decode c_M_noBlock 17 = .ok (.ireturn, 1) := by decide +kernel
theorem d_M_rowOf_0 : decode c_M_rowOf 0 = .ok (.bipush 6, 2) := by decide +kernel
theorem d_M_rowOf_2 : decode c_M_rowOf 2 = .ok (.iload_n 1, 1) := by decide +kernel
theorem d_M_rowOf_3 : decode c_M_rowOf 3 = .ok (.aload_n 0, 1) := by decide +kernel
theorem d_M_rowOf_4 : decode c_M_rowOf 4 = .ok (.getfield 62, 3) := by decide +kernel
theorem d_M_rowOf_7 : decode c_M_rowOf 7 = .ok (.iconst 2, 1) := by decide +kernel
theorem d_M_rowOf_8 : decode c_M_rowOf 8 = .ok (.isub, 1) := by decide +kernel
theorem d_M_rowOf_9 : decode c_M_rowOf 9 = .ok (.idiv, 1) := by decide +kernel
theorem d_M_rowOf_10 : decode c_M_rowOf 10 = .ok (.iadd, 1) := by decide +kernel
theorem d_M_rowOf_11 : decode c_M_rowOf 11 = .ok (.ireturn, 1) := by decide +kernel
theorem d_M_inRow_0 : decode c_M_inRow 0 = .ok (.iconst 0, 1) := by decide +kernel
theorem d_M_inRow_1 : decode c_M_inRow 1 = .ok (.istore_n 3, 1) := by decide +kernel
theorem d_M_inRow_2 : decode c_M_inRow 2 = .ok (.iconst 0, 1) := by decide +kernel
theorem d_M_inRow_3 : decode c_M_inRow 3 = .ok (.istore 4, 2) := by decide +kernel
theorem d_M_inRow_5 : decode c_M_inRow 5 = .ok (.iload 4, 2) := by decide +kernel
theorem d_M_inRow_7 : decode c_M_inRow 7 = .ok (.aload_n 0, 1) := by decide +kernel
theorem d_M_inRow_8 : decode c_M_inRow 8 = .ok (.invokevirtual 86, 3) := by decide +kernel
theorem d_M_inRow_11 : decode c_M_inRow 11 = .ok (.if_icmp .ge 34, 3) := by decide +kernel
theorem d_M_inRow_14 : decode c_M_inRow 14 = .ok (.iload_n 3, 1) := by decide +kernel
theorem d_M_inRow_15 : decode c_M_inRow 15 = .ok (.aload_n 1, 1) := by decide +kernel
theorem d_M_inRow_16 : decode c_M_inRow 16 = .ok (.iload 4, 2) := by decide +kernel
theorem d_M_inRow_18 : decode c_M_inRow 18 = .ok (.baload, 1) := by decide +kernel
theorem d_M_inRow_19 : decode c_M_inRow 19 = .ok (.ifCond .eq 17, 3) := by decide +kernel
theorem d_M_inRow_22 : decode c_M_inRow 22 = .ok (.aload_n 0, 1) := by decide +kernel
theorem d_M_inRow_23 : decode c_M_inRow 23 = .ok (.iload 4, 2) := by decide +kernel
theorem d_M_inRow_25 : decode c_M_inRow 25 = .ok (.invokevirtual 121, 3) := by decide +kernel
theorem d_M_inRow_28 : decode c_M_inRow 28 = .ok (.iload_n 2, 1) := by decide +kernel
theorem d_M_inRow_29 : decode c_M_inRow 29 = .ok (.if_icmp .ne 7, 3) := by decide +kernel
theorem d_M_inRow_32 : decode c_M_inRow 32 = .ok (.iconst 1, 1) := by decide +kernel
theorem d_M_inRow_33 : decode c_M_inRow 33 = .ok (.goto 4, 3) := by decide +kernel
theorem d_M_inRow_36 : decode c_M_inRow 36 = .ok (.iconst 0, 1) := by decide +kernel
theorem d_M_inRow_37 : decode c_M_inRow 37 = .ok (.iadd, 1) := by decide +kernel
theorem d_M_inRow_38 : decode c_M_inRow 38 = .ok (.istore_n 3, 1) := by decide +kernel
theorem d_M_inRow_39 : decode c_M_inRow 39 = .ok (.iinc 4 1, 3) := by decide +kernel
theorem d_M_inRow_42 : decode c_M_inRow 42 = .ok (.goto (-37), 3) := by decide +kernel
theorem d_M_inRow_45 : decode c_M_inRow 45 = .ok (.iload_n 3, 1) := by decide +kernel
theorem d_M_inRow_46 : decode c_M_inRow 46 = .ok (.ireturn, 1) := by decide +kernel
theorem d_M_many_0 : decode c_M_many 0 = .ok (.iconst 0, 1) := by decide +kernel
theorem d_M_many_1 : decode c_M_many 1 = .ok (.istore_n 1, 1) := by decide +kernel
theorem d_M_many_2 : decode c_M_many 2 = .ok (.iconst 0, 1) := by decide +kernel
theorem d_M_many_3 : decode c_M_many 3 = .ok (.istore_n 2, 1) := by decide +kernel
theorem d_M_many_4 : decode c_M_many 4 = .ok (.iload_n 2, 1) := by decide +kernel
theorem d_M_many_5 : decode c_M_many 5 = .ok (.aload_n 0, 1) := by decide +kernel
theorem d_M_many_6 : decode c_M_many 6 = .ok (.invokevirtual 86, 3) := by decide +kernel
theorem d_M_many_9 : decode c_M_many 9 = .ok (.if_icmp .ge 26, 3) := by decide +kernel
theorem d_M_many_12 : decode c_M_many 12 = .ok (.iload_n 1, 1) := by decide +kernel
theorem d_M_many_13 : decode c_M_many 13 = .ok (.aload_n 0, 1) := by decide +kernel
theorem d_M_many_14 : decode c_M_many 14 = .ok (.getfield 16, 3) := by decide +kernel
theorem d_M_many_17 : decode c_M_many 17 = .ok (.iload_n 2, 1) := by decide +kernel
theorem d_M_many_18 : decode c_M_many 18 = .ok (.baload, 1) := by decide +kernel
theorem d_M_many_19 : decode c_M_many 19 = .ok (.ifCond .eq 7, 3) := by decide +kernel
theorem d_M_many_22 : decode c_M_many 22 = .ok (.iconst 1, 1) := by decide +kernel
theorem d_M_many_23 : decode c_M_many 23 = .ok (.goto 4, 3) := by decide +kernel
theorem d_M_many_26 : decode c_M_many 26 = .ok (.iconst 0, 1) := by decide +kernel
theorem d_M_many_27 : decode c_M_many 27 = .ok (.iadd, 1) := by decide +kernel
theorem d_M_many_28 : decode c_M_many 28 = .ok (.istore_n 1, 1) := by decide +kernel
theorem d_M_many_29 : decode c_M_many 29 = .ok (.iinc 2 1, 3) := by decide +kernel
theorem d_M_many_32 : decode c_M_many 32 = .ok (.goto (-28), 3) := by decide +kernel
theorem d_M_many_35 : decode c_M_many 35 = .ok (.iload_n 1, 1) := by decide +kernel
theorem d_M_many_36 : decode c_M_many 36 = .ok (.ireturn, 1) := by decide +kernel
theorem d_M_use_0 : decode c_M_use 0 = .ok (.aload_n 0, 1) := by decide +kernel
theorem d_M_use_1 : decode c_M_use 1 = .ok (.invokevirtual 124, 3) := by decide +kernel
theorem d_M_use_4 : decode c_M_use 4 = .ok (.istore_n 1, 1) := by decide +kernel
theorem d_M_use_5 : decode c_M_use 5 = .ok (.iconst 0, 1) := by decide +kernel
theorem d_M_use_6 : decode c_M_use 6 = .ok (.istore_n 2, 1) := by decide +kernel
theorem d_M_use_7 : decode c_M_use 7 = .ok (.bipush 6, 2) := by decide +kernel
theorem d_M_use_9 : decode c_M_use 9 = .ok (.istore_n 3, 1) := by decide +kernel
theorem d_M_use_10 : decode c_M_use 10 = .ok (.iload_n 3, 1) := by decide +kernel
theorem d_M_use_11 : decode c_M_use 11 = .ok (.aload_n 0, 1) := by decide +kernel
theorem d_M_use_12 : decode c_M_use 12 = .ok (.getfield 65, 3) := by decide +kernel
theorem d_M_use_15 : decode c_M_use 15 = .ok (.if_icmp .ge 29, 3) := by decide +kernel
theorem d_M_use_18 : decode c_M_use 18 = .ok (.iload_n 2, 1) := by decide +kernel
theorem d_M_use_19 : decode c_M_use 19 = .ok (.aload_n 0, 1) := by decide +kernel
theorem d_M_use_20 : decode c_M_use 20 = .ok (.aload_n 0, 1) := by decide +kernel
theorem d_M_use_21 : decode c_M_use 21 = .ok (.getfield 16, 3) := by decide +kernel
theorem d_M_use_24 : decode c_M_use 24 = .ok (.iload_n 3, 1) := by decide +kernel
theorem d_M_use_25 : decode c_M_use 25 = .ok (.invokevirtual 127, 3) := by decide +kernel
theorem d_M_use_28 : decode c_M_use 28 = .ok (.ifCond .le 7, 3) := by decide +kernel
theorem d_M_use_31 : decode c_M_use 31 = .ok (.iconst 1, 1) := by decide +kernel
theorem d_M_use_32 : decode c_M_use 32 = .ok (.goto 4, 3) := by decide +kernel
theorem d_M_use_35 : decode c_M_use 35 = .ok (.iconst 0, 1) := by decide +kernel
theorem d_M_use_36 : decode c_M_use 36 = .ok (.iadd, 1) := by decide +kernel
theorem d_M_use_37 : decode c_M_use 37 = .ok (.istore_n 2, 1) := by decide +kernel
theorem d_M_use_38 : decode c_M_use 38 = .ok (.iinc 3 1, 3) := by decide +kernel
theorem d_M_use_41 : decode c_M_use 41 = .ok (.goto (-31), 3) := by decide +kernel
theorem d_M_use_44 : decode c_M_use 44 = .ok (.iload_n 1, 1) := by decide +kernel
theorem d_M_use_45 : decode c_M_use 45 = .ok (.ifCond .ne 7, 3) := by decide +kernel
theorem d_M_use_48 : decode c_M_use 48 = .ok (.iconst 0, 1) := by decide +kernel
theorem d_M_use_49 : decode c_M_use 49 = .ok (.goto 10, 3) := by decide +kernel
theorem d_M_use_52 : decode c_M_use 52 = .ok (.iconst 1, 1) := by decide +kernel
theorem d_M_use_53 : decode c_M_use 53 = .ok (.iload_n 1, 1) := by decide +kernel
theorem d_M_use_54 : decode c_M_use 54 = .ok (.iadd, 1) := by decide +kernel
theorem d_M_use_55 : decode c_M_use 55 = .ok (.iconst 2, 1) := by decide +kernel
theorem d_M_use_56 : decode c_M_use 56 = .ok (.iload_n 2, 1) := by decide +kernel
theorem d_M_use_57 : decode c_M_use 57 = .ok (.imul, 1) := by decide +kernel
theorem d_M_use_58 : decode c_M_use 58 = .ok (.iadd, 1) := by decide +kernel
theorem d_M_use_59 : decode c_M_use 59 = .ok (.ireturn, 1) := by decide +kernel
theorem d_M_write_0 : decode c_M_write 0 = .ok (.aload_n 0, 1) := by decide +kernel
theorem d_M_write_1 : decode c_M_write 1 = .ok (.iconst 0, 1) := by decide +kernel
theorem d_M_write_2 : decode c_M_write 2 = .ok (.putfield 58, 3) := by decide +kernel
theorem d_M_write_5 : decode c_M_write 5 = .ok (.aload_n 0, 1) := by decide +kernel
theorem d_M_write_6 : decode c_M_write 6 = .ok (.getfield 68, 3) := by decide +kernel
theorem d_M_write_9 : decode c_M_write 9 = .ok (.ifCond .eq 6, 3) := by decide +kernel
theorem d_M_write_12 : decode c_M_write 12 = .ok (.bipush (-2), 2) := by decide +kernel
theorem d_M_write_14 : decode c_M_write 14 = .ok (.ireturn, 1) := by decide +kernel
theorem d_M_write_15 : decode c_M_write 15 = .ok (.aload_n 0, 1) := by decide +kernel
theorem d_M_write_16 : decode c_M_write 16 = .ok (.iload_n 1, 1) := by decide +kernel
theorem d_M_write_17 : decode c_M_write 17 = .ok (.invokevirtual 131, 3) := by decide +kernel
theorem d_M_write_20 : decode c_M_write 20 = .ok (.ifCond .ne 39, 3) := by decide +kernel
theorem d_M_write_23 : decode c_M_write 23 = .ok (.iload_n 3, 1) := by decide +kernel
theorem d_M_write_24 : decode c_M_write 24 = .ok (.iconst 1, 1) := by decide +kernel
theorem d_M_write_25 : decode c_M_write 25 = .ok (.if_icmp .lt 34, 3) := by decide +kernel
theorem d_M_write_28 : decode c_M_write 28 = .ok (.iload_n 3, 1) := by decide +kernel
theorem d_M_write_29 : decode c_M_write 29 = .ok (.bipush 64, 2) := by decide +kernel
theorem d_M_write_31 : decode c_M_write 31 = .ok (.if_icmp .gt 28, 3) := by decide +kernel
theorem d_M_write_34 : decode c_M_write 34 = .ok (.iload_n 2, 1) := by decide +kernel
theorem d_M_write_35 : decode c_M_write 35 = .ok (.ifCond .lt 24, 3) := by decide +kernel
theorem d_M_write_38 : decode c_M_write 38 = .ok (.iload_n 2, 1) := by decide +kernel
theorem d_M_write_39 : decode c_M_write 39 = .ok (.bipush 64, 2) := by decide +kernel
theorem d_M_write_41 : decode c_M_write 41 = .ok (.iload_n 3, 1) := by decide +kernel
theorem d_M_write_42 : decode c_M_write 42 = .ok (.isub, 1) := by decide +kernel
theorem d_M_write_43 : decode c_M_write 43 = .ok (.if_icmp .gt 16, 3) := by decide +kernel
theorem d_M_write_46 : decode c_M_write 46 = .ok (.iload 4, 2) := by decide +kernel
theorem d_M_write_48 : decode c_M_write 48 = .ok (.ifCond .lt 11, 3) := by decide +kernel
theorem d_M_write_51 : decode c_M_write 51 = .ok (.iload 4, 2) := by decide +kernel
theorem d_M_write_53 : decode c_M_write 53 = .ok (.sipush 255, 3) := by decide +kernel
theorem d_M_write_56 : decode c_M_write 56 = .ok (.if_icmp .le 5, 3) := by decide +kernel
theorem d_M_write_59 : decode c_M_write 59 = .ok (.iconst (-1), 1) := by decide +kernel
theorem d_M_write_60 : decode c_M_write 60 = .ok (.ireturn, 1) := by decide +kernel
theorem d_M_write_61 : decode c_M_write 61 = .ok (.aload_n 0, 1) := by decide +kernel
theorem d_M_write_62 : decode c_M_write 62 = .ok (.getfield 16, 3) := by decide +kernel
theorem d_M_write_65 : decode c_M_write 65 = .ok (.iload_n 1, 1) := by decide +kernel
theorem d_M_write_66 : decode c_M_write 66 = .ok (.baload, 1) := by decide +kernel
theorem d_M_write_67 : decode c_M_write 67 = .ok (.istore 5, 2) := by decide +kernel
theorem d_M_write_69 : decode c_M_write 69 = .ok (.aload_n 0, 1) := by decide +kernel
theorem d_M_write_70 : decode c_M_write 70 = .ok (.getfield 16, 3) := by decide +kernel
theorem d_M_write_73 : decode c_M_write 73 = .ok (.iload_n 1, 1) := by decide +kernel
theorem d_M_write_74 : decode c_M_write 74 = .ok (.iconst 1, 1) := by decide +kernel
theorem d_M_write_75 : decode c_M_write 75 = .ok (.bastore, 1) := by decide +kernel
theorem d_M_write_76 : decode c_M_write 76 = .ok (.aload_n 0, 1) := by decide +kernel
theorem d_M_write_77 : decode c_M_write 77 = .ok (.invokevirtual 134, 3) := by decide +kernel
theorem d_M_write_80 : decode c_M_write 80 = .ok (.iconst 4, 1) := by decide +kernel
theorem d_M_write_81 : decode c_M_write 81 = .ok (.aload_n 0, 1) := by decide +kernel
theorem d_M_write_82 : decode c_M_write 82 = .ok (.getfield 62, 3) := by decide +kernel
theorem d_M_write_85 : decode c_M_write 85 = .ok (.iconst 2, 1) := by decide +kernel
theorem d_M_write_86 : decode c_M_write 86 = .ok (.isub, 1) := by decide +kernel
theorem d_M_write_87 : decode c_M_write 87 = .ok (.imul, 1) := by decide +kernel
theorem d_M_write_88 : decode c_M_write 88 = .ok (.if_icmp .le 14, 3) := by decide +kernel
theorem d_M_write_91 : decode c_M_write 91 = .ok (.aload_n 0, 1) := by decide +kernel
theorem d_M_write_92 : decode c_M_write 92 = .ok (.getfield 16, 3) := by decide +kernel
theorem d_M_write_95 : decode c_M_write 95 = .ok (.iload_n 1, 1) := by decide +kernel
theorem d_M_write_96 : decode c_M_write 96 = .ok (.iload 5, 2) := by decide +kernel
theorem d_M_write_98 : decode c_M_write 98 = .ok (.bastore, 1) := by decide +kernel
theorem d_M_write_99 : decode c_M_write 99 = .ok (.bipush (-3), 2) := by decide +kernel
theorem d_M_write_101 : decode c_M_write 101 = .ok (.ireturn, 1) := by decide +kernel
theorem d_M_write_102 : decode c_M_write 102 = .ok (.iconst 0, 1) := by decide +kernel
theorem d_M_write_103 : decode c_M_write 103 = .ok (.istore 6, 2) := by decide +kernel
theorem d_M_write_105 : decode c_M_write 105 = .ok (.iload 6, 2) := by decide +kernel
theorem d_M_write_107 : decode c_M_write 107 = .ok (.iload_n 3, 1) := by decide +kernel
theorem d_M_write_108 : decode c_M_write 108 = .ok (.if_icmp .ge 26, 3) := by decide +kernel
theorem d_M_write_111 : decode c_M_write 111 = .ok (.aload_n 0, 1) := by decide +kernel
theorem d_M_write_112 : decode c_M_write 112 = .ok (.getfield 7, 3) := by decide +kernel
theorem d_M_write_115 : decode c_M_write 115 = .ok (.bipush 64, 2) := by decide +kernel
theorem d_M_write_117 : decode c_M_write 117 = .ok (.iload_n 1, 1) := by decide +kernel
theorem d_M_write_118 : decode c_M_write 118 = .ok (.imul, 1) := by decide +kernel
theorem d_M_write_119 : decode c_M_write 119 = .ok (.iload_n 2, 1) := by decide +kernel
theorem d_M_write_120 : decode c_M_write 120 = .ok (.iadd, 1) := by decide +kernel
theorem d_M_write_121 : decode c_M_write 121 = .ok (.iload 6, 2) := by decide +kernel
theorem d_M_write_123 : decode c_M_write 123 = .ok (.iadd, 1) := by decide +kernel
theorem d_M_write_124 : decode c_M_write 124 = .ok (.iload 4, 2) := by decide +kernel
theorem d_M_write_126 : decode c_M_write 126 = .ok (.i2b, 1) := by decide +kernel
theorem d_M_write_127 : decode c_M_write 127 = .ok (.bastore, 1) := by decide +kernel
theorem d_M_write_128 : decode c_M_write 128 = .ok (.iinc 6 1, 3) := by decide +kernel
theorem d_M_write_131 : decode c_M_write 131 = .ok (.goto (-26), 3) := by decide +kernel
theorem d_M_write_134 : decode c_M_write 134 = .ok (.aload_n 0, 1) := by decide +kernel
theorem d_M_write_135 : decode c_M_write 135 = .ok (.invokevirtual 134, 3) := by decide +kernel
theorem d_M_write_138 : decode c_M_write 138 = .ok (.ireturn, 1) := by decide +kernel
theorem d_M_read_0 : decode c_M_read 0 = .ok (.aload_n 0, 1) := by decide +kernel
theorem d_M_read_1 : decode c_M_read 1 = .ok (.iconst 0, 1) := by decide +kernel
theorem d_M_read_2 : decode c_M_read 2 = .ok (.putfield 58, 3) := by decide +kernel
theorem d_M_read_5 : decode c_M_read 5 = .ok (.aload_n 0, 1) := by decide +kernel
theorem d_M_read_6 : decode c_M_read 6 = .ok (.getfield 68, 3) := by decide +kernel
theorem d_M_read_9 : decode c_M_read 9 = .ok (.ifCond .eq 8, 3) := by decide +kernel
theorem d_M_read_12 : decode c_M_read 12 = .ok (.bipush (-2), 2) := by decide +kernel
theorem d_M_read_14 : decode c_M_read 14 = .ok (.goto 40, 3) := by decide +kernel
theorem d_M_read_17 : decode c_M_read 17 = .ok (.aload_n 0, 1) := by decide +kernel
theorem d_M_read_18 : decode c_M_read 18 = .ok (.iload_n 1, 1) := by decide +kernel
theorem d_M_read_19 : decode c_M_read 19 = .ok (.invokevirtual 131, 3) := by decide +kernel
theorem d_M_read_22 : decode c_M_read 22 = .ok (.ifCond .ne 13, 3) := by decide +kernel
theorem d_M_read_25 : decode c_M_read 25 = .ok (.iload_n 2, 1) := by decide +kernel
theorem d_M_read_26 : decode c_M_read 26 = .ok (.ifCond .lt 9, 3) := by decide +kernel
theorem d_M_read_29 : decode c_M_read 29 = .ok (.iload_n 2, 1) := by decide +kernel
theorem d_M_read_30 : decode c_M_read 30 = .ok (.bipush 64, 2) := by decide +kernel
theorem d_M_read_32 : decode c_M_read 32 = .ok (.if_icmp .lt 7, 3) := by decide +kernel
theorem d_M_read_35 : decode c_M_read 35 = .ok (.iconst (-1), 1) := by decide +kernel
theorem d_M_read_36 : decode c_M_read 36 = .ok (.goto 18, 3) := by decide +kernel
theorem d_M_read_39 : decode c_M_read 39 = .ok (.aload_n 0, 1) := by decide +kernel
theorem d_M_read_40 : decode c_M_read 40 = .ok (.getfield 7, 3) := by decide +kernel
theorem d_M_read_43 : decode c_M_read 43 = .ok (.bipush 64, 2) := by decide +kernel
theorem d_M_read_45 : decode c_M_read 45 = .ok (.iload_n 1, 1) := by decide +kernel
theorem d_M_read_46 : decode c_M_read 46 = .ok (.imul, 1) := by decide +kernel
theorem d_M_read_47 : decode c_M_read 47 = .ok (.iload_n 2, 1) := by decide +kernel
theorem d_M_read_48 : decode c_M_read 48 = .ok (.iadd, 1) := by decide +kernel
theorem d_M_read_49 : decode c_M_read 49 = .ok (.baload, 1) := by decide +kernel
theorem d_M_read_50 : decode c_M_read 50 = .ok (.sipush 255, 3) := by decide +kernel
theorem d_M_read_53 : decode c_M_read 53 = .ok (.iand, 1) := by decide +kernel
theorem d_M_read_54 : decode c_M_read 54 = .ok (.ireturn, 1) := by decide +kernel
theorem d_M_copy_0 : decode c_M_copy 0 = .ok (.bipush 64, 2) := by decide +kernel
theorem d_M_copy_2 : decode c_M_copy 2 = .ok (.iload_n 3, 1) := by decide +kernel
theorem d_M_copy_3 : decode c_M_copy 3 = .ok (.imul, 1) := by decide +kernel
theorem d_M_copy_4 : decode c_M_copy 4 = .ok (.istore 4, 2) := by decide +kernel
theorem d_M_copy_6 : decode c_M_copy 6 = .ok (.iload 4, 2) := by decide +kernel
theorem d_M_copy_8 : decode c_M_copy 8 = .ok (.bipush 64, 2) := by decide +kernel
theorem d_M_copy_10 : decode c_M_copy 10 = .ok (.iload_n 3, 1) := by decide +kernel
theorem d_M_copy_11 : decode c_M_copy 11 = .ok (.imul, 1) := by decide +kernel
theorem d_M_copy_12 : decode c_M_copy 12 = .ok (.bipush 64, 2) := by decide +kernel
theorem d_M_copy_14 : decode c_M_copy 14 = .ok (.iadd, 1) := by decide +kernel
end
section
theorem d_M_copy_15 : decode c_M_copy 15 = .ok (.if_icmp .ge 17, 3) := by decide +kernel
theorem d_M_copy_18 : decode c_M_copy 18 = .ok (.aload_n 2, 1) := by decide +kernel
theorem d_M_copy_19 : decode c_M_copy 19 = .ok (.iload 4, 2) := by decide +kernel
theorem d_M_copy_21 : decode c_M_copy 21 = .ok (.aload_n 1, 1) := by decide +kernel
theorem d_M_copy_22 : decode c_M_copy 22 = .ok (.iload 4, 2) := by decide +kernel
theorem d_M_copy_24 : decode c_M_copy 24 = .ok (.baload, 1) := by decide +kernel
theorem d_M_copy_25 : decode c_M_copy 25 = .ok (.bastore, 1) := by decide +kernel
theorem d_M_copy_26 : decode c_M_copy 26 = .ok (.iinc 4 1, 3) := by decide +kernel
theorem d_M_copy_29 : decode c_M_copy 29 = .ok (.goto (-23), 3) := by decide +kernel
theorem d_M_copy_32 : decode c_M_copy 32 = .ok (.return_, 1) := by decide +kernel
theorem d_M_commit_0 : decode c_M_commit 0 = .ok (.aload_n 0, 1) := by decide +kernel
theorem d_M_commit_1 : decode c_M_commit 1 = .ok (.iconst 0, 1) := by decide +kernel
theorem d_M_commit_2 : decode c_M_commit 2 = .ok (.putfield 58, 3) := by decide +kernel
theorem d_M_commit_5 : decode c_M_commit 5 = .ok (.aload_n 0, 1) := by decide +kernel
theorem d_M_commit_6 : decode c_M_commit 6 = .ok (.getfield 68, 3) := by decide +kernel
theorem d_M_commit_9 : decode c_M_commit 9 = .ok (.ifCond .eq 6, 3) := by decide +kernel
theorem d_M_commit_12 : decode c_M_commit 12 = .ok (.bipush (-2), 2) := by decide +kernel
theorem d_M_commit_14 : decode c_M_commit 14 = .ok (.ireturn, 1) := by decide +kernel
theorem d_M_commit_15 : decode c_M_commit 15 = .ok (.iload_n 1, 1) := by decide +kernel
theorem d_M_commit_16 : decode c_M_commit 16 = .ok (.ifCond .lt 8, 3) := by decide +kernel
theorem d_M_commit_19 : decode c_M_commit 19 = .ok (.iload_n 1, 1) := by decide +kernel
theorem d_M_commit_20 : decode c_M_commit 20 = .ok (.iconst 4, 1) := by decide +kernel
theorem d_M_commit_21 : decode c_M_commit 21 = .ok (.if_icmp .le 5, 3) := by decide +kernel
theorem d_M_commit_24 : decode c_M_commit 24 = .ok (.iconst (-1), 1) := by decide +kernel
theorem d_M_commit_25 : decode c_M_commit 25 = .ok (.ireturn, 1) := by decide +kernel
theorem d_M_commit_26 : decode c_M_commit 26 = .ok (.aload_n 0, 1) := by decide +kernel
theorem d_M_commit_27 : decode c_M_commit 27 = .ok (.invokevirtual 134, 3) := by decide +kernel
theorem d_M_commit_30 : decode c_M_commit 30 = .ok (.istore 4, 2) := by decide +kernel
theorem d_M_commit_32 : decode c_M_commit 32 = .ok (.iload 4, 2) := by decide +kernel
theorem d_M_commit_34 : decode c_M_commit 34 = .ok (.ifCond .ne 5, 3) := by decide +kernel
theorem d_M_commit_37 : decode c_M_commit 37 = .ok (.iconst 0, 1) := by decide +kernel
theorem d_M_commit_38 : decode c_M_commit 38 = .ok (.ireturn, 1) := by decide +kernel
theorem d_M_commit_39 : decode c_M_commit 39 = .ok (.iload_n 1, 1) := by decide +kernel
theorem d_M_commit_40 : decode c_M_commit 40 = .ok (.iconst 1, 1) := by decide +kernel
theorem d_M_commit_41 : decode c_M_commit 41 = .ok (.if_icmp .ne 8, 3) := by decide +kernel
theorem d_M_commit_44 : decode c_M_commit 44 = .ok (.aload_n 0, 1) := by decide +kernel
theorem d_M_commit_45 : decode c_M_commit 45 = .ok (.invokevirtual 107, 3) := by decide +kernel
theorem d_M_commit_48 : decode c_M_commit 48 = .ok (.ireturn, 1) := by decide +kernel
theorem d_M_commit_49 : decode c_M_commit 49 = .ok (.iconst 0, 1) := by decide +kernel
theorem d_M_commit_50 : decode c_M_commit 50 = .ok (.istore 5, 2) := by decide +kernel
theorem d_M_commit_52 : decode c_M_commit 52 = .ok (.iload 5, 2) := by decide +kernel
theorem d_M_commit_54 : decode c_M_commit 54 = .ok (.aload_n 0, 1) := by decide +kernel
theorem d_M_commit_55 : decode c_M_commit 55 = .ok (.invokevirtual 86, 3) := by decide +kernel
theorem d_M_commit_58 : decode c_M_commit 58 = .ok (.if_icmp .ge 37, 3) := by decide +kernel
theorem d_M_commit_61 : decode c_M_commit 61 = .ok (.aload_n 0, 1) := by decide +kernel
theorem d_M_commit_62 : decode c_M_commit 62 = .ok (.getfield 51, 3) := by decide +kernel
theorem d_M_commit_65 : decode c_M_commit 65 = .ok (.iload 5, 2) := by decide +kernel
theorem d_M_commit_67 : decode c_M_commit 67 = .ok (.aload_n 0, 1) := by decide +kernel
theorem d_M_commit_68 : decode c_M_commit 68 = .ok (.getfield 16, 3) := by decide +kernel
theorem d_M_commit_71 : decode c_M_commit 71 = .ok (.iload 5, 2) := by decide +kernel
theorem d_M_commit_73 : decode c_M_commit 73 = .ok (.baload, 1) := by decide +kernel
theorem d_M_commit_74 : decode c_M_commit 74 = .ok (.bastore, 1) := by decide +kernel
theorem d_M_commit_75 : decode c_M_commit 75 = .ok (.aload_n 0, 1) := by decide +kernel
theorem d_M_commit_76 : decode c_M_commit 76 = .ok (.aload_n 0, 1) := by decide +kernel
theorem d_M_commit_77 : decode c_M_commit 77 = .ok (.getfield 7, 3) := by decide +kernel
theorem d_M_commit_80 : decode c_M_commit 80 = .ok (.aload_n 0, 1) := by decide +kernel
theorem d_M_commit_81 : decode c_M_commit 81 = .ok (.getfield 48, 3) := by decide +kernel
theorem d_M_commit_84 : decode c_M_commit 84 = .ok (.iload 5, 2) := by decide +kernel
theorem d_M_commit_86 : decode c_M_commit 86 = .ok (.invokevirtual 137, 3) := by decide +kernel
theorem d_M_commit_89 : decode c_M_commit 89 = .ok (.iinc 5 1, 3) := by decide +kernel
theorem d_M_commit_92 : decode c_M_commit 92 = .ok (.goto (-40), 3) := by decide +kernel
theorem d_M_commit_95 : decode c_M_commit 95 = .ok (.iload_n 1, 1) := by decide +kernel
theorem d_M_commit_96 : decode c_M_commit 96 = .ok (.iconst 2, 1) := by decide +kernel
theorem d_M_commit_97 : decode c_M_commit 97 = .ok (.if_icmp .ne 10, 3) := by decide +kernel
theorem d_M_commit_100 : decode c_M_commit 100 = .ok (.aload_n 0, 1) := by decide +kernel
theorem d_M_commit_101 : decode c_M_commit 101 = .ok (.iconst 1, 1) := by decide +kernel
theorem d_M_commit_102 : decode c_M_commit 102 = .ok (.lload_n 2, 1) := by decide +kernel
theorem d_M_commit_103 : decode c_M_commit 103 = .ok (.invokevirtual 141, 3) := by decide +kernel
theorem d_M_commit_106 : decode c_M_commit 106 = .ok (.ireturn, 1) := by decide +kernel
theorem d_M_commit_107 : decode c_M_commit 107 = .ok (.aload_n 0, 1) := by decide +kernel
theorem d_M_commit_108 : decode c_M_commit 108 = .ok (.iconst 1, 1) := by decide +kernel
theorem d_M_commit_109 : decode c_M_commit 109 = .ok (.invokevirtual 82, 3) := by decide +kernel
theorem d_M_commit_112 : decode c_M_commit 112 = .ok (.iload_n 1, 1) := by decide +kernel
theorem d_M_commit_113 : decode c_M_commit 113 = .ok (.iconst 3, 1) := by decide +kernel
theorem d_M_commit_114 : decode c_M_commit 114 = .ok (.if_icmp .ne 8, 3) := by decide +kernel
theorem d_M_commit_117 : decode c_M_commit 117 = .ok (.aload_n 0, 1) := by decide +kernel
theorem d_M_commit_118 : decode c_M_commit 118 = .ok (.invokevirtual 107, 3) := by decide +kernel
theorem d_M_commit_121 : decode c_M_commit 121 = .ok (.ireturn, 1) := by decide +kernel
theorem d_M_commit_122 : decode c_M_commit 122 = .ok (.aload_n 0, 1) := by decide +kernel
theorem d_M_commit_123 : decode c_M_commit 123 = .ok (.invokevirtual 145, 3) := by decide +kernel
theorem d_M_commit_126 : decode c_M_commit 126 = .ok (.iload_n 1, 1) := by decide +kernel
theorem d_M_commit_127 : decode c_M_commit 127 = .ok (.iconst 4, 1) := by decide +kernel
theorem d_M_commit_128 : decode c_M_commit 128 = .ok (.if_icmp .ne 10, 3) := by decide +kernel
theorem d_M_commit_131 : decode c_M_commit 131 = .ok (.aload_n 0, 1) := by decide +kernel
theorem d_M_commit_132 : decode c_M_commit 132 = .ok (.iconst 0, 1) := by decide +kernel
theorem d_M_commit_133 : decode c_M_commit 133 = .ok (.lload_n 2, 1) := by decide +kernel
theorem d_M_commit_134 : decode c_M_commit 134 = .ok (.invokevirtual 141, 3) := by decide +kernel
theorem d_M_commit_137 : decode c_M_commit 137 = .ok (.ireturn, 1) := by decide +kernel
theorem d_M_commit_138 : decode c_M_commit 138 = .ok (.aload_n 0, 1) := by decide +kernel
theorem d_M_commit_139 : decode c_M_commit 139 = .ok (.iconst 0, 1) := by decide +kernel
theorem d_M_commit_140 : decode c_M_commit 140 = .ok (.invokevirtual 82, 3) := by decide +kernel
theorem d_M_commit_143 : decode c_M_commit 143 = .ok (.iconst 0, 1) := by decide +kernel
theorem d_M_commit_144 : decode c_M_commit 144 = .ok (.istore 5, 2) := by decide +kernel
theorem d_M_commit_146 : decode c_M_commit 146 = .ok (.iload 5, 2) := by decide +kernel
theorem d_M_commit_148 : decode c_M_commit 148 = .ok (.aload_n 0, 1) := by decide +kernel
theorem d_M_commit_149 : decode c_M_commit 149 = .ok (.invokevirtual 86, 3) := by decide +kernel
theorem d_M_commit_152 : decode c_M_commit 152 = .ok (.if_icmp .ge 17, 3) := by decide +kernel
theorem d_M_commit_155 : decode c_M_commit 155 = .ok (.aload_n 0, 1) := by decide +kernel
theorem d_M_commit_156 : decode c_M_commit 156 = .ok (.getfield 16, 3) := by decide +kernel
theorem d_M_commit_159 : decode c_M_commit 159 = .ok (.iload 5, 2) := by decide +kernel
theorem d_M_commit_161 : decode c_M_commit 161 = .ok (.iconst 0, 1) := by decide +kernel
theorem d_M_commit_162 : decode c_M_commit 162 = .ok (.bastore, 1) := by decide +kernel
theorem d_M_commit_163 : decode c_M_commit 163 = .ok (.iinc 5 1, 3) := by decide +kernel
theorem d_M_commit_166 : decode c_M_commit 166 = .ok (.goto (-20), 3) := by decide +kernel
theorem d_M_commit_169 : decode c_M_commit 169 = .ok (.iload 4, 2) := by decide +kernel
theorem d_M_commit_171 : decode c_M_commit 171 = .ok (.ireturn, 1) := by decide +kernel
theorem d_M_place_0 : decode c_M_place 0 = .ok (.iconst 0, 1) := by decide +kernel
theorem d_M_place_1 : decode c_M_place 1 = .ok (.istore_n 1, 1) := by decide +kernel
theorem d_M_place_2 : decode c_M_place 2 = .ok (.iload_n 1, 1) := by decide +kernel
theorem d_M_place_3 : decode c_M_place 3 = .ok (.aload_n 0, 1) := by decide +kernel
theorem d_M_place_4 : decode c_M_place 4 = .ok (.invokevirtual 86, 3) := by decide +kernel
theorem d_M_place_7 : decode c_M_place 7 = .ok (.if_icmp .ge 31, 3) := by decide +kernel
theorem d_M_place_10 : decode c_M_place 10 = .ok (.aload_n 0, 1) := by decide +kernel
theorem d_M_place_11 : decode c_M_place 11 = .ok (.getfield 51, 3) := by decide +kernel
theorem d_M_place_14 : decode c_M_place 14 = .ok (.iload_n 1, 1) := by decide +kernel
theorem d_M_place_15 : decode c_M_place 15 = .ok (.baload, 1) := by decide +kernel
theorem d_M_place_16 : decode c_M_place 16 = .ok (.ifCond .eq 16, 3) := by decide +kernel
theorem d_M_place_19 : decode c_M_place 19 = .ok (.aload_n 0, 1) := by decide +kernel
theorem d_M_place_20 : decode c_M_place 20 = .ok (.aload_n 0, 1) := by decide +kernel
theorem d_M_place_21 : decode c_M_place 21 = .ok (.getfield 48, 3) := by decide +kernel
theorem d_M_place_24 : decode c_M_place 24 = .ok (.aload_n 0, 1) := by decide +kernel
theorem d_M_place_25 : decode c_M_place 25 = .ok (.getfield 13, 3) := by decide +kernel
theorem d_M_place_28 : decode c_M_place 28 = .ok (.iload_n 1, 1) := by decide +kernel
theorem d_M_place_29 : decode c_M_place 29 = .ok (.invokevirtual 137, 3) := by decide +kernel
theorem d_M_place_32 : decode c_M_place 32 = .ok (.iinc 1 1, 3) := by decide +kernel
theorem d_M_place_35 : decode c_M_place 35 = .ok (.goto (-33), 3) := by decide +kernel
theorem d_M_place_38 : decode c_M_place 38 = .ok (.return_, 1) := by decide +kernel
theorem d_M_forget_0 : decode c_M_forget 0 = .ok (.aload_n 0, 1) := by decide +kernel
theorem d_M_forget_1 : decode c_M_forget 1 = .ok (.iconst 0, 1) := by decide +kernel
theorem d_M_forget_2 : decode c_M_forget 2 = .ok (.putfield 58, 3) := by decide +kernel
theorem d_M_forget_5 : decode c_M_forget 5 = .ok (.aload_n 0, 1) := by decide +kernel
theorem d_M_forget_6 : decode c_M_forget 6 = .ok (.getfield 68, 3) := by decide +kernel
theorem d_M_forget_9 : decode c_M_forget 9 = .ok (.ifCond .eq 6, 3) := by decide +kernel
theorem d_M_forget_12 : decode c_M_forget 12 = .ok (.bipush (-2), 2) := by decide +kernel
theorem d_M_forget_14 : decode c_M_forget 14 = .ok (.ireturn, 1) := by decide +kernel
theorem d_M_forget_15 : decode c_M_forget 15 = .ok (.aload_n 0, 1) := by decide +kernel
theorem d_M_forget_16 : decode c_M_forget 16 = .ok (.invokevirtual 124, 3) := by decide +kernel
theorem d_M_forget_19 : decode c_M_forget 19 = .ok (.istore_n 1, 1) := by decide +kernel
theorem d_M_forget_20 : decode c_M_forget 20 = .ok (.iconst 0, 1) := by decide +kernel
theorem d_M_forget_21 : decode c_M_forget 21 = .ok (.istore_n 2, 1) := by decide +kernel
theorem d_M_forget_22 : decode c_M_forget 22 = .ok (.iload_n 2, 1) := by decide +kernel
theorem d_M_forget_23 : decode c_M_forget 23 = .ok (.aload_n 0, 1) := by decide +kernel
theorem d_M_forget_24 : decode c_M_forget 24 = .ok (.invokevirtual 86, 3) := by decide +kernel
theorem d_M_forget_27 : decode c_M_forget 27 = .ok (.if_icmp .ge 29, 3) := by decide +kernel
theorem d_M_forget_30 : decode c_M_forget 30 = .ok (.aload_n 0, 1) := by decide +kernel
theorem d_M_forget_31 : decode c_M_forget 31 = .ok (.aload_n 0, 1) := by decide +kernel
theorem d_M_forget_32 : decode c_M_forget 32 = .ok (.getfield 13, 3) := by decide +kernel
theorem d_M_forget_35 : decode c_M_forget 35 = .ok (.aload_n 0, 1) := by decide +kernel
theorem d_M_forget_36 : decode c_M_forget 36 = .ok (.getfield 7, 3) := by decide +kernel
theorem d_M_forget_39 : decode c_M_forget 39 = .ok (.iload_n 2, 1) := by decide +kernel
theorem d_M_forget_40 : decode c_M_forget 40 = .ok (.invokevirtual 137, 3) := by decide +kernel
theorem d_M_forget_43 : decode c_M_forget 43 = .ok (.aload_n 0, 1) := by decide +kernel
theorem d_M_forget_44 : decode c_M_forget 44 = .ok (.getfield 16, 3) := by decide +kernel
theorem d_M_forget_47 : decode c_M_forget 47 = .ok (.iload_n 2, 1) := by decide +kernel
theorem d_M_forget_48 : decode c_M_forget 48 = .ok (.iconst 0, 1) := by decide +kernel
theorem d_M_forget_49 : decode c_M_forget 49 = .ok (.bastore, 1) := by decide +kernel
theorem d_M_forget_50 : decode c_M_forget 50 = .ok (.iinc 2 1, 3) := by decide +kernel
theorem d_M_forget_53 : decode c_M_forget 53 = .ok (.goto (-31), 3) := by decide +kernel
theorem d_M_forget_56 : decode c_M_forget 56 = .ok (.iload_n 1, 1) := by decide +kernel
theorem d_M_forget_57 : decode c_M_forget 57 = .ok (.ireturn, 1) := by decide +kernel
theorem d_M_lose_0 : decode c_M_lose 0 = .ok (.aload_n 0, 1) := by decide +kernel
theorem d_M_lose_1 : decode c_M_lose 1 = .ok (.iconst 0, 1) := by decide +kernel
theorem d_M_lose_2 : decode c_M_lose 2 = .ok (.putfield 58, 3) := by decide +kernel
theorem d_M_lose_5 : decode c_M_lose 5 = .ok (.aload_n 0, 1) := by decide +kernel
theorem d_M_lose_6 : decode c_M_lose 6 = .ok (.iload_n 1, 1) := by decide +kernel
theorem d_M_lose_7 : decode c_M_lose 7 = .ok (.invokevirtual 117, 3) := by decide +kernel
theorem d_M_lose_10 : decode c_M_lose 10 = .ok (.ifCond .ne 12, 3) := by decide +kernel
theorem d_M_lose_13 : decode c_M_lose 13 = .ok (.aload_n 0, 1) := by decide +kernel
theorem d_M_lose_14 : decode c_M_lose 14 = .ok (.getfield 20, 3) := by decide +kernel
theorem d_M_lose_17 : decode c_M_lose 17 = .ok (.iload_n 1, 1) := by decide +kernel
theorem d_M_lose_18 : decode c_M_lose 18 = .ok (.baload, 1) := by decide +kernel
theorem d_M_lose_19 : decode c_M_lose 19 = .ok (.ifCond .eq 5, 3) := by decide +kernel
theorem d_M_lose_22 : decode c_M_lose 22 = .ok (.iconst (-1), 1) := by decide +kernel
theorem d_M_lose_23 : decode c_M_lose 23 = .ok (.ireturn, 1) := by decide +kernel
theorem d_M_lose_24 : decode c_M_lose 24 = .ok (.iconst 2, 1) := by decide +kernel
theorem d_M_lose_25 : decode c_M_lose 25 = .ok (.istore_n 2, 1) := by decide +kernel
theorem d_M_lose_26 : decode c_M_lose 26 = .ok (.iload_n 2, 1) := by decide +kernel
theorem d_M_lose_27 : decode c_M_lose 27 = .ok (.aload_n 0, 1) := by decide +kernel
theorem d_M_lose_28 : decode c_M_lose 28 = .ok (.getfield 65, 3) := by decide +kernel
theorem d_M_lose_31 : decode c_M_lose 31 = .ok (.if_icmp .ge 30, 3) := by decide +kernel
theorem d_M_lose_34 : decode c_M_lose 34 = .ok (.aload_n 0, 1) := by decide +kernel
theorem d_M_lose_35 : decode c_M_lose 35 = .ok (.iload_n 1, 1) := by decide +kernel
theorem d_M_lose_36 : decode c_M_lose 36 = .ok (.iload_n 2, 1) := by decide +kernel
theorem d_M_lose_37 : decode c_M_lose 37 = .ok (.invokevirtual 110, 3) := by decide +kernel
theorem d_M_lose_40 : decode c_M_lose 40 = .ok (.ifCond .ne 15, 3) := by decide +kernel
theorem d_M_lose_43 : decode c_M_lose 43 = .ok (.aload_n 0, 1) := by decide +kernel
theorem d_M_lose_44 : decode c_M_lose 44 = .ok (.iload_n 2, 1) := by decide +kernel
theorem d_M_lose_45 : decode c_M_lose 45 = .ok (.invokevirtual 114, 3) := by decide +kernel
theorem d_M_lose_48 : decode c_M_lose 48 = .ok (.iconst 2, 1) := by decide +kernel
theorem d_M_lose_49 : decode c_M_lose 49 = .ok (.if_icmp .ne 6, 3) := by decide +kernel
theorem d_M_lose_52 : decode c_M_lose 52 = .ok (.bipush (-3), 2) := by decide +kernel
theorem d_M_lose_54 : decode c_M_lose 54 = .ok (.ireturn, 1) := by decide +kernel
theorem d_M_lose_55 : decode c_M_lose 55 = .ok (.iinc 2 1, 3) := by decide +kernel
theorem d_M_lose_58 : decode c_M_lose 58 = .ok (.goto (-32), 3) := by decide +kernel
theorem d_M_lose_61 : decode c_M_lose 61 = .ok (.aload_n 0, 1) := by decide +kernel
theorem d_M_lose_62 : decode c_M_lose 62 = .ok (.getfield 20, 3) := by decide +kernel
theorem d_M_lose_65 : decode c_M_lose 65 = .ok (.iload_n 1, 1) := by decide +kernel
theorem d_M_lose_66 : decode c_M_lose 66 = .ok (.iconst 1, 1) := by decide +kernel
theorem d_M_lose_67 : decode c_M_lose 67 = .ok (.bastore, 1) := by decide +kernel
theorem d_M_lose_68 : decode c_M_lose 68 = .ok (.aload_n 0, 1) := by decide +kernel
theorem d_M_lose_69 : decode c_M_lose 69 = .ok (.iload_n 1, 1) := by decide +kernel
theorem d_M_lose_70 : decode c_M_lose 70 = .ok (.invokevirtual 78, 3) := by decide +kernel
theorem d_M_lose_73 : decode c_M_lose 73 = .ok (.iconst 0, 1) := by decide +kernel
theorem d_M_lose_74 : decode c_M_lose 74 = .ok (.istore_n 2, 1) := by decide +kernel
theorem d_M_lose_75 : decode c_M_lose 75 = .ok (.iload_n 2, 1) := by decide +kernel
theorem d_M_lose_76 : decode c_M_lose 76 = .ok (.bipush 40, 2) := by decide +kernel
theorem d_M_lose_78 : decode c_M_lose 78 = .ok (.if_icmp .ge 21, 3) := by decide +kernel
theorem d_M_lose_81 : decode c_M_lose 81 = .ok (.aload_n 0, 1) := by decide +kernel
theorem d_M_lose_82 : decode c_M_lose 82 = .ok (.getfield 30, 3) := by decide +kernel
theorem d_M_lose_85 : decode c_M_lose 85 = .ok (.bipush 40, 2) := by decide +kernel
theorem d_M_lose_87 : decode c_M_lose 87 = .ok (.iload_n 1, 1) := by decide +kernel
theorem d_M_lose_88 : decode c_M_lose 88 = .ok (.imul, 1) := by decide +kernel
theorem d_M_lose_89 : decode c_M_lose 89 = .ok (.iload_n 2, 1) := by decide +kernel
theorem d_M_lose_90 : decode c_M_lose 90 = .ok (.iadd, 1) := by decide +kernel
theorem d_M_lose_91 : decode c_M_lose 91 = .ok (.iconst 0, 1) := by decide +kernel
theorem d_M_lose_92 : decode c_M_lose 92 = .ok (.bastore, 1) := by decide +kernel
theorem d_M_lose_93 : decode c_M_lose 93 = .ok (.iinc 2 1, 3) := by decide +kernel
theorem d_M_lose_96 : decode c_M_lose 96 = .ok (.goto (-21), 3) := by decide +kernel
theorem d_M_lose_99 : decode c_M_lose 99 = .ok (.aload_n 0, 1) := by decide +kernel
theorem d_M_lose_100 : decode c_M_lose 100 = .ok (.invokevirtual 148, 3) := by decide +kernel
theorem d_M_lose_103 : decode c_M_lose 103 = .ok (.ireturn, 1) := by decide +kernel
theorem d_M_replace_0 : decode c_M_replace 0 = .ok (.aload_n 0, 1) := by decide +kernel
theorem d_M_replace_1 : decode c_M_replace 1 = .ok (.iconst 0, 1) := by decide +kernel
theorem d_M_replace_2 : decode c_M_replace 2 = .ok (.putfield 58, 3) := by decide +kernel
theorem d_M_replace_5 : decode c_M_replace 5 = .ok (.aload_n 0, 1) := by decide +kernel
theorem d_M_replace_6 : decode c_M_replace 6 = .ok (.iload_n 1, 1) := by decide +kernel
theorem d_M_replace_7 : decode c_M_replace 7 = .ok (.invokevirtual 117, 3) := by decide +kernel
theorem d_M_replace_10 : decode c_M_replace 10 = .ok (.ifCond .ne 12, 3) := by decide +kernel
theorem d_M_replace_13 : decode c_M_replace 13 = .ok (.aload_n 0, 1) := by decide +kernel
theorem d_M_replace_14 : decode c_M_replace 14 = .ok (.getfield 20, 3) := by decide +kernel
theorem d_M_replace_17 : decode c_M_replace 17 = .ok (.iload_n 1, 1) := by decide +kernel
theorem d_M_replace_18 : decode c_M_replace 18 = .ok (.baload, 1) := by decide +kernel
theorem d_M_replace_19 : decode c_M_replace 19 = .ok (.ifCond .ne 5, 3) := by decide +kernel
theorem d_M_replace_22 : decode c_M_replace 22 = .ok (.iconst (-1), 1) := by decide +kernel
theorem d_M_replace_23 : decode c_M_replace 23 = .ok (.ireturn, 1) := by decide +kernel
theorem d_M_replace_24 : decode c_M_replace 24 = .ok (.aload_n 0, 1) := by decide +kernel
theorem d_M_replace_25 : decode c_M_replace 25 = .ok (.getfield 20, 3) := by decide +kernel
theorem d_M_replace_28 : decode c_M_replace 28 = .ok (.iload_n 1, 1) := by decide +kernel
theorem d_M_replace_29 : decode c_M_replace 29 = .ok (.iconst 0, 1) := by decide +kernel
theorem d_M_replace_30 : decode c_M_replace 30 = .ok (.bastore, 1) := by decide +kernel
theorem d_M_replace_31 : decode c_M_replace 31 = .ok (.aload_n 0, 1) := by decide +kernel
theorem d_M_replace_32 : decode c_M_replace 32 = .ok (.getfield 23, 3) := by decide +kernel
theorem d_M_replace_35 : decode c_M_replace 35 = .ok (.iload_n 1, 1) := by decide +kernel
theorem d_M_replace_36 : decode c_M_replace 36 = .ok (.iconst 0, 1) := by decide +kernel
theorem d_M_replace_37 : decode c_M_replace 37 = .ok (.iastore, 1) := by decide +kernel
theorem d_M_replace_38 : decode c_M_replace 38 = .ok (.aload_n 0, 1) := by decide +kernel
theorem d_M_replace_39 : decode c_M_replace 39 = .ok (.getfield 68, 3) := by decide +kernel
theorem d_M_replace_42 : decode c_M_replace 42 = .ok (.ifCond .ne 8, 3) := by decide +kernel
theorem d_M_replace_45 : decode c_M_replace 45 = .ok (.aload_n 0, 1) := by decide +kernel
theorem d_M_replace_46 : decode c_M_replace 46 = .ok (.iconst 0, 1) := by decide +kernel
theorem d_M_replace_47 : decode c_M_replace 47 = .ok (.invokevirtual 82, 3) := by decide +kernel
theorem d_M_replace_50 : decode c_M_replace 50 = .ok (.iconst 0, 1) := by decide +kernel
theorem d_M_replace_51 : decode c_M_replace 51 = .ok (.ireturn, 1) := by decide +kernel
theorem d_M_rot_0 : decode c_M_rot 0 = .ok (.aload_n 0, 1) := by decide +kernel
theorem d_M_rot_1 : decode c_M_rot 1 = .ok (.iconst 0, 1) := by decide +kernel
theorem d_M_rot_2 : decode c_M_rot 2 = .ok (.putfield 58, 3) := by decide +kernel
theorem d_M_rot_5 : decode c_M_rot 5 = .ok (.aload_n 0, 1) := by decide +kernel
theorem d_M_rot_6 : decode c_M_rot 6 = .ok (.iload_n 1, 1) := by decide +kernel
theorem d_M_rot_7 : decode c_M_rot 7 = .ok (.invokevirtual 117, 3) := by decide +kernel
theorem d_M_rot_10 : decode c_M_rot 10 = .ok (.ifCond .ne 25, 3) := by decide +kernel
theorem d_M_rot_13 : decode c_M_rot 13 = .ok (.iload_n 2, 1) := by decide +kernel
theorem d_M_rot_14 : decode c_M_rot 14 = .ok (.iconst 2, 1) := by decide +kernel
theorem d_M_rot_15 : decode c_M_rot 15 = .ok (.if_icmp .lt 20, 3) := by decide +kernel
theorem d_M_rot_18 : decode c_M_rot 18 = .ok (.iload_n 2, 1) := by decide +kernel
theorem d_M_rot_19 : decode c_M_rot 19 = .ok (.aload_n 0, 1) := by decide +kernel
theorem d_M_rot_20 : decode c_M_rot 20 = .ok (.getfield 65, 3) := by decide +kernel
theorem d_M_rot_23 : decode c_M_rot 23 = .ok (.if_icmp .ge 12, 3) := by decide +kernel
theorem d_M_rot_26 : decode c_M_rot 26 = .ok (.aload_n 0, 1) := by decide +kernel
theorem d_M_rot_27 : decode c_M_rot 27 = .ok (.iload_n 1, 1) := by decide +kernel
theorem d_M_rot_28 : decode c_M_rot 28 = .ok (.iload_n 2, 1) := by decide +kernel
theorem d_M_rot_29 : decode c_M_rot 29 = .ok (.invokevirtual 110, 3) := by decide +kernel
theorem d_M_rot_32 : decode c_M_rot 32 = .ok (.ifCond .eq 5, 3) := by decide +kernel
theorem d_M_rot_35 : decode c_M_rot 35 = .ok (.iconst (-1), 1) := by decide +kernel
theorem d_M_rot_36 : decode c_M_rot 36 = .ok (.ireturn, 1) := by decide +kernel
theorem d_M_rot_37 : decode c_M_rot 37 = .ok (.aload_n 0, 1) := by decide +kernel
theorem d_M_rot_38 : decode c_M_rot 38 = .ok (.iload_n 2, 1) := by decide +kernel
theorem d_M_rot_39 : decode c_M_rot 39 = .ok (.invokevirtual 114, 3) := by decide +kernel
theorem d_M_rot_42 : decode c_M_rot 42 = .ok (.iconst 2, 1) := by decide +kernel
theorem d_M_rot_43 : decode c_M_rot 43 = .ok (.if_icmp .ne 6, 3) := by decide +kernel
theorem d_M_rot_46 : decode c_M_rot 46 = .ok (.bipush (-3), 2) := by decide +kernel
theorem d_M_rot_48 : decode c_M_rot 48 = .ok (.ireturn, 1) := by decide +kernel
theorem d_M_rot_49 : decode c_M_rot 49 = .ok (.aload_n 0, 1) := by decide +kernel
theorem d_M_rot_50 : decode c_M_rot 50 = .ok (.getfield 30, 3) := by decide +kernel
theorem d_M_rot_53 : decode c_M_rot 53 = .ok (.bipush 40, 2) := by decide +kernel
theorem d_M_rot_55 : decode c_M_rot 55 = .ok (.iload_n 1, 1) := by decide +kernel
theorem d_M_rot_56 : decode c_M_rot 56 = .ok (.imul, 1) := by decide +kernel
theorem d_M_rot_57 : decode c_M_rot 57 = .ok (.iload_n 2, 1) := by decide +kernel
theorem d_M_rot_58 : decode c_M_rot 58 = .ok (.iadd, 1) := by decide +kernel
theorem d_M_rot_59 : decode c_M_rot 59 = .ok (.iconst 1, 1) := by decide +kernel
theorem d_M_rot_60 : decode c_M_rot 60 = .ok (.bastore, 1) := by decide +kernel
theorem d_M_rot_61 : decode c_M_rot 61 = .ok (.aload_n 0, 1) := by decide +kernel
theorem d_M_rot_62 : decode c_M_rot 62 = .ok (.iload_n 2, 1) := by decide +kernel
theorem d_M_rot_63 : decode c_M_rot 63 = .ok (.invokevirtual 114, 3) := by decide +kernel
theorem d_M_rot_66 : decode c_M_rot 66 = .ok (.ireturn, 1) := by decide +kernel
theorem d_M_fill_0 : decode c_M_fill 0 = .ok (.aload_n 0, 1) := by decide +kernel
theorem d_M_fill_1 : decode c_M_fill 1 = .ok (.iconst 0, 1) := by decide +kernel
theorem d_M_fill_2 : decode c_M_fill 2 = .ok (.putfield 58, 3) := by decide +kernel
theorem d_M_fill_5 : decode c_M_fill 5 = .ok (.aload_n 0, 1) := by decide +kernel
theorem d_M_fill_6 : decode c_M_fill 6 = .ok (.getfield 68, 3) := by decide +kernel
theorem d_M_fill_9 : decode c_M_fill 9 = .ok (.ifCond .eq 6, 3) := by decide +kernel
theorem d_M_fill_12 : decode c_M_fill 12 = .ok (.bipush (-2), 2) := by decide +kernel
theorem d_M_fill_14 : decode c_M_fill 14 = .ok (.ireturn, 1) := by decide +kernel
theorem d_M_fill_15 : decode c_M_fill 15 = .ok (.aload_n 0, 1) := by decide +kernel
theorem d_M_fill_16 : decode c_M_fill 16 = .ok (.iload_n 1, 1) := by decide +kernel
theorem d_M_fill_17 : decode c_M_fill 17 = .ok (.invokevirtual 117, 3) := by decide +kernel
theorem d_M_fill_20 : decode c_M_fill 20 = .ok (.ifCond .ne 20, 3) := by decide +kernel
theorem d_M_fill_23 : decode c_M_fill 23 = .ok (.aload_n 0, 1) := by decide +kernel
theorem d_M_fill_24 : decode c_M_fill 24 = .ok (.iload_n 1, 1) := by decide +kernel
theorem d_M_fill_25 : decode c_M_fill 25 = .ok (.invokevirtual 151, 3) := by decide +kernel
theorem d_M_fill_28 : decode c_M_fill 28 = .ok (.ifCond .eq 12, 3) := by decide +kernel
theorem d_M_fill_31 : decode c_M_fill 31 = .ok (.iload_n 2, 1) := by decide +kernel
theorem d_M_fill_32 : decode c_M_fill 32 = .ok (.ifCond .lt 8, 3) := by decide +kernel
theorem d_M_fill_35 : decode c_M_fill 35 = .ok (.iload_n 2, 1) := by decide +kernel
theorem d_M_fill_36 : decode c_M_fill 36 = .ok (.iconst 2, 1) := by decide +kernel
theorem d_M_fill_37 : decode c_M_fill 37 = .ok (.if_icmp .le 5, 3) := by decide +kernel
theorem d_M_fill_40 : decode c_M_fill 40 = .ok (.iconst (-1), 1) := by decide +kernel
theorem d_M_fill_41 : decode c_M_fill 41 = .ok (.ireturn, 1) := by decide +kernel
theorem d_M_fill_42 : decode c_M_fill 42 = .ok (.iload_n 2, 1) := by decide +kernel
theorem d_M_fill_43 : decode c_M_fill 43 = .ok (.iconst 1, 1) := by decide +kernel
theorem d_M_fill_44 : decode c_M_fill 44 = .ok (.if_icmp .ne 8, 3) := by decide +kernel
theorem d_M_fill_47 : decode c_M_fill 47 = .ok (.aload_n 0, 1) := by decide +kernel
theorem d_M_fill_48 : decode c_M_fill 48 = .ok (.invokevirtual 107, 3) := by decide +kernel
theorem d_M_fill_51 : decode c_M_fill 51 = .ok (.ireturn, 1) := by decide +kernel
theorem d_M_fill_52 : decode c_M_fill 52 = .ok (.aload_n 0, 1) := by decide +kernel
theorem d_M_fill_53 : decode c_M_fill 53 = .ok (.getfield 23, 3) := by decide +kernel
theorem d_M_fill_56 : decode c_M_fill 56 = .ok (.iload_n 1, 1) := by decide +kernel
theorem d_M_fill_57 : decode c_M_fill 57 = .ok (.dup2, 1) := by decide +kernel
theorem d_M_fill_58 : decode c_M_fill 58 = .ok (.iaload, 1) := by decide +kernel
theorem d_M_fill_59 : decode c_M_fill 59 = .ok (.iconst 1, 1) := by decide +kernel
theorem d_M_fill_60 : decode c_M_fill 60 = .ok (.iadd, 1) := by decide +kernel
theorem d_M_fill_61 : decode c_M_fill 61 = .ok (.iastore, 1) := by decide +kernel
theorem d_M_fill_62 : decode c_M_fill 62 = .ok (.iload_n 2, 1) := by decide +kernel
theorem d_M_fill_63 : decode c_M_fill 63 = .ok (.iconst 2, 1) := by decide +kernel
theorem d_M_fill_64 : decode c_M_fill 64 = .ok (.if_icmp .ne 34, 3) := by decide +kernel
theorem d_M_fill_67 : decode c_M_fill 67 = .ok (.aload_n 0, 1) := by decide +kernel
theorem d_M_fill_68 : decode c_M_fill 68 = .ok (.iconst 0, 1) := by decide +kernel
theorem d_M_fill_69 : decode c_M_fill 69 = .ok (.invokevirtual 100, 3) := by decide +kernel
theorem d_M_fill_72 : decode c_M_fill 72 = .ok (.aload_n 0, 1) := by decide +kernel
theorem d_M_fill_73 : decode c_M_fill 73 = .ok (.getfield 23, 3) := by decide +kernel
theorem d_M_fill_76 : decode c_M_fill 76 = .ok (.iload_n 1, 1) := by decide +kernel
theorem d_M_fill_77 : decode c_M_fill 77 = .ok (.dup2, 1) := by decide +kernel
theorem d_M_fill_78 : decode c_M_fill 78 = .ok (.iaload, 1) := by decide +kernel
theorem d_M_fill_79 : decode c_M_fill 79 = .ok (.iconst 1, 1) := by decide +kernel
theorem d_M_fill_80 : decode c_M_fill 80 = .ok (.isub, 1) := by decide +kernel
theorem d_M_fill_81 : decode c_M_fill 81 = .ok (.iastore, 1) := by decide +kernel
theorem d_M_fill_82 : decode c_M_fill 82 = .ok (.aload_n 0, 1) := by decide +kernel
theorem d_M_fill_83 : decode c_M_fill 83 = .ok (.aload_n 0, 1) := by decide +kernel
theorem d_M_fill_84 : decode c_M_fill 84 = .ok (.getfield 72, 3) := by decide +kernel
theorem d_M_fill_87 : decode c_M_fill 87 = .ok (.iconst 0, 1) := by decide +kernel
theorem d_M_fill_88 : decode c_M_fill 88 = .ok (.iconst 1, 1) := by decide +kernel
theorem d_M_fill_89 : decode c_M_fill 89 = .ok (.lload_n 3, 1) := by decide +kernel
theorem d_M_fill_90 : decode c_M_fill 90 = .ok (.invokevirtual 103, 3) := by decide +kernel
theorem d_M_fill_93 : decode c_M_fill 93 = .ok (.aload_n 0, 1) := by decide +kernel
theorem d_M_fill_94 : decode c_M_fill 94 = .ok (.invokevirtual 107, 3) := by decide +kernel
theorem d_M_fill_97 : decode c_M_fill 97 = .ok (.ireturn, 1) := by decide +kernel
theorem d_M_fill_98 : decode c_M_fill 98 = .ok (.aload_n 0, 1) := by decide +kernel
theorem d_M_fill_99 : decode c_M_fill 99 = .ok (.iconst 0, 1) := by decide +kernel
theorem d_M_fill_100 : decode c_M_fill 100 = .ok (.invokevirtual 82, 3) := by decide +kernel
theorem d_M_fill_103 : decode c_M_fill 103 = .ok (.aload_n 0, 1) := by decide +kernel
theorem d_M_fill_104 : decode c_M_fill 104 = .ok (.getfield 23, 3) := by decide +kernel
theorem d_M_fill_107 : decode c_M_fill 107 = .ok (.iload_n 1, 1) := by decide +kernel
theorem d_M_fill_108 : decode c_M_fill 108 = .ok (.iaload, 1) := by decide +kernel
theorem d_M_fill_109 : decode c_M_fill 109 = .ok (.ireturn, 1) := by decide +kernel
theorem d_M_scrub_0 : decode c_M_scrub 0 = .ok (.aload_n 0, 1) := by decide +kernel
theorem d_M_scrub_1 : decode c_M_scrub 1 = .ok (.iconst 0, 1) := by decide +kernel
theorem d_M_scrub_2 : decode c_M_scrub 2 = .ok (.putfield 58, 3) := by decide +kernel
theorem d_M_scrub_5 : decode c_M_scrub 5 = .ok (.aload_n 0, 1) := by decide +kernel
theorem d_M_scrub_6 : decode c_M_scrub 6 = .ok (.getfield 68, 3) := by decide +kernel
theorem d_M_scrub_9 : decode c_M_scrub 9 = .ok (.ifCond .eq 6, 3) := by decide +kernel
theorem d_M_scrub_12 : decode c_M_scrub 12 = .ok (.bipush (-2), 2) := by decide +kernel
theorem d_M_scrub_14 : decode c_M_scrub 14 = .ok (.ireturn, 1) := by decide +kernel
theorem d_M_scrub_15 : decode c_M_scrub 15 = .ok (.iload_n 1, 1) := by decide +kernel
theorem d_M_scrub_16 : decode c_M_scrub 16 = .ok (.iconst 2, 1) := by decide +kernel
theorem d_M_scrub_17 : decode c_M_scrub 17 = .ok (.if_icmp .lt 20, 3) := by decide +kernel
theorem d_M_scrub_20 : decode c_M_scrub 20 = .ok (.iload_n 1, 1) := by decide +kernel
theorem d_M_scrub_21 : decode c_M_scrub 21 = .ok (.aload_n 0, 1) := by decide +kernel
theorem d_M_scrub_22 : decode c_M_scrub 22 = .ok (.getfield 65, 3) := by decide +kernel
theorem d_M_scrub_25 : decode c_M_scrub 25 = .ok (.if_icmp .ge 12, 3) := by decide +kernel
theorem d_M_scrub_28 : decode c_M_scrub 28 = .ok (.iload_n 2, 1) := by decide +kernel
theorem d_M_scrub_29 : decode c_M_scrub 29 = .ok (.ifCond .lt 8, 3) := by decide +kernel
theorem d_M_scrub_32 : decode c_M_scrub 32 = .ok (.iload_n 2, 1) := by decide +kernel
theorem d_M_scrub_33 : decode c_M_scrub 33 = .ok (.iconst 1, 1) := by decide +kernel
theorem d_M_scrub_34 : decode c_M_scrub 34 = .ok (.if_icmp .le 5, 3) := by decide +kernel
theorem d_M_scrub_37 : decode c_M_scrub 37 = .ok (.iconst (-1), 1) := by decide +kernel
theorem d_M_scrub_38 : decode c_M_scrub 38 = .ok (.ireturn, 1) := by decide +kernel
theorem d_M_scrub_39 : decode c_M_scrub 39 = .ok (.iconst 0, 1) := by decide +kernel
theorem d_M_scrub_40 : decode c_M_scrub 40 = .ok (.istore 5, 2) := by decide +kernel
theorem d_M_scrub_42 : decode c_M_scrub 42 = .ok (.iconst 0, 1) := by decide +kernel
theorem d_M_scrub_43 : decode c_M_scrub 43 = .ok (.istore 6, 2) := by decide +kernel
theorem d_M_scrub_45 : decode c_M_scrub 45 = .ok (.iload 6, 2) := by decide +kernel
theorem d_M_scrub_47 : decode c_M_scrub 47 = .ok (.aload_n 0, 1) := by decide +kernel
theorem d_M_scrub_48 : decode c_M_scrub 48 = .ok (.getfield 62, 3) := by decide +kernel
theorem d_M_scrub_51 : decode c_M_scrub 51 = .ok (.if_icmp .ge 34, 3) := by decide +kernel
theorem d_M_scrub_54 : decode c_M_scrub 54 = .ok (.iload 5, 2) := by decide +kernel
theorem d_M_scrub_56 : decode c_M_scrub 56 = .ok (.aload_n 0, 1) := by decide +kernel
theorem d_M_scrub_57 : decode c_M_scrub 57 = .ok (.getfield 30, 3) := by decide +kernel
theorem d_M_scrub_60 : decode c_M_scrub 60 = .ok (.bipush 40, 2) := by decide +kernel
theorem d_M_scrub_62 : decode c_M_scrub 62 = .ok (.iload 6, 2) := by decide +kernel
theorem d_M_scrub_64 : decode c_M_scrub 64 = .ok (.imul, 1) := by decide +kernel
theorem d_M_scrub_65 : decode c_M_scrub 65 = .ok (.iload_n 1, 1) := by decide +kernel
theorem d_M_scrub_66 : decode c_M_scrub 66 = .ok (.iadd, 1) := by decide +kernel
theorem d_M_scrub_67 : decode c_M_scrub 67 = .ok (.baload, 1) := by decide +kernel
theorem d_M_scrub_68 : decode c_M_scrub 68 = .ok (.ifCond .eq 7, 3) := by decide +kernel
theorem d_M_scrub_71 : decode c_M_scrub 71 = .ok (.iconst 1, 1) := by decide +kernel
theorem d_M_scrub_72 : decode c_M_scrub 72 = .ok (.goto 4, 3) := by decide +kernel
theorem d_M_scrub_75 : decode c_M_scrub 75 = .ok (.iconst 0, 1) := by decide +kernel
theorem d_M_scrub_76 : decode c_M_scrub 76 = .ok (.iadd, 1) := by decide +kernel
theorem d_M_scrub_77 : decode c_M_scrub 77 = .ok (.istore 5, 2) := by decide +kernel
theorem d_M_scrub_79 : decode c_M_scrub 79 = .ok (.iinc 6 1, 3) := by decide +kernel
theorem d_M_scrub_82 : decode c_M_scrub 82 = .ok (.goto (-37), 3) := by decide +kernel
theorem d_M_scrub_85 : decode c_M_scrub 85 = .ok (.iload 5, 2) := by decide +kernel
theorem d_M_scrub_87 : decode c_M_scrub 87 = .ok (.ifCond .le 13, 3) := by decide +kernel
theorem d_M_scrub_90 : decode c_M_scrub 90 = .ok (.iload_n 2, 1) := by decide +kernel
theorem d_M_scrub_91 : decode c_M_scrub 91 = .ok (.iconst 1, 1) := by decide +kernel
theorem d_M_scrub_92 : decode c_M_scrub 92 = .ok (.if_icmp .ne 8, 3) := by decide +kernel
theorem d_M_scrub_95 : decode c_M_scrub 95 = .ok (.aload_n 0, 1) := by decide +kernel
theorem d_M_scrub_96 : decode c_M_scrub 96 = .ok (.invokevirtual 107, 3) := by decide +kernel
theorem d_M_scrub_99 : decode c_M_scrub 99 = .ok (.ireturn, 1) := by decide +kernel
theorem d_M_scrub_100 : decode c_M_scrub 100 = .ok (.iconst 0, 1) := by decide +kernel
theorem d_M_scrub_101 : decode c_M_scrub 101 = .ok (.istore 6, 2) := by decide +kernel
theorem d_M_scrub_103 : decode c_M_scrub 103 = .ok (.iload 6, 2) := by decide +kernel
theorem d_M_scrub_105 : decode c_M_scrub 105 = .ok (.aload_n 0, 1) := by decide +kernel
theorem d_M_scrub_106 : decode c_M_scrub 106 = .ok (.getfield 62, 3) := by decide +kernel
theorem d_M_scrub_109 : decode c_M_scrub 109 = .ok (.if_icmp .ge 22, 3) := by decide +kernel
theorem d_M_scrub_112 : decode c_M_scrub 112 = .ok (.aload_n 0, 1) := by decide +kernel
theorem d_M_scrub_113 : decode c_M_scrub 113 = .ok (.getfield 30, 3) := by decide +kernel
theorem d_M_scrub_116 : decode c_M_scrub 116 = .ok (.bipush 40, 2) := by decide +kernel
theorem d_M_scrub_118 : decode c_M_scrub 118 = .ok (.iload 6, 2) := by decide +kernel
theorem d_M_scrub_120 : decode c_M_scrub 120 = .ok (.imul, 1) := by decide +kernel
theorem d_M_scrub_121 : decode c_M_scrub 121 = .ok (.iload_n 1, 1) := by decide +kernel
theorem d_M_scrub_122 : decode c_M_scrub 122 = .ok (.iadd, 1) := by decide +kernel
theorem d_M_scrub_123 : decode c_M_scrub 123 = .ok (.iconst 0, 1) := by decide +kernel
theorem d_M_scrub_124 : decode c_M_scrub 124 = .ok (.bastore, 1) := by decide +kernel
theorem d_M_scrub_125 : decode c_M_scrub 125 = .ok (.iinc 6 1, 3) := by decide +kernel
theorem d_M_scrub_128 : decode c_M_scrub 128 = .ok (.goto (-25), 3) := by decide +kernel
theorem d_M_scrub_131 : decode c_M_scrub 131 = .ok (.iload 5, 2) := by decide +kernel
theorem d_M_scrub_133 : decode c_M_scrub 133 = .ok (.ireturn, 1) := by decide +kernel
theorem d_M_fail_0 : decode c_M_fail 0 = .ok (.aload_n 0, 1) := by decide +kernel
theorem d_M_fail_1 : decode c_M_fail 1 = .ok (.iconst 0, 1) := by decide +kernel
theorem d_M_fail_2 : decode c_M_fail 2 = .ok (.putfield 58, 3) := by decide +kernel
theorem d_M_fail_5 : decode c_M_fail 5 = .ok (.aload_n 0, 1) := by decide +kernel
theorem d_M_fail_6 : decode c_M_fail 6 = .ok (.getfield 68, 3) := by decide +kernel
theorem d_M_fail_9 : decode c_M_fail 9 = .ok (.ifCond .eq 8, 3) := by decide +kernel
theorem d_M_fail_12 : decode c_M_fail 12 = .ok (.bipush (-2), 2) := by decide +kernel
theorem d_M_fail_14 : decode c_M_fail 14 = .ok (.goto 10, 3) := by decide +kernel
theorem d_M_fail_17 : decode c_M_fail 17 = .ok (.aload_n 0, 1) := by decide +kernel
theorem d_M_fail_18 : decode c_M_fail 18 = .ok (.invokevirtual 107, 3) := by decide +kernel
theorem d_M_fail_21 : decode c_M_fail 21 = .ok (.bipush (-2), 2) := by decide +kernel
theorem d_M_fail_23 : decode c_M_fail 23 = .ok (.isub, 1) := by decide +kernel
theorem d_M_fail_24 : decode c_M_fail 24 = .ok (.ireturn, 1) := by decide +kernel
theorem d_M_writes_0 : decode c_M_writes 0 = .ok (.iload_n 1, 1) := by decide +kernel
theorem d_M_writes_1 : decode c_M_writes 1 = .ok (.aload_n 0, 1) := by decide +kernel
theorem d_M_writes_2 : decode c_M_writes 2 = .ok (.getfield 62, 3) := by decide +kernel
theorem d_M_writes_5 : decode c_M_writes 5 = .ok (.irem, 1) := by decide +kernel
theorem d_M_writes_6 : decode c_M_writes 6 = .ok (.istore_n 3, 1) := by decide +kernel
theorem d_M_writes_7 : decode c_M_writes 7 = .ok (.aload_n 0, 1) := by decide +kernel
theorem d_M_writes_8 : decode c_M_writes 8 = .ok (.getfield 20, 3) := by decide +kernel
theorem d_M_writes_11 : decode c_M_writes 11 = .ok (.iload_n 3, 1) := by decide +kernel
theorem d_M_writes_12 : decode c_M_writes 12 = .ok (.baload, 1) := by decide +kernel
theorem d_M_writes_13 : decode c_M_writes 13 = .ok (.ifCond .ne 13, 3) := by decide +kernel
theorem d_M_writes_16 : decode c_M_writes 16 = .ok (.iload_n 2, 1) := by decide +kernel
theorem d_M_writes_17 : decode c_M_writes 17 = .ok (.aload_n 0, 1) := by decide +kernel
theorem d_M_writes_18 : decode c_M_writes 18 = .ok (.getfield 23, 3) := by decide +kernel
theorem d_M_writes_21 : decode c_M_writes 21 = .ok (.iload_n 3, 1) := by decide +kernel
theorem d_M_writes_22 : decode c_M_writes 22 = .ok (.iaload, 1) := by decide +kernel
theorem d_M_writes_23 : decode c_M_writes 23 = .ok (.if_icmp .lt 7, 3) := by decide +kernel
theorem d_M_writes_26 : decode c_M_writes 26 = .ok (.iconst 0, 1) := by decide +kernel
theorem d_M_writes_27 : decode c_M_writes 27 = .ok (.goto 4, 3) := by decide +kernel
theorem d_M_writes_30 : decode c_M_writes 30 = .ok (.iconst 1, 1) := by decide +kernel
theorem d_M_writes_31 : decode c_M_writes 31 = .ok (.ireturn, 1) := by decide +kernel
theorem d_M_placed_0 : decode c_M_placed 0 = .ok (.iconst 0, 1) := by decide +kernel
theorem d_M_placed_1 : decode c_M_placed 1 = .ok (.istore_n 1, 1) := by decide +kernel
theorem d_M_placed_2 : decode c_M_placed 2 = .ok (.bipush 6, 2) := by decide +kernel
theorem d_M_placed_4 : decode c_M_placed 4 = .ok (.istore_n 2, 1) := by decide +kernel
theorem d_M_placed_5 : decode c_M_placed 5 = .ok (.iload_n 2, 1) := by decide +kernel
theorem d_M_placed_6 : decode c_M_placed 6 = .ok (.aload_n 0, 1) := by decide +kernel
theorem d_M_placed_7 : decode c_M_placed 7 = .ok (.getfield 65, 3) := by decide +kernel
theorem d_M_placed_10 : decode c_M_placed 10 = .ok (.if_icmp .ge 39, 3) := by decide +kernel
theorem d_M_placed_13 : decode c_M_placed 13 = .ok (.aload_n 0, 1) := by decide +kernel
theorem d_M_placed_14 : decode c_M_placed 14 = .ok (.aload_n 0, 1) := by decide +kernel
theorem d_M_placed_15 : decode c_M_placed 15 = .ok (.getfield 51, 3) := by decide +kernel
theorem d_M_placed_18 : decode c_M_placed 18 = .ok (.iload_n 2, 1) := by decide +kernel
theorem d_M_placed_19 : decode c_M_placed 19 = .ok (.invokevirtual 127, 3) := by decide +kernel
theorem d_M_placed_22 : decode c_M_placed 22 = .ok (.ifCond .le 21, 3) := by decide +kernel
theorem d_M_placed_25 : decode c_M_placed 25 = .ok (.iload_n 1, 1) := by decide +kernel
theorem d_M_placed_26 : decode c_M_placed 26 = .ok (.aload_n 0, 1) := by decide +kernel
theorem d_M_placed_27 : decode c_M_placed 27 = .ok (.iload_n 2, 1) := by decide +kernel
theorem d_M_placed_28 : decode c_M_placed 28 = .ok (.iload_n 2, 1) := by decide +kernel
theorem d_M_placed_29 : decode c_M_placed 29 = .ok (.invokevirtual 154, 3) := by decide +kernel
theorem d_M_placed_32 : decode c_M_placed 32 = .ok (.aload_n 0, 1) := by decide +kernel
theorem d_M_placed_33 : decode c_M_placed 33 = .ok (.iload_n 2, 1) := by decide +kernel
theorem d_M_placed_34 : decode c_M_placed 34 = .ok (.iconst 1, 1) := by decide +kernel
theorem d_M_placed_35 : decode c_M_placed 35 = .ok (.iadd, 1) := by decide +kernel
theorem d_M_placed_36 : decode c_M_placed 36 = .ok (.iload_n 2, 1) := by decide +kernel
theorem d_M_placed_37 : decode c_M_placed 37 = .ok (.invokevirtual 154, 3) := by decide +kernel
theorem d_M_placed_40 : decode c_M_placed 40 = .ok (.iadd, 1) := by decide +kernel
theorem d_M_placed_41 : decode c_M_placed 41 = .ok (.iadd, 1) := by decide +kernel
theorem d_M_placed_42 : decode c_M_placed 42 = .ok (.istore_n 1, 1) := by decide +kernel
theorem d_M_placed_43 : decode c_M_placed 43 = .ok (.iinc 2 1, 3) := by decide +kernel
theorem d_M_placed_46 : decode c_M_placed 46 = .ok (.goto (-41), 3) := by decide +kernel
theorem d_M_placed_49 : decode c_M_placed 49 = .ok (.iconst 0, 1) := by decide +kernel
theorem d_M_placed_50 : decode c_M_placed 50 = .ok (.istore_n 2, 1) := by decide +kernel
theorem d_M_placed_51 : decode c_M_placed 51 = .ok (.iload_n 2, 1) := by decide +kernel
theorem d_M_placed_52 : decode c_M_placed 52 = .ok (.aload_n 0, 1) := by decide +kernel
theorem d_M_placed_53 : decode c_M_placed 53 = .ok (.invokevirtual 86, 3) := by decide +kernel
theorem d_M_placed_56 : decode c_M_placed 56 = .ok (.if_icmp .ge 50, 3) := by decide +kernel
theorem d_M_placed_59 : decode c_M_placed 59 = .ok (.iload_n 1, 1) := by decide +kernel
theorem d_M_placed_60 : decode c_M_placed 60 = .ok (.aload_n 0, 1) := by decide +kernel
theorem d_M_placed_61 : decode c_M_placed 61 = .ok (.getfield 51, 3) := by decide +kernel
theorem d_M_placed_64 : decode c_M_placed 64 = .ok (.iload_n 2, 1) := by decide +kernel
theorem d_M_placed_65 : decode c_M_placed 65 = .ok (.baload, 1) := by decide +kernel
theorem d_M_placed_66 : decode c_M_placed 66 = .ok (.ifCond .eq 31, 3) := by decide +kernel
theorem d_M_placed_69 : decode c_M_placed 69 = .ok (.aload_n 0, 1) := by decide +kernel
theorem d_M_placed_70 : decode c_M_placed 70 = .ok (.aload_n 0, 1) := by decide +kernel
theorem d_M_placed_71 : decode c_M_placed 71 = .ok (.iload_n 2, 1) := by decide +kernel
theorem d_M_placed_72 : decode c_M_placed 72 = .ok (.invokevirtual 121, 3) := by decide +kernel
theorem d_M_placed_75 : decode c_M_placed 75 = .ok (.iconst 2, 1) := by decide +kernel
theorem d_M_placed_76 : decode c_M_placed 76 = .ok (.iadd, 1) := by decide +kernel
theorem d_M_placed_77 : decode c_M_placed 77 = .ok (.iload_n 2, 1) := by decide +kernel
theorem d_M_placed_78 : decode c_M_placed 78 = .ok (.aload_n 0, 1) := by decide +kernel
theorem d_M_placed_79 : decode c_M_placed 79 = .ok (.getfield 62, 3) := by decide +kernel
theorem d_M_placed_82 : decode c_M_placed 82 = .ok (.iconst 2, 1) := by decide +kernel
theorem d_M_placed_83 : decode c_M_placed 83 = .ok (.isub, 1) := by decide +kernel
theorem d_M_placed_84 : decode c_M_placed 84 = .ok (.irem, 1) := by decide +kernel
theorem d_M_placed_85 : decode c_M_placed 85 = .ok (.iadd, 1) := by decide +kernel
theorem d_M_placed_86 : decode c_M_placed 86 = .ok (.aload_n 0, 1) := by decide +kernel
theorem d_M_placed_87 : decode c_M_placed 87 = .ok (.iload_n 2, 1) := by decide +kernel
theorem d_M_placed_88 : decode c_M_placed 88 = .ok (.invokevirtual 121, 3) := by decide +kernel
theorem d_M_placed_91 : decode c_M_placed 91 = .ok (.invokevirtual 154, 3) := by decide +kernel
theorem d_M_placed_94 : decode c_M_placed 94 = .ok (.goto 4, 3) := by decide +kernel
theorem d_M_placed_97 : decode c_M_placed 97 = .ok (.iconst 0, 1) := by decide +kernel
theorem d_M_placed_98 : decode c_M_placed 98 = .ok (.iadd, 1) := by decide +kernel
theorem d_M_placed_99 : decode c_M_placed 99 = .ok (.istore_n 1, 1) := by decide +kernel
theorem d_M_placed_100 : decode c_M_placed 100 = .ok (.iinc 2 1, 3) := by decide +kernel
theorem d_M_placed_103 : decode c_M_placed 103 = .ok (.goto (-52), 3) := by decide +kernel
theorem d_M_placed_106 : decode c_M_placed 106 = .ok (.iload_n 1, 1) := by decide +kernel
theorem d_M_placed_107 : decode c_M_placed 107 = .ok (.ireturn, 1) := by decide +kernel
theorem d_M_stopped_0 : decode c_M_stopped 0 = .ok (.iconst 0, 1) := by decide +kernel
theorem d_M_stopped_1 : decode c_M_stopped 1 = .ok (.istore_n 1, 1) := by decide +kernel
theorem d_M_stopped_2 : decode c_M_stopped 2 = .ok (.iload_n 1, 1) := by decide +kernel
theorem d_M_stopped_3 : decode c_M_stopped 3 = .ok (.aload_n 0, 1) := by decide +kernel
theorem d_M_stopped_4 : decode c_M_stopped 4 = .ok (.getfield 62, 3) := by decide +kernel
theorem d_M_stopped_7 : decode c_M_stopped 7 = .ok (.if_icmp .ge 21, 3) := by decide +kernel
theorem d_M_stopped_10 : decode c_M_stopped 10 = .ok (.aload_n 0, 1) := by decide +kernel
theorem d_M_stopped_11 : decode c_M_stopped 11 = .ok (.getfield 23, 3) := by decide +kernel
theorem d_M_stopped_14 : decode c_M_stopped 14 = .ok (.iload_n 1, 1) := by decide +kernel
theorem d_M_stopped_15 : decode c_M_stopped 15 = .ok (.aload_n 0, 1) := by decide +kernel
theorem d_M_stopped_16 : decode c_M_stopped 16 = .ok (.getfield 27, 3) := by decide +kernel
theorem d_M_stopped_19 : decode c_M_stopped 19 = .ok (.iload_n 1, 1) := by decide +kernel
theorem d_M_stopped_20 : decode c_M_stopped 20 = .ok (.iaload, 1) := by decide +kernel
theorem d_M_stopped_21 : decode c_M_stopped 21 = .ok (.iastore, 1) := by decide +kernel
theorem d_M_stopped_22 : decode c_M_stopped 22 = .ok (.iinc 1 1, 3) := by decide +kernel
theorem d_M_stopped_25 : decode c_M_stopped 25 = .ok (.goto (-23), 3) := by decide +kernel
theorem d_M_stopped_28 : decode c_M_stopped 28 = .ok (.bipush (-2), 2) := by decide +kernel
theorem d_M_stopped_30 : decode c_M_stopped 30 = .ok (.ireturn, 1) := by decide +kernel
theorem d_M_mount_0 : decode c_M_mount 0 = .ok (.aload_n 0, 1) := by decide +kernel
theorem d_M_mount_1 : decode c_M_mount 1 = .ok (.iconst 0, 1) := by decide +kernel
theorem d_M_mount_2 : decode c_M_mount 2 = .ok (.putfield 58, 3) := by decide +kernel
theorem d_M_mount_5 : decode c_M_mount 5 = .ok (.aload_n 0, 1) := by decide +kernel
theorem d_M_mount_6 : decode c_M_mount 6 = .ok (.getfield 68, 3) := by decide +kernel
theorem d_M_mount_9 : decode c_M_mount 9 = .ok (.ifCond .eq 12, 3) := by decide +kernel
theorem d_M_mount_12 : decode c_M_mount 12 = .ok (.iload_n 1, 1) := by decide +kernel
theorem d_M_mount_13 : decode c_M_mount 13 = .ok (.ifCond .lt 8, 3) := by decide +kernel
theorem d_M_mount_16 : decode c_M_mount 16 = .ok (.iload_n 1, 1) := by decide +kernel
theorem d_M_mount_17 : decode c_M_mount 17 = .ok (.iconst 3, 1) := by decide +kernel
theorem d_M_mount_18 : decode c_M_mount 18 = .ok (.if_icmp .le 5, 3) := by decide +kernel
theorem d_M_mount_21 : decode c_M_mount 21 = .ok (.iconst (-1), 1) := by decide +kernel
theorem d_M_mount_22 : decode c_M_mount 22 = .ok (.ireturn, 1) := by decide +kernel
theorem d_M_mount_23 : decode c_M_mount 23 = .ok (.iconst 0, 1) := by decide +kernel
theorem d_M_mount_24 : decode c_M_mount 24 = .ok (.istore 4, 2) := by decide +kernel
theorem d_M_mount_26 : decode c_M_mount 26 = .ok (.iconst 0, 1) := by decide +kernel
theorem d_M_mount_27 : decode c_M_mount 27 = .ok (.istore 5, 2) := by decide +kernel
theorem d_M_mount_29 : decode c_M_mount 29 = .ok (.iload 5, 2) := by decide +kernel
theorem d_M_mount_31 : decode c_M_mount 31 = .ok (.aload_n 0, 1) := by decide +kernel
theorem d_M_mount_32 : decode c_M_mount 32 = .ok (.getfield 62, 3) := by decide +kernel
theorem d_M_mount_35 : decode c_M_mount 35 = .ok (.if_icmp .ge 33, 3) := by decide +kernel
theorem d_M_mount_38 : decode c_M_mount 38 = .ok (.aload_n 0, 1) := by decide +kernel
theorem d_M_mount_39 : decode c_M_mount 39 = .ok (.iload 5, 2) := by decide +kernel
theorem d_M_mount_41 : decode c_M_mount 41 = .ok (.invokevirtual 92, 3) := by decide +kernel
theorem d_M_mount_44 : decode c_M_mount 44 = .ok (.iload 4, 2) := by decide +kernel
theorem d_M_mount_46 : decode c_M_mount 46 = .ok (.if_icmp .le 12, 3) := by decide +kernel
theorem d_M_mount_49 : decode c_M_mount 49 = .ok (.aload_n 0, 1) := by decide +kernel
theorem d_M_mount_50 : decode c_M_mount 50 = .ok (.iload 5, 2) := by decide +kernel
theorem d_M_mount_52 : decode c_M_mount 52 = .ok (.invokevirtual 92, 3) := by decide +kernel
theorem d_M_mount_55 : decode c_M_mount 55 = .ok (.goto 5, 3) := by decide +kernel
theorem d_M_mount_58 : decode c_M_mount 58 = .ok (.iload 4, 2) := by decide +kernel
theorem d_M_mount_60 : decode c_M_mount 60 = .ok (.istore 4, 2) := by decide +kernel
theorem d_M_mount_62 : decode c_M_mount 62 = .ok (.iinc 5 1, 3) := by decide +kernel
theorem d_M_mount_65 : decode c_M_mount 65 = .ok (.goto (-36), 3) := by decide +kernel
theorem d_M_mount_68 : decode c_M_mount 68 = .ok (.aload_n 0, 1) := by decide +kernel
theorem d_M_mount_69 : decode c_M_mount 69 = .ok (.iload 4, 2) := by decide +kernel
theorem d_M_mount_71 : decode c_M_mount 71 = .ok (.putfield 75, 3) := by decide +kernel
theorem d_M_mount_74 : decode c_M_mount 74 = .ok (.iconst 0, 1) := by decide +kernel
theorem d_M_mount_75 : decode c_M_mount 75 = .ok (.istore 5, 2) := by decide +kernel
theorem d_M_mount_77 : decode c_M_mount 77 = .ok (.iload 5, 2) := by decide +kernel
theorem d_M_mount_79 : decode c_M_mount 79 = .ok (.aload_n 0, 1) := by decide +kernel
theorem d_M_mount_80 : decode c_M_mount 80 = .ok (.getfield 62, 3) := by decide +kernel
theorem d_M_mount_83 : decode c_M_mount 83 = .ok (.if_icmp .ge 23, 3) := by decide +kernel
theorem d_M_mount_86 : decode c_M_mount 86 = .ok (.aload_n 0, 1) := by decide +kernel
theorem d_M_mount_87 : decode c_M_mount 87 = .ok (.getfield 27, 3) := by decide +kernel
theorem d_M_mount_90 : decode c_M_mount 90 = .ok (.iload 5, 2) := by decide +kernel
theorem d_M_mount_92 : decode c_M_mount 92 = .ok (.aload_n 0, 1) := by decide +kernel
theorem d_M_mount_93 : decode c_M_mount 93 = .ok (.getfield 23, 3) := by decide +kernel
theorem d_M_mount_96 : decode c_M_mount 96 = .ok (.iload 5, 2) := by decide +kernel
theorem d_M_mount_98 : decode c_M_mount 98 = .ok (.iaload, 1) := by decide +kernel
theorem d_M_mount_99 : decode c_M_mount 99 = .ok (.iastore, 1) := by decide +kernel
theorem d_M_mount_100 : decode c_M_mount 100 = .ok (.iinc 5 1, 3) := by decide +kernel
theorem d_M_mount_103 : decode c_M_mount 103 = .ok (.goto (-26), 3) := by decide +kernel
theorem d_M_mount_106 : decode c_M_mount 106 = .ok (.iconst 0, 1) := by decide +kernel
theorem d_M_mount_107 : decode c_M_mount 107 = .ok (.istore 5, 2) := by decide +kernel
theorem d_M_mount_109 : decode c_M_mount 109 = .ok (.iload 5, 2) := by decide +kernel
theorem d_M_mount_111 : decode c_M_mount 111 = .ok (.aload_n 0, 1) := by decide +kernel
theorem d_M_mount_112 : decode c_M_mount 112 = .ok (.getfield 62, 3) := by decide +kernel
theorem d_M_mount_115 : decode c_M_mount 115 = .ok (.if_icmp .ge 62, 3) := by decide +kernel
theorem d_M_mount_118 : decode c_M_mount 118 = .ok (.aload_n 0, 1) := by decide +kernel
theorem d_M_mount_119 : decode c_M_mount 119 = .ok (.getfield 23, 3) := by decide +kernel
theorem d_M_mount_122 : decode c_M_mount 122 = .ok (.iload 5, 2) := by decide +kernel
theorem d_M_mount_124 : decode c_M_mount 124 = .ok (.aload_n 0, 1) := by decide +kernel
theorem d_M_mount_125 : decode c_M_mount 125 = .ok (.getfield 20, 3) := by decide +kernel
theorem d_M_mount_128 : decode c_M_mount 128 = .ok (.iload 5, 2) := by decide +kernel
theorem d_M_mount_130 : decode c_M_mount 130 = .ok (.baload, 1) := by decide +kernel
theorem d_M_mount_131 : decode c_M_mount 131 = .ok (.ifCond .eq 13, 3) := by decide +kernel
theorem d_M_mount_134 : decode c_M_mount 134 = .ok (.aload_n 0, 1) := by decide +kernel
theorem d_M_mount_135 : decode c_M_mount 135 = .ok (.getfield 23, 3) := by decide +kernel
theorem d_M_mount_138 : decode c_M_mount 138 = .ok (.iload 5, 2) := by decide +kernel
theorem d_M_mount_140 : decode c_M_mount 140 = .ok (.iaload, 1) := by decide +kernel
theorem d_M_mount_141 : decode c_M_mount 141 = .ok (.goto 29, 3) := by decide +kernel
theorem d_M_mount_144 : decode c_M_mount 144 = .ok (.aload_n 0, 1) := by decide +kernel
theorem d_M_mount_145 : decode c_M_mount 145 = .ok (.iload 5, 2) := by decide +kernel
theorem d_M_mount_147 : decode c_M_mount 147 = .ok (.invokevirtual 92, 3) := by decide +kernel
theorem d_M_mount_150 : decode c_M_mount 150 = .ok (.ifCond .ne 7, 3) := by decide +kernel
theorem d_M_mount_153 : decode c_M_mount 153 = .ok (.iconst 0, 1) := by decide +kernel
theorem d_M_mount_154 : decode c_M_mount 154 = .ok (.goto 16, 3) := by decide +kernel
theorem d_M_mount_157 : decode c_M_mount 157 = .ok (.aload_n 0, 1) := by decide +kernel
theorem d_M_mount_158 : decode c_M_mount 158 = .ok (.getfield 45, 3) := by decide +kernel
theorem d_M_mount_161 : decode c_M_mount 161 = .ok (.bipush 8, 2) := by decide +kernel
theorem d_M_mount_163 : decode c_M_mount 163 = .ok (.iload 4, 2) := by decide +kernel
theorem d_M_mount_165 : decode c_M_mount 165 = .ok (.imul, 1) := by decide +kernel
theorem d_M_mount_166 : decode c_M_mount 166 = .ok (.iload 5, 2) := by decide +kernel
theorem d_M_mount_168 : decode c_M_mount 168 = .ok (.iadd, 1) := by decide +kernel
theorem d_M_mount_169 : decode c_M_mount 169 = .ok (.iaload, 1) := by decide +kernel
theorem d_M_mount_170 : decode c_M_mount 170 = .ok (.iastore, 1) := by decide +kernel
theorem d_M_mount_171 : decode c_M_mount 171 = .ok (.iinc 5 1, 3) := by decide +kernel
theorem d_M_mount_174 : decode c_M_mount 174 = .ok (.goto (-65), 3) := by decide +kernel
theorem d_M_mount_177 : decode c_M_mount 177 = .ok (.aload_n 0, 1) := by decide +kernel
theorem d_M_mount_178 : decode c_M_mount 178 = .ok (.getfield 42, 3) := by decide +kernel
theorem d_M_mount_181 : decode c_M_mount 181 = .ok (.iload 4, 2) := by decide +kernel
theorem d_M_mount_183 : decode c_M_mount 183 = .ok (.baload, 1) := by decide +kernel
theorem d_M_mount_184 : decode c_M_mount 184 = .ok (.istore 5, 2) := by decide +kernel
theorem d_M_mount_186 : decode c_M_mount 186 = .ok (.aload_n 0, 1) := by decide +kernel
theorem d_M_mount_187 : decode c_M_mount 187 = .ok (.iload 4, 2) := by decide +kernel
theorem d_M_mount_189 : decode c_M_mount 189 = .ok (.iconst 1, 1) := by decide +kernel
theorem d_M_mount_190 : decode c_M_mount 190 = .ok (.iload_n 1, 1) := by decide +kernel
theorem d_M_mount_191 : decode c_M_mount 191 = .ok (.iconst 1, 1) := by decide +kernel
theorem d_M_mount_192 : decode c_M_mount 192 = .ok (.if_icmp .ne 7, 3) := by decide +kernel
theorem d_M_mount_195 : decode c_M_mount 195 = .ok (.iconst 1, 1) := by decide +kernel
theorem d_M_mount_196 : decode c_M_mount 196 = .ok (.goto 4, 3) := by decide +kernel
theorem d_M_mount_199 : decode c_M_mount 199 = .ok (.iconst 0, 1) := by decide +kernel
theorem d_M_mount_200 : decode c_M_mount 200 = .ok (.lload_n 2, 1) := by decide +kernel
theorem d_M_mount_201 : decode c_M_mount 201 = .ok (.invokevirtual 103, 3) := by decide +kernel
theorem d_M_mount_204 : decode c_M_mount 204 = .ok (.iload_n 1, 1) := by decide +kernel
theorem d_M_mount_205 : decode c_M_mount 205 = .ok (.iconst 1, 1) := by decide +kernel
theorem d_M_mount_206 : decode c_M_mount 206 = .ok (.if_icmp .ne 8, 3) := by decide +kernel
theorem d_M_mount_209 : decode c_M_mount 209 = .ok (.aload_n 0, 1) := by decide +kernel
theorem d_M_mount_210 : decode c_M_mount 210 = .ok (.invokevirtual 157, 3) := by decide +kernel
theorem d_M_mount_213 : decode c_M_mount 213 = .ok (.ireturn, 1) := by decide +kernel
theorem d_M_mount_214 : decode c_M_mount 214 = .ok (.iconst 0, 1) := by decide +kernel
theorem d_M_mount_215 : decode c_M_mount 215 = .ok (.istore 6, 2) := by decide +kernel
theorem d_M_mount_217 : decode c_M_mount 217 = .ok (.iload 5, 2) := by decide +kernel
theorem d_M_mount_219 : decode c_M_mount 219 = .ok (.ifCond .eq 21, 3) := by decide +kernel
theorem d_M_mount_222 : decode c_M_mount 222 = .ok (.iload_n 1, 1) := by decide +kernel
theorem d_M_mount_223 : decode c_M_mount 223 = .ok (.iconst 2, 1) := by decide +kernel
theorem d_M_mount_224 : decode c_M_mount 224 = .ok (.if_icmp .ne 6, 3) := by decide +kernel
theorem d_M_mount_227 : decode c_M_mount 227 = .ok (.bipush (-2), 2) := by decide +kernel
theorem d_M_mount_229 : decode c_M_mount 229 = .ok (.ireturn, 1) := by decide +kernel
theorem d_M_mount_230 : decode c_M_mount 230 = .ok (.aload_n 0, 1) := by decide +kernel
theorem d_M_mount_231 : decode c_M_mount 231 = .ok (.invokevirtual 145, 3) := by decide +kernel
theorem d_M_mount_234 : decode c_M_mount 234 = .ok (.aload_n 0, 1) := by decide +kernel
theorem d_M_mount_235 : decode c_M_mount 235 = .ok (.invokevirtual 160, 3) := by decide +kernel
theorem d_M_mount_238 : decode c_M_mount 238 = .ok (.istore 6, 2) := by decide +kernel
theorem d_M_mount_240 : decode c_M_mount 240 = .ok (.iload_n 1, 1) := by decide +kernel
theorem d_M_mount_241 : decode c_M_mount 241 = .ok (.iconst 3, 1) := by decide +kernel
theorem d_M_mount_242 : decode c_M_mount 242 = .ok (.if_icmp .ne 22, 3) := by decide +kernel
theorem d_M_mount_245 : decode c_M_mount 245 = .ok (.aload_n 0, 1) := by decide +kernel
theorem d_M_mount_246 : decode c_M_mount 246 = .ok (.iconst 0, 1) := by decide +kernel
theorem d_M_mount_247 : decode c_M_mount 247 = .ok (.invokevirtual 100, 3) := by decide +kernel
theorem d_M_mount_250 : decode c_M_mount 250 = .ok (.aload_n 0, 1) := by decide +kernel
theorem d_M_mount_251 : decode c_M_mount 251 = .ok (.aload_n 0, 1) := by decide +kernel
theorem d_M_mount_252 : decode c_M_mount 252 = .ok (.getfield 72, 3) := by decide +kernel
theorem d_M_mount_255 : decode c_M_mount 255 = .ok (.iconst 0, 1) := by decide +kernel
theorem d_M_mount_256 : decode c_M_mount 256 = .ok (.iconst 1, 1) := by decide +kernel
theorem d_M_mount_257 : decode c_M_mount 257 = .ok (.lload_n 2, 1) := by decide +kernel
theorem d_M_mount_258 : decode c_M_mount 258 = .ok (.invokevirtual 103, 3) := by decide +kernel
theorem d_M_mount_261 : decode c_M_mount 261 = .ok (.bipush (-2), 2) := by decide +kernel
theorem d_M_mount_263 : decode c_M_mount 263 = .ok (.ireturn, 1) := by decide +kernel
theorem d_M_mount_264 : decode c_M_mount 264 = .ok (.aload_n 0, 1) := by decide +kernel
theorem d_M_mount_265 : decode c_M_mount 265 = .ok (.iconst 0, 1) := by decide +kernel
theorem d_M_mount_266 : decode c_M_mount 266 = .ok (.invokevirtual 82, 3) := by decide +kernel
theorem d_M_mount_269 : decode c_M_mount 269 = .ok (.aload_n 0, 1) := by decide +kernel
theorem d_M_mount_270 : decode c_M_mount 270 = .ok (.iconst 0, 1) := by decide +kernel
theorem d_M_mount_271 : decode c_M_mount 271 = .ok (.putfield 68, 3) := by decide +kernel
theorem d_M_mount_274 : decode c_M_mount 274 = .ok (.iconst 0, 1) := by decide +kernel
theorem d_M_mount_275 : decode c_M_mount 275 = .ok (.istore 7, 2) := by decide +kernel
theorem d_M_mount_277 : decode c_M_mount 277 = .ok (.iload 7, 2) := by decide +kernel
theorem d_M_mount_279 : decode c_M_mount 279 = .ok (.aload_n 0, 1) := by decide +kernel
theorem d_M_mount_280 : decode c_M_mount 280 = .ok (.invokevirtual 86, 3) := by decide +kernel
theorem d_M_mount_283 : decode c_M_mount 283 = .ok (.if_icmp .ge 31, 3) := by decide +kernel
theorem d_M_mount_286 : decode c_M_mount 286 = .ok (.aload_n 0, 1) := by decide +kernel
theorem d_M_mount_287 : decode c_M_mount 287 = .ok (.aload_n 0, 1) := by decide +kernel
theorem d_M_mount_288 : decode c_M_mount 288 = .ok (.getfield 13, 3) := by decide +kernel
theorem d_M_mount_291 : decode c_M_mount 291 = .ok (.aload_n 0, 1) := by decide +kernel
theorem d_M_mount_292 : decode c_M_mount 292 = .ok (.getfield 7, 3) := by decide +kernel
theorem d_M_mount_295 : decode c_M_mount 295 = .ok (.iload 7, 2) := by decide +kernel
theorem d_M_mount_297 : decode c_M_mount 297 = .ok (.invokevirtual 137, 3) := by decide +kernel
theorem d_M_mount_300 : decode c_M_mount 300 = .ok (.aload_n 0, 1) := by decide +kernel
theorem d_M_mount_301 : decode c_M_mount 301 = .ok (.getfield 16, 3) := by decide +kernel
theorem d_M_mount_304 : decode c_M_mount 304 = .ok (.iload 7, 2) := by decide +kernel
theorem d_M_mount_306 : decode c_M_mount 306 = .ok (.iconst 0, 1) := by decide +kernel
theorem d_M_mount_307 : decode c_M_mount 307 = .ok (.bastore, 1) := by decide +kernel
theorem d_M_mount_308 : decode c_M_mount 308 = .ok (.iinc 7 1, 3) := by decide +kernel
theorem d_M_mount_311 : decode c_M_mount 311 = .ok (.goto (-34), 3) := by decide +kernel
theorem d_M_mount_314 : decode c_M_mount 314 = .ok (.iload 6, 2) := by decide +kernel
theorem d_M_mount_316 : decode c_M_mount 316 = .ok (.ireturn, 1) := by decide +kernel
theorem d_M_check_0 : decode c_M_check 0 = .ok (.aload_n 0, 1) := by decide +kernel
theorem d_M_check_1 : decode c_M_check 1 = .ok (.iconst 0, 1) := by decide +kernel
theorem d_M_check_2 : decode c_M_check 2 = .ok (.putfield 58, 3) := by decide +kernel
theorem d_M_check_5 : decode c_M_check 5 = .ok (.aload_n 0, 1) := by decide +kernel
theorem d_M_check_6 : decode c_M_check 6 = .ok (.getfield 68, 3) := by decide +kernel
theorem d_M_check_9 : decode c_M_check 9 = .ok (.ifCond .eq 8, 3) := by decide +kernel
theorem d_M_check_12 : decode c_M_check 12 = .ok (.bipush (-2), 2) := by decide +kernel
theorem d_M_check_14 : decode c_M_check 14 = .ok (.goto 4, 3) := by decide +kernel
theorem d_M_check_17 : decode c_M_check 17 = .ok (.iconst 0, 1) := by decide +kernel
theorem d_M_check_18 : decode c_M_check 18 = .ok (.ireturn, 1) := by decide +kernel
theorem d_M_count_0 : decode c_M_count 0 = .ok (.aload_n 0, 1) := by decide +kernel
theorem d_M_count_1 : decode c_M_count 1 = .ok (.iconst 0, 1) := by decide +kernel
theorem d_M_count_2 : decode c_M_count 2 = .ok (.putfield 58, 3) := by decide +kernel
theorem d_M_count_5 : decode c_M_count 5 = .ok (.aload_n 0, 1) := by decide +kernel
theorem d_M_count_6 : decode c_M_count 6 = .ok (.getfield 68, 3) := by decide +kernel
theorem d_M_count_9 : decode c_M_count 9 = .ok (.ifCond .eq 6, 3) := by decide +kernel
theorem d_M_count_12 : decode c_M_count 12 = .ok (.bipush (-2), 2) := by decide +kernel
theorem d_M_count_14 : decode c_M_count 14 = .ok (.ireturn, 1) := by decide +kernel
theorem d_M_count_15 : decode c_M_count 15 = .ok (.iconst 0, 1) := by decide +kernel
theorem d_M_count_16 : decode c_M_count 16 = .ok (.istore_n 2, 1) := by decide +kernel
theorem d_M_count_17 : decode c_M_count 17 = .ok (.iconst 0, 1) := by decide +kernel
theorem d_M_count_18 : decode c_M_count 18 = .ok (.istore_n 3, 1) := by decide +kernel
theorem d_M_count_19 : decode c_M_count 19 = .ok (.iload_n 3, 1) := by decide +kernel
theorem d_M_count_20 : decode c_M_count 20 = .ok (.aload_n 0, 1) := by decide +kernel
theorem d_M_count_21 : decode c_M_count 21 = .ok (.getfield 62, 3) := by decide +kernel
theorem d_M_count_24 : decode c_M_count 24 = .ok (.if_icmp .ge 25, 3) := by decide +kernel
theorem d_M_count_27 : decode c_M_count 27 = .ok (.iload_n 2, 1) := by decide +kernel
theorem d_M_count_28 : decode c_M_count 28 = .ok (.aload_n 0, 1) := by decide +kernel
theorem d_M_count_29 : decode c_M_count 29 = .ok (.iload_n 3, 1) := by decide +kernel
theorem d_M_count_30 : decode c_M_count 30 = .ok (.invokevirtual 151, 3) := by decide +kernel
theorem d_M_count_33 : decode c_M_count 33 = .ok (.ifCond .eq 7, 3) := by decide +kernel
theorem d_M_count_36 : decode c_M_count 36 = .ok (.iconst 1, 1) := by decide +kernel
theorem d_M_count_37 : decode c_M_count 37 = .ok (.goto 4, 3) := by decide +kernel
theorem d_M_count_40 : decode c_M_count 40 = .ok (.iconst 0, 1) := by decide +kernel
theorem d_M_count_41 : decode c_M_count 41 = .ok (.iadd, 1) := by decide +kernel
theorem d_M_count_42 : decode c_M_count 42 = .ok (.istore_n 2, 1) := by decide +kernel
theorem d_M_count_43 : decode c_M_count 43 = .ok (.iinc 3 1, 3) := by decide +kernel
theorem d_M_count_46 : decode c_M_count 46 = .ok (.goto (-27), 3) := by decide +kernel
theorem d_M_count_49 : decode c_M_count 49 = .ok (.iload_n 1, 1) := by decide +kernel
theorem d_M_count_50 : decode c_M_count 50 = .ok (.ifCond .ne 10, 3) := by decide +kernel
theorem d_M_count_53 : decode c_M_count 53 = .ok (.aload_n 0, 1) := by decide +kernel
theorem d_M_count_54 : decode c_M_count 54 = .ok (.invokevirtual 86, 3) := by decide +kernel
theorem d_M_count_57 : decode c_M_count 57 = .ok (.goto 49, 3) := by decide +kernel
theorem d_M_count_60 : decode c_M_count 60 = .ok (.iload_n 1, 1) := by decide +kernel
theorem d_M_count_61 : decode c_M_count 61 = .ok (.iconst 1, 1) := by decide +kernel
theorem d_M_count_62 : decode c_M_count 62 = .ok (.if_icmp .ne 10, 3) := by decide +kernel
theorem d_M_count_65 : decode c_M_count 65 = .ok (.aload_n 0, 1) := by decide +kernel
theorem d_M_count_66 : decode c_M_count 66 = .ok (.invokevirtual 134, 3) := by decide +kernel
theorem d_M_count_69 : decode c_M_count 69 = .ok (.goto 37, 3) := by decide +kernel
theorem d_M_count_72 : decode c_M_count 72 = .ok (.iload_n 1, 1) := by decide +kernel
theorem d_M_count_73 : decode c_M_count 73 = .ok (.iconst 2, 1) := by decide +kernel
theorem d_M_count_74 : decode c_M_count 74 = .ok (.if_icmp .ne 10, 3) := by decide +kernel
theorem d_M_count_77 : decode c_M_count 77 = .ok (.aload_n 0, 1) := by decide +kernel
theorem d_M_count_78 : decode c_M_count 78 = .ok (.invokevirtual 124, 3) := by decide +kernel
theorem d_M_count_81 : decode c_M_count 81 = .ok (.goto 25, 3) := by decide +kernel
theorem d_M_count_84 : decode c_M_count 84 = .ok (.iload_n 1, 1) := by decide +kernel
theorem d_M_count_85 : decode c_M_count 85 = .ok (.iconst 3, 1) := by decide +kernel
theorem d_M_count_86 : decode c_M_count 86 = .ok (.if_icmp .ne 10, 3) := by decide +kernel
theorem d_M_count_89 : decode c_M_count 89 = .ok (.aload_n 0, 1) := by decide +kernel
theorem d_M_count_90 : decode c_M_count 90 = .ok (.invokevirtual 148, 3) := by decide +kernel
theorem d_M_count_93 : decode c_M_count 93 = .ok (.goto 13, 3) := by decide +kernel
theorem d_M_count_96 : decode c_M_count 96 = .ok (.iload_n 1, 1) := by decide +kernel
theorem d_M_count_97 : decode c_M_count 97 = .ok (.iconst 4, 1) := by decide +kernel
theorem d_M_count_98 : decode c_M_count 98 = .ok (.if_icmp .ne 7, 3) := by decide +kernel
theorem d_M_count_101 : decode c_M_count 101 = .ok (.iload_n 2, 1) := by decide +kernel
theorem d_M_count_102 : decode c_M_count 102 = .ok (.goto 4, 3) := by decide +kernel
theorem d_M_count_105 : decode c_M_count 105 = .ok (.iconst (-1), 1) := by decide +kernel
theorem d_M_count_106 : decode c_M_count 106 = .ok (.ireturn, 1) := by decide +kernel
end
section
/-! the reference's state: thrown, n, r, off, latest, base; now, kept, written, lost, marks, were, rotten, first, last, places, says, tells, journal, inJournal -/
abbrev FF : Type := Nat → Int32
abbrev MT : Type := Int32 × Int32 × Int32 × Int32 × Int32 × Int32 × FF × FF × FF × FF × FF × FF × FF × FF × FF × FF × FF × FF × FF × FF
theorem cnt_t2 {p : Nat → Bool} {n : Nat} (h : p n = true) : nI (cnt p (n + 1)) = nI (cnt p n) + 1 := (cnt_t h).symm
theorem cnt_f2 {p : Nat → Bool} {n : Nat} (h : p n = false) : nI (cnt p (n + 1)) = nI (cnt p n) + 0 := by rw [cnt_f h, Int32.add_zero]
def nz (x : Int32) : Bool := !decide (x = 0)
theorem nz_t {x : Int32} (h : ¬ x = 0) : nz x = true := by unfold nz; rw [decide_eq_false h]; rfl
theorem nz_f {x : Int32} (h : x = 0) : nz x = false := by unfold nz; rw [decide_eq_true h]; rfl
/-- a disk is gone in a row -/
def mGone (fL fM fR : FF) (d t : Nat) : Bool := nz (fL d) || (decide (fM d ≤ nI t) || nz (fR (40 * d + t)))
def mHas1 (fF fS : FF) (s : Nat) (x : Int32) : Int32 := if fF s = fS s ∧ x < fF s then fF s else x
/-- the latest label that a disk has, or 0 -/
def mHas (fL fF fS : FF) (d : Nat) : Int32 := if fL d = 0 then mHas1 fF fS (2 * d + 1) (mHas1 fF fS (2 * d) 0) else 0
def mBits (bits : Int64) (k : Nat) : Int32 := ((bits >>> ((2 * nI k).toInt64 &&& 63)) &&& 3).toInt32
/-- marks of the first d disks told by a label -/
def mTell (fM : FF) (x : Nat) (f : FF) : Nat → FF
  | 0 => f
  | d + 1 => upd (mTell fM x f d) (8 * x + d) (fM d)
/-- a block copied, the first k bytes of it -/
def mCopy (g : FF) (f : FF) (a : Nat) : Nat → FF
  | 0 => f
  | k + 1 => upd (mCopy g f a k) (a + k) (vp_nar .byte (g (a + k)))
def mInRow (fG : FF) (n t : Nat) (b : Nat) : Bool := nz (fG b) && decide (6 + nI b / (nI n - 2) = nI t)
def mRows (fG : FF) (n B : Nat) (t : Nat) : Bool := decide (¬ nI (cnt (mInRow fG n (6 + t)) B) ≤ 0)
def mUse (fW : FF) (n r : Nat) : Int32 := if nI (cnt (fun b => nz (fW b)) ((n - 2) * (r - 6))) = 0 then 0 else 1 + nI (cnt (fun b => nz (fW b)) ((n - 2) * (r - 6))) + 2 * nI (cnt (mRows fW n ((n - 2) * (r - 6))) (r - 6))
theorem ix {e : Int32} {k : Nat} (h : e = nI k) : e = nI k := h
theorem blk_nI {X Y : Int32} {n r : Nat} (hX : X = nI n) (hY : Y = nI r) (h4 : 4 ≤ n) (h12 : 12 ≤ r) : (X - 2) * (Y - 6) = nI ((n - 2) * (r - 6)) := by
  rw [hX, hY, show (nI n - 2) = nI (n - 2) from pk_sub (a := n) (b := 2) (by omega), show (nI r - 6) = nI (r - 6) from pk_sub (a := r) (b := 6) (by omega)]
  exact pk_mul _ _
theorem blk_le {n r : Nat} (h8 : n ≤ 8) (h40 : r ≤ 40) : (n - 2) * (r - 6) ≤ 204 := Nat.le_trans (Nat.mul_le_mul (show n - 2 ≤ 6 by omega) (show r - 6 ≤ 34 by omega)) (by decide)
end
section
abbrev wMd (b : Nat → Nat) (k5 : Nat → ClassId) (vT vn vr vo vl vb : Int32) (fN fK fW fL fM fE fR fF fS fP fY fT fJ fI : FF) : va_W := [((b 0), .inr (3, [.int vT, .int vn, .int vr, .int vo, .ref (b 1), .ref (b 2), .ref (b 3), .ref (b 4), .ref (b 5), .ref (b 6), .ref (b 7), .ref (b 8), .ref (b 9), .int vl, .int vb, .ref (b 10), .ref (b 11), .ref (b 12), .ref (b 13), .ref (b 14)])), ((b 1), .inl ((k5 2), 13056, .inl fN)), ((b 2), .inl ((k5 2), 13056, .inl fK)), ((b 3), .inl ((k5 3), 204, .inl fW)), ((b 4), .inl ((k5 3), 8, .inl fL)), ((b 5), .inl ((k5 0), 8, .inl fM)), ((b 6), .inl ((k5 0), 8, .inl fE)), ((b 7), .inl ((k5 3), 320, .inl fR)), ((b 8), .inl ((k5 0), 16, .inl fF)), ((b 9), .inl ((k5 0), 16, .inl fS)), ((b 10), .inl ((k5 0), 1300, .inl fP)), ((b 11), .inl ((k5 3), 1300, .inl fY)), ((b 12), .inl ((k5 0), 10400, .inl fT)), ((b 13), .inl ((k5 2), 13056, .inl fJ)), ((b 14), .inl ((k5 3), 204, .inl fI))]
abbrev wMS (b : Nat → Nat) (k5 : Nat → ClassId) (M : MT) : va_W := wMd b k5 (M.1) (M.2.1) (M.2.2.1) (M.2.2.2.1) (M.2.2.2.2.1) (M.2.2.2.2.2.1) (M.2.2.2.2.2.2.1) (M.2.2.2.2.2.2.2.1) (M.2.2.2.2.2.2.2.2.1) (M.2.2.2.2.2.2.2.2.2.1) (M.2.2.2.2.2.2.2.2.2.2.1) (M.2.2.2.2.2.2.2.2.2.2.2.1) (M.2.2.2.2.2.2.2.2.2.2.2.2.1) (M.2.2.2.2.2.2.2.2.2.2.2.2.2.1) (M.2.2.2.2.2.2.2.2.2.2.2.2.2.2.1) (M.2.2.2.2.2.2.2.2.2.2.2.2.2.2.2.1) (M.2.2.2.2.2.2.2.2.2.2.2.2.2.2.2.2.1) (M.2.2.2.2.2.2.2.2.2.2.2.2.2.2.2.2.2.1) (M.2.2.2.2.2.2.2.2.2.2.2.2.2.2.2.2.2.2.1) (M.2.2.2.2.2.2.2.2.2.2.2.2.2.2.2.2.2.2.2)
set_option maxHeartbeats 4000000 in
set_option maxRecDepth 100000 in
theorem k_M_blocks (l : Launch) (dC : Nat → ClassId) (dI : Nat → Nat → Nat) (k5 : Nat → ClassId) (b : Nat → Nat) (vT vn vr vo vl vb : Int32) (fN fK fW fL fM fE fR fF fS fP fY fT fJ fI : FF)  : Met l y_M_blocks w_M_blocks ({ frames := 0, cells := 0, slots := 0, locals := 0 }) (kx_Pc (dC, dI) clA (tyL k5) (wMd b k5 vT vn vr vo vl vb fN fK fW fL fM fE fR fF fS fP fY fT fJ fI) [.ref (b 0)]) (kx_R (some (.int ((vn - 2) * (vr - 6))))) 0 0 (fun _ => False) := by
  refine Met.ofW (cc := c_M_blocks) (maxL := 1) (ret := (some .int)) (by decide) rfl ?_
  intro p e s m args below meth c s₁ B hml hv
  obtain ⟨rfl, hP, hK, hD0⟩ := hv
  have hx := B.exec
  have hb := B.bytes
  have hr := B.returns
  have hts : ∀ w ∈ wsA, w.before _ s = true := fun w h => atoms_spec (ws := w_M_blocks) B.pre w (List.mem_cons_of_mem _ h)
  have hown : s.vm.findClass R_M = some m.cls := findClass_of_methodNamed B.named
  have hlocks := B.notSynchronized
  have hD := kx_D.self hD0
  have hS : va_S (kx_A (wMd b k5 vT vn vr vo vl vb fN fK fW fL fM fE fR fF fS fP fY fT fJ fI)) s.heap s.heap [] := va_S.rf
  have hl := lv_entry ([.ref (b 0)]) (n := 1) (Nat.le_of_ble_eq_true rfl)
  rw [lg_entry_eq]
  generalize (lg_sl ([.ref (b 0)]) ++ List.replicate (1 - (lg_sl ([.ref (b 0)])).length) Slot.unset).toArray = ls at hl ⊢
  have hl : lv_has ls 1 [(0, .ref (b 0))] := hl
  refine lv_aload_n hx hb d_M_blocks_0 rfl (lv_at hl 0 rfl) ?_
  refine va_get (D := (dC, dI)) (ci := 3) (v := .int vn) (C := R_M) (T := T_M) (N := 20) hx hb hts wu_M hown hK hP 0 rfl rfl 1 (by decide) (hts _ wf_M_62) (fun _ h9 => h9) rfl d_M_blocks_1 ?_
  refine lv_iconst (v := 2) hx hb d_M_blocks_4 (by decide) ?_
  refine lv_isub hx hb d_M_blocks_5 ?_
  refine lv_aload_n hx hb d_M_blocks_6 rfl (lv_at hl 0 rfl) ?_
  refine va_get (D := (dC, dI)) (ci := 3) (v := .int vr) (C := R_M) (T := T_M) (N := 20) hx hb hts wu_M hown hK hP 0 rfl rfl 2 (by decide) (hts _ wf_M_65) (fun _ h9 => h9) rfl d_M_blocks_7 ?_
  refine lv_bipush (v := 6) hx hb d_M_blocks_10 (by decide) ?_
  refine lv_isub hx hb d_M_blocks_12 ?_
  refine lv_imul hx hb d_M_blocks_13 ?_
  exact W.iret (v := ((vn - 2) * (vr - 6))) hx hb hr (fun t ht hW => kx_Ri (rfl) ht) (fun _ h => absurd h List.not_mem_nil) d_M_blocks_14
set_option maxHeartbeats 4000000 in
set_option maxRecDepth 100000 in
theorem k_M_noDisk (l : Launch) (dC : Nat → ClassId) (dI : Nat → Nat → Nat) (k5 : Nat → ClassId) (b : Nat → Nat) (vT vn vr vo vl vb : Int32) (fN fK fW fL fM fE fR fF fS fP fY fT fJ fI : FF) (d : Int32) : Met l y_M_noDisk w_M_noDisk ({ frames := 0, cells := 0, slots := 0, locals := 0 }) (kx_Pc (dC, dI) clA (tyL k5) (wMd b k5 vT vn vr vo vl vb fN fK fW fL fM fE fR fF fS fP fY fT fJ fI) [.ref (b 0), .int d]) (kx_R (some (.int (bI (decide (d < 0 ∨ ¬ d < vn)))))) 0 0 (fun _ => False) := by
  refine Met.ofW (cc := c_M_noDisk) (maxL := 2) (ret := (some .boolean)) (by decide) rfl ?_
  intro p e s m args below meth c s₁ B hml hv
  obtain ⟨rfl, hP, hK, hD0⟩ := hv
  have hx := B.exec
  have hb := B.bytes
  have hr := B.returns
  have hts : ∀ w ∈ wsA, w.before _ s = true := fun w h => atoms_spec (ws := w_M_noDisk) B.pre w (List.mem_cons_of_mem _ h)
  have hown : s.vm.findClass R_M = some m.cls := findClass_of_methodNamed B.named
  have hlocks := B.notSynchronized
  have hD := kx_D.self hD0
  have hS : va_S (kx_A (wMd b k5 vT vn vr vo vl vb fN fK fW fL fM fE fR fF fS fP fY fT fJ fI)) s.heap s.heap [] := va_S.rf
  have hl := lv_entry ([.ref (b 0), .int d]) (n := 2) (Nat.le_of_ble_eq_true rfl)
  rw [lg_entry_eq]
  generalize (lg_sl ([.ref (b 0), .int d]) ++ List.replicate (2 - (lg_sl ([.ref (b 0), .int d])).length) Slot.unset).toArray = ls at hl ⊢
  have hl : lv_has ls 2 [(0, .ref (b 0)), (1, .int d)] := hl
  refine lv_iload_n hx hb d_M_noDisk_0 rfl (lv_at hl 1 rfl) ?_
  refine lv_if_lt (tgt := 12) hx hb d_M_noDisk_1 (by decide) (fun hc_1 => ?_) (fun hc_1 => ?_)
  · refine lv_iconst (v := 1) hx hb d_M_noDisk_12 (by decide) ?_
    refine lv_goto (tgt := 17) hx hb d_M_noDisk_13 (by decide) ?_
    exact W.zret (v := 1) hx hb hr rfl (fun t ht hW => kx_Ri (by simp [bI, hc_1]) ht) (fun _ h => absurd h List.not_mem_nil) d_M_noDisk_17
  · refine lv_iload_n hx hb d_M_noDisk_4 rfl (lv_at hl 1 rfl) ?_
    refine lv_aload_n hx hb d_M_noDisk_5 rfl (lv_at hl 0 rfl) ?_
    refine va_get (D := (dC, dI)) (ci := 3) (v := .int vn) (C := R_M) (T := T_M) (N := 20) hx hb hts wu_M hown hK hP 0 rfl rfl 1 (by decide) (hts _ wf_M_62) (fun _ h9 => h9) rfl d_M_noDisk_6 ?_
    refine lv_icmp_lt (tgt := 16) hx hb d_M_noDisk_9 (by decide) (fun hc_2 => ?_) (fun hc_2 => ?_)
    · refine lv_iconst (v := 0) hx hb d_M_noDisk_16 (by decide) ?_
      exact W.zret (v := 0) hx hb hr rfl (fun t ht hW => kx_Ri (by simp [bI, hc_1, hc_2]) ht) (fun _ h => absurd h List.not_mem_nil) d_M_noDisk_17
    · refine lv_iconst (v := 1) hx hb d_M_noDisk_12 (by decide) ?_
      refine lv_goto (tgt := 17) hx hb d_M_noDisk_13 (by decide) ?_
      exact W.zret (v := 1) hx hb hr rfl (fun t ht hW => kx_Ri (by simp [bI, hc_1, hc_2]) ht) (fun _ h => absurd h List.not_mem_nil) d_M_noDisk_17
set_option maxHeartbeats 4000000 in
set_option maxRecDepth 100000 in
theorem k_M_isBlank (l : Launch) (dC : Nat → ClassId) (dI : Nat → Nat → Nat) (k5 : Nat → ClassId) (b : Nat → Nat) (vT vn vr vo vl vb : Int32) (fN fK fW fL fM fE fR fF fS fP fY fT fJ fI : FF) (d : Nat) (hd : d < 8) : Met l y_M_isBlank w_M_isBlank ({ frames := 0, cells := 0, slots := 0, locals := 0 }) (kx_Pc (dC, dI) clA (tyL k5) (wMd b k5 vT vn vr vo vl vb fN fK fW fL fM fE fR fF fS fP fY fT fJ fI) [.ref (b 0), .int (nI d)]) (kx_R (some (.int (bI (decide (fL d = 0 ∧ ¬ vr ≤ fM d)))))) 0 0 (fun _ => False) := by
  refine Met.ofW (cc := c_M_isBlank) (maxL := 2) (ret := (some .boolean)) (by decide) rfl ?_
  intro p e s m args below meth c s₁ B hml hv
  obtain ⟨rfl, hP, hK, hD0⟩ := hv
  have hx := B.exec
  have hb := B.bytes
  have hr := B.returns
  have hts : ∀ w ∈ wsA, w.before _ s = true := fun w h => atoms_spec (ws := w_M_isBlank) B.pre w (List.mem_cons_of_mem _ h)
  have hown : s.vm.findClass R_M = some m.cls := findClass_of_methodNamed B.named
  have hlocks := B.notSynchronized
  have hD := kx_D.self hD0
  have hS : va_S (kx_A (wMd b k5 vT vn vr vo vl vb fN fK fW fL fM fE fR fF fS fP fY fT fJ fI)) s.heap s.heap [] := va_S.rf
  have hl := lv_entry ([.ref (b 0), .int (nI d)]) (n := 2) (Nat.le_of_ble_eq_true rfl)
  rw [lg_entry_eq]
  generalize (lg_sl ([.ref (b 0), .int (nI d)]) ++ List.replicate (2 - (lg_sl ([.ref (b 0), .int (nI d)])).length) Slot.unset).toArray = ls at hl ⊢
  have hl : lv_has ls 2 [(0, .ref (b 0)), (1, .int (nI d))] := hl
  refine lv_aload_n hx hb d_M_isBlank_0 rfl (lv_at hl 0 rfl) ?_
  refine va_get (D := (dC, dI)) (ci := 3) (v := .ref (b 4)) (C := R_M) (T := T_M) (N := 20) hx hb hts wu_M hown hK hP 0 rfl rfl 7 (by decide) (hts _ wf_M_20) (fun _ h9 => h9) rfl d_M_isBlank_1 ?_
  refine lv_iload_n hx hb d_M_isBlank_4 rfl (lv_at hl 1 rfl) ?_
  refine kx_zald hx hb hK hP 4 3 rfl rfl d (rfl) (by omega) (by omega) d_M_isBlank_5 ?_
  refine lv_if_ne (tgt := 26) hx hb d_M_isBlank_6 (by decide) (fun hc_1 => ?_) (fun hc_1 => ?_)
  · refine lv_iconst (v := 0) hx hb d_M_isBlank_26 (by decide) ?_
    exact W.zret (v := 0) hx hb hr rfl (fun t ht hW => kx_Ri (by simp [bI, hc_1]) ht) (fun _ h => absurd h List.not_mem_nil) d_M_isBlank_27
  · refine lv_aload_n hx hb d_M_isBlank_9 rfl (lv_at hl 0 rfl) ?_
    refine va_get (D := (dC, dI)) (ci := 3) (v := .ref (b 5)) (C := R_M) (T := T_M) (N := 20) hx hb hts wu_M hown hK hP 0 rfl rfl 8 (by decide) (hts _ wf_M_23) (fun _ h9 => h9) rfl d_M_isBlank_10 ?_
    refine lv_iload_n hx hb d_M_isBlank_13 rfl (lv_at hl 1 rfl) ?_
    refine kx_iald hx hb hK hP 5 0 rfl rfl d (rfl) (by omega) (by omega) d_M_isBlank_14 ?_
    refine lv_aload_n hx hb d_M_isBlank_15 rfl (lv_at hl 0 rfl) ?_
    refine va_get (D := (dC, dI)) (ci := 3) (v := .int vr) (C := R_M) (T := T_M) (N := 20) hx hb hts wu_M hown hK hP 0 rfl rfl 2 (by decide) (hts _ wf_M_65) (fun _ h9 => h9) rfl d_M_isBlank_16 ?_
    refine lv_icmp_ge (tgt := 26) hx hb d_M_isBlank_19 (by decide) (fun hc_2 => ?_) (fun hc_2 => ?_)
    · refine lv_iconst (v := 0) hx hb d_M_isBlank_26 (by decide) ?_
      exact W.zret (v := 0) hx hb hr rfl (fun t ht hW => kx_Ri (by simp [bI, hc_1, hc_2]) ht) (fun _ h => absurd h List.not_mem_nil) d_M_isBlank_27
    · refine lv_iconst (v := 1) hx hb d_M_isBlank_22 (by decide) ?_
      refine lv_goto (tgt := 27) hx hb d_M_isBlank_23 (by decide) ?_
      exact W.zret (v := 1) hx hb hr rfl (fun t ht hW => kx_Ri (by simp [bI, hc_1, hc_2]) ht) (fun _ h => absurd h List.not_mem_nil) d_M_isBlank_27
set_option maxHeartbeats 4000000 in
set_option maxRecDepth 100000 in
theorem k_M_noBlock (l : Launch) (dC : Nat → ClassId) (dI : Nat → Nat → Nat) (k5 : Nat → ClassId) (b : Nat → Nat) (vT vn vr vo vl vb : Int32) (fN fK fW fL fM fE fR fF fS fP fY fT fJ fI : FF) (x : Int32) : Met l y_M_noBlock w_M_noBlock ({ frames := 1, cells := 0, slots := 0, locals := 20 }) (kx_Pc (dC, dI) clA (tyL k5) (wMd b k5 vT vn vr vo vl vb fN fK fW fL fM fE fR fF fS fP fY fT fJ fI) [.ref (b 0), .int x]) (kx_R (some (.int (bI (decide (x < 0 ∨ ¬ x < (vn - 2) * (vr - 6))))))) 0 0 (fun _ => False) := by
  refine Met.ofW (cc := c_M_noBlock) (maxL := 2) (ret := (some .boolean)) (by decide) rfl ?_
  intro p e s m args below meth c s₁ B hml hv
  obtain ⟨rfl, hP, hK, hD0⟩ := hv
  have hx := B.exec
  have hb := B.bytes
  have hr := B.returns
  have hts : ∀ w ∈ wsA, w.before _ s = true := fun w h => atoms_spec (ws := w_M_noBlock) B.pre w (List.mem_cons_of_mem _ h)
  have hown : s.vm.findClass R_M = some m.cls := findClass_of_methodNamed B.named
  have hlocks := B.notSynchronized
  have hD := kx_D.self hD0
  have hS : va_S (kx_A (wMd b k5 vT vn vr vo vl vb fN fK fW fL fM fE fR fF fS fP fY fT fJ fI)) s.heap s.heap [] := va_S.rf
  have hl := lv_entry ([.ref (b 0), .int x]) (n := 2) (Nat.le_of_ble_eq_true rfl)
  rw [lg_entry_eq]
  generalize (lg_sl ([.ref (b 0), .int x]) ++ List.replicate (2 - (lg_sl ([.ref (b 0), .int x])).length) Slot.unset).toArray = ls at hl ⊢
  have hl : lv_has ls 2 [(0, .ref (b 0)), (1, .int x)] := hl
  refine lv_iload_n hx hb d_M_noBlock_0 rfl (lv_at hl 1 rfl) ?_
  refine lv_if_lt (tgt := 12) hx hb d_M_noBlock_1 (by decide) (fun hc_1 => ?_) (fun hc_1 => ?_)
  · refine lv_iconst (v := 1) hx hb d_M_noBlock_12 (by decide) ?_
    refine lv_goto (tgt := 17) hx hb d_M_noBlock_13 (by decide) ?_
    exact W.zret (v := 1) hx hb hr rfl (fun t ht hW => kx_Ri (by simp [bI, hc_1]) ht) (fun _ h => absurd h List.not_mem_nil) d_M_noBlock_17
  · refine lv_iload_n hx hb d_M_noBlock_4 rfl (lv_at hl 1 rfl) ?_
    refine lv_aload_n hx hb d_M_noBlock_5 rfl (lv_at hl 0 rfl) ?_
    refine kx_VRW (As := []) (rest := [.int x]) ⟨hx, hb, hml, hown, hts⟩ (k_M_blocks l dC dI k5 b vT vn vr vo vl vb fN fK fW fL fM fE fR fF fS fP fY fT fJ fI ) (cwV 0 hts (goodV wm_M_86 wn_M_blocks ws_M_blocks wi_M wc_M_blocks) rfl rfl rfl (by decide +kernel) ⟨Nat.le_of_ble_eq_true rfl, Nat.le_of_ble_eq_true rfl⟩) ⟨Nat.zero_le _, Nat.zero_le _⟩ hK hP hD 0 rfl rfl rfl hl.1 rfl (Nat.le_of_ble_eq_true rfl) d_M_noBlock_6 ?_
    refine W.eq (g2 := F0 m 9 ls [.int ((vn - 2) * (vr - 6)), .int x]) rfl ?_
    refine lv_icmp_lt (tgt := 16) hx hb d_M_noBlock_9 (by decide) (fun hc_2 => ?_) (fun hc_2 => ?_)
    · refine lv_iconst (v := 0) hx hb d_M_noBlock_16 (by decide) ?_
      exact W.zret (v := 0) hx hb hr rfl (fun t ht hW => kx_Ri (by simp [bI, hc_1, hc_2]) ht) (fun _ h => absurd h List.not_mem_nil) d_M_noBlock_17
    · refine lv_iconst (v := 1) hx hb d_M_noBlock_12 (by decide) ?_
      refine lv_goto (tgt := 17) hx hb d_M_noBlock_13 (by decide) ?_
      exact W.zret (v := 1) hx hb hr rfl (fun t ht hW => kx_Ri (by simp [bI, hc_1, hc_2]) ht) (fun _ h => absurd h List.not_mem_nil) d_M_noBlock_17
set_option maxHeartbeats 4000000 in
set_option maxRecDepth 100000 in
theorem k_M_rowOf (l : Launch) (dC : Nat → ClassId) (dI : Nat → Nat → Nat) (k5 : Nat → ClassId) (b : Nat → Nat) (vT vn vr vo vl vb : Int32) (fN fK fW fL fM fE fR fF fS fP fY fT fJ fI : FF) (x : Int32) (h2 : ¬ vn - 2 = 0) : Met l y_M_rowOf w_M_rowOf ({ frames := 0, cells := 0, slots := 0, locals := 0 }) (kx_Pc (dC, dI) clA (tyL k5) (wMd b k5 vT vn vr vo vl vb fN fK fW fL fM fE fR fF fS fP fY fT fJ fI) [.ref (b 0), .int x]) (kx_R (some (.int (6 + x / (vn - 2))))) 0 0 (fun _ => False) := by
  refine Met.ofW (cc := c_M_rowOf) (maxL := 2) (ret := (some .int)) (by decide) rfl ?_
  intro p e s m args below meth c s₁ B hml hv
  obtain ⟨rfl, hP, hK, hD0⟩ := hv
  have hx := B.exec
  have hb := B.bytes
  have hr := B.returns
  have hts : ∀ w ∈ wsA, w.before _ s = true := fun w h => atoms_spec (ws := w_M_rowOf) B.pre w (List.mem_cons_of_mem _ h)
  have hown : s.vm.findClass R_M = some m.cls := findClass_of_methodNamed B.named
  have hlocks := B.notSynchronized
  have hD := kx_D.self hD0
  have hS : va_S (kx_A (wMd b k5 vT vn vr vo vl vb fN fK fW fL fM fE fR fF fS fP fY fT fJ fI)) s.heap s.heap [] := va_S.rf
  have hl := lv_entry ([.ref (b 0), .int x]) (n := 2) (Nat.le_of_ble_eq_true rfl)
  rw [lg_entry_eq]
  generalize (lg_sl ([.ref (b 0), .int x]) ++ List.replicate (2 - (lg_sl ([.ref (b 0), .int x])).length) Slot.unset).toArray = ls at hl ⊢
  have hl : lv_has ls 2 [(0, .ref (b 0)), (1, .int x)] := hl
  refine lv_bipush (v := 6) hx hb d_M_rowOf_0 (by decide) ?_
  refine lv_iload_n hx hb d_M_rowOf_2 rfl (lv_at hl 1 rfl) ?_
  refine lv_aload_n hx hb d_M_rowOf_3 rfl (lv_at hl 0 rfl) ?_
  refine va_get (D := (dC, dI)) (ci := 3) (v := .int vn) (C := R_M) (T := T_M) (N := 20) hx hb hts wu_M hown hK hP 0 rfl rfl 1 (by decide) (hts _ wf_M_62) (fun _ h9 => h9) rfl d_M_rowOf_4 ?_
  refine lv_iconst (v := 2) hx hb d_M_rowOf_7 (by decide) ?_
  refine lv_isub hx hb d_M_rowOf_8 ?_
  refine lv_idiv hx hb d_M_rowOf_9 h2 ?_
  refine lv_iadd hx hb d_M_rowOf_10 ?_
  exact W.iret (v := (6 + (x / (vn - 2)))) hx hb hr (fun t ht hW => kx_Ri (rfl) ht) (fun _ h => absurd h List.not_mem_nil) d_M_rowOf_11
set_option maxHeartbeats 4000000 in
set_option maxRecDepth 100000 in
theorem k_M_isGone (l : Launch) (dC : Nat → ClassId) (dI : Nat → Nat → Nat) (k5 : Nat → ClassId) (b : Nat → Nat) (vT vn vr vo vl vb : Int32) (fN fK fW fL fM fE fR fF fS fP fY fT fJ fI : FF) (d t : Nat) (hd : d < 8) (ht : t < 40) : Met l y_M_isGone w_M_isGone ({ frames := 0, cells := 0, slots := 0, locals := 0 }) (kx_Pc (dC, dI) clA (tyL k5) (wMd b k5 vT vn vr vo vl vb fN fK fW fL fM fE fR fF fS fP fY fT fJ fI) [.ref (b 0), .int (nI d), .int (nI t)]) (kx_R (some (.int (bI (mGone fL fM fR d t))))) 0 0 (fun _ => False) := by
  refine Met.ofW (cc := c_M_isGone) (maxL := 3) (ret := (some .boolean)) (by decide) rfl ?_
  intro p e s m args below meth c s₁ B hml hv
  obtain ⟨rfl, hP, hK, hD0⟩ := hv
  have hx := B.exec
  have hb := B.bytes
  have hr := B.returns
  have hts : ∀ w ∈ wsA, w.before _ s = true := fun w h => atoms_spec (ws := w_M_isGone) B.pre w (List.mem_cons_of_mem _ h)
  have hown : s.vm.findClass R_M = some m.cls := findClass_of_methodNamed B.named
  have hlocks := B.notSynchronized
  have hD := kx_D.self hD0
  have hS : va_S (kx_A (wMd b k5 vT vn vr vo vl vb fN fK fW fL fM fE fR fF fS fP fY fT fJ fI)) s.heap s.heap [] := va_S.rf
  have hl := lv_entry ([.ref (b 0), .int (nI d), .int (nI t)]) (n := 3) (Nat.le_of_ble_eq_true rfl)
  rw [lg_entry_eq]
  generalize (lg_sl ([.ref (b 0), .int (nI d), .int (nI t)]) ++ List.replicate (3 - (lg_sl ([.ref (b 0), .int (nI d), .int (nI t)])).length) Slot.unset).toArray = ls at hl ⊢
  have hl : lv_has ls 3 [(0, .ref (b 0)), (1, .int (nI d)), (2, .int (nI t))] := hl
  refine lv_aload_n hx hb d_M_isGone_0 rfl (lv_at hl 0 rfl) ?_
  refine va_get (D := (dC, dI)) (ci := 3) (v := .ref (b 4)) (C := R_M) (T := T_M) (N := 20) hx hb hts wu_M hown hK hP 0 rfl rfl 7 (by decide) (hts _ wf_M_20) (fun _ h9 => h9) rfl d_M_isGone_1 ?_
  refine lv_iload_n hx hb d_M_isGone_4 rfl (lv_at hl 1 rfl) ?_
  refine kx_zald hx hb hK hP 4 3 rfl rfl d (rfl) (by omega) (by omega) d_M_isGone_5 ?_
  refine lv_if_ne (tgt := 33) hx hb d_M_isGone_6 (by decide) (fun hc_1 => ?_) (fun hc_1 => ?_)
  · refine lv_iconst (v := 1) hx hb d_M_isGone_33 (by decide) ?_
    refine lv_goto (tgt := 38) hx hb d_M_isGone_34 (by decide) ?_
    exact W.zret (v := 1) hx hb hr rfl (fun t ht hW => kx_Ri (by unfold mGone; rw [nz_t hc_1, Bool.true_or]; rfl) ht) (fun _ h => absurd h List.not_mem_nil) d_M_isGone_38
  · refine lv_iload_n hx hb d_M_isGone_9 rfl (lv_at hl 2 rfl) ?_
    refine lv_aload_n hx hb d_M_isGone_10 rfl (lv_at hl 0 rfl) ?_
    refine va_get (D := (dC, dI)) (ci := 3) (v := .ref (b 5)) (C := R_M) (T := T_M) (N := 20) hx hb hts wu_M hown hK hP 0 rfl rfl 8 (by decide) (hts _ wf_M_23) (fun _ h9 => h9) rfl d_M_isGone_11 ?_
    refine lv_iload_n hx hb d_M_isGone_14 rfl (lv_at hl 1 rfl) ?_
    refine kx_iald hx hb hK hP 5 0 rfl rfl d (rfl) (by omega) (by omega) d_M_isGone_15 ?_
    refine lv_icmp_ge (tgt := 33) hx hb d_M_isGone_16 (by decide) (fun hc_2 => ?_) (fun hc_2 => ?_)
    · refine lv_iconst (v := 1) hx hb d_M_isGone_33 (by decide) ?_
      refine lv_goto (tgt := 38) hx hb d_M_isGone_34 (by decide) ?_
      exact W.zret (v := 1) hx hb hr rfl (fun t ht hW => kx_Ri (by unfold mGone; rw [nz_f hc_1, Bool.false_or, decide_eq_true hc_2, Bool.true_or]; rfl) ht) (fun _ h => absurd h List.not_mem_nil) d_M_isGone_38
    · refine lv_aload_n hx hb d_M_isGone_19 rfl (lv_at hl 0 rfl) ?_
      refine va_get (D := (dC, dI)) (ci := 3) (v := .ref (b 7)) (C := R_M) (T := T_M) (N := 20) hx hb hts wu_M hown hK hP 0 rfl rfl 10 (by decide) (hts _ wf_M_30) (fun _ h9 => h9) rfl d_M_isGone_20 ?_
      refine lv_bipush (v := 40) hx hb d_M_isGone_23 (by decide) ?_
      refine lv_iload_n hx hb d_M_isGone_25 rfl (lv_at hl 1 rfl) ?_
      refine lv_imul hx hb d_M_isGone_26 ?_
      refine lv_iload_n hx hb d_M_isGone_27 rfl (lv_at hl 2 rfl) ?_
      refine lv_iadd hx hb d_M_isGone_28 ?_
      refine kx_zald hx hb hK hP 7 3 rfl rfl (40 * d + t) (by rw [show (40 : Int32) * nI d = nI (40 * d) from pk_mul 40 d]; exact nI_add _ _) (by omega) (by omega) d_M_isGone_29 ?_
      refine lv_if_eq (tgt := 37) hx hb d_M_isGone_30 (by decide) (fun hc_3 => ?_) (fun hc_3 => ?_)
      · refine lv_iconst (v := 0) hx hb d_M_isGone_37 (by decide) ?_
        exact W.zret (v := 0) hx hb hr rfl (fun t ht hW => kx_Ri (by unfold mGone; rw [nz_f hc_1, Bool.false_or, decide_eq_false hc_2, Bool.false_or, nz_f hc_3]; rfl) ht) (fun _ h => absurd h List.not_mem_nil) d_M_isGone_38
      · refine lv_iconst (v := 1) hx hb d_M_isGone_33 (by decide) ?_
        refine lv_goto (tgt := 38) hx hb d_M_isGone_34 (by decide) ?_
        exact W.zret (v := 1) hx hb hr rfl (fun t ht hW => kx_Ri (by unfold mGone; rw [nz_f hc_1, Bool.false_or, decide_eq_false hc_2, Bool.false_or, nz_t hc_3]; rfl) ht) (fun _ h => absurd h List.not_mem_nil) d_M_isGone_38
set_option maxHeartbeats 4000000 in
set_option maxRecDepth 100000 in
theorem k_M_goneIn (l : Launch) (dC : Nat → ClassId) (dI : Nat → Nat → Nat) (k5 : Nat → ClassId) (b : Nat → Nat) (vT vn vr vo vl vb : Int32) (fN fK fW fL fM fE fR fF fS fP fY fT fJ fI : FF) (n : Nat) (hn : vn = nI n) (hn4 : 4 ≤ n) (hn8 : n ≤ 8) (t : Nat) (ht : t < 40) : Met l y_M_goneIn w_M_goneIn ({ frames := 1, cells := 0, slots := 0, locals := 22 }) (kx_Pc (dC, dI) clA (tyL k5) (wMd b k5 vT vn vr vo vl vb fN fK fW fL fM fE fR fF fS fP fY fT fJ fI) [.ref (b 0), .int (nI t)]) (kx_R (some (.int (nI (cnt (fun d => mGone fL fM fR d t) n))))) 0 0 (fun _ => False) := by
  refine Met.ofW (cc := c_M_goneIn) (maxL := 4) (ret := (some .int)) (by decide) rfl ?_
  intro p e s m args below meth c s₁ B hml hv
  obtain ⟨rfl, hP, hK, hD0⟩ := hv
  have hx := B.exec
  have hb := B.bytes
  have hr := B.returns
  have hts : ∀ w ∈ wsA, w.before _ s = true := fun w h => atoms_spec (ws := w_M_goneIn) B.pre w (List.mem_cons_of_mem _ h)
  have hown : s.vm.findClass R_M = some m.cls := findClass_of_methodNamed B.named
  have hlocks := B.notSynchronized
  have hD := kx_D.self hD0
  have hS : va_S (kx_A (wMd b k5 vT vn vr vo vl vb fN fK fW fL fM fE fR fF fS fP fY fT fJ fI)) s.heap s.heap [] := va_S.rf
  have hl := lv_entry ([.ref (b 0), .int (nI t)]) (n := 4) (Nat.le_of_ble_eq_true rfl)
  rw [lg_entry_eq]
  generalize (lg_sl ([.ref (b 0), .int (nI t)]) ++ List.replicate (4 - (lg_sl ([.ref (b 0), .int (nI t)])).length) Slot.unset).toArray = ls at hl ⊢
  have hl : lv_has ls 4 [(0, .ref (b 0)), (1, .int (nI t))] := hl
  refine lv_iconst (v := 0) hx hb d_M_goneIn_0 (by decide) ?_
  refine lv_istore_n (lv' := [(2, .int 0), (0, .ref (b 0)), (1, .int (nI t))]) hx hb d_M_goneIn_1 rfl hl (by decide) rfl (fun ls hl => ?_)
  refine lv_iconst (v := 0) hx hb d_M_goneIn_2 (by decide) ?_
  refine lv_istore_n (lv' := [(3, .int 0), (2, .int 0), (0, .ref (b 0)), (1, .int (nI t))]) hx hb d_M_goneIn_3 rfl hl (by decide) rfl (fun ls hl => ?_)
  have lp : ∀ (q9 i : Nat) (ls : Array Slot), i + q9 = n → lv_has ls 4 [(3, .int (nI i)), (2, .int (nI (cnt (fun d => mGone fL fM fR d t) i))), (0, .ref (b 0)), (1, .int (nI t))] → W p l e (headSpec w_M_goneIn ({ frames := 1, cells := 0, slots := 0, locals := 22 })).room s m ([.ref (b 0), .int (nI t)] : List Value).toArray below meth c s.heap [] 0 0 (MQ below (kx_R (some (.int (nI (cnt (fun d => mGone fL fM fR d t) n))))) ([.ref (b 0), .int (nI t)] : List Value).toArray s 0 0 (fun _ => False)) (F0 m 4 ls []) := by
    intro q9
    induction q9 with
    | zero =>
      intro i ls hi hl
      have hi : n = i := by omega
      subst hi
      refine lv_iload_n hx hb d_M_goneIn_4 rfl (lv_at hl 0 rfl) ?_
      refine lv_aload_n hx hb d_M_goneIn_5 rfl (lv_at hl 2 rfl) ?_
      refine va_get (D := (dC, dI)) (ci := 3) (v := .int vn) (C := R_M) (T := T_M) (N := 20) hx hb hts wu_M hown hK hP 0 rfl rfl 1 (by decide) (hts _ wf_M_62) (fun _ h9 => h9) rfl d_M_goneIn_6 ?_
      refine lv_icmp_ge (tgt := 35) hx hb d_M_goneIn_9 (by decide) (fun hc => ?_) (fun hc => ?_)
      · refine lv_iload_n hx hb d_M_goneIn_35 rfl (lv_at hl 1 rfl) ?_
        exact W.iret (v := (nI (cnt (fun d => mGone fL fM fR d t) n))) hx hb hr (fun t ht hW => kx_Ri (rfl) ht) (fun _ h => absurd h List.not_mem_nil) d_M_goneIn_36
      · exact absurd (by rw [hn]; exact nI_le (by omega) (by omega)) hc
    | succ q9 ih =>
      intro i ls hi hl
      refine lv_iload_n hx hb d_M_goneIn_4 rfl (lv_at hl 0 rfl) ?_
      refine lv_aload_n hx hb d_M_goneIn_5 rfl (lv_at hl 2 rfl) ?_
      refine va_get (D := (dC, dI)) (ci := 3) (v := .int vn) (C := R_M) (T := T_M) (N := 20) hx hb hts wu_M hown hK hP 0 rfl rfl 1 (by decide) (hts _ wf_M_62) (fun _ h9 => h9) rfl d_M_goneIn_6 ?_
      refine lv_icmp_ge (tgt := 35) hx hb d_M_goneIn_9 (by decide) (fun hc => ?_) (fun hc => ?_)
      · exact absurd hc (by rw [hn]; exact nI_ge (by omega) (by omega))
      · refine lv_iload_n hx hb d_M_goneIn_12 rfl (lv_at hl 1 rfl) ?_
        refine lv_aload_n hx hb d_M_goneIn_13 rfl (lv_at hl 2 rfl) ?_
        refine lv_iload_n hx hb d_M_goneIn_14 rfl (lv_at hl 0 rfl) ?_
        refine lv_iload_n hx hb d_M_goneIn_15 rfl (lv_at hl 3 rfl) ?_
        refine kx_VRW (As := [.int (nI i), .int (nI t)]) (rest := [.int (nI (cnt (fun d => mGone fL fM fR d t) i))]) ⟨hx, hb, hml, hown, hts⟩ (k_M_isGone l dC dI k5 b vT vn vr vo vl vb fN fK fW fL fM fE fR fF fS fP fY fT fJ fI i t (by omega) ht) (cwV 2 hts (goodV wm_M_110 wn_M_isGone ws_M_isGone wi_M wc_M_isGone) rfl rfl rfl (by decide +kernel) ⟨Nat.le_of_ble_eq_true rfl, Nat.le_of_ble_eq_true rfl⟩) ⟨Nat.zero_le _, Nat.zero_le _⟩ hK hP hD 0 rfl rfl rfl hl.1 rfl (Nat.le_of_ble_eq_true rfl) d_M_goneIn_16 ?_
        refine W.eq (g2 := F0 m 19 ls [.int (bI (mGone fL fM fR i t)), .int (nI (cnt (fun d => mGone fL fM fR d t) i))]) rfl ?_
        refine lv_if_eq (tgt := 26) hx hb d_M_goneIn_19 (by decide) (fun hc_1 => ?_) (fun hc_1 => ?_)
        · refine lv_iconst (v := 0) hx hb d_M_goneIn_26 (by decide) ?_
          refine lv_iadd hx hb d_M_goneIn_27 ?_
          refine lv_istore_n (lv' := [(2, .int ((nI (cnt (fun d => mGone fL fM fR d t) i)) + 0)), (3, .int (nI i)), (0, .ref (b 0)), (1, .int (nI t))]) hx hb d_M_goneIn_28 rfl hl (by decide) rfl (fun ls hl => ?_)
          refine lv_iinc (v := nI (i + 1)) (lv' := [(3, .int (nI (i + 1))), (2, .int ((nI (cnt (fun d => mGone fL fM fR d t) i)) + 0)), (0, .ref (b 0)), (1, .int (nI t))]) hx hb d_M_goneIn_29 hl (k := 1) rfl (nI_1 i) (by decide) rfl (fun ls hl => ?_)
          refine lv_goto (tgt := 4) hx hb d_M_goneIn_32 (by decide) ?_
          exact ih (i + 1) ls (by omega) (by rw [cnt_f2 (p := fun d => mGone fL fM fR d t) (n := i) (bI_f hc_1)]; exact (lv_sub hl [0, 1, 2, 3] rfl))
        · refine lv_iconst (v := 1) hx hb d_M_goneIn_22 (by decide) ?_
          refine lv_goto (tgt := 27) hx hb d_M_goneIn_23 (by decide) ?_
          refine lv_iadd hx hb d_M_goneIn_27 ?_
          refine lv_istore_n (lv' := [(2, .int ((nI (cnt (fun d => mGone fL fM fR d t) i)) + 1)), (3, .int (nI i)), (0, .ref (b 0)), (1, .int (nI t))]) hx hb d_M_goneIn_28 rfl hl (by decide) rfl (fun ls hl => ?_)
          refine lv_iinc (v := nI (i + 1)) (lv' := [(3, .int (nI (i + 1))), (2, .int ((nI (cnt (fun d => mGone fL fM fR d t) i)) + 1)), (0, .ref (b 0)), (1, .int (nI t))]) hx hb d_M_goneIn_29 hl (k := 1) rfl (nI_1 i) (by decide) rfl (fun ls hl => ?_)
          refine lv_goto (tgt := 4) hx hb d_M_goneIn_32 (by decide) ?_
          exact ih (i + 1) ls (by omega) (by rw [cnt_t2 (p := fun d => mGone fL fM fR d t) (n := i) (bI_t hc_1)]; exact (lv_sub hl [0, 1, 2, 3] rfl))
  exact lp n 0 ls (by omega) (lv_sub hl [0, 1, 2, 3] rfl)
set_option maxHeartbeats 4000000 in
set_option maxRecDepth 100000 in
theorem k_M_manyLost (l : Launch) (dC : Nat → ClassId) (dI : Nat → Nat → Nat) (k5 : Nat → ClassId) (b : Nat → Nat) (vT vn vr vo vl vb : Int32) (fN fK fW fL fM fE fR fF fS fP fY fT fJ fI : FF) (n : Nat) (hn : vn = nI n) (hn4 : 4 ≤ n) (hn8 : n ≤ 8) : Met l y_M_manyLost w_M_manyLost ({ frames := 0, cells := 0, slots := 0, locals := 0 }) (kx_Pc (dC, dI) clA (tyL k5) (wMd b k5 vT vn vr vo vl vb fN fK fW fL fM fE fR fF fS fP fY fT fJ fI) [.ref (b 0)]) (kx_R (some (.int (nI (cnt (fun d => nz (fL d)) n))))) 0 0 (fun _ => False) := by
  refine Met.ofW (cc := c_M_manyLost) (maxL := 3) (ret := (some .int)) (by decide) rfl ?_
  intro p e s m args below meth c s₁ B hml hv
  obtain ⟨rfl, hP, hK, hD0⟩ := hv
  have hx := B.exec
  have hb := B.bytes
  have hr := B.returns
  have hts : ∀ w ∈ wsA, w.before _ s = true := fun w h => atoms_spec (ws := w_M_manyLost) B.pre w (List.mem_cons_of_mem _ h)
  have hown : s.vm.findClass R_M = some m.cls := findClass_of_methodNamed B.named
  have hlocks := B.notSynchronized
  have hD := kx_D.self hD0
  have hS : va_S (kx_A (wMd b k5 vT vn vr vo vl vb fN fK fW fL fM fE fR fF fS fP fY fT fJ fI)) s.heap s.heap [] := va_S.rf
  have hl := lv_entry ([.ref (b 0)]) (n := 3) (Nat.le_of_ble_eq_true rfl)
  rw [lg_entry_eq]
  generalize (lg_sl ([.ref (b 0)]) ++ List.replicate (3 - (lg_sl ([.ref (b 0)])).length) Slot.unset).toArray = ls at hl ⊢
  have hl : lv_has ls 3 [(0, .ref (b 0))] := hl
  refine lv_iconst (v := 0) hx hb d_M_manyLost_0 (by decide) ?_
  refine lv_istore_n (lv' := [(1, .int 0), (0, .ref (b 0))]) hx hb d_M_manyLost_1 rfl hl (by decide) rfl (fun ls hl => ?_)
  refine lv_iconst (v := 0) hx hb d_M_manyLost_2 (by decide) ?_
  refine lv_istore_n (lv' := [(2, .int 0), (1, .int 0), (0, .ref (b 0))]) hx hb d_M_manyLost_3 rfl hl (by decide) rfl (fun ls hl => ?_)
  have lp : ∀ (q9 i : Nat) (ls : Array Slot), i + q9 = n → lv_has ls 3 [(2, .int (nI i)), (1, .int (nI (cnt (fun d => nz (fL d)) i))), (0, .ref (b 0))] → W p l e (headSpec w_M_manyLost ({ frames := 0, cells := 0, slots := 0, locals := 0 })).room s m ([.ref (b 0)] : List Value).toArray below meth c s.heap [] 0 0 (MQ below (kx_R (some (.int (nI (cnt (fun d => nz (fL d)) n))))) ([.ref (b 0)] : List Value).toArray s 0 0 (fun _ => False)) (F0 m 4 ls []) := by
    intro q9
    induction q9 with
    | zero =>
      intro i ls hi hl
      have hi : n = i := by omega
      subst hi
      refine lv_iload_n hx hb d_M_manyLost_4 rfl (lv_at hl 0 rfl) ?_
      refine lv_aload_n hx hb d_M_manyLost_5 rfl (lv_at hl 2 rfl) ?_
      refine va_get (D := (dC, dI)) (ci := 3) (v := .int vn) (C := R_M) (T := T_M) (N := 20) hx hb hts wu_M hown hK hP 0 rfl rfl 1 (by decide) (hts _ wf_M_62) (fun _ h9 => h9) rfl d_M_manyLost_6 ?_
      refine lv_icmp_ge (tgt := 35) hx hb d_M_manyLost_9 (by decide) (fun hc => ?_) (fun hc => ?_)
      · refine lv_iload_n hx hb d_M_manyLost_35 rfl (lv_at hl 1 rfl) ?_
        exact W.iret (v := (nI (cnt (fun d => nz (fL d)) n))) hx hb hr (fun t ht hW => kx_Ri (rfl) ht) (fun _ h => absurd h List.not_mem_nil) d_M_manyLost_36
      · exact absurd (by rw [hn]; exact nI_le (by omega) (by omega)) hc
    | succ q9 ih =>
      intro i ls hi hl
      refine lv_iload_n hx hb d_M_manyLost_4 rfl (lv_at hl 0 rfl) ?_
      refine lv_aload_n hx hb d_M_manyLost_5 rfl (lv_at hl 2 rfl) ?_
      refine va_get (D := (dC, dI)) (ci := 3) (v := .int vn) (C := R_M) (T := T_M) (N := 20) hx hb hts wu_M hown hK hP 0 rfl rfl 1 (by decide) (hts _ wf_M_62) (fun _ h9 => h9) rfl d_M_manyLost_6 ?_
      refine lv_icmp_ge (tgt := 35) hx hb d_M_manyLost_9 (by decide) (fun hc => ?_) (fun hc => ?_)
      · exact absurd hc (by rw [hn]; exact nI_ge (by omega) (by omega))
      · refine lv_iload_n hx hb d_M_manyLost_12 rfl (lv_at hl 1 rfl) ?_
        refine lv_aload_n hx hb d_M_manyLost_13 rfl (lv_at hl 2 rfl) ?_
        refine va_get (D := (dC, dI)) (ci := 3) (v := .ref (b 4)) (C := R_M) (T := T_M) (N := 20) hx hb hts wu_M hown hK hP 0 rfl rfl 7 (by decide) (hts _ wf_M_20) (fun _ h9 => h9) rfl d_M_manyLost_14 ?_
        refine lv_iload_n hx hb d_M_manyLost_17 rfl (lv_at hl 0 rfl) ?_
        refine kx_zald hx hb hK hP 4 3 rfl rfl i (rfl) (by omega) (by omega) d_M_manyLost_18 ?_
        refine lv_if_eq (tgt := 26) hx hb d_M_manyLost_19 (by decide) (fun hc_1 => ?_) (fun hc_1 => ?_)
        · refine lv_iconst (v := 0) hx hb d_M_manyLost_26 (by decide) ?_
          refine lv_iadd hx hb d_M_manyLost_27 ?_
          refine lv_istore_n (lv' := [(1, .int ((nI (cnt (fun d => nz (fL d)) i)) + 0)), (2, .int (nI i)), (0, .ref (b 0))]) hx hb d_M_manyLost_28 rfl hl (by decide) rfl (fun ls hl => ?_)
          refine lv_iinc (v := nI (i + 1)) (lv' := [(2, .int (nI (i + 1))), (1, .int ((nI (cnt (fun d => nz (fL d)) i)) + 0)), (0, .ref (b 0))]) hx hb d_M_manyLost_29 hl (k := 1) rfl (nI_1 i) (by decide) rfl (fun ls hl => ?_)
          refine lv_goto (tgt := 4) hx hb d_M_manyLost_32 (by decide) ?_
          exact ih (i + 1) ls (by omega) (by rw [cnt_f2 (p := fun d => nz (fL d)) (n := i) (nz_f hc_1)]; exact (lv_sub hl [0, 1, 2] rfl))
        · refine lv_iconst (v := 1) hx hb d_M_manyLost_22 (by decide) ?_
          refine lv_goto (tgt := 27) hx hb d_M_manyLost_23 (by decide) ?_
          refine lv_iadd hx hb d_M_manyLost_27 ?_
          refine lv_istore_n (lv' := [(1, .int ((nI (cnt (fun d => nz (fL d)) i)) + 1)), (2, .int (nI i)), (0, .ref (b 0))]) hx hb d_M_manyLost_28 rfl hl (by decide) rfl (fun ls hl => ?_)
          refine lv_iinc (v := nI (i + 1)) (lv' := [(2, .int (nI (i + 1))), (1, .int ((nI (cnt (fun d => nz (fL d)) i)) + 1)), (0, .ref (b 0))]) hx hb d_M_manyLost_29 hl (k := 1) rfl (nI_1 i) (by decide) rfl (fun ls hl => ?_)
          refine lv_goto (tgt := 4) hx hb d_M_manyLost_32 (by decide) ?_
          exact ih (i + 1) ls (by omega) (by rw [cnt_t2 (p := fun d => nz (fL d)) (n := i) (nz_t hc_1)]; exact (lv_sub hl [0, 1, 2] rfl))
  exact lp n 0 ls (by omega) (lv_sub hl [0, 1, 2] rfl)
set_option maxHeartbeats 4000000 in
set_option maxRecDepth 100000 in
theorem k_M_many (l : Launch) (dC : Nat → ClassId) (dI : Nat → Nat → Nat) (k5 : Nat → ClassId) (b : Nat → Nat) (vT vn vr vo vl vb : Int32) (fN fK fW fL fM fE fR fF fS fP fY fT fJ fI : FF) (n : Nat) (hn : vn = nI n) (hn4 : 4 ≤ n) (hn8 : n ≤ 8) (r : Nat) (er : vr = nI r) (hr2 : 12 ≤ r) (hr40 : r ≤ 40) : Met l y_M_many w_M_many ({ frames := 1, cells := 0, slots := 0, locals := 20 }) (kx_Pc (dC, dI) clA (tyL k5) (wMd b k5 vT vn vr vo vl vb fN fK fW fL fM fE fR fF fS fP fY fT fJ fI) [.ref (b 0)]) (kx_R (some (.int (nI (cnt (fun q => nz (fW q)) ((n - 2) * (r - 6))))))) 0 0 (fun _ => False) := by
  refine Met.ofW (cc := c_M_many) (maxL := 3) (ret := (some .int)) (by decide) rfl ?_
  intro p e s m args below meth c s₁ B hml hv
  obtain ⟨rfl, hP, hK, hD0⟩ := hv
  have hx := B.exec
  have hb := B.bytes
  have hr := B.returns
  have hts : ∀ w ∈ wsA, w.before _ s = true := fun w h => atoms_spec (ws := w_M_many) B.pre w (List.mem_cons_of_mem _ h)
  have hown : s.vm.findClass R_M = some m.cls := findClass_of_methodNamed B.named
  have hlocks := B.notSynchronized
  have hD := kx_D.self hD0
  have hS : va_S (kx_A (wMd b k5 vT vn vr vo vl vb fN fK fW fL fM fE fR fF fS fP fY fT fJ fI)) s.heap s.heap [] := va_S.rf
  have hl := lv_entry ([.ref (b 0)]) (n := 3) (Nat.le_of_ble_eq_true rfl)
  rw [lg_entry_eq]
  generalize (lg_sl ([.ref (b 0)]) ++ List.replicate (3 - (lg_sl ([.ref (b 0)])).length) Slot.unset).toArray = ls at hl ⊢
  have hl : lv_has ls 3 [(0, .ref (b 0))] := hl
  refine lv_iconst (v := 0) hx hb d_M_many_0 (by decide) ?_
  refine lv_istore_n (lv' := [(1, .int 0), (0, .ref (b 0))]) hx hb d_M_many_1 rfl hl (by decide) rfl (fun ls hl => ?_)
  refine lv_iconst (v := 0) hx hb d_M_many_2 (by decide) ?_
  refine lv_istore_n (lv' := [(2, .int 0), (1, .int 0), (0, .ref (b 0))]) hx hb d_M_many_3 rfl hl (by decide) rfl (fun ls hl => ?_)
  have lp : ∀ (q9 i : Nat) (ls : Array Slot), i + q9 = ((n - 2) * (r - 6)) → lv_has ls 3 [(2, .int (nI i)), (1, .int (nI (cnt (fun q => nz (fW q)) i))), (0, .ref (b 0))] → W p l e (headSpec w_M_many ({ frames := 1, cells := 0, slots := 0, locals := 20 })).room s m ([.ref (b 0)] : List Value).toArray below meth c s.heap [] 0 0 (MQ below (kx_R (some (.int (nI (cnt (fun q => nz (fW q)) ((n - 2) * (r - 6))))))) ([.ref (b 0)] : List Value).toArray s 0 0 (fun _ => False)) (F0 m 4 ls []) := by
    intro q9
    induction q9 with
    | zero =>
      intro i ls hi hl
      have hi : ((n - 2) * (r - 6)) = i := by omega
      subst hi
      refine lv_iload_n hx hb d_M_many_4 rfl (lv_at hl 0 rfl) ?_
      refine lv_aload_n hx hb d_M_many_5 rfl (lv_at hl 2 rfl) ?_
      refine kx_VRW (As := []) (rest := [.int (nI ((n - 2) * (r - 6)))]) ⟨hx, hb, hml, hown, hts⟩ (k_M_blocks l dC dI k5 b vT vn vr vo vl vb fN fK fW fL fM fE fR fF fS fP fY fT fJ fI ) (cwV 0 hts (goodV wm_M_86 wn_M_blocks ws_M_blocks wi_M wc_M_blocks) rfl rfl rfl (by decide +kernel) ⟨Nat.le_of_ble_eq_true rfl, Nat.le_of_ble_eq_true rfl⟩) ⟨Nat.zero_le _, Nat.zero_le _⟩ hK hP hD 0 rfl rfl rfl hl.1 rfl (Nat.le_of_ble_eq_true rfl) d_M_many_6 ?_
      refine W.eq (g2 := F0 m 9 ls [.int ((vn - 2) * (vr - 6)), .int (nI ((n - 2) * (r - 6)))]) rfl ?_
      refine lv_icmp_ge (tgt := 35) hx hb d_M_many_9 (by decide) (fun hc => ?_) (fun hc => ?_)
      · refine lv_iload_n hx hb d_M_many_35 rfl (lv_at hl 1 rfl) ?_
        exact W.iret (v := (nI (cnt (fun q => nz (fW q)) ((n - 2) * (r - 6))))) hx hb hr (fun t ht hW => kx_Ri (rfl) ht) (fun _ h => absurd h List.not_mem_nil) d_M_many_36
      · exact absurd (by rw [blk_nI hn er hn4 hr2]; exact nI_le (by omega) (by have := blk_le hn8 hr40; omega)) hc
    | succ q9 ih =>
      intro i ls hi hl
      refine lv_iload_n hx hb d_M_many_4 rfl (lv_at hl 0 rfl) ?_
      refine lv_aload_n hx hb d_M_many_5 rfl (lv_at hl 2 rfl) ?_
      refine kx_VRW (As := []) (rest := [.int (nI i)]) ⟨hx, hb, hml, hown, hts⟩ (k_M_blocks l dC dI k5 b vT vn vr vo vl vb fN fK fW fL fM fE fR fF fS fP fY fT fJ fI ) (cwV 0 hts (goodV wm_M_86 wn_M_blocks ws_M_blocks wi_M wc_M_blocks) rfl rfl rfl (by decide +kernel) ⟨Nat.le_of_ble_eq_true rfl, Nat.le_of_ble_eq_true rfl⟩) ⟨Nat.zero_le _, Nat.zero_le _⟩ hK hP hD 0 rfl rfl rfl hl.1 rfl (Nat.le_of_ble_eq_true rfl) d_M_many_6 ?_
      refine W.eq (g2 := F0 m 9 ls [.int ((vn - 2) * (vr - 6)), .int (nI i)]) rfl ?_
      refine lv_icmp_ge (tgt := 35) hx hb d_M_many_9 (by decide) (fun hc => ?_) (fun hc => ?_)
      · exact absurd hc (by rw [blk_nI hn er hn4 hr2]; exact nI_ge (by omega) (by have := blk_le hn8 hr40; omega))
      · have hB := blk_le hn8 hr40
        refine lv_iload_n hx hb d_M_many_12 rfl (lv_at hl 1 rfl) ?_
        refine lv_aload_n hx hb d_M_many_13 rfl (lv_at hl 2 rfl) ?_
        refine va_get (D := (dC, dI)) (ci := 3) (v := .ref (b 3)) (C := R_M) (T := T_M) (N := 20) hx hb hts wu_M hown hK hP 0 rfl rfl 6 (by decide) (hts _ wf_M_16) (fun _ h9 => h9) rfl d_M_many_14 ?_
        refine lv_iload_n hx hb d_M_many_17 rfl (lv_at hl 0 rfl) ?_
        refine kx_zald hx hb hK hP 3 3 rfl rfl i (rfl) (by omega) (by omega) d_M_many_18 ?_
        refine lv_if_eq (tgt := 26) hx hb d_M_many_19 (by decide) (fun hc_1 => ?_) (fun hc_1 => ?_)
        · refine lv_iconst (v := 0) hx hb d_M_many_26 (by decide) ?_
          refine lv_iadd hx hb d_M_many_27 ?_
          refine lv_istore_n (lv' := [(1, .int ((nI (cnt (fun q => nz (fW q)) i)) + 0)), (2, .int (nI i)), (0, .ref (b 0))]) hx hb d_M_many_28 rfl hl (by decide) rfl (fun ls hl => ?_)
          refine lv_iinc (v := nI (i + 1)) (lv' := [(2, .int (nI (i + 1))), (1, .int ((nI (cnt (fun q => nz (fW q)) i)) + 0)), (0, .ref (b 0))]) hx hb d_M_many_29 hl (k := 1) rfl (nI_1 i) (by decide) rfl (fun ls hl => ?_)
          refine lv_goto (tgt := 4) hx hb d_M_many_32 (by decide) ?_
          exact ih (i + 1) ls (by omega) (by rw [cnt_f2 (p := fun q => nz (fW q)) (n := i) (nz_f hc_1)]; exact (lv_sub hl [0, 1, 2] rfl))
        · refine lv_iconst (v := 1) hx hb d_M_many_22 (by decide) ?_
          refine lv_goto (tgt := 27) hx hb d_M_many_23 (by decide) ?_
          refine lv_iadd hx hb d_M_many_27 ?_
          refine lv_istore_n (lv' := [(1, .int ((nI (cnt (fun q => nz (fW q)) i)) + 1)), (2, .int (nI i)), (0, .ref (b 0))]) hx hb d_M_many_28 rfl hl (by decide) rfl (fun ls hl => ?_)
          refine lv_iinc (v := nI (i + 1)) (lv' := [(2, .int (nI (i + 1))), (1, .int ((nI (cnt (fun q => nz (fW q)) i)) + 1)), (0, .ref (b 0))]) hx hb d_M_many_29 hl (k := 1) rfl (nI_1 i) (by decide) rfl (fun ls hl => ?_)
          refine lv_goto (tgt := 4) hx hb d_M_many_32 (by decide) ?_
          exact ih (i + 1) ls (by omega) (by rw [cnt_t2 (p := fun q => nz (fW q)) (n := i) (nz_t hc_1)]; exact (lv_sub hl [0, 1, 2] rfl))
  exact lp ((n - 2) * (r - 6)) 0 ls (by omega) (lv_sub hl [0, 1, 2] rfl)
set_option maxHeartbeats 4000000 in
set_option maxRecDepth 100000 in
theorem k_M_bitsOf (l : Launch) (dC : Nat → ClassId) (dI : Nat → Nat → Nat) (k5 : Nat → ClassId) (b : Nat → Nat) (vT vn vr vo vl vb : Int32) (fN fK fW fL fM fE fR fF fS fP fY fT fJ fI : FF) (bits : Int64) (k : Nat) (hk : k ≤ 31) : Met l y_M_bitsOf w_M_bitsOf ({ frames := 0, cells := 0, slots := 0, locals := 0 }) (kx_Pc (dC, dI) clA (tyL k5) (wMd b k5 vT vn vr vo vl vb fN fK fW fL fM fE fR fF fS fP fY fT fJ fI) [.ref (b 0), .long bits, .int (nI k)]) (kx_R (some (.int (mBits bits k)))) 0 0 (fun _ => False) := by
  refine Met.ofW (cc := c_M_bitsOf) (maxL := 4) (ret := (some .int)) (by decide) rfl ?_
  intro p e s m args below meth c s₁ B hml hv
  obtain ⟨rfl, hP, hK, hD0⟩ := hv
  have hx := B.exec
  have hb := B.bytes
  have hr := B.returns
  have hts : ∀ w ∈ wsA, w.before _ s = true := fun w h => atoms_spec (ws := w_M_bitsOf) B.pre w (List.mem_cons_of_mem _ h)
  have hown : s.vm.findClass R_M = some m.cls := findClass_of_methodNamed B.named
  have hlocks := B.notSynchronized
  have hD := kx_D.self hD0
  have hS : va_S (kx_A (wMd b k5 vT vn vr vo vl vb fN fK fW fL fM fE fR fF fS fP fY fT fJ fI)) s.heap s.heap [] := va_S.rf
  have hl := lv_entry ([.ref (b 0), .long bits, .int (nI k)]) (n := 4) (Nat.le_of_ble_eq_true rfl)
  rw [lg_entry_eq]
  generalize (lg_sl ([.ref (b 0), .long bits, .int (nI k)]) ++ List.replicate (4 - (lg_sl ([.ref (b 0), .long bits, .int (nI k)])).length) Slot.unset).toArray = ls at hl ⊢
  have hl : lv_has ls 4 [(0, .ref (b 0)), (1, .long bits), (3, .int (nI k))] := hl
  refine lv_iload_n hx hb d_M_bitsOf_0 rfl (lv_at hl 2 rfl) ?_
  refine lv_bipush (v := 31) hx hb d_M_bitsOf_1 (by decide) ?_
  refine lv_icmp_le (tgt := 10) hx hb d_M_bitsOf_3 (by decide) (fun hc_1 => ?_) (fun hc_1 => ?_)
  · refine lv_lload_n hx hb d_M_bitsOf_10 rfl (lv_at hl 1 rfl) ?_
    refine lv_iconst (v := 2) hx hb d_M_bitsOf_11 (by decide) ?_
    refine lv_iload_n hx hb d_M_bitsOf_12 rfl (lv_at hl 2 rfl) ?_
    refine lv_imul hx hb d_M_bitsOf_13 ?_
    refine lv_lshr (v := (bits >>> ((2 * (nI k)).toInt64 &&& 63))) hx hb d_M_bitsOf_14 rfl ?_
    refine lv_ldc2 hx hb hown (hts _ wk_M_90) d_M_bitsOf_15 ?_
    refine lv_land hx hb d_M_bitsOf_18 ?_
    refine lv_l2i (v := ((bits >>> ((2 * (nI k)).toInt64 &&& 63)) &&& 3).toInt32) hx hb d_M_bitsOf_19 rfl ?_
    exact W.iret (v := ((bits >>> ((2 * (nI k)).toInt64 &&& 63)) &&& 3).toInt32) hx hb hr (fun t ht hW => kx_Ri (rfl) ht) (fun _ h => absurd h List.not_mem_nil) d_M_bitsOf_20
  · exact absurd (nI_le (b := 31) hk (by omega)) hc_1
set_option maxHeartbeats 4000000 in
set_option maxRecDepth 100000 in
theorem k_M_wipe (l : Launch) (dC : Nat → ClassId) (dI : Nat → Nat → Nat) (k5 : Nat → ClassId) (b : Nat → Nat) (vT vn vr vo vl vb : Int32) (fN fK fW fL fM fE fR fF fS fP fY fT fJ fI : FF) (d : Nat) (hd : d < 8) : Met l y_M_wipe w_M_wipe ({ frames := 0, cells := 0, slots := 0, locals := 0 }) (kx_Pc (dC, dI) clA (tyL k5) (wMd b k5 vT vn vr vo vl vb fN fK fW fL fM fE fR fF fS fP fY fT fJ fI) [.ref (b 0), .int (nI d)]) (kx_Q (dC, dI) clA (wMd b k5 vT vn vr vo vl vb fN fK fW fL fM fE fR fF fS fP fY fT fJ fI) (wMd b k5 vT vn vr vo vl vb fN fK fW fL fM fE fR (upd (upd fF (2 * d) 0) (2 * d + 1) 0) (upd (upd fS (2 * d) 0) (2 * d + 1) 0) fP fY fT fJ fI) none) 0 0 (kx_A (wMd b k5 vT vn vr vo vl vb fN fK fW fL fM fE fR fF fS fP fY fT fJ fI)) := by
  refine Met.ofW (cc := c_M_wipe) (maxL := 3) (ret := none) (by decide) rfl ?_
  intro p e s m args below meth c s₁ B hml hv
  obtain ⟨rfl, hP, hK, hD0⟩ := hv
  have hx := B.exec
  have hb := B.bytes
  have hr := B.returns
  have hts : ∀ w ∈ wsA, w.before _ s = true := fun w h => atoms_spec (ws := w_M_wipe) B.pre w (List.mem_cons_of_mem _ h)
  have hown : s.vm.findClass R_M = some m.cls := findClass_of_methodNamed B.named
  have hlocks := B.notSynchronized
  have hD := kx_D.self hD0
  have hS : va_S (kx_A (wMd b k5 vT vn vr vo vl vb fN fK fW fL fM fE fR fF fS fP fY fT fJ fI)) s.heap s.heap [] := va_S.rf
  have hl := lv_entry ([.ref (b 0), .int (nI d)]) (n := 3) (Nat.le_of_ble_eq_true rfl)
  rw [lg_entry_eq]
  generalize (lg_sl ([.ref (b 0), .int (nI d)]) ++ List.replicate (3 - (lg_sl ([.ref (b 0), .int (nI d)])).length) Slot.unset).toArray = ls at hl ⊢
  have hl : lv_has ls 3 [(0, .ref (b 0)), (1, .int (nI d))] := hl
  refine lv_iconst (v := 0) hx hb d_M_wipe_0 (by decide) ?_
  refine lv_istore_n (lv' := [(2, .int 0), (0, .ref (b 0)), (1, .int (nI d))]) hx hb d_M_wipe_1 rfl hl (by decide) rfl (fun ls hl => ?_)
  refine lv_iload_n hx hb d_M_wipe_2 rfl (lv_at hl 0 rfl) ?_
  refine lv_iconst (v := 2) hx hb d_M_wipe_3 (by decide) ?_
  refine lv_icmp_ge (tgt := 35) hx hb d_M_wipe_4 (by decide) (fun hc_1 => ?_) (fun hc_1 => ?_)
  · exact absurd hc_1 (by decide)
  · refine lv_aload_n hx hb d_M_wipe_7 rfl (lv_at hl 1 rfl) ?_
    refine va_get (D := (dC, dI)) (ci := 3) (v := .ref (b 8)) (C := R_M) (T := T_M) (N := 20) hx hb hts wu_M hown hK hP 0 rfl rfl 11 (by decide) (hts _ wf_M_33) (fun _ h9 => h9) rfl d_M_wipe_8 ?_
    refine lv_iconst (v := 2) hx hb d_M_wipe_11 (by decide) ?_
    refine lv_iload_n hx hb d_M_wipe_12 rfl (lv_at hl 2 rfl) ?_
    refine lv_imul hx hb d_M_wipe_13 ?_
    refine lv_iload_n hx hb d_M_wipe_14 rfl (lv_at hl 0 rfl) ?_
    refine lv_iadd hx hb d_M_wipe_15 ?_
    refine lv_iconst (v := 0) hx hb d_M_wipe_16 (by decide) ?_
    refine kx_iast (ws' := [((b 0), .inr (3, [.int vT, .int vn, .int vr, .int vo, .ref (b 1), .ref (b 2), .ref (b 3), .ref (b 4), .ref (b 5), .ref (b 6), .ref (b 7), .ref (b 8), .ref (b 9), .int vl, .int vb, .ref (b 10), .ref (b 11), .ref (b 12), .ref (b 13), .ref (b 14)])), ((b 1), .inl ((k5 2), 13056, .inl fN)), ((b 2), .inl ((k5 2), 13056, .inl fK)), ((b 3), .inl ((k5 3), 204, .inl fW)), ((b 4), .inl ((k5 3), 8, .inl fL)), ((b 5), .inl ((k5 0), 8, .inl fM)), ((b 6), .inl ((k5 0), 8, .inl fE)), ((b 7), .inl ((k5 3), 320, .inl fR)), ((b 8), .inl ((k5 0), 16, .inl (upd fF (2 * d) 0))), ((b 9), .inl ((k5 0), 16, .inl fS)), ((b 10), .inl ((k5 0), 1300, .inl fP)), ((b 11), .inl ((k5 3), 1300, .inl fY)), ((b 12), .inl ((k5 0), 10400, .inl fT)), ((b 13), .inl ((k5 2), 13056, .inl fJ)), ((b 14), .inl ((k5 3), 204, .inl fI))]) hx hb hK hP hD hS 8 0 rfl rfl (2 * d) (by rw [show (2 : Int32) * nI d = nI (2 * d) from pk_mul 2 d, Int32.add_zero]) (by omega) (by omega) rfl d_M_wipe_17 (fun H locs hP hD hS => ?_)
    refine lv_aload_n hx hb d_M_wipe_18 rfl (lv_at hl 1 rfl) ?_
    refine va_get (D := (dC, dI)) (ci := 3) (v := .ref (b 9)) (C := R_M) (T := T_M) (N := 20) hx hb hts wu_M hown hK hP 0 rfl rfl 12 (by decide) (hts _ wf_M_36) (fun _ h9 => h9) rfl d_M_wipe_19 ?_
    refine lv_iconst (v := 2) hx hb d_M_wipe_22 (by decide) ?_
    refine lv_iload_n hx hb d_M_wipe_23 rfl (lv_at hl 2 rfl) ?_
    refine lv_imul hx hb d_M_wipe_24 ?_
    refine lv_iload_n hx hb d_M_wipe_25 rfl (lv_at hl 0 rfl) ?_
    refine lv_iadd hx hb d_M_wipe_26 ?_
    refine lv_iconst (v := 0) hx hb d_M_wipe_27 (by decide) ?_
    refine kx_iast (ws' := [((b 0), .inr (3, [.int vT, .int vn, .int vr, .int vo, .ref (b 1), .ref (b 2), .ref (b 3), .ref (b 4), .ref (b 5), .ref (b 6), .ref (b 7), .ref (b 8), .ref (b 9), .int vl, .int vb, .ref (b 10), .ref (b 11), .ref (b 12), .ref (b 13), .ref (b 14)])), ((b 1), .inl ((k5 2), 13056, .inl fN)), ((b 2), .inl ((k5 2), 13056, .inl fK)), ((b 3), .inl ((k5 3), 204, .inl fW)), ((b 4), .inl ((k5 3), 8, .inl fL)), ((b 5), .inl ((k5 0), 8, .inl fM)), ((b 6), .inl ((k5 0), 8, .inl fE)), ((b 7), .inl ((k5 3), 320, .inl fR)), ((b 8), .inl ((k5 0), 16, .inl (upd fF (2 * d) 0))), ((b 9), .inl ((k5 0), 16, .inl (upd fS (2 * d) 0))), ((b 10), .inl ((k5 0), 1300, .inl fP)), ((b 11), .inl ((k5 3), 1300, .inl fY)), ((b 12), .inl ((k5 0), 10400, .inl fT)), ((b 13), .inl ((k5 2), 13056, .inl fJ)), ((b 14), .inl ((k5 3), 204, .inl fI))]) hx hb hK hP hD hS 9 0 rfl rfl (2 * d) (by rw [show (2 : Int32) * nI d = nI (2 * d) from pk_mul 2 d, Int32.add_zero]) (by omega) (by omega) rfl d_M_wipe_28 (fun H locs hP hD hS => ?_)
    refine lv_iinc (v := 1) (lv' := [(2, .int 1), (0, .ref (b 0)), (1, .int (nI d))]) hx hb d_M_wipe_29 hl (k := 0) rfl (by decide) (by decide) rfl (fun ls hl => ?_)
    refine lv_goto (tgt := 2) hx hb d_M_wipe_32 (by decide) ?_
    refine lv_iload_n hx hb d_M_wipe_2 rfl (lv_at hl 0 rfl) ?_
    refine lv_iconst (v := 2) hx hb d_M_wipe_3 (by decide) ?_
    refine lv_icmp_ge (tgt := 35) hx hb d_M_wipe_4 (by decide) (fun hc_2 => ?_) (fun hc_2 => ?_)
    · exact absurd hc_2 (by decide)
    · refine lv_aload_n hx hb d_M_wipe_7 rfl (lv_at hl 1 rfl) ?_
      refine va_get (D := (dC, dI)) (ci := 3) (v := .ref (b 8)) (C := R_M) (T := T_M) (N := 20) hx hb hts wu_M hown hK hP 0 rfl rfl 11 (by decide) (hts _ wf_M_33) (fun _ h9 => h9) rfl d_M_wipe_8 ?_
      refine lv_iconst (v := 2) hx hb d_M_wipe_11 (by decide) ?_
      refine lv_iload_n hx hb d_M_wipe_12 rfl (lv_at hl 2 rfl) ?_
      refine lv_imul hx hb d_M_wipe_13 ?_
      refine lv_iload_n hx hb d_M_wipe_14 rfl (lv_at hl 0 rfl) ?_
      refine lv_iadd hx hb d_M_wipe_15 ?_
      refine lv_iconst (v := 0) hx hb d_M_wipe_16 (by decide) ?_
      refine kx_iast (ws' := [((b 0), .inr (3, [.int vT, .int vn, .int vr, .int vo, .ref (b 1), .ref (b 2), .ref (b 3), .ref (b 4), .ref (b 5), .ref (b 6), .ref (b 7), .ref (b 8), .ref (b 9), .int vl, .int vb, .ref (b 10), .ref (b 11), .ref (b 12), .ref (b 13), .ref (b 14)])), ((b 1), .inl ((k5 2), 13056, .inl fN)), ((b 2), .inl ((k5 2), 13056, .inl fK)), ((b 3), .inl ((k5 3), 204, .inl fW)), ((b 4), .inl ((k5 3), 8, .inl fL)), ((b 5), .inl ((k5 0), 8, .inl fM)), ((b 6), .inl ((k5 0), 8, .inl fE)), ((b 7), .inl ((k5 3), 320, .inl fR)), ((b 8), .inl ((k5 0), 16, .inl (upd (upd fF (2 * d) 0) (2 * d + 1) 0))), ((b 9), .inl ((k5 0), 16, .inl (upd fS (2 * d) 0))), ((b 10), .inl ((k5 0), 1300, .inl fP)), ((b 11), .inl ((k5 3), 1300, .inl fY)), ((b 12), .inl ((k5 0), 10400, .inl fT)), ((b 13), .inl ((k5 2), 13056, .inl fJ)), ((b 14), .inl ((k5 3), 204, .inl fI))]) hx hb hK hP hD hS 8 0 rfl rfl (2 * d + 1) (by rw [show (2 : Int32) * nI d = nI (2 * d) from pk_mul 2 d]; exact nI_1 _) (by omega) (by omega) rfl d_M_wipe_17 (fun H locs hP hD hS => ?_)
      refine lv_aload_n hx hb d_M_wipe_18 rfl (lv_at hl 1 rfl) ?_
      refine va_get (D := (dC, dI)) (ci := 3) (v := .ref (b 9)) (C := R_M) (T := T_M) (N := 20) hx hb hts wu_M hown hK hP 0 rfl rfl 12 (by decide) (hts _ wf_M_36) (fun _ h9 => h9) rfl d_M_wipe_19 ?_
      refine lv_iconst (v := 2) hx hb d_M_wipe_22 (by decide) ?_
      refine lv_iload_n hx hb d_M_wipe_23 rfl (lv_at hl 2 rfl) ?_
      refine lv_imul hx hb d_M_wipe_24 ?_
      refine lv_iload_n hx hb d_M_wipe_25 rfl (lv_at hl 0 rfl) ?_
      refine lv_iadd hx hb d_M_wipe_26 ?_
      refine lv_iconst (v := 0) hx hb d_M_wipe_27 (by decide) ?_
      refine kx_iast (ws' := [((b 0), .inr (3, [.int vT, .int vn, .int vr, .int vo, .ref (b 1), .ref (b 2), .ref (b 3), .ref (b 4), .ref (b 5), .ref (b 6), .ref (b 7), .ref (b 8), .ref (b 9), .int vl, .int vb, .ref (b 10), .ref (b 11), .ref (b 12), .ref (b 13), .ref (b 14)])), ((b 1), .inl ((k5 2), 13056, .inl fN)), ((b 2), .inl ((k5 2), 13056, .inl fK)), ((b 3), .inl ((k5 3), 204, .inl fW)), ((b 4), .inl ((k5 3), 8, .inl fL)), ((b 5), .inl ((k5 0), 8, .inl fM)), ((b 6), .inl ((k5 0), 8, .inl fE)), ((b 7), .inl ((k5 3), 320, .inl fR)), ((b 8), .inl ((k5 0), 16, .inl (upd (upd fF (2 * d) 0) (2 * d + 1) 0))), ((b 9), .inl ((k5 0), 16, .inl (upd (upd fS (2 * d) 0) (2 * d + 1) 0))), ((b 10), .inl ((k5 0), 1300, .inl fP)), ((b 11), .inl ((k5 3), 1300, .inl fY)), ((b 12), .inl ((k5 0), 10400, .inl fT)), ((b 13), .inl ((k5 2), 13056, .inl fJ)), ((b 14), .inl ((k5 3), 204, .inl fI))]) hx hb hK hP hD hS 9 0 rfl rfl (2 * d + 1) (by rw [show (2 : Int32) * nI d = nI (2 * d) from pk_mul 2 d]; exact nI_1 _) (by omega) (by omega) rfl d_M_wipe_28 (fun H locs hP hD hS => ?_)
      refine lv_iinc (v := 2) (lv' := [(2, .int 2), (0, .ref (b 0)), (1, .int (nI d))]) hx hb d_M_wipe_29 hl (k := 0) rfl (by decide) (by decide) rfl (fun ls hl => ?_)
      refine lv_goto (tgt := 2) hx hb d_M_wipe_32 (by decide) ?_
      refine lv_iload_n hx hb d_M_wipe_2 rfl (lv_at hl 0 rfl) ?_
      refine lv_iconst (v := 2) hx hb d_M_wipe_3 (by decide) ?_
      refine lv_icmp_ge (tgt := 35) hx hb d_M_wipe_4 (by decide) (fun hc_3 => ?_) (fun hc_3 => ?_)
      · exact W.vret hx hb hr (fun t ht hW => kx_Qv ht hP (rfl) hS rfl) hS.2.2 d_M_wipe_35
      · exact absurd hc_3 (by decide)
set_option maxHeartbeats 4000000 in
set_option maxRecDepth 100000 in
theorem k_M_powerOff (l : Launch) (dC : Nat → ClassId) (dI : Nat → Nat → Nat) (k5 : Nat → ClassId) (b : Nat → Nat) (vT vn vr vo vl vb : Int32) (fN fK fW fL fM fE fR fF fS fP fY fT fJ fI : FF)  : Met l y_M_powerOff w_M_powerOff ({ frames := 0, cells := 0, slots := 0, locals := 0 }) (kx_Pc (dC, dI) clA (tyL k5) (wMd b k5 vT vn vr vo vl vb fN fK fW fL fM fE fR fF fS fP fY fT fJ fI) [.ref (b 0)]) (kx_Q (dC, dI) clA (wMd b k5 vT vn vr vo vl vb fN fK fW fL fM fE fR fF fS fP fY fT fJ fI) (wMd b k5 vT vn vr 1 vl vb fN fK (fill0 fW 0 204) fL fM fE fR fF fS fP fY fT fJ fI) (some (.int (-2)))) 0 0 (kx_A (wMd b k5 vT vn vr vo vl vb fN fK fW fL fM fE fR fF fS fP fY fT fJ fI)) := by
  refine Met.ofW (cc := c_M_powerOff) (maxL := 2) (ret := (some .int)) (by decide) rfl ?_
  intro p e s m args below meth c s₁ B hml hv
  obtain ⟨rfl, hP, hK, hD0⟩ := hv
  have hx := B.exec
  have hb := B.bytes
  have hr := B.returns
  have hts : ∀ w ∈ wsA, w.before _ s = true := fun w h => atoms_spec (ws := w_M_powerOff) B.pre w (List.mem_cons_of_mem _ h)
  have hown : s.vm.findClass R_M = some m.cls := findClass_of_methodNamed B.named
  have hlocks := B.notSynchronized
  have hD := kx_D.self hD0
  have hS : va_S (kx_A (wMd b k5 vT vn vr vo vl vb fN fK fW fL fM fE fR fF fS fP fY fT fJ fI)) s.heap s.heap [] := va_S.rf
  have hl := lv_entry ([.ref (b 0)]) (n := 2) (Nat.le_of_ble_eq_true rfl)
  rw [lg_entry_eq]
  generalize (lg_sl ([.ref (b 0)]) ++ List.replicate (2 - (lg_sl ([.ref (b 0)])).length) Slot.unset).toArray = ls at hl ⊢
  have hl : lv_has ls 2 [(0, .ref (b 0))] := hl
  refine lv_aload_n hx hb d_M_powerOff_0 rfl (lv_at hl 0 rfl) ?_
  refine lv_iconst (v := 1) hx hb d_M_powerOff_1 (by decide) ?_
  refine kx_put (ws' := (wMd b k5 vT vn vr 1 vl vb fN fK fW fL fM fE fR fF fS fP fY fT fJ fI)) (D := (dC, dI)) (ci := 3) (v := .int 1) (ty := .boolean) (C := R_M) (T := T_M) (N := 20) hx hb hts wu_M ty_M ok_M nm_M hown hK hP hD hS 0 rfl rfl 3 (by decide) (hts _ wf_M_68) (fun _ h9 => h9) rfl (by decide +kernel) rfl rfl (Nat.le_of_ble_eq_true rfl) rfl d_M_powerOff_2 (fun H locs hP hD hS => ?_)
  refine lv_iconst (v := 0) hx hb d_M_powerOff_5 (by decide) ?_
  refine lv_istore_n (lv' := [(1, .int 0), (0, .ref (b 0))]) hx hb d_M_powerOff_6 rfl hl (by decide) rfl (fun ls hl => ?_)
  have lp : ∀ (q9 i : Nat) (H : Heap) (locs : List Loc) (ls : Array Slot), i + q9 = 204 → va_P (dC, dI) clA (wMd b k5 vT vn vr 1 vl vb fN fK (fill0 fW 0 i) fL fM fE fR fF fS fP fY fT fJ fI) H → va_D (kx_A (wMd b k5 vT vn vr vo vl vb fN fK fW fL fM fE fR fF fS fP fY fT fJ fI)) (wMd b k5 vT vn vr 1 vl vb fN fK (fill0 fW 0 i) fL fM fE fR fF fS fP fY fT fJ fI) → va_S (kx_A (wMd b k5 vT vn vr vo vl vb fN fK fW fL fM fE fR fF fS fP fY fT fJ fI)) s.heap H locs → lv_has ls 2 [(1, .int (nI i)), (0, .ref (b 0))] → W p l e (headSpec w_M_powerOff ({ frames := 0, cells := 0, slots := 0, locals := 0 })).room s m ([.ref (b 0)] : List Value).toArray below meth c H locs 0 0 (MQ below (kx_Q (dC, dI) clA (wMd b k5 vT vn vr vo vl vb fN fK fW fL fM fE fR fF fS fP fY fT fJ fI) (wMd b k5 vT vn vr 1 vl vb fN fK (fill0 fW 0 204) fL fM fE fR fF fS fP fY fT fJ fI) (some (.int (-2)))) ([.ref (b 0)] : List Value).toArray s 0 0 (kx_A (wMd b k5 vT vn vr vo vl vb fN fK fW fL fM fE fR fF fS fP fY fT fJ fI))) (F0 m 7 ls []) := by
    intro q9
    induction q9 with
    | zero =>
      intro i H locs ls hi hP hD hS hl
      have hi : 204 = i := by omega
      subst hi
      refine lv_iload_n hx hb d_M_powerOff_7 rfl (lv_at hl 0 rfl) ?_
      refine lv_sipush (v := 204) hx hb d_M_powerOff_8 (by decide) ?_
      refine lv_icmp_ge (tgt := 27) hx hb d_M_powerOff_11 (by decide) (fun hc => ?_) (fun hc => ?_)
      · refine lv_bipush (v := (-2)) hx hb d_M_powerOff_27 (by decide) ?_
        exact W.iret (v := (-2)) hx hb hr (fun t ht hW => kx_Qi (rfl) ht hP (rfl) hS rfl) hS.2.2 d_M_powerOff_29
      · exact absurd (by rw [show (204 : Int32) = nI 204 from rfl]; exact nI_le (by omega) (by omega)) hc
    | succ q9 ih =>
      intro i H locs ls hi hP hD hS hl
      refine lv_iload_n hx hb d_M_powerOff_7 rfl (lv_at hl 0 rfl) ?_
      refine lv_sipush (v := 204) hx hb d_M_powerOff_8 (by decide) ?_
      refine lv_icmp_ge (tgt := 27) hx hb d_M_powerOff_11 (by decide) (fun hc => ?_) (fun hc => ?_)
      · exact absurd hc (by rw [show (204 : Int32) = nI 204 from rfl]; exact nI_ge (by omega) (by omega))
      · refine lv_aload_n hx hb d_M_powerOff_14 rfl (lv_at hl 1 rfl) ?_
        refine va_get (D := (dC, dI)) (ci := 3) (v := .ref (b 3)) (C := R_M) (T := T_M) (N := 20) hx hb hts wu_M hown hK hP 0 rfl rfl 6 (by decide) (hts _ wf_M_16) (fun _ h9 => h9) rfl d_M_powerOff_15 ?_
        refine lv_iload_n hx hb d_M_powerOff_18 rfl (lv_at hl 0 rfl) ?_
        refine lv_iconst (v := 0) hx hb d_M_powerOff_19 (by decide) ?_
        refine kx_zast (ws' := (wMd b k5 vT vn vr 1 vl vb fN fK (fill0 fW 0 (i + 1)) fL fM fE fR fF fS fP fY fT fJ fI)) hx hb hK hP hD hS 3 3 rfl rfl i (rfl) (by omega) (by omega) rfl rfl d_M_powerOff_20 (fun H locs hP hD hS => ?_)
        refine lv_iinc (v := nI (i + 1)) (lv' := [(1, .int (nI (i + 1))), (0, .ref (b 0))]) hx hb d_M_powerOff_21 hl (k := 0) rfl (nI_1 i) (by decide) rfl (fun ls hl => ?_)
        refine lv_goto (tgt := 7) hx hb d_M_powerOff_24 (by decide) ?_
        exact ih (i + 1) H locs ls (by omega) hP hD hS (lv_sub hl [0, 1] rfl)
  exact lp 204 0 H locs ls (by omega) hP hD hS (lv_sub hl [0, 1] rfl)
end
