section
-- ===== PART A: goes FIRST, ahead of the names: the tables' words, and 'selects' of the private methods out of them =====
/-- a private method of a class that the tables say can be made, by its rows of tables_1 -/
def lw_okq (q : MethodName × Nat) : Prop := (q.1.cls ≠ "java/lang/invoke/MethodHandle" ∧ q.1.cls ≠ "java/lang/invoke/VarHandle") ∧ Cond.instantiable q.1.cls q.2 ∈ tables_1 ∧ Cond.privateMethod q.1 ∈ tables_1 ∧ Cond.instanceMethod q.1 ∈ tables_1
theorem lw_p0 : lw_okq (⟨"CanoeMaster$Sea", "layCells", "()V"⟩, 20) := ⟨⟨by decide +kernel, by decide +kernel⟩, List.mem_of_getElem? (i := 26) (by decide +kernel), List.mem_of_getElem? (i := 179) (by decide +kernel), List.mem_of_getElem? (i := 180) (by decide +kernel)⟩
theorem lw_p1 : lw_okq (⟨"CanoeMaster$Sea", "layCell", "(III)V"⟩, 20) := ⟨⟨by decide +kernel, by decide +kernel⟩, List.mem_of_getElem? (i := 26) (by decide +kernel), List.mem_of_getElem? (i := 183) (by decide +kernel), List.mem_of_getElem? (i := 184) (by decide +kernel)⟩
theorem lw_p2 : lw_okq (⟨"CanoeMaster", "startWith", "(J)V"⟩, 9) := ⟨⟨by decide +kernel, by decide +kernel⟩, List.mem_of_getElem? (i := 18) (by decide +kernel), List.mem_of_getElem? (i := 219) (by decide +kernel), List.mem_of_getElem? (i := 220) (by decide +kernel)⟩
theorem lw_p3 : lw_okq (⟨"CanoeMaster$Sea", "grown", "(J)J"⟩, 20) := ⟨⟨by decide +kernel, by decide +kernel⟩, List.mem_of_getElem? (i := 26) (by decide +kernel), List.mem_of_getElem? (i := 236) (by decide +kernel), List.mem_of_getElem? (i := 237) (by decide +kernel)⟩
theorem lw_p4 : lw_okq (⟨"CanoeMaster$Sea", "oneWest", "(J)J"⟩, 20) := ⟨⟨by decide +kernel, by decide +kernel⟩, List.mem_of_getElem? (i := 26) (by decide +kernel), List.mem_of_getElem? (i := 240) (by decide +kernel), List.mem_of_getElem? (i := 241) (by decide +kernel)⟩
theorem lw_p5 : lw_okq (⟨"CanoeMaster$Sea", "oneEast", "(J)J"⟩, 20) := ⟨⟨by decide +kernel, by decide +kernel⟩, List.mem_of_getElem? (i := 26) (by decide +kernel), List.mem_of_getElem? (i := 244) (by decide +kernel), List.mem_of_getElem? (i := 245) (by decide +kernel)⟩
theorem lw_p6 : lw_okq (⟨"CanoeMaster$Sea", "oneNorth", "(J)J"⟩, 20) := ⟨⟨by decide +kernel, by decide +kernel⟩, List.mem_of_getElem? (i := 26) (by decide +kernel), List.mem_of_getElem? (i := 248) (by decide +kernel), List.mem_of_getElem? (i := 249) (by decide +kernel)⟩
theorem lw_p7 : lw_okq (⟨"CanoeMaster$Sea", "oneSouth", "(J)J"⟩, 20) := ⟨⟨by decide +kernel, by decide +kernel⟩, List.mem_of_getElem? (i := 26) (by decide +kernel), List.mem_of_getElem? (i := 252) (by decide +kernel), List.mem_of_getElem? (i := 253) (by decide +kernel)⟩
theorem lw_p8 : lw_okq (⟨"CanoeMaster$Sea", "landsOfReach", "(I)J"⟩, 20) := ⟨⟨by decide +kernel, by decide +kernel⟩, List.mem_of_getElem? (i := 26) (by decide +kernel), List.mem_of_getElem? (i := 256) (by decide +kernel), List.mem_of_getElem? (i := 257) (by decide +kernel)⟩
theorem lw_p9 : lw_okq (⟨"CanoeMaster", "lookAtRows", "(I)I"⟩, 9) := ⟨⟨by decide +kernel, by decide +kernel⟩, List.mem_of_getElem? (i := 18) (by decide +kernel), List.mem_of_getElem? (i := 300) (by decide +kernel), List.mem_of_getElem? (i := 301) (by decide +kernel)⟩
theorem lw_p10 : lw_okq (⟨"CanoeMaster", "watchNow", "()I"⟩, 9) := ⟨⟨by decide +kernel, by decide +kernel⟩, List.mem_of_getElem? (i := 18) (by decide +kernel), List.mem_of_getElem? (i := 324) (by decide +kernel), List.mem_of_getElem? (i := 325) (by decide +kernel)⟩
theorem lw_p11 : lw_okq (⟨"CanoeMaster$Sea", "spreadRow", "(IJ)V"⟩, 20) := ⟨⟨by decide +kernel, by decide +kernel⟩, List.mem_of_getElem? (i := 26) (by decide +kernel), List.mem_of_getElem? (i := 340) (by decide +kernel), List.mem_of_getElem? (i := 341) (by decide +kernel)⟩
theorem lw_p12 : lw_okq (⟨"CanoeMaster$Reader", "readToken", "()V"⟩, 8) := ⟨⟨by decide +kernel, by decide +kernel⟩, List.mem_of_getElem? (i := 109) (by decide +kernel), List.mem_of_getElem? (i := 415) (by decide +kernel), List.mem_of_getElem? (i := 416) (by decide +kernel)⟩
theorem lw_p13 : lw_okq (⟨"CanoeMaster$Reader", "skipLetters", "()V"⟩, 8) := ⟨⟨by decide +kernel, by decide +kernel⟩, List.mem_of_getElem? (i := 109) (by decide +kernel), List.mem_of_getElem? (i := 425) (by decide +kernel), List.mem_of_getElem? (i := 426) (by decide +kernel)⟩
theorem lw_p14 : lw_okq (⟨"CanoeMaster$Reader", "wordRead", "()I"⟩, 8) := ⟨⟨by decide +kernel, by decide +kernel⟩, List.mem_of_getElem? (i := 109) (by decide +kernel), List.mem_of_getElem? (i := 429) (by decide +kernel), List.mem_of_getElem? (i := 430) (by decide +kernel)⟩
theorem lw_p15 : lw_okq (⟨"CanoeMaster$Reader", "spells", "(Ljava/lang/String;)Z"⟩, 8) := ⟨⟨by decide +kernel, by decide +kernel⟩, List.mem_of_getElem? (i := 109) (by decide +kernel), List.mem_of_getElem? (i := 434) (by decide +kernel), List.mem_of_getElem? (i := 435) (by decide +kernel)⟩
def lw_privs_1 : List (MethodName × Nat) := [(⟨"CanoeMaster$Sea", "layCells", "()V"⟩, 20), (⟨"CanoeMaster$Sea", "layCell", "(III)V"⟩, 20), (⟨"CanoeMaster", "startWith", "(J)V"⟩, 9), (⟨"CanoeMaster$Sea", "grown", "(J)J"⟩, 20), (⟨"CanoeMaster$Sea", "oneWest", "(J)J"⟩, 20), (⟨"CanoeMaster$Sea", "oneEast", "(J)J"⟩, 20), (⟨"CanoeMaster$Sea", "oneNorth", "(J)J"⟩, 20), (⟨"CanoeMaster$Sea", "oneSouth", "(J)J"⟩, 20), (⟨"CanoeMaster$Sea", "landsOfReach", "(I)J"⟩, 20), (⟨"CanoeMaster", "lookAtRows", "(I)I"⟩, 9), (⟨"CanoeMaster", "watchNow", "()I"⟩, 9), (⟨"CanoeMaster$Sea", "spreadRow", "(IJ)V"⟩, 20), (⟨"CanoeMaster$Reader", "readToken", "()V"⟩, 8), (⟨"CanoeMaster$Reader", "skipLetters", "()V"⟩, 8), (⟨"CanoeMaster$Reader", "wordRead", "()I"⟩, 8), (⟨"CanoeMaster$Reader", "spells", "(Ljava/lang/String;)Z"⟩, 8)]
theorem lw_r1 : ∀ q ∈ lw_privs_1, lw_okq q := List.forall_mem_cons.mpr ⟨lw_p0, List.forall_mem_cons.mpr ⟨lw_p1, List.forall_mem_cons.mpr ⟨lw_p2, List.forall_mem_cons.mpr ⟨lw_p3, List.forall_mem_cons.mpr ⟨lw_p4, List.forall_mem_cons.mpr ⟨lw_p5, List.forall_mem_cons.mpr ⟨lw_p6, List.forall_mem_cons.mpr ⟨lw_p7, List.forall_mem_cons.mpr ⟨lw_p8, List.forall_mem_cons.mpr ⟨lw_p9, List.forall_mem_cons.mpr ⟨lw_p10, List.forall_mem_cons.mpr ⟨lw_p11, List.forall_mem_cons.mpr ⟨lw_p12, List.forall_mem_cons.mpr ⟨lw_p13, List.forall_mem_cons.mpr ⟨lw_p14, List.forall_mem_cons.mpr ⟨lw_p15, fun _ h => absurd h List.not_mem_nil⟩⟩⟩⟩⟩⟩⟩⟩⟩⟩⟩⟩⟩⟩⟩⟩
theorem lw_p16 : lw_okq (⟨"CanoeMaster$Reader", "readNumber", "()V"⟩, 8) := ⟨⟨by decide +kernel, by decide +kernel⟩, List.mem_of_getElem? (i := 109) (by decide +kernel), List.mem_of_getElem? (i := 494) (by decide +kernel), List.mem_of_getElem? (i := 495) (by decide +kernel)⟩
theorem lw_p17 : lw_okq (⟨"CanoeMaster$Reader", "readLine", "(LCanoeMaster$Chant;)V"⟩, 8) := ⟨⟨by decide +kernel, by decide +kernel⟩, List.mem_of_getElem? (i := 109) (by decide +kernel), List.mem_of_getElem? (i := 498) (by decide +kernel), List.mem_of_getElem? (i := 499) (by decide +kernel)⟩
theorem lw_p18 : lw_okq (⟨"CanoeMaster$Reader", "blame", "(I)V"⟩, 8) := ⟨⟨by decide +kernel, by decide +kernel⟩, List.mem_of_getElem? (i := 109) (by decide +kernel), List.mem_of_getElem? (i := 502) (by decide +kernel), List.mem_of_getElem? (i := 503) (by decide +kernel)⟩
theorem lw_p19 : lw_okq (⟨"CanoeMaster$Reader", "take", "(Z)V"⟩, 8) := ⟨⟨by decide +kernel, by decide +kernel⟩, List.mem_of_getElem? (i := 109) (by decide +kernel), List.mem_of_getElem? (i := 506) (by decide +kernel), List.mem_of_getElem? (i := 507) (by decide +kernel)⟩
theorem lw_p20 : lw_okq (⟨"CanoeMaster$Reader", "numberWithin", "(II)I"⟩, 8) := ⟨⟨by decide +kernel, by decide +kernel⟩, List.mem_of_getElem? (i := 109) (by decide +kernel), List.mem_of_getElem? (i := 510) (by decide +kernel), List.mem_of_getElem? (i := 511) (by decide +kernel)⟩
theorem lw_p21 : lw_okq (⟨"CanoeMaster$Reader", "signNamed", "()I"⟩, 8) := ⟨⟨by decide +kernel, by decide +kernel⟩, List.mem_of_getElem? (i := 109) (by decide +kernel), List.mem_of_getElem? (i := 514) (by decide +kernel), List.mem_of_getElem? (i := 515) (by decide +kernel)⟩
theorem lw_p22 : lw_okq (⟨"CanoeMaster", "judgeOfNow", "()LCanoeMaster$Judge;"⟩, 9) := ⟨⟨by decide +kernel, by decide +kernel⟩, List.mem_of_getElem? (i := 18) (by decide +kernel), List.mem_of_getElem? (i := 535) (by decide +kernel), List.mem_of_getElem? (i := 536) (by decide +kernel)⟩
theorem lw_p23 : lw_okq (⟨"CanoeMaster$Judge", "standAtEnd", "(LCanoeMaster$Sea;)V"⟩, 7) := ⟨⟨by decide +kernel, by decide +kernel⟩, List.mem_of_getElem? (i := 539) (by decide +kernel), List.mem_of_getElem? (i := 586) (by decide +kernel), List.mem_of_getElem? (i := 587) (by decide +kernel)⟩
theorem lw_p24 : lw_okq (⟨"CanoeMaster$Judge", "goThroughLine", "(LCanoeMaster$Sea;LCanoeMaster$Chant;I)V"⟩, 7) := ⟨⟨by decide +kernel, by decide +kernel⟩, List.mem_of_getElem? (i := 539) (by decide +kernel), List.mem_of_getElem? (i := 596) (by decide +kernel), List.mem_of_getElem? (i := 597) (by decide +kernel)⟩
theorem lw_p25 : lw_okq (⟨"CanoeMaster$Judge", "findTargets", "(LCanoeMaster$Sea;I)V"⟩, 7) := ⟨⟨by decide +kernel, by decide +kernel⟩, List.mem_of_getElem? (i := 539) (by decide +kernel), List.mem_of_getElem? (i := 600) (by decide +kernel), List.mem_of_getElem? (i := 601) (by decide +kernel)⟩
theorem lw_p26 : lw_okq (⟨"CanoeMaster$Judge", "goThroughHour", "(LCanoeMaster$Sea;I)V"⟩, 7) := ⟨⟨by decide +kernel, by decide +kernel⟩, List.mem_of_getElem? (i := 539) (by decide +kernel), List.mem_of_getElem? (i := 617) (by decide +kernel), List.mem_of_getElem? (i := 618) (by decide +kernel)⟩
theorem lw_p27 : lw_okq (⟨"CanoeMaster$Judge", "steerOn", "(IIII)V"⟩, 7) := ⟨⟨by decide +kernel, by decide +kernel⟩, List.mem_of_getElem? (i := 539) (by decide +kernel), List.mem_of_getElem? (i := 621) (by decide +kernel), List.mem_of_getElem? (i := 622) (by decide +kernel)⟩
theorem lw_p28 : lw_okq (⟨"CanoeMaster$Search", "lookThrough", "(LCanoeMaster$Sea;JI)I"⟩, 11) := ⟨⟨by decide +kernel, by decide +kernel⟩, List.mem_of_getElem? (i := 652) (by decide +kernel), List.mem_of_getElem? (i := 701) (by decide +kernel), List.mem_of_getElem? (i := 702) (by decide +kernel)⟩
theorem lw_p29 : lw_okq (⟨"CanoeMaster$Search", "keepNew", "(JII)Z"⟩, 11) := ⟨⟨by decide +kernel, by decide +kernel⟩, List.mem_of_getElem? (i := 652) (by decide +kernel), List.mem_of_getElem? (i := 706) (by decide +kernel), List.mem_of_getElem? (i := 707) (by decide +kernel)⟩
theorem lw_p30 : lw_okq (⟨"CanoeMaster$Search", "keepAt", "(IJII)Z"⟩, 11) := ⟨⟨by decide +kernel, by decide +kernel⟩, List.mem_of_getElem? (i := 652) (by decide +kernel), List.mem_of_getElem? (i := 711) (by decide +kernel), List.mem_of_getElem? (i := 712) (by decide +kernel)⟩
theorem lw_p31 : lw_okq (⟨"CanoeMaster$Search", "goOn", "(LCanoeMaster$Sea;II)I"⟩, 11) := ⟨⟨by decide +kernel, by decide +kernel⟩, List.mem_of_getElem? (i := 652) (by decide +kernel), List.mem_of_getElem? (i := 715) (by decide +kernel), List.mem_of_getElem? (i := 716) (by decide +kernel)⟩
def lw_privs_2 : List (MethodName × Nat) := [(⟨"CanoeMaster$Reader", "readNumber", "()V"⟩, 8), (⟨"CanoeMaster$Reader", "readLine", "(LCanoeMaster$Chant;)V"⟩, 8), (⟨"CanoeMaster$Reader", "blame", "(I)V"⟩, 8), (⟨"CanoeMaster$Reader", "take", "(Z)V"⟩, 8), (⟨"CanoeMaster$Reader", "numberWithin", "(II)I"⟩, 8), (⟨"CanoeMaster$Reader", "signNamed", "()I"⟩, 8), (⟨"CanoeMaster", "judgeOfNow", "()LCanoeMaster$Judge;"⟩, 9), (⟨"CanoeMaster$Judge", "standAtEnd", "(LCanoeMaster$Sea;)V"⟩, 7), (⟨"CanoeMaster$Judge", "goThroughLine", "(LCanoeMaster$Sea;LCanoeMaster$Chant;I)V"⟩, 7), (⟨"CanoeMaster$Judge", "findTargets", "(LCanoeMaster$Sea;I)V"⟩, 7), (⟨"CanoeMaster$Judge", "goThroughHour", "(LCanoeMaster$Sea;I)V"⟩, 7), (⟨"CanoeMaster$Judge", "steerOn", "(IIII)V"⟩, 7), (⟨"CanoeMaster$Search", "lookThrough", "(LCanoeMaster$Sea;JI)I"⟩, 11), (⟨"CanoeMaster$Search", "keepNew", "(JII)Z"⟩, 11), (⟨"CanoeMaster$Search", "keepAt", "(IJII)Z"⟩, 11), (⟨"CanoeMaster$Search", "goOn", "(LCanoeMaster$Sea;II)I"⟩, 11)]
theorem lw_r2 : ∀ q ∈ lw_privs_2, lw_okq q := List.forall_mem_cons.mpr ⟨lw_p16, List.forall_mem_cons.mpr ⟨lw_p17, List.forall_mem_cons.mpr ⟨lw_p18, List.forall_mem_cons.mpr ⟨lw_p19, List.forall_mem_cons.mpr ⟨lw_p20, List.forall_mem_cons.mpr ⟨lw_p21, List.forall_mem_cons.mpr ⟨lw_p22, List.forall_mem_cons.mpr ⟨lw_p23, List.forall_mem_cons.mpr ⟨lw_p24, List.forall_mem_cons.mpr ⟨lw_p25, List.forall_mem_cons.mpr ⟨lw_p26, List.forall_mem_cons.mpr ⟨lw_p27, List.forall_mem_cons.mpr ⟨lw_p28, List.forall_mem_cons.mpr ⟨lw_p29, List.forall_mem_cons.mpr ⟨lw_p30, List.forall_mem_cons.mpr ⟨lw_p31, fun _ h => absurd h List.not_mem_nil⟩⟩⟩⟩⟩⟩⟩⟩⟩⟩⟩⟩⟩⟩⟩⟩
theorem lw_p32 : lw_okq (⟨"CanoeMaster$Search", "writeRow", "(III)V"⟩, 11) := ⟨⟨by decide +kernel, by decide +kernel⟩, List.mem_of_getElem? (i := 652) (by decide +kernel), List.mem_of_getElem? (i := 721) (by decide +kernel), List.mem_of_getElem? (i := 722) (by decide +kernel)⟩
theorem lw_p33 : lw_okq (⟨"CanoeMasterModel", "all", "()J"⟩, 38) := ⟨⟨by decide +kernel, by decide +kernel⟩, List.mem_of_getElem? (i := 725) (by decide +kernel), List.mem_of_getElem? (i := 851) (by decide +kernel), List.mem_of_getElem? (i := 852) (by decide +kernel)⟩
theorem lw_p34 : lw_okq (⟨"CanoeMasterModel", "cells", "()I"⟩, 38) := ⟨⟨by decide +kernel, by decide +kernel⟩, List.mem_of_getElem? (i := 725) (by decide +kernel), List.mem_of_getElem? (i := 855) (by decide +kernel), List.mem_of_getElem? (i := 856) (by decide +kernel)⟩
theorem lw_p35 : lw_okq (⟨"CanoeMasterModel", "isCell", "(I)Z"⟩, 38) := ⟨⟨by decide +kernel, by decide +kernel⟩, List.mem_of_getElem? (i := 725) (by decide +kernel), List.mem_of_getElem? (i := 864) (by decide +kernel), List.mem_of_getElem? (i := 865) (by decide +kernel)⟩
theorem lw_p36 : lw_okq (⟨"CanoeMasterModel", "count", "(J)I"⟩, 38) := ⟨⟨by decide +kernel, by decide +kernel⟩, List.mem_of_getElem? (i := 725) (by decide +kernel), List.mem_of_getElem? (i := 884) (by decide +kernel), List.mem_of_getElem? (i := 885) (by decide +kernel)⟩
theorem lw_p37 : lw_okq (⟨"CanoeMasterModel", "has", "(JI)Z"⟩, 38) := ⟨⟨by decide +kernel, by decide +kernel⟩, List.mem_of_getElem? (i := 725) (by decide +kernel), List.mem_of_getElem? (i := 888) (by decide +kernel), List.mem_of_getElem? (i := 889) (by decide +kernel)⟩
theorem lw_p38 : lw_okq (⟨"CanoeMasterModel", "landsIn", "(J)I"⟩, 38) := ⟨⟨by decide +kernel, by decide +kernel⟩, List.mem_of_getElem? (i := 725) (by decide +kernel), List.mem_of_getElem? (i := 892) (by decide +kernel), List.mem_of_getElem? (i := 893) (by decide +kernel)⟩
theorem lw_p39 : lw_okq (⟨"CanoeMasterModel", "isLand", "(I)Z"⟩, 38) := ⟨⟨by decide +kernel, by decide +kernel⟩, List.mem_of_getElem? (i := 725) (by decide +kernel), List.mem_of_getElem? (i := 896) (by decide +kernel), List.mem_of_getElem? (i := 897) (by decide +kernel)⟩
theorem lw_p40 : lw_okq (⟨"CanoeMasterModel", "goesAll", "(JII)J"⟩, 38) := ⟨⟨by decide +kernel, by decide +kernel⟩, List.mem_of_getElem? (i := 725) (by decide +kernel), List.mem_of_getElem? (i := 916) (by decide +kernel), List.mem_of_getElem? (i := 917) (by decide +kernel)⟩
theorem lw_p41 : lw_okq (⟨"CanoeMasterModel", "goes", "(III)I"⟩, 38) := ⟨⟨by decide +kernel, by decide +kernel⟩, List.mem_of_getElem? (i := 725) (by decide +kernel), List.mem_of_getElem? (i := 920) (by decide +kernel), List.mem_of_getElem? (i := 921) (by decide +kernel)⟩
theorem lw_p42 : lw_okq (⟨"CanoeMasterModel", "bound", "(II)I"⟩, 38) := ⟨⟨by decide +kernel, by decide +kernel⟩, List.mem_of_getElem? (i := 725) (by decide +kernel), List.mem_of_getElem? (i := 924) (by decide +kernel), List.mem_of_getElem? (i := 925) (by decide +kernel)⟩
theorem lw_p43 : lw_okq (⟨"CanoeMasterModel", "signOf", "(III)I"⟩, 38) := ⟨⟨by decide +kernel, by decide +kernel⟩, List.mem_of_getElem? (i := 725) (by decide +kernel), List.mem_of_getElem? (i := 932) (by decide +kernel), List.mem_of_getElem? (i := 933) (by decide +kernel)⟩
theorem lw_p44 : lw_okq (⟨"CanoeMasterModel", "far", "(II)I"⟩, 38) := ⟨⟨by decide +kernel, by decide +kernel⟩, List.mem_of_getElem? (i := 725) (by decide +kernel), List.mem_of_getElem? (i := 936) (by decide +kernel), List.mem_of_getElem? (i := 937) (by decide +kernel)⟩
theorem lw_p45 : lw_okq (⟨"CanoeMasterModel", "seen", "(II)J"⟩, 38) := ⟨⟨by decide +kernel, by decide +kernel⟩, List.mem_of_getElem? (i := 725) (by decide +kernel), List.mem_of_getElem? (i := 944) (by decide +kernel), List.mem_of_getElem? (i := 945) (by decide +kernel)⟩
theorem lw_p46 : lw_okq (⟨"CanoeMasterModel", "lay", "(I)V"⟩, 38) := ⟨⟨by decide +kernel, by decide +kernel⟩, List.mem_of_getElem? (i := 725) (by decide +kernel), List.mem_of_getElem? (i := 956) (by decide +kernel), List.mem_of_getElem? (i := 957) (by decide +kernel)⟩
theorem lw_p47 : lw_okq (⟨"CanoeMasterModel", "readText", "()Z"⟩, 38) := ⟨⟨by decide +kernel, by decide +kernel⟩, List.mem_of_getElem? (i := 725) (by decide +kernel), List.mem_of_getElem? (i := 972) (by decide +kernel), List.mem_of_getElem? (i := 973) (by decide +kernel)⟩
def lw_privs_3 : List (MethodName × Nat) := [(⟨"CanoeMaster$Search", "writeRow", "(III)V"⟩, 11), (⟨"CanoeMasterModel", "all", "()J"⟩, 38), (⟨"CanoeMasterModel", "cells", "()I"⟩, 38), (⟨"CanoeMasterModel", "isCell", "(I)Z"⟩, 38), (⟨"CanoeMasterModel", "count", "(J)I"⟩, 38), (⟨"CanoeMasterModel", "has", "(JI)Z"⟩, 38), (⟨"CanoeMasterModel", "landsIn", "(J)I"⟩, 38), (⟨"CanoeMasterModel", "isLand", "(I)Z"⟩, 38), (⟨"CanoeMasterModel", "goesAll", "(JII)J"⟩, 38), (⟨"CanoeMasterModel", "goes", "(III)I"⟩, 38), (⟨"CanoeMasterModel", "bound", "(II)I"⟩, 38), (⟨"CanoeMasterModel", "signOf", "(III)I"⟩, 38), (⟨"CanoeMasterModel", "far", "(II)I"⟩, 38), (⟨"CanoeMasterModel", "seen", "(II)J"⟩, 38), (⟨"CanoeMasterModel", "lay", "(I)V"⟩, 38), (⟨"CanoeMasterModel", "readText", "()Z"⟩, 38)]
theorem lw_r3 : ∀ q ∈ lw_privs_3, lw_okq q := List.forall_mem_cons.mpr ⟨lw_p32, List.forall_mem_cons.mpr ⟨lw_p33, List.forall_mem_cons.mpr ⟨lw_p34, List.forall_mem_cons.mpr ⟨lw_p35, List.forall_mem_cons.mpr ⟨lw_p36, List.forall_mem_cons.mpr ⟨lw_p37, List.forall_mem_cons.mpr ⟨lw_p38, List.forall_mem_cons.mpr ⟨lw_p39, List.forall_mem_cons.mpr ⟨lw_p40, List.forall_mem_cons.mpr ⟨lw_p41, List.forall_mem_cons.mpr ⟨lw_p42, List.forall_mem_cons.mpr ⟨lw_p43, List.forall_mem_cons.mpr ⟨lw_p44, List.forall_mem_cons.mpr ⟨lw_p45, List.forall_mem_cons.mpr ⟨lw_p46, List.forall_mem_cons.mpr ⟨lw_p47, fun _ h => absurd h List.not_mem_nil⟩⟩⟩⟩⟩⟩⟩⟩⟩⟩⟩⟩⟩⟩⟩⟩
theorem lw_p48 : lw_okq (⟨"CanoeMasterModel", "next", "()V"⟩, 38) := ⟨⟨by decide +kernel, by decide +kernel⟩, List.mem_of_getElem? (i := 725) (by decide +kernel), List.mem_of_getElem? (i := 976) (by decide +kernel), List.mem_of_getElem? (i := 977) (by decide +kernel)⟩
theorem lw_p49 : lw_okq (⟨"CanoeMasterModel", "raw", "(I)I"⟩, 38) := ⟨⟨by decide +kernel, by decide +kernel⟩, List.mem_of_getElem? (i := 725) (by decide +kernel), List.mem_of_getElem? (i := 980) (by decide +kernel), List.mem_of_getElem? (i := 981) (by decide +kernel)⟩
theorem lw_p50 : lw_okq (⟨"CanoeMasterModel", "isLetter", "(I)Z"⟩, 38) := ⟨⟨by decide +kernel, by decide +kernel⟩, List.mem_of_getElem? (i := 725) (by decide +kernel), List.mem_of_getElem? (i := 984) (by decide +kernel), List.mem_of_getElem? (i := 985) (by decide +kernel)⟩
theorem lw_p51 : lw_okq (⟨"CanoeMasterModel", "isWord", "(IIIIII)Z"⟩, 38) := ⟨⟨by decide +kernel, by decide +kernel⟩, List.mem_of_getElem? (i := 725) (by decide +kernel), List.mem_of_getElem? (i := 988) (by decide +kernel), List.mem_of_getElem? (i := 989) (by decide +kernel)⟩
theorem lw_p52 : lw_okq (⟨"CanoeMasterModel", "isDigit", "(I)Z"⟩, 38) := ⟨⟨by decide +kernel, by decide +kernel⟩, List.mem_of_getElem? (i := 725) (by decide +kernel), List.mem_of_getElem? (i := 992) (by decide +kernel), List.mem_of_getElem? (i := 993) (by decide +kernel)⟩
theorem lw_p53 : lw_okq (⟨"CanoeMasterModel", "readLine", "()Z"⟩, 38) := ⟨⟨by decide +kernel, by decide +kernel⟩, List.mem_of_getElem? (i := 725) (by decide +kernel), List.mem_of_getElem? (i := 996) (by decide +kernel), List.mem_of_getElem? (i := 997) (by decide +kernel)⟩
theorem lw_p54 : lw_okq (⟨"CanoeMasterModel", "fails", "(I)Z"⟩, 38) := ⟨⟨by decide +kernel, by decide +kernel⟩, List.mem_of_getElem? (i := 725) (by decide +kernel), List.mem_of_getElem? (i := 1000) (by decide +kernel), List.mem_of_getElem? (i := 1001) (by decide +kernel)⟩
theorem lw_p55 : lw_okq (⟨"CanoeMasterModel", "takes", "(II)Z"⟩, 38) := ⟨⟨by decide +kernel, by decide +kernel⟩, List.mem_of_getElem? (i := 725) (by decide +kernel), List.mem_of_getElem? (i := 1004) (by decide +kernel), List.mem_of_getElem? (i := 1005) (by decide +kernel)⟩
theorem lw_p56 : lw_okq (⟨"CanoeMasterModel", "sing", "()V"⟩, 38) := ⟨⟨by decide +kernel, by decide +kernel⟩, List.mem_of_getElem? (i := 725) (by decide +kernel), List.mem_of_getElem? (i := 1012) (by decide +kernel), List.mem_of_getElem? (i := 1013) (by decide +kernel)⟩
theorem lw_p57 : lw_okq (⟨"CanoeMasterModel", "at", "(III)I"⟩, 38) := ⟨⟨by decide +kernel, by decide +kernel⟩, List.mem_of_getElem? (i := 725) (by decide +kernel), List.mem_of_getElem? (i := 1016) (by decide +kernel), List.mem_of_getElem? (i := 1017) (by decide +kernel)⟩
theorem lw_p58 : lw_okq (⟨"CanoeMasterModel", "step", "(IIII)V"⟩, 38) := ⟨⟨by decide +kernel, by decide +kernel⟩, List.mem_of_getElem? (i := 725) (by decide +kernel), List.mem_of_getElem? (i := 1021) (by decide +kernel), List.mem_of_getElem? (i := 1022) (by decide +kernel)⟩
theorem lw_p59 : lw_okq (⟨"CanoeMasterModel", "isThere", "(III)Z"⟩, 38) := ⟨⟨by decide +kernel, by decide +kernel⟩, List.mem_of_getElem? (i := 725) (by decide +kernel), List.mem_of_getElem? (i := 1025) (by decide +kernel), List.mem_of_getElem? (i := 1026) (by decide +kernel)⟩
theorem lw_p60 : lw_okq (⟨"CanoeMasterModel", "findBlind", "()I"⟩, 38) := ⟨⟨by decide +kernel, by decide +kernel⟩, List.mem_of_getElem? (i := 725) (by decide +kernel), List.mem_of_getElem? (i := 1041) (by decide +kernel), List.mem_of_getElem? (i := 1042) (by decide +kernel)⟩
theorem lw_p61 : lw_okq (⟨"CanoeMasterModel", "isAllLand", "(J)Z"⟩, 38) := ⟨⟨by decide +kernel, by decide +kernel⟩, List.mem_of_getElem? (i := 725) (by decide +kernel), List.mem_of_getElem? (i := 1045) (by decide +kernel), List.mem_of_getElem? (i := 1046) (by decide +kernel)⟩
theorem lw_p62 : lw_okq (⟨"CanoeMasterModel", "leads", "(II)V"⟩, 38) := ⟨⟨by decide +kernel, by decide +kernel⟩, List.mem_of_getElem? (i := 725) (by decide +kernel), List.mem_of_getElem? (i := 1049) (by decide +kernel), List.mem_of_getElem? (i := 1050) (by decide +kernel)⟩
theorem lw_p63 : lw_okq (⟨"CanoeMasterModel", "came", "(JI)Z"⟩, 38) := ⟨⟨by decide +kernel, by decide +kernel⟩, List.mem_of_getElem? (i := 725) (by decide +kernel), List.mem_of_getElem? (i := 1053) (by decide +kernel), List.mem_of_getElem? (i := 1054) (by decide +kernel)⟩
def lw_privs_4 : List (MethodName × Nat) := [(⟨"CanoeMasterModel", "next", "()V"⟩, 38), (⟨"CanoeMasterModel", "raw", "(I)I"⟩, 38), (⟨"CanoeMasterModel", "isLetter", "(I)Z"⟩, 38), (⟨"CanoeMasterModel", "isWord", "(IIIIII)Z"⟩, 38), (⟨"CanoeMasterModel", "isDigit", "(I)Z"⟩, 38), (⟨"CanoeMasterModel", "readLine", "()Z"⟩, 38), (⟨"CanoeMasterModel", "fails", "(I)Z"⟩, 38), (⟨"CanoeMasterModel", "takes", "(II)Z"⟩, 38), (⟨"CanoeMasterModel", "sing", "()V"⟩, 38), (⟨"CanoeMasterModel", "at", "(III)I"⟩, 38), (⟨"CanoeMasterModel", "step", "(IIII)V"⟩, 38), (⟨"CanoeMasterModel", "isThere", "(III)Z"⟩, 38), (⟨"CanoeMasterModel", "findBlind", "()I"⟩, 38), (⟨"CanoeMasterModel", "isAllLand", "(J)Z"⟩, 38), (⟨"CanoeMasterModel", "leads", "(II)V"⟩, 38), (⟨"CanoeMasterModel", "came", "(JI)Z"⟩, 38)]
theorem lw_r4 : ∀ q ∈ lw_privs_4, lw_okq q := List.forall_mem_cons.mpr ⟨lw_p48, List.forall_mem_cons.mpr ⟨lw_p49, List.forall_mem_cons.mpr ⟨lw_p50, List.forall_mem_cons.mpr ⟨lw_p51, List.forall_mem_cons.mpr ⟨lw_p52, List.forall_mem_cons.mpr ⟨lw_p53, List.forall_mem_cons.mpr ⟨lw_p54, List.forall_mem_cons.mpr ⟨lw_p55, List.forall_mem_cons.mpr ⟨lw_p56, List.forall_mem_cons.mpr ⟨lw_p57, List.forall_mem_cons.mpr ⟨lw_p58, List.forall_mem_cons.mpr ⟨lw_p59, List.forall_mem_cons.mpr ⟨lw_p60, List.forall_mem_cons.mpr ⟨lw_p61, List.forall_mem_cons.mpr ⟨lw_p62, List.forall_mem_cons.mpr ⟨lw_p63, fun _ h => absurd h List.not_mem_nil⟩⟩⟩⟩⟩⟩⟩⟩⟩⟩⟩⟩⟩⟩⟩⟩
def lw_privs : List (MethodName × Nat) := lw_privs_1 ++ (lw_privs_2 ++ (lw_privs_3 ++ (lw_privs_4)))
def lw_tbl : List Cond := k2_sels lw_privs ++ tables_1
theorem lw_privs_ok : ∀ q ∈ lw_privs, lw_okq q := by
  show ∀ q ∈ lw_privs_1 ++ (lw_privs_2 ++ (lw_privs_3 ++ (lw_privs_4))), lw_okq q
  exact List.forall_mem_append.mpr ⟨lw_r1, List.forall_mem_append.mpr ⟨lw_r2, List.forall_mem_append.mpr ⟨lw_r3, lw_r4⟩⟩⟩
/-! ===== BEGIN words of one list among another's, by their places ===== -/
theorem goodIn_r {big : List Cond} (ws : List Cond) (ps : List Nat) (hp : ws = ps.filterMap (fun i => big[i]?)) (h : ws.all goodWord = true) : GoodIn big ws := by
  intro w hw
  have h1 := List.all_eq_true.mp h w hw
  rw [hp] at hw
  obtain ⟨i, -, hi⟩ := List.mem_filterMap.mp hw
  have hm : w ∈ big := by first | exact List.mem_of_getElem? hi | exact List.getElem?_mem hi
  exact ⟨hm, good_of_word h1⟩
theorem goodIn_app {big a b : List Cond} (ha : GoodIn big a) (hb : GoodIn big b) : GoodIn big (a ++ b) := fun w h => (List.mem_append.mp h).elim (ha w) (hb w)
theorem goodIn_ca {big a b : List Cond} {c : Cond} (ha : GoodIn big (c :: a)) (hb : GoodIn big b) : GoodIn big (c :: (a ++ b)) := fun w h => (List.mem_cons.mp h).elim (fun e => ha w (List.mem_cons.mpr (Or.inl e))) (fun h => (List.mem_append.mp h).elim (fun h => ha w (List.mem_cons.mpr (Or.inr h))) (hb w))
theorem goodIn_sub {big ws : List Cond} (hm : ∀ w ∈ ws, w ∈ big) (h : ws.all goodWord = true) : GoodIn big ws := fun w hw => ⟨hm w hw, good_of_word (List.all_eq_true.mp h w hw)⟩
/-! ===== END ===== -/

/-! ===== BEGIN printed: names, fields, word lists, decode rows ===== -/
def RX0 : String := "CanoeMaster$Chant"
def TX0 : u_T := fun k => match k with
  | 0 => ("CanoeMaster$Chant", "size", "I", false)
  | 1 => ("CanoeMaster$Chant", "ways", "[I", true)
  | 2 => ("CanoeMaster$Chant", "signs", "[I", true)
  | 3 => ("CanoeMaster$Chant", "values", "[I", true)
  | _ => ("CanoeMaster$Chant", "hours", "[I", true)
def tyX0 : Nat → FieldType := fun k => match k with
  | 0 => .int
  | 1 => .array .int
  | 2 => .array .int
  | 3 => .array .int
  | _ => .array .int
abbrev wsX00 : List Cond := u_ws RX0 TX0 5
theorem nmX0 : ∀ a, a < 5 → ∀ b, b < 5 → a ≠ b → (TX0 a).2.1 ≠ (TX0 b).2.1 := by decide +kernel
theorem tyX0_ok : ∀ k, k < 5 → parseFieldDescriptor (TX0 k).2.2.1 = some (tyX0 k) := by decide +kernel
abbrev cX0_init : ByteArray := prog_2_method_1_code
def yX0_init : MethodName := ⟨RX0, "<init>", "()V"⟩
abbrev cX0_add : ByteArray := prog_2_method_2_code
def yX0_add : MethodName := ⟨RX0, "add", "(IIII)V"⟩
abbrev cX0_stops : ByteArray := prog_2_method_3_code
def yX0_stops : MethodName := ⟨RX0, "stops", "(ILCanoeMaster$Sea;I)J"⟩
def RX1 : String := "CanoeMaster$Judge"
def TX1 : u_T := fun k => match k with
  | 0 => ("CanoeMaster$Judge", "heard", "Z", false)
  | 1 => ("CanoeMaster$Judge", "seaVersion", "I", false)
  | 2 => ("CanoeMaster$Judge", "behindLine", "LCanoeMaster$Outcomes;", false)
  | 3 => ("CanoeMaster$Judge", "hourOn", "LCanoeMaster$Outcomes;", false)
  | 4 => ("CanoeMaster$Judge", "thisHour", "LCanoeMaster$Outcomes;", false)
  | 5 => ("CanoeMaster$Judge", "targets", "[I", true)
  | _ => ("CanoeMaster$Judge", "stops", "[J", true)
def tyX1 : Nat → FieldType := fun k => match k with
  | 0 => .boolean
  | 1 => .int
  | 2 => .object "CanoeMaster$Outcomes"
  | 3 => .object "CanoeMaster$Outcomes"
  | 4 => .object "CanoeMaster$Outcomes"
  | 5 => .array .int
  | _ => .array .long
abbrev wsX10 : List Cond := u_ws RX1 TX1 7
theorem nmX1 : ∀ a, a < 7 → ∀ b, b < 7 → a ≠ b → (TX1 a).2.1 ≠ (TX1 b).2.1 := by decide +kernel
theorem tyX1_ok : ∀ k, k < 7 → parseFieldDescriptor (TX1 k).2.2.1 = some (tyX1 k) := by decide +kernel
abbrev cX1_init : ByteArray := prog_3_method_1_code
def yX1_init : MethodName := ⟨RX1, "<init>", "()V"⟩
abbrev cX1_forget : ByteArray := prog_3_method_2_code
def yX1_forget : MethodName := ⟨RX1, "forget", "()V"⟩
abbrev cX1_hear : ByteArray := prog_3_method_3_code
def yX1_hear : MethodName := ⟨RX1, "hear", "(LCanoeMaster$Sea;LCanoeMaster$Chant;)V"⟩
abbrev cX1_standAtEnd : ByteArray := prog_3_method_4_code
def yX1_standAtEnd : MethodName := ⟨RX1, "standAtEnd", "(LCanoeMaster$Sea;)V"⟩
abbrev cX1_goThroughLine : ByteArray := prog_3_method_5_code
def yX1_goThroughLine : MethodName := ⟨RX1, "goThroughLine", "(LCanoeMaster$Sea;LCanoeMaster$Chant;I)V"⟩
abbrev cX1_findTargets : ByteArray := prog_3_method_6_code
def yX1_findTargets : MethodName := ⟨RX1, "findTargets", "(LCanoeMaster$Sea;I)V"⟩
abbrev cX1_goThroughHour : ByteArray := prog_3_method_7_code
def yX1_goThroughHour : MethodName := ⟨RX1, "goThroughHour", "(LCanoeMaster$Sea;I)V"⟩
abbrev cX1_steerOn : ByteArray := prog_3_method_8_code
def yX1_steerOn : MethodName := ⟨RX1, "steerOn", "(IIII)V"⟩
abbrev cX1_longestOf : ByteArray := prog_3_method_9_code
def yX1_longestOf : MethodName := ⟨RX1, "longestOf", "(JI)I"⟩
abbrev cX1_shortestOf : ByteArray := prog_3_method_10_code
def yX1_shortestOf : MethodName := ⟨RX1, "shortestOf", "(JI)I"⟩
abbrev cX1_unsureOf : ByteArray := prog_3_method_11_code
def yX1_unsureOf : MethodName := ⟨RX1, "unsureOf", "(JI)I"⟩
def RX2 : String := "CanoeMaster$Outcomes"
def TX2 : u_T := fun k => match k with
  | 0 => ("CanoeMaster$Outcomes", "most", "[I", true)
  | _ => ("CanoeMaster$Outcomes", "fewest", "[I", true)
def tyX2 : Nat → FieldType := fun k => match k with
  | 0 => .array .int
  | _ => .array .int
abbrev wsX20 : List Cond := u_ws RX2 TX2 2
theorem nmX2 : ∀ a, a < 2 → ∀ b, b < 2 → a ≠ b → (TX2 a).2.1 ≠ (TX2 b).2.1 := by decide +kernel
theorem tyX2_ok : ∀ k, k < 2 → parseFieldDescriptor (TX2 k).2.2.1 = some (tyX2 k) := by decide +kernel
abbrev cX2_init : ByteArray := prog_4_method_1_code
def yX2_init : MethodName := ⟨RX2, "<init>", "()V"⟩
abbrev cX2_set : ByteArray := prog_4_method_2_code
def yX2_set : MethodName := ⟨RX2, "set", "(III)V"⟩
abbrev cX2_copyOf : ByteArray := prog_4_method_3_code
def yX2_copyOf : MethodName := ⟨RX2, "copyOf", "(LCanoeMaster$Outcomes;)V"⟩
def RX3 : String := "CanoeMaster$Reader"
def TX3 : u_T := fun k => match k with
  | 0 => ("CanoeMaster$Reader", "length", "I", false)
  | 1 => ("CanoeMaster$Reader", "fault", "I", false)
  | 2 => ("CanoeMaster$Reader", "faultPlace", "I", false)
  | 3 => ("CanoeMaster$Reader", "tape", "[C", true)
  | 4 => ("CanoeMaster$Reader", "place", "I", false)
  | 5 => ("CanoeMaster$Reader", "token", "I", false)
  | 6 => ("CanoeMaster$Reader", "tokenPlace", "I", false)
  | _ => ("CanoeMaster$Reader", "tokenValue", "I", false)
def tyX3 : Nat → FieldType := fun k => match k with
  | 0 => .int
  | 1 => .int
  | 2 => .int
  | 3 => .array .char
  | 4 => .int
  | 5 => .int
  | 6 => .int
  | _ => .int
abbrev wsX30 : List Cond := u_ws RX3 TX3 8
theorem nmX3 : ∀ a, a < 8 → ∀ b, b < 8 → a ≠ b → (TX3 a).2.1 ≠ (TX3 b).2.1 := by decide +kernel
theorem tyX3_ok : ∀ k, k < 8 → parseFieldDescriptor (TX3 k).2.2.1 = some (tyX3 k) := by decide +kernel
abbrev cX3_init : ByteArray := prog_5_method_1_code
def yX3_init : MethodName := ⟨RX3, "<init>", "()V"⟩
abbrev cX3_append : ByteArray := prog_5_method_2_code
def yX3_append : MethodName := ⟨RX3, "append", "(I)V"⟩
abbrev cX3_readInto : ByteArray := prog_5_method_3_code
def yX3_readInto : MethodName := ⟨RX3, "readInto", "(LCanoeMaster$Chant;)Z"⟩
abbrev cX3_readLine : ByteArray := prog_5_method_4_code
def yX3_readLine : MethodName := ⟨RX3, "readLine", "(LCanoeMaster$Chant;)V"⟩
abbrev cX3_signNamed : ByteArray := prog_5_method_5_code
def yX3_signNamed : MethodName := ⟨RX3, "signNamed", "()I"⟩
abbrev cX3_numberWithin : ByteArray := prog_5_method_6_code
def yX3_numberWithin : MethodName := ⟨RX3, "numberWithin", "(II)I"⟩
abbrev cX3_take : ByteArray := prog_5_method_7_code
def yX3_take : MethodName := ⟨RX3, "take", "(Z)V"⟩
abbrev cX3_blame : ByteArray := prog_5_method_8_code
def yX3_blame : MethodName := ⟨RX3, "blame", "(I)V"⟩
abbrev cX3_readToken : ByteArray := prog_5_method_9_code
def yX3_readToken : MethodName := ⟨RX3, "readToken", "()V"⟩
abbrev cX3_skipLetters : ByteArray := prog_5_method_10_code
def yX3_skipLetters : MethodName := ⟨RX3, "skipLetters", "()V"⟩
abbrev cX3_wordRead : ByteArray := prog_5_method_11_code
def yX3_wordRead : MethodName := ⟨RX3, "wordRead", "()I"⟩
abbrev cX3_spells : ByteArray := prog_5_method_12_code
def yX3_spells : MethodName := ⟨RX3, "spells", "(Ljava/lang/String;)Z"⟩
abbrev cX3_readNumber : ByteArray := prog_5_method_13_code
def yX3_readNumber : MethodName := ⟨RX3, "readNumber", "()V"⟩
abbrev cX3_isBlank : ByteArray := prog_5_method_14_code
def yX3_isBlank : MethodName := ⟨RX3, "isBlank", "(C)Z"⟩
abbrev cX3_isLetter : ByteArray := prog_5_method_15_code
def yX3_isLetter : MethodName := ⟨RX3, "isLetter", "(C)Z"⟩
abbrev cX3_isDigit : ByteArray := prog_5_method_16_code
def yX3_isDigit : MethodName := ⟨RX3, "isDigit", "(C)Z"⟩
def RX4 : String := "CanoeMaster$Sea"
def TX4 : u_T := fun k => match k with
  | 0 => ("CanoeMaster$Sea", "width", "I", false)
  | 1 => ("CanoeMaster$Sea", "height", "I", false)
  | 2 => ("CanoeMaster$Sea", "count", "I", false)
  | 3 => ("CanoeMaster$Sea", "version", "I", false)
  | 4 => ("CanoeMaster$Sea", "cells", "J", false)
  | 5 => ("CanoeMaster$Sea", "shore", "J", false)
  | 6 => ("CanoeMaster$Sea", "nights", "I", false)
  | 7 => ("CanoeMaster$Sea", "flights", "I", false)
  | 8 => ("CanoeMaster$Sea", "reaches", "[I", true)
  | 9 => ("CanoeMaster$Sea", "swells", "[I", true)
  | 10 => ("CanoeMaster$Sea", "driftSets", "[I", true)
  | 11 => ("CanoeMaster$Sea", "columns", "[I", true)
  | 12 => ("CanoeMaster$Sea", "rows", "[I", true)
  | 13 => ("CanoeMaster$Sea", "birdCells", "J", false)
  | 14 => ("CanoeMaster$Sea", "westEdge", "J", false)
  | 15 => ("CanoeMaster$Sea", "eastEdge", "J", false)
  | 16 => ("CanoeMaster$Sea", "northEdge", "J", false)
  | 17 => ("CanoeMaster$Sea", "southEdge", "J", false)
  | 18 => ("CanoeMaster$Sea", "rest", "J", false)
  | _ => ("CanoeMaster$Sea", "shifts", "[J", true)
def tyX4 : Nat → FieldType := fun k => match k with
  | 0 => .int
  | 1 => .int
  | 2 => .int
  | 3 => .int
  | 4 => .long
  | 5 => .long
  | 6 => .int
  | 7 => .int
  | 8 => .array .int
  | 9 => .array .int
  | 10 => .array .int
  | 11 => .array .int
  | 12 => .array .int
  | 13 => .long
  | 14 => .long
  | 15 => .long
  | 16 => .long
  | 17 => .long
  | 18 => .long
  | _ => .array .long
abbrev wsX40 : List Cond := u_ws RX4 TX4 20
theorem nmX4 : ∀ a, a < 20 → ∀ b, b < 20 → a ≠ b → (TX4 a).2.1 ≠ (TX4 b).2.1 := by decide +kernel
theorem tyX4_ok : ∀ k, k < 20 → parseFieldDescriptor (TX4 k).2.2.1 = some (tyX4 k) := by decide +kernel
abbrev cX4_init : ByteArray := prog_6_method_1_code
def yX4_init : MethodName := ⟨RX4, "<init>", "()V"⟩
abbrev cX4_lay : ByteArray := prog_6_method_2_code
def yX4_lay : MethodName := ⟨RX4, "lay", "(II)V"⟩
abbrev cX4_layCells : ByteArray := prog_6_method_3_code
def yX4_layCells : MethodName := ⟨RX4, "layCells", "()V"⟩
abbrev cX4_layCell : ByteArray := prog_6_method_4_code
def yX4_layCell : MethodName := ⟨RX4, "layCell", "(III)V"⟩
abbrev cX4_hasCell : ByteArray := prog_6_method_5_code
def yX4_hasCell : MethodName := ⟨RX4, "hasCell", "(I)Z"⟩
abbrev cX4_setReach : ByteArray := prog_6_method_6_code
def yX4_setReach : MethodName := ⟨RX4, "setReach", "(II)V"⟩
abbrev cX4_landsOfReach : ByteArray := prog_6_method_7_code
def yX4_landsOfReach : MethodName := ⟨RX4, "landsOfReach", "(I)J"⟩
abbrev cX4_grown : ByteArray := prog_6_method_8_code
def yX4_grown : MethodName := ⟨RX4, "grown", "(J)J"⟩
abbrev cX4_setSwell : ByteArray := prog_6_method_9_code
def yX4_setSwell : MethodName := ⟨RX4, "setSwell", "(II)V"⟩
abbrev cX4_setDrifts : ByteArray := prog_6_method_10_code
def yX4_setDrifts : MethodName := ⟨RX4, "setDrifts", "(II)V"⟩
abbrev cX4_setWatches : ByteArray := prog_6_method_11_code
def yX4_setWatches : MethodName := ⟨RX4, "setWatches", "(II)V"⟩
abbrev cX4_driftsBy : ByteArray := prog_6_method_12_code
def yX4_driftsBy : MethodName := ⟨RX4, "driftsBy", "(II)Z"⟩
abbrev cX4_isAllLand : ByteArray := prog_6_method_13_code
def yX4_isAllLand : MethodName := ⟨RX4, "isAllLand", "(J)Z"⟩
abbrev cX4_signAt : ByteArray := prog_6_method_14_code
def yX4_signAt : MethodName := ⟨RX4, "signAt", "(III)I"⟩
abbrev cX4_having : ByteArray := prog_6_method_15_code
def yX4_having : MethodName := ⟨RX4, "having", "(III)J"⟩
abbrev cX4_target : ByteArray := prog_6_method_16_code
def yX4_target : MethodName := ⟨RX4, "target", "(III)I"⟩
abbrev cX4_eastward : ByteArray := prog_6_method_17_code
def yX4_eastward : MethodName := ⟨RX4, "eastward", "(I)I"⟩
abbrev cX4_southward : ByteArray := prog_6_method_18_code
def yX4_southward : MethodName := ⟨RX4, "southward", "(I)I"⟩
abbrev cX4_clamped : ByteArray := prog_6_method_19_code
def yX4_clamped : MethodName := ⟨RX4, "clamped", "(II)I"⟩
abbrev cX4_spread : ByteArray := prog_6_method_20_code
def yX4_spread : MethodName := ⟨RX4, "spread", "(J)V"⟩
abbrev cX4_spreadRow : ByteArray := prog_6_method_21_code
def yX4_spreadRow : MethodName := ⟨RX4, "spreadRow", "(IJ)V"⟩
abbrev cX4_spreadBy : ByteArray := prog_6_method_22_code
def yX4_spreadBy : MethodName := ⟨RX4, "spreadBy", "(II)J"⟩
abbrev cX4_shiftOf : ByteArray := prog_6_method_23_code
def yX4_shiftOf : MethodName := ⟨RX4, "shiftOf", "(I)I"⟩
abbrev cX4_oneWest : ByteArray := prog_6_method_24_code
def yX4_oneWest : MethodName := ⟨RX4, "oneWest", "(J)J"⟩
abbrev cX4_oneEast : ByteArray := prog_6_method_25_code
def yX4_oneEast : MethodName := ⟨RX4, "oneEast", "(J)J"⟩
abbrev cX4_oneNorth : ByteArray := prog_6_method_26_code
def yX4_oneNorth : MethodName := ⟨RX4, "oneNorth", "(J)J"⟩
abbrev cX4_oneSouth : ByteArray := prog_6_method_27_code
def yX4_oneSouth : MethodName := ⟨RX4, "oneSouth", "(J)J"⟩
def RX5 : String := "CanoeMaster$Search"
def TX5 : u_T := fun k => match k with
  | 0 => ("CanoeMaster$Search", "row", "[I", true)
  | 1 => ("CanoeMaster$Search", "sets", "[J", true)
  | 2 => ("CanoeMaster$Search", "setWatches", "[I", true)
  | 3 => ("CanoeMaster$Search", "origins", "[I", true)
  | 4 => ("CanoeMaster$Search", "slots", "[I", true)
  | 5 => ("CanoeMaster$Search", "count", "I", false)
  | 6 => ("CanoeMaster$Search", "asked", "Z", false)
  | 7 => ("CanoeMaster$Search", "askedSet", "J", false)
  | 8 => ("CanoeMaster$Search", "askedWatch", "I", false)
  | 9 => ("CanoeMaster$Search", "askedVersion", "I", false)
  | _ => ("CanoeMaster$Search", "answer", "I", false)
def tyX5 : Nat → FieldType := fun k => match k with
  | 0 => .array .int
  | 1 => .array .long
  | 2 => .array .int
  | 3 => .array .int
  | 4 => .array .int
  | 5 => .int
  | 6 => .boolean
  | 7 => .long
  | 8 => .int
  | 9 => .int
  | _ => .int
abbrev wsX50 : List Cond := u_ws RX5 TX5 11
theorem nmX5 : ∀ a, a < 11 → ∀ b, b < 11 → a ≠ b → (TX5 a).2.1 ≠ (TX5 b).2.1 := by decide +kernel
theorem tyX5_ok : ∀ k, k < 11 → parseFieldDescriptor (TX5 k).2.2.1 = some (tyX5 k) := by decide +kernel
abbrev cX5_init : ByteArray := prog_7_method_1_code
def yX5_init : MethodName := ⟨RX5, "<init>", "()V"⟩
abbrev cX5_shortest : ByteArray := prog_7_method_2_code
def yX5_shortest : MethodName := ⟨RX5, "shortest", "(LCanoeMaster$Sea;JI)I"⟩
abbrev cX5_lookThrough : ByteArray := prog_7_method_3_code
def yX5_lookThrough : MethodName := ⟨RX5, "lookThrough", "(LCanoeMaster$Sea;JI)I"⟩
abbrev cX5_goOn : ByteArray := prog_7_method_4_code
def yX5_goOn : MethodName := ⟨RX5, "goOn", "(LCanoeMaster$Sea;II)I"⟩
abbrev cX5_keepNew : ByteArray := prog_7_method_5_code
def yX5_keepNew : MethodName := ⟨RX5, "keepNew", "(JII)Z"⟩
abbrev cX5_keepAt : ByteArray := prog_7_method_6_code
def yX5_keepAt : MethodName := ⟨RX5, "keepAt", "(IJII)Z"⟩
abbrev cX5_writeRow : ByteArray := prog_7_method_7_code
def yX5_writeRow : MethodName := ⟨RX5, "writeRow", "(III)V"⟩
def RX6 : String := "CanoeMaster"
def TX6 : u_T := fun k => match k with
  | 0 => ("CanoeMaster", "waters", "LCanoeMaster$Sea;", true)
  | 1 => ("CanoeMaster", "reader", "LCanoeMaster$Reader;", true)
  | 2 => ("CanoeMaster", "sung", "LCanoeMaster$Chant;", false)
  | 3 => ("CanoeMaster", "draft", "LCanoeMaster$Chant;", false)
  | 4 => ("CanoeMaster", "within", "J", false)
  | 5 => ("CanoeMaster", "hour", "I", false)
  | 6 => ("CanoeMaster", "canoe", "I", false)
  | 7 => ("CanoeMaster", "judge", "LCanoeMaster$Judge;", false)
  | _ => ("CanoeMaster", "search", "LCanoeMaster$Search;", false)
def tyX6 : Nat → FieldType := fun k => match k with
  | 0 => .object "CanoeMaster$Sea"
  | 1 => .object "CanoeMaster$Reader"
  | 2 => .object "CanoeMaster$Chant"
  | 3 => .object "CanoeMaster$Chant"
  | 4 => .long
  | 5 => .int
  | 6 => .int
  | 7 => .object "CanoeMaster$Judge"
  | _ => .object "CanoeMaster$Search"
abbrev wsX60 : List Cond := u_ws RX6 TX6 9
theorem nmX6 : ∀ a, a < 9 → ∀ b, b < 9 → a ≠ b → (TX6 a).2.1 ≠ (TX6 b).2.1 := by decide +kernel
theorem tyX6_ok : ∀ k, k < 9 → parseFieldDescriptor (TX6 k).2.2.1 = some (tyX6 k) := by decide +kernel
abbrev cX6_init : ByteArray := prog_1_method_1_code
def yX6_init : MethodName := ⟨RX6, "<init>", "()V"⟩
abbrev cX6_sea : ByteArray := prog_1_method_2_code
def yX6_sea : MethodName := ⟨RX6, "sea", "(II)Z"⟩
abbrev cX6_land : ByteArray := prog_1_method_3_code
def yX6_land : MethodName := ⟨RX6, "land", "(II)Z"⟩
abbrev cX6_swell : ByteArray := prog_1_method_4_code
def yX6_swell : MethodName := ⟨RX6, "swell", "(II)Z"⟩
abbrev cX6_drifts : ByteArray := prog_1_method_5_code
def yX6_drifts : MethodName := ⟨RX6, "drifts", "(II)Z"⟩
abbrev cX6_watches : ByteArray := prog_1_method_6_code
def yX6_watches : MethodName := ⟨RX6, "watches", "(II)Z"⟩
abbrev cX6_look : ByteArray := prog_1_method_7_code
def yX6_look : MethodName := ⟨RX6, "look", "(I)I"⟩
abbrev cX6_lookAtRows : ByteArray := prog_1_method_8_code
def yX6_lookAtRows : MethodName := ⟨RX6, "lookAtRows", "(I)I"⟩
abbrev cX6_reckoned : ByteArray := prog_1_method_9_code
def yX6_reckoned : MethodName := ⟨RX6, "reckoned", "()J"⟩
abbrev cX6_begin : ByteArray := prog_1_method_10_code
def yX6_begin : MethodName := ⟨RX6, "begin", "(J)Z"⟩
abbrev cX6_startWith : ByteArray := prog_1_method_11_code
def yX6_startWith : MethodName := ⟨RX6, "startWith", "(J)V"⟩
abbrev cX6_put : ByteArray := prog_1_method_12_code
def yX6_put : MethodName := ⟨RX6, "put", "(I)Z"⟩
abbrev cX6_steer : ByteArray := prog_1_method_13_code
def yX6_steer : MethodName := ⟨RX6, "steer", "(II)I"⟩
abbrev cX6_sign : ByteArray := prog_1_method_14_code
def yX6_sign : MethodName := ⟨RX6, "sign", "(III)I"⟩
abbrev cX6_see : ByteArray := prog_1_method_15_code
def yX6_see : MethodName := ⟨RX6, "see", "(II)I"⟩
abbrev cX6_sights : ByteArray := prog_1_method_16_code
def yX6_sights : MethodName := ⟨RX6, "sights", "()I"⟩
abbrev cX6_feed : ByteArray := prog_1_method_17_code
def yX6_feed : MethodName := ⟨RX6, "feed", "(IIIII)I"⟩
abbrev cX6_end : ByteArray := prog_1_method_18_code
def yX6_end : MethodName := ⟨RX6, "end", "(I)I"⟩
abbrev cX6_chant : ByteArray := prog_1_method_19_code
def yX6_chant : MethodName := ⟨RX6, "chant", "()I"⟩
abbrev cX6_fault : ByteArray := prog_1_method_20_code
def yX6_fault : MethodName := ⟨RX6, "fault", "(I)I"⟩
abbrev cX6_sure : ByteArray := prog_1_method_21_code
def yX6_sure : MethodName := ⟨RX6, "sure", "(I)I"⟩
abbrev cX6_from : ByteArray := prog_1_method_22_code
def yX6_from : MethodName := ⟨RX6, "from", "(I)I"⟩
abbrev cX6_judgeOfNow : ByteArray := prog_1_method_23_code
def yX6_judgeOfNow : MethodName := ⟨RX6, "judgeOfNow", "()LCanoeMaster$Judge;"⟩
abbrev cX6_sings : ByteArray := prog_1_method_24_code
def yX6_sings : MethodName := ⟨RX6, "sings", "(I)I"⟩
abbrev cX6_blind : ByteArray := prog_1_method_25_code
def yX6_blind : MethodName := ⟨RX6, "blind", "(I)I"⟩
abbrev cX6_watchNow : ByteArray := prog_1_method_26_code
def yX6_watchNow : MethodName := ⟨RX6, "watchNow", "()I"⟩
abbrev cX6_isWatch : ByteArray := prog_1_method_27_code
def yX6_isWatch : MethodName := ⟨RX6, "isWatch", "(I)Z"⟩
abbrev cX6_isWatchSet : ByteArray := prog_1_method_28_code
def yX6_isWatchSet : MethodName := ⟨RX6, "isWatchSet", "(I)Z"⟩
abbrev cX6_isWay : ByteArray := prog_1_method_29_code
def yX6_isWay : MethodName := ⟨RX6, "isWay", "(I)Z"⟩
abbrev cX6_isSign : ByteArray := prog_1_method_30_code
def yX6_isSign : MethodName := ⟨RX6, "isSign", "(I)Z"⟩
abbrev cX6_has : ByteArray := prog_1_method_31_code
def yX6_has : MethodName := ⟨RX6, "has", "(JI)Z"⟩
def RX7 : String := "CanoeMasterModel"
def TX7 : u_T := fun k => match k with
  | 0 => ("CanoeMasterModel", "told", "I", false)
  | 1 => ("CanoeMasterModel", "wide", "I", false)
  | 2 => ("CanoeMasterModel", "high", "I", false)
  | 3 => ("CanoeMasterModel", "hour", "I", false)
  | 4 => ("CanoeMasterModel", "reckoned", "J", false)
  | 5 => ("CanoeMasterModel", "canoe", "I", false)
  | 6 => ("CanoeMasterModel", "night", "I", false)
  | 7 => ("CanoeMasterModel", "flight", "I", false)
  | 8 => ("CanoeMasterModel", "land", "[I", true)
  | 9 => ("CanoeMasterModel", "swell", "[I", true)
  | 10 => ("CanoeMasterModel", "drift", "[I", true)
  | 11 => ("CanoeMasterModel", "lines", "I", false)
  | 12 => ("CanoeMasterModel", "lineWay", "[I", true)
  | 13 => ("CanoeMasterModel", "lineSign", "[I", true)
  | 14 => ("CanoeMasterModel", "lineWorth", "[I", true)
  | 15 => ("CanoeMasterModel", "lineHours", "[I", true)
  | 16 => ("CanoeMasterModel", "newLines", "I", false)
  | 17 => ("CanoeMasterModel", "newWay", "[I", true)
  | 18 => ("CanoeMasterModel", "newSign", "[I", true)
  | 19 => ("CanoeMasterModel", "newWorth", "[I", true)
  | 20 => ("CanoeMasterModel", "newHours", "[I", true)
  | 21 => ("CanoeMasterModel", "tape", "[I", true)
  | 22 => ("CanoeMasterModel", "taped", "I", false)
  | 23 => ("CanoeMasterModel", "reads", "I", false)
  | 24 => ("CanoeMasterModel", "from", "I", false)
  | 25 => ("CanoeMasterModel", "token", "I", false)
  | 26 => ("CanoeMasterModel", "number", "I", false)
  | 27 => ("CanoeMasterModel", "faultKind", "I", false)
  | 28 => ("CanoeMasterModel", "faultPlace", "I", false)
  | 29 => ("CanoeMasterModel", "most", "[I", true)
  | 30 => ("CanoeMasterModel", "least", "[I", true)
  | 31 => ("CanoeMasterModel", "sets", "I", false)
  | 32 => ("CanoeMasterModel", "set", "[J", true)
  | 33 => ("CanoeMasterModel", "depth", "[I", true)
  | 34 => ("CanoeMasterModel", "before", "[I", true)
  | 35 => ("CanoeMasterModel", "by", "[I", true)
  | 36 => ("CanoeMasterModel", "blindHours", "I", false)
  | _ => ("CanoeMasterModel", "blindRow", "[I", true)
def tyX7 : Nat → FieldType := fun k => match k with
  | 0 => .int
  | 1 => .int
  | 2 => .int
  | 3 => .int
  | 4 => .long
  | 5 => .int
  | 6 => .int
  | 7 => .int
  | 8 => .array .int
  | 9 => .array .int
  | 10 => .array .int
  | 11 => .int
  | 12 => .array .int
  | 13 => .array .int
  | 14 => .array .int
  | 15 => .array .int
  | 16 => .int
  | 17 => .array .int
  | 18 => .array .int
  | 19 => .array .int
  | 20 => .array .int
  | 21 => .array .int
  | 22 => .int
  | 23 => .int
  | 24 => .int
  | 25 => .int
  | 26 => .int
  | 27 => .int
  | 28 => .int
  | 29 => .array .int
  | 30 => .array .int
  | 31 => .int
  | 32 => .array .long
  | 33 => .array .int
  | 34 => .array .int
  | 35 => .array .int
  | 36 => .int
  | _ => .array .int
abbrev wsX70 : List Cond := u_ws RX7 TX7 38
theorem nmX7 : ∀ a, a < 38 → ∀ b, b < 38 → a ≠ b → (TX7 a).2.1 ≠ (TX7 b).2.1 := by decide +kernel
theorem tyX7_ok : ∀ k, k < 38 → parseFieldDescriptor (TX7 k).2.2.1 = some (tyX7 k) := by decide +kernel
abbrev cX7_init : ByteArray := prog_9_method_1_code
def yX7_init : MethodName := ⟨RX7, "<init>", "()V"⟩
abbrev cX7_cells : ByteArray := prog_9_method_3_code
def yX7_cells : MethodName := ⟨RX7, "cells", "()I"⟩
abbrev cX7_isCell : ByteArray := prog_9_method_4_code
def yX7_isCell : MethodName := ⟨RX7, "isCell", "(I)Z"⟩
abbrev cX7_isLand : ByteArray := prog_9_method_5_code
def yX7_isLand : MethodName := ⟨RX7, "isLand", "(I)Z"⟩
abbrev cX7_all : ByteArray := prog_9_method_6_code
def yX7_all : MethodName := ⟨RX7, "all", "()J"⟩
abbrev cX7_has : ByteArray := prog_9_method_7_code
def yX7_has : MethodName := ⟨RX7, "has", "(JI)Z"⟩
abbrev cX7_count : ByteArray := prog_9_method_8_code
def yX7_count : MethodName := ⟨RX7, "count", "(J)I"⟩
abbrev cX7_sea : ByteArray := prog_9_method_9_code
def yX7_sea : MethodName := ⟨RX7, "sea", "(II)Z"⟩
abbrev cX7_land : ByteArray := prog_9_method_10_code
def yX7_land : MethodName := ⟨RX7, "land", "(II)Z"⟩
abbrev cX7_swell : ByteArray := prog_9_method_11_code
def yX7_swell : MethodName := ⟨RX7, "swell", "(II)Z"⟩
abbrev cX7_drifts : ByteArray := prog_9_method_12_code
def yX7_drifts : MethodName := ⟨RX7, "drifts", "(II)Z"⟩
abbrev cX7_watches : ByteArray := prog_9_method_13_code
def yX7_watches : MethodName := ⟨RX7, "watches", "(II)Z"⟩
abbrev cX7_landsIn : ByteArray := prog_9_method_14_code
def yX7_landsIn : MethodName := ⟨RX7, "landsIn", "(J)I"⟩
abbrev cX7_look : ByteArray := prog_9_method_15_code
def yX7_look : MethodName := ⟨RX7, "look", "(I)I"⟩
abbrev cX7_reckoned : ByteArray := prog_9_method_16_code
def yX7_reckoned : MethodName := ⟨RX7, "reckoned", "()J"⟩
abbrev cX7_begin : ByteArray := prog_9_method_17_code
def yX7_begin : MethodName := ⟨RX7, "begin", "(J)Z"⟩
abbrev cX7_put : ByteArray := prog_9_method_18_code
def yX7_put : MethodName := ⟨RX7, "put", "(I)Z"⟩
abbrev cX7_bound : ByteArray := prog_9_method_19_code
def yX7_bound : MethodName := ⟨RX7, "bound", "(II)I"⟩
abbrev cX7_goes : ByteArray := prog_9_method_20_code
def yX7_goes : MethodName := ⟨RX7, "goes", "(III)I"⟩
abbrev cX7_goesAll : ByteArray := prog_9_method_21_code
def yX7_goesAll : MethodName := ⟨RX7, "goesAll", "(JII)J"⟩
abbrev cX7_steer : ByteArray := prog_9_method_22_code
def yX7_steer : MethodName := ⟨RX7, "steer", "(II)I"⟩
abbrev cX7_far : ByteArray := prog_9_method_23_code
def yX7_far : MethodName := ⟨RX7, "far", "(II)I"⟩
abbrev cX7_signOf : ByteArray := prog_9_method_24_code
def yX7_signOf : MethodName := ⟨RX7, "signOf", "(III)I"⟩
abbrev cX7_sign : ByteArray := prog_9_method_25_code
def yX7_sign : MethodName := ⟨RX7, "sign", "(III)I"⟩
abbrev cX7_seen : ByteArray := prog_9_method_26_code
def yX7_seen : MethodName := ⟨RX7, "seen", "(II)J"⟩
abbrev cX7_see : ByteArray := prog_9_method_27_code
def yX7_see : MethodName := ⟨RX7, "see", "(II)I"⟩
abbrev cX7_sights : ByteArray := prog_9_method_28_code
def yX7_sights : MethodName := ⟨RX7, "sights", "()I"⟩
abbrev cX7_lay : ByteArray := prog_9_method_29_code
def yX7_lay : MethodName := ⟨RX7, "lay", "(I)V"⟩
abbrev cX7_feed : ByteArray := prog_9_method_30_code
def yX7_feed : MethodName := ⟨RX7, "feed", "(IIIII)I"⟩
abbrev cX7_end : ByteArray := prog_9_method_31_code
def yX7_end : MethodName := ⟨RX7, "end", "(I)I"⟩
abbrev cX7_fault : ByteArray := prog_9_method_32_code
def yX7_fault : MethodName := ⟨RX7, "fault", "(I)I"⟩
abbrev cX7_raw : ByteArray := prog_9_method_33_code
def yX7_raw : MethodName := ⟨RX7, "raw", "(I)I"⟩
abbrev cX7_isLetter : ByteArray := prog_9_method_34_code
def yX7_isLetter : MethodName := ⟨RX7, "isLetter", "(I)Z"⟩
abbrev cX7_isDigit : ByteArray := prog_9_method_35_code
def yX7_isDigit : MethodName := ⟨RX7, "isDigit", "(I)Z"⟩
abbrev cX7_isWord : ByteArray := prog_9_method_36_code
def yX7_isWord : MethodName := ⟨RX7, "isWord", "(IIIIII)Z"⟩
abbrev cX7_next : ByteArray := prog_9_method_37_code
def yX7_next : MethodName := ⟨RX7, "next", "()V"⟩
abbrev cX7_fails : ByteArray := prog_9_method_38_code
def yX7_fails : MethodName := ⟨RX7, "fails", "(I)Z"⟩
abbrev cX7_takes : ByteArray := prog_9_method_39_code
def yX7_takes : MethodName := ⟨RX7, "takes", "(II)Z"⟩
abbrev cX7_readLine : ByteArray := prog_9_method_40_code
def yX7_readLine : MethodName := ⟨RX7, "readLine", "()Z"⟩
abbrev cX7_readText : ByteArray := prog_9_method_41_code
def yX7_readText : MethodName := ⟨RX7, "readText", "()Z"⟩
abbrev cX7_chant : ByteArray := prog_9_method_42_code
def yX7_chant : MethodName := ⟨RX7, "chant", "()I"⟩
abbrev cX7_isThere : ByteArray := prog_9_method_43_code
def yX7_isThere : MethodName := ⟨RX7, "isThere", "(III)Z"⟩
abbrev cX7_at : ByteArray := prog_9_method_44_code
def yX7_at : MethodName := ⟨RX7, "at", "(III)I"⟩
abbrev cX7_sing : ByteArray := prog_9_method_45_code
def yX7_sing : MethodName := ⟨RX7, "sing", "()V"⟩
abbrev cX7_step : ByteArray := prog_9_method_46_code
def yX7_step : MethodName := ⟨RX7, "step", "(IIII)V"⟩
abbrev cX7_sure : ByteArray := prog_9_method_47_code
def yX7_sure : MethodName := ⟨RX7, "sure", "(I)I"⟩
abbrev cX7_from : ByteArray := prog_9_method_48_code
def yX7_from : MethodName := ⟨RX7, "from", "(I)I"⟩
abbrev cX7_sings : ByteArray := prog_9_method_49_code
def yX7_sings : MethodName := ⟨RX7, "sings", "(I)I"⟩
abbrev cX7_isAllLand : ByteArray := prog_9_method_50_code
def yX7_isAllLand : MethodName := ⟨RX7, "isAllLand", "(J)Z"⟩
abbrev cX7_came : ByteArray := prog_9_method_51_code
def yX7_came : MethodName := ⟨RX7, "came", "(JI)Z"⟩
abbrev cX7_leads : ByteArray := prog_9_method_52_code
def yX7_leads : MethodName := ⟨RX7, "leads", "(II)V"⟩
abbrev cX7_findBlind : ByteArray := prog_9_method_53_code
def yX7_findBlind : MethodName := ⟨RX7, "findBlind", "()I"⟩
abbrev cX7_blind : ByteArray := prog_9_method_54_code
def yX7_blind : MethodName := ⟨RX7, "blind", "(I)I"⟩
def RJ13 : String := "java/lang/Long"
def TJ13 : u_T := fun k => match k with
  | _ => ("", "", "", false)
def tyJ13 : Nat → FieldType := fun k => match k with
  | _ => .int
abbrev wsJ130 : List Cond := u_ws RJ13 TJ13 0
theorem nmJ13 : ∀ a, a < 0 → ∀ b, b < 0 → a ≠ b → (TJ13 a).2.1 ≠ (TJ13 b).2.1 := by decide +kernel
theorem tyJ13_ok : ∀ k, k < 0 → parseFieldDescriptor (TJ13 k).2.2.1 = some (tyJ13 k) := by decide +kernel
abbrev cJ13_bitCount_95d88 : ByteArray := prog_10_method_50_code
def yJ13_bitCount_95d88 : MethodName := ⟨RJ13, "bitCount", "(J)I"⟩
def RJ9 : String := "java/lang/Math"
def TJ9 : u_T := fun k => match k with
  | _ => ("", "", "", false)
def tyJ9 : Nat → FieldType := fun k => match k with
  | _ => .int
abbrev wsJ90 : List Cond := u_ws RJ9 TJ9 0
theorem nmJ9 : ∀ a, a < 0 → ∀ b, b < 0 → a ≠ b → (TJ9 a).2.1 ≠ (TJ9 b).2.1 := by decide +kernel
theorem tyJ9_ok : ∀ k, k < 0 → parseFieldDescriptor (TJ9 k).2.2.1 = some (tyJ9 k) := by decide +kernel
abbrev cJ9_max_7cf53 : ByteArray := prog_11_method_65_code
def yJ9_max_7cf53 : MethodName := ⟨RJ9, "max", "(II)I"⟩
abbrev cJ9_min_7cf53 : ByteArray := prog_11_method_69_code
def yJ9_min_7cf53 : MethodName := ⟨RJ9, "min", "(II)I"⟩
def RJ0 : String := "java/lang/String"
def TJ0 : u_T := fun k => match k with
  | _ => ("", "", "", false)
def tyJ0 : Nat → FieldType := fun k => match k with
  | _ => .int
abbrev wsJ00 : List Cond := u_ws RJ0 TJ0 0
theorem nmJ0 : ∀ a, a < 0 → ∀ b, b < 0 → a ≠ b → (TJ0 a).2.1 ≠ (TJ0 b).2.1 := by decide +kernel
theorem tyJ0_ok : ∀ k, k < 0 → parseFieldDescriptor (TJ0 k).2.2.1 = some (tyJ0 k) := by decide +kernel
abbrev cJ0_length_8abf5 : ByteArray := prog_12_method_54_code
def yJ0_length_8abf5 : MethodName := ⟨RJ0, "length", "()I"⟩
abbrev cJ0_charAt_5068e : ByteArray := prog_12_method_56_code
def yJ0_charAt_5068e : MethodName := ⟨RJ0, "charAt", "(I)C"⟩
abbrev cJ0_coder_7d493 : ByteArray := prog_12_method_152_code
def yJ0_coder_7d493 : MethodName := ⟨RJ0, "coder", "()B"⟩
abbrev cJ0_isLatin1_aae02 : ByteArray := prog_12_method_154_code
def yJ0_isLatin1_aae02 : MethodName := ⟨RJ0, "isLatin1", "()Z"⟩
abbrev cJ0_checkIndex_df160 : ByteArray := prog_12_method_155_code
def yJ0_checkIndex_df160 : MethodName := ⟨RJ0, "checkIndex", "(II)V"⟩
def RJ1 : String := "java/lang/StringLatin1"
def TJ1 : u_T := fun k => match k with
  | _ => ("", "", "", false)
def tyJ1 : Nat → FieldType := fun k => match k with
  | _ => .int
abbrev wsJ10 : List Cond := u_ws RJ1 TJ1 0
theorem nmJ1 : ∀ a, a < 0 → ∀ b, b < 0 → a ≠ b → (TJ1 a).2.1 ≠ (TJ1 b).2.1 := by decide +kernel
theorem tyJ1_ok : ∀ k, k < 0 → parseFieldDescriptor (TJ1 k).2.2.1 = some (tyJ1 k) := by decide +kernel
abbrev cJ1_charAt_3b067 : ByteArray := prog_13_method_2_code
def yJ1_charAt_3b067 : MethodName := ⟨RJ1, "charAt", "([BI)C"⟩
def RJ2 : String := "java/lang/StringUTF16"
def TJ2 : u_T := fun k => match k with
  | _ => ("", "", "", false)
def tyJ2 : Nat → FieldType := fun k => match k with
  | _ => .int
abbrev wsJ20 : List Cond := u_ws RJ2 TJ2 0
theorem nmJ2 : ∀ a, a < 0 → ∀ b, b < 0 → a ≠ b → (TJ2 a).2.1 ≠ (TJ2 b).2.1 := by decide +kernel
theorem tyJ2_ok : ∀ k, k < 0 → parseFieldDescriptor (TJ2 k).2.2.1 = some (tyJ2 k) := by decide +kernel
abbrev cJ2_getChar_3b067 : ByteArray := prog_14_method_5_code
def yJ2_getChar_3b067 : MethodName := ⟨RJ2, "getChar", "([BI)C"⟩
abbrev cJ2_length_9d52b : ByteArray := prog_14_method_6_code
def yJ2_length_9d52b : MethodName := ⟨RJ2, "length", "([B)I"⟩
abbrev cJ2_charAt_3b067 : ByteArray := prog_14_method_83_code
def yJ2_charAt_3b067 : MethodName := ⟨RJ2, "charAt", "([BI)C"⟩
abbrev cJ2_checkIndex_2214a : ByteArray := prog_14_method_91_code
def yJ2_checkIndex_2214a : MethodName := ⟨RJ2, "checkIndex", "(I[B)V"⟩
def RJ10 : String := "java/lang/System"
def TJ10 : u_T := fun k => match k with
  | _ => ("", "", "", false)
def tyJ10 : Nat → FieldType := fun k => match k with
  | _ => .int
abbrev wsJ100 : List Cond := u_ws RJ10 TJ10 0
theorem nmJ10 : ∀ a, a < 0 → ∀ b, b < 0 → a ≠ b → (TJ10 a).2.1 ≠ (TJ10 b).2.1 := by decide +kernel
theorem tyJ10_ok : ∀ k, k < 0 → parseFieldDescriptor (TJ10 k).2.2.1 = some (tyJ10 k) := by decide +kernel
def RJ7 : String := "java/util/Arrays"
def TJ7 : u_T := fun k => match k with
  | _ => ("", "", "", false)
def tyJ7 : Nat → FieldType := fun k => match k with
  | _ => .int
abbrev wsJ70 : List Cond := u_ws RJ7 TJ7 0
theorem nmJ7 : ∀ a, a < 0 → ∀ b, b < 0 → a ≠ b → (TJ7 a).2.1 ≠ (TJ7 b).2.1 := by decide +kernel
theorem tyJ7_ok : ∀ k, k < 0 → parseFieldDescriptor (TJ7 k).2.2.1 = some (tyJ7 k) := by decide +kernel
abbrev cJ7_fill_53178 : ByteArray := prog_16_method_103_code
def yJ7_fill_53178 : MethodName := ⟨RJ7, "fill", "([II)V"⟩
def RJ3 : String := "jdk/internal/util/Preconditions"
def TJ3 : u_T := fun k => match k with
  | _ => ("", "", "", false)
def tyJ3 : Nat → FieldType := fun k => match k with
  | _ => .int
abbrev wsJ30 : List Cond := u_ws RJ3 TJ3 0
theorem nmJ3 : ∀ a, a < 0 → ∀ b, b < 0 → a ≠ b → (TJ3 a).2.1 ≠ (TJ3 b).2.1 := by decide +kernel
theorem tyJ3_ok : ∀ k, k < 0 → parseFieldDescriptor (TJ3 k).2.2.1 = some (tyJ3 k) := by decide +kernel
abbrev cJ3_checkIndex_8e157 : ByteArray := prog_17_method_11_code
def yJ3_checkIndex_8e157 : MethodName := ⟨RJ3, "checkIndex", "(IILjava/util/function/BiFunction;)I"⟩
def RL : String := "CanoeMasterLaw"
abbrev cL_law : ByteArray := code
def yL_law : MethodName := ⟨RL, "law", "([I)Z"⟩
abbrev vwCl : List vw_C := [(RX0, TX0, 5), (RX1, TX1, 7), (RX2, TX2, 2), (RX3, TX3, 8), (RX4, TX4, 20), (RX5, TX5, 11), (RX6, TX6, 9), (RX7, TX7, 38)]
set_option maxRecDepth 20000 in
theorem inX0 : ∀ w ∈ wsX00, w ∈ lw_tbl := by decide +kernel
set_option maxRecDepth 20000 in
theorem inX1 : ∀ w ∈ wsX10, w ∈ lw_tbl := by decide +kernel
set_option maxRecDepth 20000 in
theorem inX2 : ∀ w ∈ wsX20, w ∈ lw_tbl := by decide +kernel
set_option maxRecDepth 20000 in
theorem inX3 : ∀ w ∈ wsX30, w ∈ lw_tbl := by decide +kernel
set_option maxRecDepth 20000 in
theorem inX4 : ∀ w ∈ wsX40, w ∈ lw_tbl := by decide +kernel
set_option maxRecDepth 20000 in
theorem inX5 : ∀ w ∈ wsX50, w ∈ lw_tbl := by decide +kernel
set_option maxRecDepth 20000 in
theorem inX6 : ∀ w ∈ wsX60, w ∈ lw_tbl := by decide +kernel
set_option maxRecDepth 20000 in
theorem inX7 : ∀ w ∈ wsX70, w ∈ lw_tbl := by decide +kernel
end
section
theorem dJ9_max_7cf53_0 : decode cJ9_max_7cf53 0 = .ok (.iload_n 0, 1) := by decide +kernel
theorem dJ9_max_7cf53_1 : decode cJ9_max_7cf53 1 = .ok (.iload_n 1, 1) := by decide +kernel
theorem dJ9_max_7cf53_2 : decode cJ9_max_7cf53 2 = .ok (.if_icmp .lt 7, 3) := by decide +kernel
theorem dJ9_max_7cf53_5 : decode cJ9_max_7cf53 5 = .ok (.iload_n 0, 1) := by decide +kernel
theorem dJ9_max_7cf53_6 : decode cJ9_max_7cf53 6 = .ok (.goto 4, 3) := by decide +kernel
theorem dJ9_max_7cf53_9 : decode cJ9_max_7cf53 9 = .ok (.iload_n 1, 1) := by decide +kernel
theorem dJ9_max_7cf53_10 : decode cJ9_max_7cf53 10 = .ok (.ireturn, 1) := by decide +kernel
theorem dJ9_min_7cf53_0 : decode cJ9_min_7cf53 0 = .ok (.iload_n 0, 1) := by decide +kernel
theorem dJ9_min_7cf53_1 : decode cJ9_min_7cf53 1 = .ok (.iload_n 1, 1) := by decide +kernel
theorem dJ9_min_7cf53_2 : decode cJ9_min_7cf53 2 = .ok (.if_icmp .gt 7, 3) := by decide +kernel
theorem dJ9_min_7cf53_5 : decode cJ9_min_7cf53 5 = .ok (.iload_n 0, 1) := by decide +kernel
theorem dJ9_min_7cf53_6 : decode cJ9_min_7cf53 6 = .ok (.goto 4, 3) := by decide +kernel
theorem dJ9_min_7cf53_9 : decode cJ9_min_7cf53 9 = .ok (.iload_n 1, 1) := by decide +kernel
theorem dJ9_min_7cf53_10 : decode cJ9_min_7cf53 10 = .ok (.ireturn, 1) := by decide +kernel
theorem dJ13_bitCount_95d88_0 : decode cJ13_bitCount_95d88 0 = .ok (.lload_n 0, 1) := by decide +kernel
theorem dJ13_bitCount_95d88_1 : decode cJ13_bitCount_95d88 1 = .ok (.lload_n 0, 1) := by decide +kernel
theorem dJ13_bitCount_95d88_2 : decode cJ13_bitCount_95d88 2 = .ok (.iconst 1, 1) := by decide +kernel
theorem dJ13_bitCount_95d88_3 : decode cJ13_bitCount_95d88 3 = .ok (.lushr, 1) := by decide +kernel
theorem dJ13_bitCount_95d88_4 : decode cJ13_bitCount_95d88 4 = .ok (.ldc2_w 314, 3) := by decide +kernel
theorem dJ13_bitCount_95d88_7 : decode cJ13_bitCount_95d88 7 = .ok (.land, 1) := by decide +kernel
theorem dJ13_bitCount_95d88_8 : decode cJ13_bitCount_95d88 8 = .ok (.lsub, 1) := by decide +kernel
theorem dJ13_bitCount_95d88_9 : decode cJ13_bitCount_95d88 9 = .ok (.lstore_n 0, 1) := by decide +kernel
theorem dJ13_bitCount_95d88_10 : decode cJ13_bitCount_95d88 10 = .ok (.lload_n 0, 1) := by decide +kernel
theorem dJ13_bitCount_95d88_11 : decode cJ13_bitCount_95d88 11 = .ok (.ldc2_w 316, 3) := by decide +kernel
theorem dJ13_bitCount_95d88_14 : decode cJ13_bitCount_95d88 14 = .ok (.land, 1) := by decide +kernel
theorem dJ13_bitCount_95d88_15 : decode cJ13_bitCount_95d88 15 = .ok (.lload_n 0, 1) := by decide +kernel
theorem dJ13_bitCount_95d88_16 : decode cJ13_bitCount_95d88 16 = .ok (.iconst 2, 1) := by decide +kernel
theorem dJ13_bitCount_95d88_17 : decode cJ13_bitCount_95d88 17 = .ok (.lushr, 1) := by decide +kernel
theorem dJ13_bitCount_95d88_18 : decode cJ13_bitCount_95d88 18 = .ok (.ldc2_w 316, 3) := by decide +kernel
theorem dJ13_bitCount_95d88_21 : decode cJ13_bitCount_95d88 21 = .ok (.land, 1) := by decide +kernel
theorem dJ13_bitCount_95d88_22 : decode cJ13_bitCount_95d88 22 = .ok (.ladd, 1) := by decide +kernel
theorem dJ13_bitCount_95d88_23 : decode cJ13_bitCount_95d88 23 = .ok (.lstore_n 0, 1) := by decide +kernel
theorem dJ13_bitCount_95d88_24 : decode cJ13_bitCount_95d88 24 = .ok (.lload_n 0, 1) := by decide +kernel
theorem dJ13_bitCount_95d88_25 : decode cJ13_bitCount_95d88 25 = .ok (.lload_n 0, 1) := by decide +kernel
theorem dJ13_bitCount_95d88_26 : decode cJ13_bitCount_95d88 26 = .ok (.iconst 4, 1) := by decide +kernel
theorem dJ13_bitCount_95d88_27 : decode cJ13_bitCount_95d88 27 = .ok (.lushr, 1) := by decide +kernel
theorem dJ13_bitCount_95d88_28 : decode cJ13_bitCount_95d88 28 = .ok (.ladd, 1) := by decide +kernel
theorem dJ13_bitCount_95d88_29 : decode cJ13_bitCount_95d88 29 = .ok (.ldc2_w 318, 3) := by decide +kernel
theorem dJ13_bitCount_95d88_32 : decode cJ13_bitCount_95d88 32 = .ok (.land, 1) := by decide +kernel
theorem dJ13_bitCount_95d88_33 : decode cJ13_bitCount_95d88 33 = .ok (.lstore_n 0, 1) := by decide +kernel
theorem dJ13_bitCount_95d88_34 : decode cJ13_bitCount_95d88 34 = .ok (.lload_n 0, 1) := by decide +kernel
theorem dJ13_bitCount_95d88_35 : decode cJ13_bitCount_95d88 35 = .ok (.lload_n 0, 1) := by decide +kernel
theorem dJ13_bitCount_95d88_36 : decode cJ13_bitCount_95d88 36 = .ok (.bipush 8, 2) := by decide +kernel
theorem dJ13_bitCount_95d88_38 : decode cJ13_bitCount_95d88 38 = .ok (.lushr, 1) := by decide +kernel
theorem dJ13_bitCount_95d88_39 : decode cJ13_bitCount_95d88 39 = .ok (.ladd, 1) := by decide +kernel
theorem dJ13_bitCount_95d88_40 : decode cJ13_bitCount_95d88 40 = .ok (.lstore_n 0, 1) := by decide +kernel
theorem dJ13_bitCount_95d88_41 : decode cJ13_bitCount_95d88 41 = .ok (.lload_n 0, 1) := by decide +kernel
theorem dJ13_bitCount_95d88_42 : decode cJ13_bitCount_95d88 42 = .ok (.lload_n 0, 1) := by decide +kernel
theorem dJ13_bitCount_95d88_43 : decode cJ13_bitCount_95d88 43 = .ok (.bipush 16, 2) := by decide +kernel
theorem dJ13_bitCount_95d88_45 : decode cJ13_bitCount_95d88 45 = .ok (.lushr, 1) := by decide +kernel
theorem dJ13_bitCount_95d88_46 : decode cJ13_bitCount_95d88 46 = .ok (.ladd, 1) := by decide +kernel
theorem dJ13_bitCount_95d88_47 : decode cJ13_bitCount_95d88 47 = .ok (.lstore_n 0, 1) := by decide +kernel
theorem dJ13_bitCount_95d88_48 : decode cJ13_bitCount_95d88 48 = .ok (.lload_n 0, 1) := by decide +kernel
theorem dJ13_bitCount_95d88_49 : decode cJ13_bitCount_95d88 49 = .ok (.lload_n 0, 1) := by decide +kernel
theorem dJ13_bitCount_95d88_50 : decode cJ13_bitCount_95d88 50 = .ok (.bipush 32, 2) := by decide +kernel
theorem dJ13_bitCount_95d88_52 : decode cJ13_bitCount_95d88 52 = .ok (.lushr, 1) := by decide +kernel
theorem dJ13_bitCount_95d88_53 : decode cJ13_bitCount_95d88 53 = .ok (.ladd, 1) := by decide +kernel
theorem dJ13_bitCount_95d88_54 : decode cJ13_bitCount_95d88 54 = .ok (.lstore_n 0, 1) := by decide +kernel
theorem dJ13_bitCount_95d88_55 : decode cJ13_bitCount_95d88 55 = .ok (.lload_n 0, 1) := by decide +kernel
theorem dJ13_bitCount_95d88_56 : decode cJ13_bitCount_95d88 56 = .ok (.l2i, 1) := by decide +kernel
theorem dJ13_bitCount_95d88_57 : decode cJ13_bitCount_95d88 57 = .ok (.bipush 127, 2) := by decide +kernel
theorem dJ13_bitCount_95d88_59 : decode cJ13_bitCount_95d88 59 = .ok (.iand, 1) := by decide +kernel
theorem dJ13_bitCount_95d88_60 : decode cJ13_bitCount_95d88 60 = .ok (.ireturn, 1) := by decide +kernel
theorem dJ7_fill_53178_0 : decode cJ7_fill_53178 0 = .ok (.iconst 0, 1) := by decide +kernel
theorem dJ7_fill_53178_1 : decode cJ7_fill_53178 1 = .ok (.istore_n 2, 1) := by decide +kernel
theorem dJ7_fill_53178_2 : decode cJ7_fill_53178 2 = .ok (.aload_n 0, 1) := by decide +kernel
theorem dJ7_fill_53178_3 : decode cJ7_fill_53178 3 = .ok (.arraylength, 1) := by decide +kernel
theorem dJ7_fill_53178_4 : decode cJ7_fill_53178 4 = .ok (.istore_n 3, 1) := by decide +kernel
theorem dJ7_fill_53178_5 : decode cJ7_fill_53178 5 = .ok (.iload_n 2, 1) := by decide +kernel
theorem dJ7_fill_53178_6 : decode cJ7_fill_53178 6 = .ok (.iload_n 3, 1) := by decide +kernel
theorem dJ7_fill_53178_7 : decode cJ7_fill_53178 7 = .ok (.if_icmp .ge 13, 3) := by decide +kernel
theorem dJ7_fill_53178_10 : decode cJ7_fill_53178 10 = .ok (.aload_n 0, 1) := by decide +kernel
theorem dJ7_fill_53178_11 : decode cJ7_fill_53178 11 = .ok (.iload_n 2, 1) := by decide +kernel
theorem dJ7_fill_53178_12 : decode cJ7_fill_53178 12 = .ok (.iload_n 1, 1) := by decide +kernel
theorem dJ7_fill_53178_13 : decode cJ7_fill_53178 13 = .ok (.iastore, 1) := by decide +kernel
theorem dJ7_fill_53178_14 : decode cJ7_fill_53178 14 = .ok (.iinc 2 1, 3) := by decide +kernel
theorem dJ7_fill_53178_17 : decode cJ7_fill_53178 17 = .ok (.goto (-12), 3) := by decide +kernel
theorem dJ7_fill_53178_20 : decode cJ7_fill_53178 20 = .ok (.return_, 1) := by decide +kernel
theorem dJ0_length_8abf5_0 : decode cJ0_length_8abf5 0 = .ok (.aload_n 0, 1) := by decide +kernel
theorem dJ0_length_8abf5_1 : decode cJ0_length_8abf5 1 = .ok (.getfield 9, 3) := by decide +kernel
theorem dJ0_length_8abf5_4 : decode cJ0_length_8abf5 4 = .ok (.arraylength, 1) := by decide +kernel
theorem dJ0_length_8abf5_5 : decode cJ0_length_8abf5 5 = .ok (.aload_n 0, 1) := by decide +kernel
theorem dJ0_length_8abf5_6 : decode cJ0_length_8abf5 6 = .ok (.invokevirtual 335, 3) := by decide +kernel
theorem dJ0_length_8abf5_9 : decode cJ0_length_8abf5 9 = .ok (.ishr, 1) := by decide +kernel
theorem dJ0_length_8abf5_10 : decode cJ0_length_8abf5 10 = .ok (.ireturn, 1) := by decide +kernel
theorem dJ0_charAt_5068e_0 : decode cJ0_charAt_5068e 0 = .ok (.aload_n 0, 1) := by decide +kernel
theorem dJ0_charAt_5068e_1 : decode cJ0_charAt_5068e 1 = .ok (.invokevirtual 492, 3) := by decide +kernel
theorem dJ0_charAt_5068e_4 : decode cJ0_charAt_5068e 4 = .ok (.ifCond .eq 12, 3) := by decide +kernel
theorem dJ0_charAt_5068e_7 : decode cJ0_charAt_5068e 7 = .ok (.aload_n 0, 1) := by decide +kernel
theorem dJ0_charAt_5068e_8 : decode cJ0_charAt_5068e 8 = .ok (.getfield 9, 3) := by decide +kernel
theorem dJ0_charAt_5068e_11 : decode cJ0_charAt_5068e 11 = .ok (.iload_n 1, 1) := by decide +kernel
theorem dJ0_charAt_5068e_12 : decode cJ0_charAt_5068e 12 = .ok (.invokestatic 495, 3) := by decide +kernel
theorem dJ0_charAt_5068e_15 : decode cJ0_charAt_5068e 15 = .ok (.ireturn, 1) := by decide +kernel
theorem dJ0_charAt_5068e_16 : decode cJ0_charAt_5068e 16 = .ok (.aload_n 0, 1) := by decide +kernel
theorem dJ0_charAt_5068e_17 : decode cJ0_charAt_5068e 17 = .ok (.getfield 9, 3) := by decide +kernel
theorem dJ0_charAt_5068e_20 : decode cJ0_charAt_5068e 20 = .ok (.iload_n 1, 1) := by decide +kernel
theorem dJ0_charAt_5068e_21 : decode cJ0_charAt_5068e 21 = .ok (.invokestatic 498, 3) := by decide +kernel
theorem dJ0_charAt_5068e_24 : decode cJ0_charAt_5068e 24 = .ok (.ireturn, 1) := by decide +kernel
theorem dJ0_coder_7d493_0 : decode cJ0_coder_7d493 0 = .ok (.getstatic 38, 3) := by decide +kernel
theorem dJ0_coder_7d493_3 : decode cJ0_coder_7d493 3 = .ok (.ifCond .eq 10, 3) := by decide +kernel
theorem dJ0_coder_7d493_6 : decode cJ0_coder_7d493 6 = .ok (.aload_n 0, 1) := by decide +kernel
theorem dJ0_coder_7d493_7 : decode cJ0_coder_7d493 7 = .ok (.getfield 15, 3) := by decide +kernel
theorem dJ0_coder_7d493_10 : decode cJ0_coder_7d493 10 = .ok (.goto 4, 3) := by decide +kernel
theorem dJ0_coder_7d493_13 : decode cJ0_coder_7d493 13 = .ok (.iconst 1, 1) := by decide +kernel
theorem dJ0_coder_7d493_14 : decode cJ0_coder_7d493 14 = .ok (.ireturn, 1) := by decide +kernel
theorem dJ0_isLatin1_aae02_0 : decode cJ0_isLatin1_aae02 0 = .ok (.getstatic 38, 3) := by decide +kernel
theorem dJ0_isLatin1_aae02_3 : decode cJ0_isLatin1_aae02 3 = .ok (.ifCond .eq 14, 3) := by decide +kernel
theorem dJ0_isLatin1_aae02_6 : decode cJ0_isLatin1_aae02 6 = .ok (.aload_n 0, 1) := by decide +kernel
theorem dJ0_isLatin1_aae02_7 : decode cJ0_isLatin1_aae02 7 = .ok (.getfield 15, 3) := by decide +kernel
theorem dJ0_isLatin1_aae02_10 : decode cJ0_isLatin1_aae02 10 = .ok (.ifCond .ne 7, 3) := by decide +kernel
theorem dJ0_isLatin1_aae02_13 : decode cJ0_isLatin1_aae02 13 = .ok (.iconst 1, 1) := by decide +kernel
theorem dJ0_isLatin1_aae02_14 : decode cJ0_isLatin1_aae02 14 = .ok (.goto 4, 3) := by decide +kernel
theorem dJ0_isLatin1_aae02_17 : decode cJ0_isLatin1_aae02 17 = .ok (.iconst 0, 1) := by decide +kernel
theorem dJ0_isLatin1_aae02_18 : decode cJ0_isLatin1_aae02 18 = .ok (.ireturn, 1) := by decide +kernel
theorem dJ0_checkIndex_df160_0 : decode cJ0_checkIndex_df160 0 = .ok (.iload_n 0, 1) := by decide +kernel
theorem dJ0_checkIndex_df160_1 : decode cJ0_checkIndex_df160 1 = .ok (.iload_n 1, 1) := by decide +kernel
theorem dJ0_checkIndex_df160_2 : decode cJ0_checkIndex_df160 2 = .ok (.getstatic 1053, 3) := by decide +kernel
theorem dJ0_checkIndex_df160_5 : decode cJ0_checkIndex_df160 5 = .ok (.invokestatic 1059, 3) := by decide +kernel
theorem dJ0_checkIndex_df160_8 : decode cJ0_checkIndex_df160 8 = .ok (.pop, 1) := by decide +kernel
theorem dJ0_checkIndex_df160_9 : decode cJ0_checkIndex_df160 9 = .ok (.return_, 1) := by decide +kernel
theorem dJ1_charAt_3b067_0 : decode cJ1_charAt_3b067 0 = .ok (.iload_n 1, 1) := by decide +kernel
theorem dJ1_charAt_3b067_1 : decode cJ1_charAt_3b067 1 = .ok (.aload_n 0, 1) := by decide +kernel
theorem dJ1_charAt_3b067_2 : decode cJ1_charAt_3b067 2 = .ok (.arraylength, 1) := by decide +kernel
theorem dJ1_charAt_3b067_3 : decode cJ1_charAt_3b067 3 = .ok (.invokestatic 9, 3) := by decide +kernel
theorem dJ1_charAt_3b067_6 : decode cJ1_charAt_3b067 6 = .ok (.aload_n 0, 1) := by decide +kernel
theorem dJ1_charAt_3b067_7 : decode cJ1_charAt_3b067 7 = .ok (.iload_n 1, 1) := by decide +kernel
theorem dJ1_charAt_3b067_8 : decode cJ1_charAt_3b067 8 = .ok (.baload, 1) := by decide +kernel
theorem dJ1_charAt_3b067_9 : decode cJ1_charAt_3b067 9 = .ok (.sipush 255, 3) := by decide +kernel
theorem dJ1_charAt_3b067_12 : decode cJ1_charAt_3b067 12 = .ok (.iand, 1) := by decide +kernel
theorem dJ1_charAt_3b067_13 : decode cJ1_charAt_3b067 13 = .ok (.i2c, 1) := by decide +kernel
theorem dJ1_charAt_3b067_14 : decode cJ1_charAt_3b067 14 = .ok (.ireturn, 1) := by decide +kernel
theorem dJ2_getChar_3b067_0 : decode cJ2_getChar_3b067 0 = .ok (.getstatic 44, 3) := by decide +kernel
theorem dJ2_getChar_3b067_3 : decode cJ2_getChar_3b067 3 = .ok (.ifCond .ne 25, 3) := by decide +kernel
theorem dJ2_getChar_3b067_6 : decode cJ2_getChar_3b067 6 = .ok (.iload_n 1, 1) := by decide +kernel
theorem dJ2_getChar_3b067_7 : decode cJ2_getChar_3b067 7 = .ok (.ifCond .lt 11, 3) := by decide +kernel
theorem dJ2_getChar_3b067_10 : decode cJ2_getChar_3b067 10 = .ok (.iload_n 1, 1) := by decide +kernel
theorem dJ2_getChar_3b067_11 : decode cJ2_getChar_3b067 11 = .ok (.aload_n 0, 1) := by decide +kernel
theorem dJ2_getChar_3b067_12 : decode cJ2_getChar_3b067 12 = .ok (.invokestatic 48, 3) := by decide +kernel
theorem dJ2_getChar_3b067_15 : decode cJ2_getChar_3b067 15 = .ok (.if_icmp .lt 13, 3) := by decide +kernel
theorem dJ2_getChar_3b067_18 : decode cJ2_getChar_3b067 18 = .ok (.new 52, 3) := by decide +kernel
theorem dJ2_getChar_3b067_21 : decode cJ2_getChar_3b067 21 = .ok (.dup, 1) := by decide +kernel
theorem dJ2_getChar_3b067_22 : decode cJ2_getChar_3b067 22 = .ok (.ldc 54, 2) := by decide +kernel
theorem dJ2_getChar_3b067_24 : decode cJ2_getChar_3b067 24 = .ok (.invokespecial 56, 3) := by decide +kernel
theorem dJ2_getChar_3b067_27 : decode cJ2_getChar_3b067 27 = .ok (.athrow, 1) := by decide +kernel
theorem dJ2_getChar_3b067_28 : decode cJ2_getChar_3b067 28 = .ok (.iload_n 1, 1) := by decide +kernel
theorem dJ2_getChar_3b067_29 : decode cJ2_getChar_3b067 29 = .ok (.iconst 1, 1) := by decide +kernel
theorem dJ2_getChar_3b067_30 : decode cJ2_getChar_3b067 30 = .ok (.ishl, 1) := by decide +kernel
theorem dJ2_getChar_3b067_31 : decode cJ2_getChar_3b067 31 = .ok (.istore_n 1, 1) := by decide +kernel
theorem dJ2_getChar_3b067_32 : decode cJ2_getChar_3b067 32 = .ok (.aload_n 0, 1) := by decide +kernel
theorem dJ2_getChar_3b067_33 : decode cJ2_getChar_3b067 33 = .ok (.iload_n 1, 1) := by decide +kernel
theorem dJ2_getChar_3b067_34 : decode cJ2_getChar_3b067 34 = .ok (.iinc 1 1, 3) := by decide +kernel
theorem dJ2_getChar_3b067_37 : decode cJ2_getChar_3b067 37 = .ok (.baload, 1) := by decide +kernel
theorem dJ2_getChar_3b067_38 : decode cJ2_getChar_3b067 38 = .ok (.sipush 255, 3) := by decide +kernel
theorem dJ2_getChar_3b067_41 : decode cJ2_getChar_3b067 41 = .ok (.iand, 1) := by decide +kernel
theorem dJ2_getChar_3b067_42 : decode cJ2_getChar_3b067 42 = .ok (.getstatic 59, 3) := by decide +kernel
theorem dJ2_getChar_3b067_45 : decode cJ2_getChar_3b067 45 = .ok (.ishl, 1) := by decide +kernel
theorem dJ2_getChar_3b067_46 : decode cJ2_getChar_3b067 46 = .ok (.aload_n 0, 1) := by decide +kernel
theorem dJ2_getChar_3b067_47 : decode cJ2_getChar_3b067 47 = .ok (.iload_n 1, 1) := by decide +kernel
theorem dJ2_getChar_3b067_48 : decode cJ2_getChar_3b067 48 = .ok (.baload, 1) := by decide +kernel
theorem dJ2_getChar_3b067_49 : decode cJ2_getChar_3b067 49 = .ok (.sipush 255, 3) := by decide +kernel
theorem dJ2_getChar_3b067_52 : decode cJ2_getChar_3b067 52 = .ok (.iand, 1) := by decide +kernel
theorem dJ2_getChar_3b067_53 : decode cJ2_getChar_3b067 53 = .ok (.getstatic 63, 3) := by decide +kernel
theorem dJ2_getChar_3b067_56 : decode cJ2_getChar_3b067 56 = .ok (.ishl, 1) := by decide +kernel
theorem dJ2_getChar_3b067_57 : decode cJ2_getChar_3b067 57 = .ok (.ior, 1) := by decide +kernel
theorem dJ2_getChar_3b067_58 : decode cJ2_getChar_3b067 58 = .ok (.i2c, 1) := by decide +kernel
theorem dJ2_getChar_3b067_59 : decode cJ2_getChar_3b067 59 = .ok (.ireturn, 1) := by decide +kernel
theorem dJ2_length_9d52b_0 : decode cJ2_length_9d52b 0 = .ok (.aload_n 0, 1) := by decide +kernel
theorem dJ2_length_9d52b_1 : decode cJ2_length_9d52b 1 = .ok (.arraylength, 1) := by decide +kernel
theorem dJ2_length_9d52b_2 : decode cJ2_length_9d52b 2 = .ok (.iconst 1, 1) := by decide +kernel
theorem dJ2_length_9d52b_3 : decode cJ2_length_9d52b 3 = .ok (.ishr, 1) := by decide +kernel
theorem dJ2_length_9d52b_4 : decode cJ2_length_9d52b 4 = .ok (.ireturn, 1) := by decide +kernel
theorem dJ2_charAt_3b067_0 : decode cJ2_charAt_3b067 0 = .ok (.iload_n 1, 1) := by decide +kernel
theorem dJ2_charAt_3b067_1 : decode cJ2_charAt_3b067 1 = .ok (.aload_n 0, 1) := by decide +kernel
theorem dJ2_charAt_3b067_2 : decode cJ2_charAt_3b067 2 = .ok (.invokestatic 67, 3) := by decide +kernel
theorem dJ2_charAt_3b067_5 : decode cJ2_charAt_3b067 5 = .ok (.aload_n 0, 1) := by decide +kernel
theorem dJ2_charAt_3b067_6 : decode cJ2_charAt_3b067 6 = .ok (.iload_n 1, 1) := by decide +kernel
theorem dJ2_charAt_3b067_7 : decode cJ2_charAt_3b067 7 = .ok (.invokestatic 71, 3) := by decide +kernel
theorem dJ2_charAt_3b067_10 : decode cJ2_charAt_3b067 10 = .ok (.ireturn, 1) := by decide +kernel
theorem dJ2_checkIndex_2214a_0 : decode cJ2_checkIndex_2214a 0 = .ok (.iload_n 0, 1) := by decide +kernel
theorem dJ2_checkIndex_2214a_1 : decode cJ2_checkIndex_2214a 1 = .ok (.aload_n 1, 1) := by decide +kernel
theorem dJ2_checkIndex_2214a_2 : decode cJ2_checkIndex_2214a 2 = .ok (.invokestatic 48, 3) := by decide +kernel
theorem dJ2_checkIndex_2214a_5 : decode cJ2_checkIndex_2214a 5 = .ok (.invokestatic 414, 3) := by decide +kernel
theorem dJ2_checkIndex_2214a_8 : decode cJ2_checkIndex_2214a 8 = .ok (.return_, 1) := by decide +kernel
theorem dJ3_checkIndex_8e157_0 : decode cJ3_checkIndex_8e157 0 = .ok (.iload_n 0, 1) := by decide +kernel
theorem dJ3_checkIndex_8e157_1 : decode cJ3_checkIndex_8e157 1 = .ok (.ifCond .lt 8, 3) := by decide +kernel
theorem dJ3_checkIndex_8e157_4 : decode cJ3_checkIndex_8e157 4 = .ok (.iload_n 0, 1) := by decide +kernel
theorem dJ3_checkIndex_8e157_5 : decode cJ3_checkIndex_8e157 5 = .ok (.iload_n 1, 1) := by decide +kernel
theorem dJ3_checkIndex_8e157_6 : decode cJ3_checkIndex_8e157 6 = .ok (.if_icmp .lt 10, 3) := by decide +kernel
theorem dJ3_checkIndex_8e157_9 : decode cJ3_checkIndex_8e157 9 = .ok (.aload_n 2, 1) := by decide +kernel
theorem dJ3_checkIndex_8e157_10 : decode cJ3_checkIndex_8e157 10 = .ok (.iload_n 0, 1) := by decide +kernel
theorem dJ3_checkIndex_8e157_11 : decode cJ3_checkIndex_8e157 11 = .ok (.iload_n 1, 1) := by decide +kernel
theorem dJ3_checkIndex_8e157_12 : decode cJ3_checkIndex_8e157 12 = .ok (.invokestatic 95, 3) := by decide +kernel
theorem dJ3_checkIndex_8e157_15 : decode cJ3_checkIndex_8e157 15 = .ok (.athrow, 1) := by decide +kernel
theorem dJ3_checkIndex_8e157_16 : decode cJ3_checkIndex_8e157 16 = .ok (.iload_n 0, 1) := by decide +kernel
theorem dJ3_checkIndex_8e157_17 : decode cJ3_checkIndex_8e157 17 = .ok (.ireturn, 1) := by decide +kernel
theorem dX0_init_0 : decode cX0_init 0 = .ok (.aload_n 0, 1) := by decide +kernel
theorem dX0_init_1 : decode cX0_init 1 = .ok (.invokespecial 3, 3) := by decide +kernel
theorem dX0_init_4 : decode cX0_init 4 = .ok (.aload_n 0, 1) := by decide +kernel
theorem dX0_init_5 : decode cX0_init 5 = .ok (.bipush 12, 2) := by decide +kernel
theorem dX0_init_7 : decode cX0_init 7 = .ok (.newarray .int, 2) := by decide +kernel
theorem dX0_init_9 : decode cX0_init 9 = .ok (.putfield 9, 3) := by decide +kernel
theorem dX0_init_12 : decode cX0_init 12 = .ok (.aload_n 0, 1) := by decide +kernel
theorem dX0_init_13 : decode cX0_init 13 = .ok (.bipush 12, 2) := by decide +kernel
theorem dX0_init_15 : decode cX0_init 15 = .ok (.newarray .int, 2) := by decide +kernel
theorem dX0_init_17 : decode cX0_init 17 = .ok (.putfield 15, 3) := by decide +kernel
theorem dX0_init_20 : decode cX0_init 20 = .ok (.aload_n 0, 1) := by decide +kernel
theorem dX0_init_21 : decode cX0_init 21 = .ok (.bipush 12, 2) := by decide +kernel
theorem dX0_init_23 : decode cX0_init 23 = .ok (.newarray .int, 2) := by decide +kernel
theorem dX0_init_25 : decode cX0_init 25 = .ok (.putfield 18, 3) := by decide +kernel
theorem dX0_init_28 : decode cX0_init 28 = .ok (.aload_n 0, 1) := by decide +kernel
theorem dX0_init_29 : decode cX0_init 29 = .ok (.bipush 12, 2) := by decide +kernel
theorem dX0_init_31 : decode cX0_init 31 = .ok (.newarray .int, 2) := by decide +kernel
theorem dX0_init_33 : decode cX0_init 33 = .ok (.putfield 21, 3) := by decide +kernel
theorem dX0_init_36 : decode cX0_init 36 = .ok (.return_, 1) := by decide +kernel
theorem dX0_add_0 : decode cX0_add 0 = .ok (.aload_n 0, 1) := by decide +kernel
theorem dX0_add_1 : decode cX0_add 1 = .ok (.getfield 24, 3) := by decide +kernel
theorem dX0_add_4 : decode cX0_add 4 = .ok (.bipush 12, 2) := by decide +kernel
theorem dX0_add_6 : decode cX0_add 6 = .ok (.if_icmp .lt 4, 3) := by decide +kernel
theorem dX0_add_9 : decode cX0_add 9 = .ok (.return_, 1) := by decide +kernel
theorem dX0_add_10 : decode cX0_add 10 = .ok (.aload_n 0, 1) := by decide +kernel
theorem dX0_add_11 : decode cX0_add 11 = .ok (.getfield 9, 3) := by decide +kernel
theorem dX0_add_14 : decode cX0_add 14 = .ok (.aload_n 0, 1) := by decide +kernel
theorem dX0_add_15 : decode cX0_add 15 = .ok (.getfield 24, 3) := by decide +kernel
theorem dX0_add_18 : decode cX0_add 18 = .ok (.iload_n 1, 1) := by decide +kernel
theorem dX0_add_19 : decode cX0_add 19 = .ok (.iastore, 1) := by decide +kernel
theorem dX0_add_20 : decode cX0_add 20 = .ok (.aload_n 0, 1) := by decide +kernel
theorem dX0_add_21 : decode cX0_add 21 = .ok (.getfield 15, 3) := by decide +kernel
theorem dX0_add_24 : decode cX0_add 24 = .ok (.aload_n 0, 1) := by decide +kernel
theorem dX0_add_25 : decode cX0_add 25 = .ok (.getfield 24, 3) := by decide +kernel
theorem dX0_add_28 : decode cX0_add 28 = .ok (.iload_n 2, 1) := by decide +kernel
theorem dX0_add_29 : decode cX0_add 29 = .ok (.iastore, 1) := by decide +kernel
theorem dX0_add_30 : decode cX0_add 30 = .ok (.aload_n 0, 1) := by decide +kernel
theorem dX0_add_31 : decode cX0_add 31 = .ok (.getfield 18, 3) := by decide +kernel
theorem dX0_add_34 : decode cX0_add 34 = .ok (.aload_n 0, 1) := by decide +kernel
theorem dX0_add_35 : decode cX0_add 35 = .ok (.getfield 24, 3) := by decide +kernel
theorem dX0_add_38 : decode cX0_add 38 = .ok (.iload_n 3, 1) := by decide +kernel
theorem dX0_add_39 : decode cX0_add 39 = .ok (.iastore, 1) := by decide +kernel
theorem dX0_add_40 : decode cX0_add 40 = .ok (.aload_n 0, 1) := by decide +kernel
theorem dX0_add_41 : decode cX0_add 41 = .ok (.getfield 21, 3) := by decide +kernel
theorem dX0_add_44 : decode cX0_add 44 = .ok (.aload_n 0, 1) := by decide +kernel
theorem dX0_add_45 : decode cX0_add 45 = .ok (.getfield 24, 3) := by decide +kernel
theorem dX0_add_48 : decode cX0_add 48 = .ok (.iload 4, 2) := by decide +kernel
theorem dX0_add_50 : decode cX0_add 50 = .ok (.iastore, 1) := by decide +kernel
theorem dX0_add_51 : decode cX0_add 51 = .ok (.aload_n 0, 1) := by decide +kernel
theorem dX0_add_52 : decode cX0_add 52 = .ok (.dup, 1) := by decide +kernel
theorem dX0_add_53 : decode cX0_add 53 = .ok (.getfield 24, 3) := by decide +kernel
theorem dX0_add_56 : decode cX0_add 56 = .ok (.iconst 1, 1) := by decide +kernel
theorem dX0_add_57 : decode cX0_add 57 = .ok (.iadd, 1) := by decide +kernel
theorem dX0_add_58 : decode cX0_add 58 = .ok (.putfield 24, 3) := by decide +kernel
theorem dX0_add_61 : decode cX0_add 61 = .ok (.return_, 1) := by decide +kernel
theorem dX0_stops_0 : decode cX0_stops 0 = .ok (.aload_n 0, 1) := by decide +kernel
theorem dX0_stops_1 : decode cX0_stops 1 = .ok (.getfield 15, 3) := by decide +kernel
theorem dX0_stops_4 : decode cX0_stops 4 = .ok (.iload_n 1, 1) := by decide +kernel
theorem dX0_stops_5 : decode cX0_stops 5 = .ok (.iaload, 1) := by decide +kernel
theorem dX0_stops_6 : decode cX0_stops 6 = .ok (.iconst (-1), 1) := by decide +kernel
theorem dX0_stops_7 : decode cX0_stops 7 = .ok (.if_icmp .ne 7, 3) := by decide +kernel
theorem dX0_stops_10 : decode cX0_stops 10 = .ok (.lconst 0, 1) := by decide +kernel
theorem dX0_stops_11 : decode cX0_stops 11 = .ok (.goto 20, 3) := by decide +kernel
theorem dX0_stops_14 : decode cX0_stops 14 = .ok (.aload_n 2, 1) := by decide +kernel
theorem dX0_stops_15 : decode cX0_stops 15 = .ok (.aload_n 0, 1) := by decide +kernel
theorem dX0_stops_16 : decode cX0_stops 16 = .ok (.getfield 15, 3) := by decide +kernel
theorem dX0_stops_19 : decode cX0_stops 19 = .ok (.iload_n 1, 1) := by decide +kernel
theorem dX0_stops_20 : decode cX0_stops 20 = .ok (.iaload, 1) := by decide +kernel
theorem dX0_stops_21 : decode cX0_stops 21 = .ok (.aload_n 0, 1) := by decide +kernel
theorem dX0_stops_22 : decode cX0_stops 22 = .ok (.getfield 18, 3) := by decide +kernel
theorem dX0_stops_25 : decode cX0_stops 25 = .ok (.iload_n 1, 1) := by decide +kernel
theorem dX0_stops_26 : decode cX0_stops 26 = .ok (.iaload, 1) := by decide +kernel
theorem dX0_stops_27 : decode cX0_stops 27 = .ok (.iload_n 3, 1) := by decide +kernel
theorem dX0_stops_28 : decode cX0_stops 28 = .ok (.invokevirtual 28, 3) := by decide +kernel
theorem dX0_stops_31 : decode cX0_stops 31 = .ok (.lreturn, 1) := by decide +kernel
theorem dX2_init_0 : decode cX2_init 0 = .ok (.aload_n 0, 1) := by decide +kernel
theorem dX2_init_1 : decode cX2_init 1 = .ok (.invokespecial 3, 3) := by decide +kernel
theorem dX2_init_4 : decode cX2_init 4 = .ok (.aload_n 0, 1) := by decide +kernel
theorem dX2_init_5 : decode cX2_init 5 = .ok (.sipush 384, 3) := by decide +kernel
theorem dX2_init_8 : decode cX2_init 8 = .ok (.newarray .int, 2) := by decide +kernel
theorem dX2_init_10 : decode cX2_init 10 = .ok (.putfield 9, 3) := by decide +kernel
theorem dX2_init_13 : decode cX2_init 13 = .ok (.aload_n 0, 1) := by decide +kernel
theorem dX2_init_14 : decode cX2_init 14 = .ok (.sipush 384, 3) := by decide +kernel
theorem dX2_init_17 : decode cX2_init 17 = .ok (.newarray .int, 2) := by decide +kernel
theorem dX2_init_19 : decode cX2_init 19 = .ok (.putfield 15, 3) := by decide +kernel
theorem dX2_init_22 : decode cX2_init 22 = .ok (.return_, 1) := by decide +kernel
theorem dX2_set_0 : decode cX2_set 0 = .ok (.aload_n 0, 1) := by decide +kernel
theorem dX2_set_1 : decode cX2_set 1 = .ok (.getfield 9, 3) := by decide +kernel
theorem dX2_set_4 : decode cX2_set 4 = .ok (.iload_n 1, 1) := by decide +kernel
theorem dX2_set_5 : decode cX2_set 5 = .ok (.iload_n 2, 1) := by decide +kernel
theorem dX2_set_6 : decode cX2_set 6 = .ok (.iastore, 1) := by decide +kernel
theorem dX2_set_7 : decode cX2_set 7 = .ok (.aload_n 0, 1) := by decide +kernel
theorem dX2_set_8 : decode cX2_set 8 = .ok (.getfield 15, 3) := by decide +kernel
theorem dX2_set_11 : decode cX2_set 11 = .ok (.iload_n 1, 1) := by decide +kernel
theorem dX2_set_12 : decode cX2_set 12 = .ok (.iload_n 3, 1) := by decide +kernel
theorem dX2_set_13 : decode cX2_set 13 = .ok (.iastore, 1) := by decide +kernel
theorem dX2_set_14 : decode cX2_set 14 = .ok (.return_, 1) := by decide +kernel
theorem dX2_copyOf_0 : decode cX2_copyOf 0 = .ok (.aload_n 1, 1) := by decide +kernel
theorem dX2_copyOf_1 : decode cX2_copyOf 1 = .ok (.getfield 9, 3) := by decide +kernel
theorem dX2_copyOf_4 : decode cX2_copyOf 4 = .ok (.iconst 0, 1) := by decide +kernel
theorem dX2_copyOf_5 : decode cX2_copyOf 5 = .ok (.aload_n 0, 1) := by decide +kernel
theorem dX2_copyOf_6 : decode cX2_copyOf 6 = .ok (.getfield 9, 3) := by decide +kernel
theorem dX2_copyOf_9 : decode cX2_copyOf 9 = .ok (.iconst 0, 1) := by decide +kernel
theorem dX2_copyOf_10 : decode cX2_copyOf 10 = .ok (.aload_n 0, 1) := by decide +kernel
theorem dX2_copyOf_11 : decode cX2_copyOf 11 = .ok (.getfield 9, 3) := by decide +kernel
theorem dX2_copyOf_14 : decode cX2_copyOf 14 = .ok (.arraylength, 1) := by decide +kernel
theorem dX2_copyOf_15 : decode cX2_copyOf 15 = .ok (.invokestatic 18, 3) := by decide +kernel
theorem dX2_copyOf_18 : decode cX2_copyOf 18 = .ok (.aload_n 1, 1) := by decide +kernel
theorem dX2_copyOf_19 : decode cX2_copyOf 19 = .ok (.getfield 15, 3) := by decide +kernel
theorem dX2_copyOf_22 : decode cX2_copyOf 22 = .ok (.iconst 0, 1) := by decide +kernel
theorem dX2_copyOf_23 : decode cX2_copyOf 23 = .ok (.aload_n 0, 1) := by decide +kernel
theorem dX2_copyOf_24 : decode cX2_copyOf 24 = .ok (.getfield 15, 3) := by decide +kernel
theorem dX2_copyOf_27 : decode cX2_copyOf 27 = .ok (.iconst 0, 1) := by decide +kernel
theorem dX2_copyOf_28 : decode cX2_copyOf 28 = .ok (.aload_n 0, 1) := by decide +kernel
theorem dX2_copyOf_29 : decode cX2_copyOf 29 = .ok (.getfield 15, 3) := by decide +kernel
theorem dX2_copyOf_32 : decode cX2_copyOf 32 = .ok (.arraylength, 1) := by decide +kernel
theorem dX2_copyOf_33 : decode cX2_copyOf 33 = .ok (.invokestatic 18, 3) := by decide +kernel
theorem dX2_copyOf_36 : decode cX2_copyOf 36 = .ok (.return_, 1) := by decide +kernel
theorem dX3_init_0 : decode cX3_init 0 = .ok (.aload_n 0, 1) := by decide +kernel
theorem dX3_init_1 : decode cX3_init 1 = .ok (.invokespecial 3, 3) := by decide +kernel
theorem dX3_init_4 : decode cX3_init 4 = .ok (.aload_n 0, 1) := by decide +kernel
theorem dX3_init_5 : decode cX3_init 5 = .ok (.iconst (-1), 1) := by decide +kernel
theorem dX3_init_6 : decode cX3_init 6 = .ok (.putfield 9, 3) := by decide +kernel
theorem dX3_init_9 : decode cX3_init 9 = .ok (.aload_n 0, 1) := by decide +kernel
theorem dX3_init_10 : decode cX3_init 10 = .ok (.sipush 400, 3) := by decide +kernel
theorem dX3_init_13 : decode cX3_init 13 = .ok (.newarray .char, 2) := by decide +kernel
theorem dX3_init_15 : decode cX3_init 15 = .ok (.putfield 15, 3) := by decide +kernel
theorem dX3_init_18 : decode cX3_init 18 = .ok (.return_, 1) := by decide +kernel
theorem dX3_append_0 : decode cX3_append 0 = .ok (.bipush 24, 2) := by decide +kernel
theorem dX3_append_2 : decode cX3_append 2 = .ok (.istore_n 2, 1) := by decide +kernel
theorem dX3_append_3 : decode cX3_append 3 = .ok (.iload_n 2, 1) := by decide +kernel
theorem dX3_append_4 : decode cX3_append 4 = .ok (.ifCond .lt 46, 3) := by decide +kernel
theorem dX3_append_7 : decode cX3_append 7 = .ok (.aload_n 0, 1) := by decide +kernel
theorem dX3_append_8 : decode cX3_append 8 = .ok (.getfield 19, 3) := by decide +kernel
theorem dX3_append_11 : decode cX3_append 11 = .ok (.sipush 400, 3) := by decide +kernel
theorem dX3_append_14 : decode cX3_append 14 = .ok (.if_icmp .ge 36, 3) := by decide +kernel
theorem dX3_append_17 : decode cX3_append 17 = .ok (.aload_n 0, 1) := by decide +kernel
theorem dX3_append_18 : decode cX3_append 18 = .ok (.getfield 15, 3) := by decide +kernel
theorem dX3_append_21 : decode cX3_append 21 = .ok (.aload_n 0, 1) := by decide +kernel
theorem dX3_append_22 : decode cX3_append 22 = .ok (.getfield 19, 3) := by decide +kernel
theorem dX3_append_25 : decode cX3_append 25 = .ok (.iload_n 1, 1) := by decide +kernel
theorem dX3_append_26 : decode cX3_append 26 = .ok (.iload_n 2, 1) := by decide +kernel
theorem dX3_append_27 : decode cX3_append 27 = .ok (.iushr, 1) := by decide +kernel
theorem dX3_append_28 : decode cX3_append 28 = .ok (.sipush 255, 3) := by decide +kernel
theorem dX3_append_31 : decode cX3_append 31 = .ok (.iand, 1) := by decide +kernel
theorem dX3_append_32 : decode cX3_append 32 = .ok (.i2c, 1) := by decide +kernel
theorem dX3_append_33 : decode cX3_append 33 = .ok (.castore, 1) := by decide +kernel
theorem dX3_append_34 : decode cX3_append 34 = .ok (.aload_n 0, 1) := by decide +kernel
theorem dX3_append_35 : decode cX3_append 35 = .ok (.dup, 1) := by decide +kernel
theorem dX3_append_36 : decode cX3_append 36 = .ok (.getfield 19, 3) := by decide +kernel
theorem dX3_append_39 : decode cX3_append 39 = .ok (.iconst 1, 1) := by decide +kernel
theorem dX3_append_40 : decode cX3_append 40 = .ok (.iadd, 1) := by decide +kernel
theorem dX3_append_41 : decode cX3_append 41 = .ok (.putfield 19, 3) := by decide +kernel
theorem dX3_append_44 : decode cX3_append 44 = .ok (.iinc 2 (-8), 3) := by decide +kernel
theorem dX3_append_47 : decode cX3_append 47 = .ok (.goto (-44), 3) := by decide +kernel
theorem dX3_append_50 : decode cX3_append 50 = .ok (.return_, 1) := by decide +kernel
theorem dX3_readInto_0 : decode cX3_readInto 0 = .ok (.aload_n 1, 1) := by decide +kernel
theorem dX3_readInto_1 : decode cX3_readInto 1 = .ok (.iconst 0, 1) := by decide +kernel
theorem dX3_readInto_2 : decode cX3_readInto 2 = .ok (.putfield 22, 3) := by decide +kernel
theorem dX3_readInto_5 : decode cX3_readInto 5 = .ok (.aload_n 0, 1) := by decide +kernel
theorem dX3_readInto_6 : decode cX3_readInto 6 = .ok (.iconst 0, 1) := by decide +kernel
theorem dX3_readInto_7 : decode cX3_readInto 7 = .ok (.putfield 27, 3) := by decide +kernel
theorem dX3_readInto_10 : decode cX3_readInto 10 = .ok (.aload_n 0, 1) := by decide +kernel
theorem dX3_readInto_11 : decode cX3_readInto 11 = .ok (.iconst (-1), 1) := by decide +kernel
theorem dX3_readInto_12 : decode cX3_readInto 12 = .ok (.putfield 9, 3) := by decide +kernel
theorem dX3_readInto_15 : decode cX3_readInto 15 = .ok (.aload_n 0, 1) := by decide +kernel
theorem dX3_readInto_16 : decode cX3_readInto 16 = .ok (.iconst 0, 1) := by decide +kernel
theorem dX3_readInto_17 : decode cX3_readInto 17 = .ok (.putfield 30, 3) := by decide +kernel
theorem dX3_readInto_20 : decode cX3_readInto 20 = .ok (.aload_n 0, 1) := by decide +kernel
theorem dX3_readInto_21 : decode cX3_readInto 21 = .ok (.invokevirtual 33, 3) := by decide +kernel
theorem dX3_readInto_24 : decode cX3_readInto 24 = .ok (.iconst 0, 1) := by decide +kernel
theorem dX3_readInto_25 : decode cX3_readInto 25 = .ok (.istore_n 2, 1) := by decide +kernel
theorem dX3_readInto_26 : decode cX3_readInto 26 = .ok (.iload_n 2, 1) := by decide +kernel
theorem dX3_readInto_27 : decode cX3_readInto 27 = .ok (.bipush 12, 2) := by decide +kernel
theorem dX3_readInto_29 : decode cX3_readInto 29 = .ok (.if_icmp .gt 28, 3) := by decide +kernel
theorem dX3_readInto_32 : decode cX3_readInto 32 = .ok (.aload_n 0, 1) := by decide +kernel
theorem dX3_readInto_33 : decode cX3_readInto 33 = .ok (.getfield 27, 3) := by decide +kernel
theorem dX3_readInto_36 : decode cX3_readInto 36 = .ok (.ifCond .ne 21, 3) := by decide +kernel
theorem dX3_readInto_39 : decode cX3_readInto 39 = .ok (.aload_n 0, 1) := by decide +kernel
theorem dX3_readInto_40 : decode cX3_readInto 40 = .ok (.getfield 36, 3) := by decide +kernel
theorem dX3_readInto_43 : decode cX3_readInto 43 = .ok (.ifCond .eq 14, 3) := by decide +kernel
theorem dX3_readInto_46 : decode cX3_readInto 46 = .ok (.aload_n 0, 1) := by decide +kernel
theorem dX3_readInto_47 : decode cX3_readInto 47 = .ok (.aload_n 1, 1) := by decide +kernel
theorem dX3_readInto_48 : decode cX3_readInto 48 = .ok (.invokevirtual 39, 3) := by decide +kernel
theorem dX3_readInto_51 : decode cX3_readInto 51 = .ok (.iinc 2 1, 3) := by decide +kernel
theorem dX3_readInto_54 : decode cX3_readInto 54 = .ok (.goto (-28), 3) := by decide +kernel
theorem dX3_readInto_57 : decode cX3_readInto 57 = .ok (.aload_n 0, 1) := by decide +kernel
theorem dX3_readInto_58 : decode cX3_readInto 58 = .ok (.getfield 27, 3) := by decide +kernel
theorem dX3_readInto_61 : decode cX3_readInto 61 = .ok (.ifCond .ne 7, 3) := by decide +kernel
theorem dX3_readInto_64 : decode cX3_readInto 64 = .ok (.iconst 1, 1) := by decide +kernel
theorem dX3_readInto_65 : decode cX3_readInto 65 = .ok (.goto 4, 3) := by decide +kernel
theorem dX3_readInto_68 : decode cX3_readInto 68 = .ok (.iconst 0, 1) := by decide +kernel
theorem dX3_readInto_69 : decode cX3_readInto 69 = .ok (.ireturn, 1) := by decide +kernel
theorem dX3_readLine_0 : decode cX3_readLine 0 = .ok (.aload_n 0, 1) := by decide +kernel
theorem dX3_readLine_1 : decode cX3_readLine 1 = .ok (.getfield 36, 3) := by decide +kernel
theorem dX3_readLine_4 : decode cX3_readLine 4 = .ok (.iconst 4, 1) := by decide +kernel
theorem dX3_readLine_5 : decode cX3_readLine 5 = .ok (.if_icmp .ne 17, 3) := by decide +kernel
theorem dX3_readLine_8 : decode cX3_readLine 8 = .ok (.aload_n 1, 1) := by decide +kernel
theorem dX3_readLine_9 : decode cX3_readLine 9 = .ok (.getfield 22, 3) := by decide +kernel
theorem dX3_readLine_12 : decode cX3_readLine 12 = .ok (.bipush 12, 2) := by decide +kernel
theorem dX3_readLine_14 : decode cX3_readLine 14 = .ok (.if_icmp .lt 8, 3) := by decide +kernel
theorem dX3_readLine_17 : decode cX3_readLine 17 = .ok (.aload_n 0, 1) := by decide +kernel
theorem dX3_readLine_18 : decode cX3_readLine 18 = .ok (.iconst 3, 1) := by decide +kernel
theorem dX3_readLine_19 : decode cX3_readLine 19 = .ok (.invokevirtual 43, 3) := by decide +kernel
theorem dX3_readLine_22 : decode cX3_readLine 22 = .ok (.aload_n 0, 1) := by decide +kernel
theorem dX3_readLine_23 : decode cX3_readLine 23 = .ok (.aload_n 0, 1) := by decide +kernel
theorem dX3_readLine_24 : decode cX3_readLine 24 = .ok (.getfield 36, 3) := by decide +kernel
theorem dX3_readLine_27 : decode cX3_readLine 27 = .ok (.iconst 4, 1) := by decide +kernel
theorem dX3_readLine_28 : decode cX3_readLine 28 = .ok (.if_icmp .ne 7, 3) := by decide +kernel
theorem dX3_readLine_31 : decode cX3_readLine 31 = .ok (.iconst 1, 1) := by decide +kernel
theorem dX3_readLine_32 : decode cX3_readLine 32 = .ok (.goto 4, 3) := by decide +kernel
theorem dX3_readLine_35 : decode cX3_readLine 35 = .ok (.iconst 0, 1) := by decide +kernel
theorem dX3_readLine_36 : decode cX3_readLine 36 = .ok (.invokevirtual 47, 3) := by decide +kernel
theorem dX3_readLine_39 : decode cX3_readLine 39 = .ok (.aload_n 0, 1) := by decide +kernel
theorem dX3_readLine_40 : decode cX3_readLine 40 = .ok (.iconst 0, 1) := by decide +kernel
theorem dX3_readLine_41 : decode cX3_readLine 41 = .ok (.bipush 8, 2) := by decide +kernel
theorem dX3_readLine_43 : decode cX3_readLine 43 = .ok (.invokevirtual 51, 3) := by decide +kernel
theorem dX3_readLine_46 : decode cX3_readLine 46 = .ok (.istore_n 2, 1) := by decide +kernel
theorem dX3_readLine_47 : decode cX3_readLine 47 = .ok (.aload_n 0, 1) := by decide +kernel
theorem dX3_readLine_48 : decode cX3_readLine 48 = .ok (.aload_n 0, 1) := by decide +kernel
theorem dX3_readLine_49 : decode cX3_readLine 49 = .ok (.getfield 36, 3) := by decide +kernel
theorem dX3_readLine_52 : decode cX3_readLine 52 = .ok (.iconst 2, 1) := by decide +kernel
theorem dX3_readLine_53 : decode cX3_readLine 53 = .ok (.if_icmp .ne 7, 3) := by decide +kernel
theorem dX3_readLine_56 : decode cX3_readLine 56 = .ok (.iconst 1, 1) := by decide +kernel
theorem dX3_readLine_57 : decode cX3_readLine 57 = .ok (.goto 4, 3) := by decide +kernel
theorem dX3_readLine_60 : decode cX3_readLine 60 = .ok (.iconst 0, 1) := by decide +kernel
theorem dX3_readLine_61 : decode cX3_readLine 61 = .ok (.invokevirtual 47, 3) := by decide +kernel
theorem dX3_readLine_64 : decode cX3_readLine 64 = .ok (.iconst (-1), 1) := by decide +kernel
theorem dX3_readLine_65 : decode cX3_readLine 65 = .ok (.istore_n 3, 1) := by decide +kernel
theorem dX3_readLine_66 : decode cX3_readLine 66 = .ok (.iconst 1, 1) := by decide +kernel
theorem dX3_readLine_67 : decode cX3_readLine 67 = .ok (.istore 4, 2) := by decide +kernel
theorem dX3_readLine_69 : decode cX3_readLine 69 = .ok (.aload_n 0, 1) := by decide +kernel
theorem dX3_readLine_70 : decode cX3_readLine 70 = .ok (.getfield 36, 3) := by decide +kernel
theorem dX3_readLine_73 : decode cX3_readLine 73 = .ok (.iconst 5, 1) := by decide +kernel
theorem dX3_readLine_74 : decode cX3_readLine 74 = .ok (.if_icmp .ne 61, 3) := by decide +kernel
theorem dX3_readLine_77 : decode cX3_readLine 77 = .ok (.aload_n 0, 1) := by decide +kernel
theorem dX3_readLine_78 : decode cX3_readLine 78 = .ok (.iconst 1, 1) := by decide +kernel
theorem dX3_readLine_79 : decode cX3_readLine 79 = .ok (.invokevirtual 47, 3) := by decide +kernel
theorem dX3_readLine_82 : decode cX3_readLine 82 = .ok (.aload_n 0, 1) := by decide +kernel
theorem dX3_readLine_83 : decode cX3_readLine 83 = .ok (.invokevirtual 55, 3) := by decide +kernel
theorem dX3_readLine_86 : decode cX3_readLine 86 = .ok (.istore_n 3, 1) := by decide +kernel
theorem dX3_readLine_87 : decode cX3_readLine 87 = .ok (.aload_n 0, 1) := by decide +kernel
theorem dX3_readLine_88 : decode cX3_readLine 88 = .ok (.iload_n 3, 1) := by decide +kernel
theorem dX3_readLine_89 : decode cX3_readLine 89 = .ok (.iconst (-1), 1) := by decide +kernel
theorem dX3_readLine_90 : decode cX3_readLine 90 = .ok (.if_icmp .eq 7, 3) := by decide +kernel
theorem dX3_readLine_93 : decode cX3_readLine 93 = .ok (.iconst 1, 1) := by decide +kernel
theorem dX3_readLine_94 : decode cX3_readLine 94 = .ok (.goto 4, 3) := by decide +kernel
theorem dX3_readLine_97 : decode cX3_readLine 97 = .ok (.iconst 0, 1) := by decide +kernel
theorem dX3_readLine_98 : decode cX3_readLine 98 = .ok (.invokevirtual 47, 3) := by decide +kernel
theorem dX3_readLine_101 : decode cX3_readLine 101 = .ok (.iload_n 3, 1) := by decide +kernel
theorem dX3_readLine_102 : decode cX3_readLine 102 = .ok (.ifCond .eq 8, 3) := by decide +kernel
theorem dX3_readLine_105 : decode cX3_readLine 105 = .ok (.iload_n 3, 1) := by decide +kernel
theorem dX3_readLine_106 : decode cX3_readLine 106 = .ok (.iconst 1, 1) := by decide +kernel
theorem dX3_readLine_107 : decode cX3_readLine 107 = .ok (.if_icmp .ne 28, 3) := by decide +kernel
theorem dX3_readLine_110 : decode cX3_readLine 110 = .ok (.aload_n 0, 1) := by decide +kernel
theorem dX3_readLine_111 : decode cX3_readLine 111 = .ok (.iconst 0, 1) := by decide +kernel
theorem dX3_readLine_112 : decode cX3_readLine 112 = .ok (.iconst 3, 1) := by decide +kernel
theorem dX3_readLine_113 : decode cX3_readLine 113 = .ok (.invokevirtual 51, 3) := by decide +kernel
theorem dX3_readLine_116 : decode cX3_readLine 116 = .ok (.istore 4, 2) := by decide +kernel
theorem dX3_readLine_118 : decode cX3_readLine 118 = .ok (.aload_n 0, 1) := by decide +kernel
theorem dX3_readLine_119 : decode cX3_readLine 119 = .ok (.aload_n 0, 1) := by decide +kernel
theorem dX3_readLine_120 : decode cX3_readLine 120 = .ok (.getfield 36, 3) := by decide +kernel
theorem dX3_readLine_123 : decode cX3_readLine 123 = .ok (.iconst 2, 1) := by decide +kernel
theorem dX3_readLine_124 : decode cX3_readLine 124 = .ok (.if_icmp .ne 7, 3) := by decide +kernel
theorem dX3_readLine_127 : decode cX3_readLine 127 = .ok (.iconst 1, 1) := by decide +kernel
theorem dX3_readLine_128 : decode cX3_readLine 128 = .ok (.goto 4, 3) := by decide +kernel
theorem dX3_readLine_131 : decode cX3_readLine 131 = .ok (.iconst 0, 1) := by decide +kernel
theorem dX3_readLine_132 : decode cX3_readLine 132 = .ok (.invokevirtual 47, 3) := by decide +kernel
theorem dX3_readLine_135 : decode cX3_readLine 135 = .ok (.aload_n 0, 1) := by decide +kernel
theorem dX3_readLine_136 : decode cX3_readLine 136 = .ok (.aload_n 0, 1) := by decide +kernel
theorem dX3_readLine_137 : decode cX3_readLine 137 = .ok (.getfield 36, 3) := by decide +kernel
theorem dX3_readLine_140 : decode cX3_readLine 140 = .ok (.bipush 6, 2) := by decide +kernel
theorem dX3_readLine_142 : decode cX3_readLine 142 = .ok (.if_icmp .ne 7, 3) := by decide +kernel
theorem dX3_readLine_145 : decode cX3_readLine 145 = .ok (.iconst 1, 1) := by decide +kernel
theorem dX3_readLine_146 : decode cX3_readLine 146 = .ok (.goto 4, 3) := by decide +kernel
theorem dX3_readLine_149 : decode cX3_readLine 149 = .ok (.iconst 0, 1) := by decide +kernel
theorem dX3_readLine_150 : decode cX3_readLine 150 = .ok (.invokevirtual 47, 3) := by decide +kernel
theorem dX3_readLine_153 : decode cX3_readLine 153 = .ok (.aload_n 0, 1) := by decide +kernel
theorem dX3_readLine_154 : decode cX3_readLine 154 = .ok (.iconst 1, 1) := by decide +kernel
theorem dX3_readLine_155 : decode cX3_readLine 155 = .ok (.bipush 20, 2) := by decide +kernel
theorem dX3_readLine_157 : decode cX3_readLine 157 = .ok (.invokevirtual 51, 3) := by decide +kernel
theorem dX3_readLine_160 : decode cX3_readLine 160 = .ok (.istore 5, 2) := by decide +kernel
theorem dX3_readLine_162 : decode cX3_readLine 162 = .ok (.aload_n 0, 1) := by decide +kernel
theorem dX3_readLine_163 : decode cX3_readLine 163 = .ok (.aload_n 0, 1) := by decide +kernel
theorem dX3_readLine_164 : decode cX3_readLine 164 = .ok (.getfield 36, 3) := by decide +kernel
theorem dX3_readLine_167 : decode cX3_readLine 167 = .ok (.iconst 2, 1) := by decide +kernel
theorem dX3_readLine_168 : decode cX3_readLine 168 = .ok (.if_icmp .ne 7, 3) := by decide +kernel
theorem dX3_readLine_171 : decode cX3_readLine 171 = .ok (.iconst 1, 1) := by decide +kernel
theorem dX3_readLine_172 : decode cX3_readLine 172 = .ok (.goto 4, 3) := by decide +kernel
theorem dX3_readLine_175 : decode cX3_readLine 175 = .ok (.iconst 0, 1) := by decide +kernel
theorem dX3_readLine_176 : decode cX3_readLine 176 = .ok (.invokevirtual 47, 3) := by decide +kernel
theorem dX3_readLine_179 : decode cX3_readLine 179 = .ok (.aload_n 0, 1) := by decide +kernel
theorem dX3_readLine_180 : decode cX3_readLine 180 = .ok (.aload_n 0, 1) := by decide +kernel
theorem dX3_readLine_181 : decode cX3_readLine 181 = .ok (.getfield 36, 3) := by decide +kernel
theorem dX3_readLine_184 : decode cX3_readLine 184 = .ok (.iconst 3, 1) := by decide +kernel
theorem dX3_readLine_185 : decode cX3_readLine 185 = .ok (.if_icmp .ne 7, 3) := by decide +kernel
theorem dX3_readLine_188 : decode cX3_readLine 188 = .ok (.iconst 1, 1) := by decide +kernel
theorem dX3_readLine_189 : decode cX3_readLine 189 = .ok (.goto 4, 3) := by decide +kernel
theorem dX3_readLine_192 : decode cX3_readLine 192 = .ok (.iconst 0, 1) := by decide +kernel
theorem dX3_readLine_193 : decode cX3_readLine 193 = .ok (.invokevirtual 47, 3) := by decide +kernel
theorem dX3_readLine_196 : decode cX3_readLine 196 = .ok (.aload_n 0, 1) := by decide +kernel
theorem dX3_readLine_197 : decode cX3_readLine 197 = .ok (.getfield 27, 3) := by decide +kernel
theorem dX3_readLine_200 : decode cX3_readLine 200 = .ok (.ifCond .ne 13, 3) := by decide +kernel
theorem dX3_readLine_203 : decode cX3_readLine 203 = .ok (.aload_n 1, 1) := by decide +kernel
theorem dX3_readLine_204 : decode cX3_readLine 204 = .ok (.iload_n 2, 1) := by decide +kernel
theorem dX3_readLine_205 : decode cX3_readLine 205 = .ok (.iload_n 3, 1) := by decide +kernel
theorem dX3_readLine_206 : decode cX3_readLine 206 = .ok (.iload 4, 2) := by decide +kernel
theorem dX3_readLine_208 : decode cX3_readLine 208 = .ok (.iload 5, 2) := by decide +kernel
theorem dX3_readLine_210 : decode cX3_readLine 210 = .ok (.invokevirtual 59, 3) := by decide +kernel
theorem dX3_readLine_213 : decode cX3_readLine 213 = .ok (.return_, 1) := by decide +kernel
theorem dX3_signNamed_0 : decode cX3_signNamed 0 = .ok (.aload_n 0, 1) := by decide +kernel
theorem dX3_signNamed_1 : decode cX3_signNamed 1 = .ok (.getfield 36, 3) := by decide +kernel
theorem dX3_signNamed_4 : decode cX3_signNamed 4 = .ok (.tableswitch 34 7 9 #[32, 28, 30], 28) := by decide +kernel
theorem dX3_signNamed_32 : decode cX3_signNamed 32 = .ok (.iconst 0, 1) := by decide +kernel
theorem dX3_signNamed_33 : decode cX3_signNamed 33 = .ok (.ireturn, 1) := by decide +kernel
theorem dX3_signNamed_34 : decode cX3_signNamed 34 = .ok (.iconst 1, 1) := by decide +kernel
theorem dX3_signNamed_35 : decode cX3_signNamed 35 = .ok (.ireturn, 1) := by decide +kernel
theorem dX3_signNamed_36 : decode cX3_signNamed 36 = .ok (.iconst 2, 1) := by decide +kernel
theorem dX3_signNamed_37 : decode cX3_signNamed 37 = .ok (.ireturn, 1) := by decide +kernel
theorem dX3_signNamed_38 : decode cX3_signNamed 38 = .ok (.iconst (-1), 1) := by decide +kernel
theorem dX3_signNamed_39 : decode cX3_signNamed 39 = .ok (.ireturn, 1) := by decide +kernel
theorem dX3_numberWithin_0 : decode cX3_numberWithin 0 = .ok (.aload_n 0, 1) := by decide +kernel
theorem dX3_numberWithin_1 : decode cX3_numberWithin 1 = .ok (.getfield 36, 3) := by decide +kernel
theorem dX3_numberWithin_4 : decode cX3_numberWithin 4 = .ok (.iconst 2, 1) := by decide +kernel
theorem dX3_numberWithin_5 : decode cX3_numberWithin 5 = .ok (.if_icmp .ne 24, 3) := by decide +kernel
theorem dX3_numberWithin_8 : decode cX3_numberWithin 8 = .ok (.aload_n 0, 1) := by decide +kernel
theorem dX3_numberWithin_9 : decode cX3_numberWithin 9 = .ok (.getfield 63, 3) := by decide +kernel
theorem dX3_numberWithin_12 : decode cX3_numberWithin 12 = .ok (.iload_n 1, 1) := by decide +kernel
theorem dX3_numberWithin_13 : decode cX3_numberWithin 13 = .ok (.if_icmp .lt 11, 3) := by decide +kernel
theorem dX3_numberWithin_16 : decode cX3_numberWithin 16 = .ok (.aload_n 0, 1) := by decide +kernel
theorem dX3_numberWithin_17 : decode cX3_numberWithin 17 = .ok (.getfield 63, 3) := by decide +kernel
theorem dX3_numberWithin_20 : decode cX3_numberWithin 20 = .ok (.iload_n 2, 1) := by decide +kernel
theorem dX3_numberWithin_21 : decode cX3_numberWithin 21 = .ok (.if_icmp .le 8, 3) := by decide +kernel
theorem dX3_numberWithin_24 : decode cX3_numberWithin 24 = .ok (.aload_n 0, 1) := by decide +kernel
theorem dX3_numberWithin_25 : decode cX3_numberWithin 25 = .ok (.iconst 2, 1) := by decide +kernel
theorem dX3_numberWithin_26 : decode cX3_numberWithin 26 = .ok (.invokevirtual 43, 3) := by decide +kernel
theorem dX3_numberWithin_29 : decode cX3_numberWithin 29 = .ok (.aload_n 0, 1) := by decide +kernel
theorem dX3_numberWithin_30 : decode cX3_numberWithin 30 = .ok (.getfield 63, 3) := by decide +kernel
theorem dX3_numberWithin_33 : decode cX3_numberWithin 33 = .ok (.ireturn, 1) := by decide +kernel
theorem dX3_take_0 : decode cX3_take 0 = .ok (.iload_n 1, 1) := by decide +kernel
theorem dX3_take_1 : decode cX3_take 1 = .ok (.ifCond .ne 8, 3) := by decide +kernel
theorem dX3_take_4 : decode cX3_take 4 = .ok (.aload_n 0, 1) := by decide +kernel
theorem dX3_take_5 : decode cX3_take 5 = .ok (.iconst 1, 1) := by decide +kernel
theorem dX3_take_6 : decode cX3_take 6 = .ok (.invokevirtual 43, 3) := by decide +kernel
theorem dX3_take_9 : decode cX3_take 9 = .ok (.aload_n 0, 1) := by decide +kernel
theorem dX3_take_10 : decode cX3_take 10 = .ok (.getfield 27, 3) := by decide +kernel
theorem dX3_take_13 : decode cX3_take 13 = .ok (.ifCond .ne 7, 3) := by decide +kernel
theorem dX3_take_16 : decode cX3_take 16 = .ok (.aload_n 0, 1) := by decide +kernel
theorem dX3_take_17 : decode cX3_take 17 = .ok (.invokevirtual 33, 3) := by decide +kernel
theorem dX3_take_20 : decode cX3_take 20 = .ok (.return_, 1) := by decide +kernel
theorem dX3_blame_0 : decode cX3_blame 0 = .ok (.aload_n 0, 1) := by decide +kernel
theorem dX3_blame_1 : decode cX3_blame 1 = .ok (.getfield 27, 3) := by decide +kernel
theorem dX3_blame_4 : decode cX3_blame 4 = .ok (.ifCond .ne 16, 3) := by decide +kernel
theorem dX3_blame_7 : decode cX3_blame 7 = .ok (.aload_n 0, 1) := by decide +kernel
theorem dX3_blame_8 : decode cX3_blame 8 = .ok (.iload_n 1, 1) := by decide +kernel
theorem dX3_blame_9 : decode cX3_blame 9 = .ok (.putfield 27, 3) := by decide +kernel
theorem dX3_blame_12 : decode cX3_blame 12 = .ok (.aload_n 0, 1) := by decide +kernel
theorem dX3_blame_13 : decode cX3_blame 13 = .ok (.aload_n 0, 1) := by decide +kernel
theorem dX3_blame_14 : decode cX3_blame 14 = .ok (.getfield 66, 3) := by decide +kernel
theorem dX3_blame_17 : decode cX3_blame 17 = .ok (.putfield 9, 3) := by decide +kernel
theorem dX3_blame_20 : decode cX3_blame 20 = .ok (.return_, 1) := by decide +kernel
theorem dX3_readToken_0 : decode cX3_readToken 0 = .ok (.aload_n 0, 1) := by decide +kernel
theorem dX3_readToken_1 : decode cX3_readToken 1 = .ok (.getfield 30, 3) := by decide +kernel
theorem dX3_readToken_4 : decode cX3_readToken 4 = .ok (.aload_n 0, 1) := by decide +kernel
theorem dX3_readToken_5 : decode cX3_readToken 5 = .ok (.getfield 19, 3) := by decide +kernel
theorem dX3_readToken_8 : decode cX3_readToken 8 = .ok (.if_icmp .ge 31, 3) := by decide +kernel
theorem dX3_readToken_11 : decode cX3_readToken 11 = .ok (.aload_n 0, 1) := by decide +kernel
theorem dX3_readToken_12 : decode cX3_readToken 12 = .ok (.getfield 15, 3) := by decide +kernel
theorem dX3_readToken_15 : decode cX3_readToken 15 = .ok (.aload_n 0, 1) := by decide +kernel
theorem dX3_readToken_16 : decode cX3_readToken 16 = .ok (.getfield 30, 3) := by decide +kernel
theorem dX3_readToken_19 : decode cX3_readToken 19 = .ok (.caload, 1) := by decide +kernel
theorem dX3_readToken_20 : decode cX3_readToken 20 = .ok (.invokestatic 69, 3) := by decide +kernel
theorem dX3_readToken_23 : decode cX3_readToken 23 = .ok (.ifCond .eq 16, 3) := by decide +kernel
theorem dX3_readToken_26 : decode cX3_readToken 26 = .ok (.aload_n 0, 1) := by decide +kernel
theorem dX3_readToken_27 : decode cX3_readToken 27 = .ok (.dup, 1) := by decide +kernel
theorem dX3_readToken_28 : decode cX3_readToken 28 = .ok (.getfield 30, 3) := by decide +kernel
theorem dX3_readToken_31 : decode cX3_readToken 31 = .ok (.iconst 1, 1) := by decide +kernel
theorem dX3_readToken_32 : decode cX3_readToken 32 = .ok (.iadd, 1) := by decide +kernel
theorem dX3_readToken_33 : decode cX3_readToken 33 = .ok (.putfield 30, 3) := by decide +kernel
theorem dX3_readToken_36 : decode cX3_readToken 36 = .ok (.goto (-36), 3) := by decide +kernel
theorem dX3_readToken_39 : decode cX3_readToken 39 = .ok (.aload_n 0, 1) := by decide +kernel
theorem dX3_readToken_40 : decode cX3_readToken 40 = .ok (.aload_n 0, 1) := by decide +kernel
theorem dX3_readToken_41 : decode cX3_readToken 41 = .ok (.getfield 30, 3) := by decide +kernel
theorem dX3_readToken_44 : decode cX3_readToken 44 = .ok (.putfield 66, 3) := by decide +kernel
theorem dX3_readToken_47 : decode cX3_readToken 47 = .ok (.aload_n 0, 1) := by decide +kernel
theorem dX3_readToken_48 : decode cX3_readToken 48 = .ok (.iconst 0, 1) := by decide +kernel
theorem dX3_readToken_49 : decode cX3_readToken 49 = .ok (.putfield 63, 3) := by decide +kernel
theorem dX3_readToken_52 : decode cX3_readToken 52 = .ok (.aload_n 0, 1) := by decide +kernel
theorem dX3_readToken_53 : decode cX3_readToken 53 = .ok (.getfield 30, 3) := by decide +kernel
theorem dX3_readToken_56 : decode cX3_readToken 56 = .ok (.aload_n 0, 1) := by decide +kernel
theorem dX3_readToken_57 : decode cX3_readToken 57 = .ok (.getfield 19, 3) := by decide +kernel
theorem dX3_readToken_60 : decode cX3_readToken 60 = .ok (.if_icmp .lt 11, 3) := by decide +kernel
theorem dX3_readToken_63 : decode cX3_readToken 63 = .ok (.aload_n 0, 1) := by decide +kernel
theorem dX3_readToken_64 : decode cX3_readToken 64 = .ok (.iconst 0, 1) := by decide +kernel
theorem dX3_readToken_65 : decode cX3_readToken 65 = .ok (.putfield 36, 3) := by decide +kernel
theorem dX3_readToken_68 : decode cX3_readToken 68 = .ok (.goto 88, 3) := by decide +kernel
theorem dX3_readToken_71 : decode cX3_readToken 71 = .ok (.aload_n 0, 1) := by decide +kernel
theorem dX3_readToken_72 : decode cX3_readToken 72 = .ok (.getfield 15, 3) := by decide +kernel
theorem dX3_readToken_75 : decode cX3_readToken 75 = .ok (.aload_n 0, 1) := by decide +kernel
theorem dX3_readToken_76 : decode cX3_readToken 76 = .ok (.getfield 30, 3) := by decide +kernel
theorem dX3_readToken_79 : decode cX3_readToken 79 = .ok (.caload, 1) := by decide +kernel
theorem dX3_readToken_80 : decode cX3_readToken 80 = .ok (.invokestatic 73, 3) := by decide +kernel
theorem dX3_readToken_83 : decode cX3_readToken 83 = .ok (.ifCond .eq 18, 3) := by decide +kernel
theorem dX3_readToken_86 : decode cX3_readToken 86 = .ok (.aload_n 0, 1) := by decide +kernel
theorem dX3_readToken_87 : decode cX3_readToken 87 = .ok (.invokevirtual 76, 3) := by decide +kernel
theorem dX3_readToken_90 : decode cX3_readToken 90 = .ok (.aload_n 0, 1) := by decide +kernel
theorem dX3_readToken_91 : decode cX3_readToken 91 = .ok (.aload_n 0, 1) := by decide +kernel
theorem dX3_readToken_92 : decode cX3_readToken 92 = .ok (.invokevirtual 79, 3) := by decide +kernel
theorem dX3_readToken_95 : decode cX3_readToken 95 = .ok (.putfield 36, 3) := by decide +kernel
theorem dX3_readToken_98 : decode cX3_readToken 98 = .ok (.goto 58, 3) := by decide +kernel
theorem dX3_readToken_101 : decode cX3_readToken 101 = .ok (.aload_n 0, 1) := by decide +kernel
theorem dX3_readToken_102 : decode cX3_readToken 102 = .ok (.getfield 15, 3) := by decide +kernel
theorem dX3_readToken_105 : decode cX3_readToken 105 = .ok (.aload_n 0, 1) := by decide +kernel
theorem dX3_readToken_106 : decode cX3_readToken 106 = .ok (.getfield 30, 3) := by decide +kernel
theorem dX3_readToken_109 : decode cX3_readToken 109 = .ok (.caload, 1) := by decide +kernel
theorem dX3_readToken_110 : decode cX3_readToken 110 = .ok (.invokestatic 82, 3) := by decide +kernel
theorem dX3_readToken_113 : decode cX3_readToken 113 = .ok (.ifCond .eq 10, 3) := by decide +kernel
theorem dX3_readToken_116 : decode cX3_readToken 116 = .ok (.aload_n 0, 1) := by decide +kernel
theorem dX3_readToken_117 : decode cX3_readToken 117 = .ok (.invokevirtual 85, 3) := by decide +kernel
theorem dX3_readToken_120 : decode cX3_readToken 120 = .ok (.goto 36, 3) := by decide +kernel
theorem dX3_readToken_123 : decode cX3_readToken 123 = .ok (.aload_n 0, 1) := by decide +kernel
theorem dX3_readToken_124 : decode cX3_readToken 124 = .ok (.aload_n 0, 1) := by decide +kernel
theorem dX3_readToken_125 : decode cX3_readToken 125 = .ok (.getfield 15, 3) := by decide +kernel
theorem dX3_readToken_128 : decode cX3_readToken 128 = .ok (.aload_n 0, 1) := by decide +kernel
theorem dX3_readToken_129 : decode cX3_readToken 129 = .ok (.getfield 30, 3) := by decide +kernel
theorem dX3_readToken_132 : decode cX3_readToken 132 = .ok (.caload, 1) := by decide +kernel
theorem dX3_readToken_133 : decode cX3_readToken 133 = .ok (.bipush 59, 2) := by decide +kernel
theorem dX3_readToken_135 : decode cX3_readToken 135 = .ok (.if_icmp .ne 7, 3) := by decide +kernel
theorem dX3_readToken_138 : decode cX3_readToken 138 = .ok (.iconst 3, 1) := by decide +kernel
theorem dX3_readToken_139 : decode cX3_readToken 139 = .ok (.goto 4, 3) := by decide +kernel
theorem dX3_readToken_142 : decode cX3_readToken 142 = .ok (.iconst 1, 1) := by decide +kernel
theorem dX3_readToken_143 : decode cX3_readToken 143 = .ok (.putfield 36, 3) := by decide +kernel
theorem dX3_readToken_146 : decode cX3_readToken 146 = .ok (.aload_n 0, 1) := by decide +kernel
theorem dX3_readToken_147 : decode cX3_readToken 147 = .ok (.dup, 1) := by decide +kernel
theorem dX3_readToken_148 : decode cX3_readToken 148 = .ok (.getfield 30, 3) := by decide +kernel
theorem dX3_readToken_151 : decode cX3_readToken 151 = .ok (.iconst 1, 1) := by decide +kernel
theorem dX3_readToken_152 : decode cX3_readToken 152 = .ok (.iadd, 1) := by decide +kernel
theorem dX3_readToken_153 : decode cX3_readToken 153 = .ok (.putfield 30, 3) := by decide +kernel
theorem dX3_readToken_156 : decode cX3_readToken 156 = .ok (.return_, 1) := by decide +kernel
theorem dX3_skipLetters_0 : decode cX3_skipLetters 0 = .ok (.aload_n 0, 1) := by decide +kernel
theorem dX3_skipLetters_1 : decode cX3_skipLetters 1 = .ok (.getfield 30, 3) := by decide +kernel
theorem dX3_skipLetters_4 : decode cX3_skipLetters 4 = .ok (.aload_n 0, 1) := by decide +kernel
theorem dX3_skipLetters_5 : decode cX3_skipLetters 5 = .ok (.getfield 19, 3) := by decide +kernel
theorem dX3_skipLetters_8 : decode cX3_skipLetters 8 = .ok (.if_icmp .ge 31, 3) := by decide +kernel
theorem dX3_skipLetters_11 : decode cX3_skipLetters 11 = .ok (.aload_n 0, 1) := by decide +kernel
theorem dX3_skipLetters_12 : decode cX3_skipLetters 12 = .ok (.getfield 15, 3) := by decide +kernel
theorem dX3_skipLetters_15 : decode cX3_skipLetters 15 = .ok (.aload_n 0, 1) := by decide +kernel
theorem dX3_skipLetters_16 : decode cX3_skipLetters 16 = .ok (.getfield 30, 3) := by decide +kernel
theorem dX3_skipLetters_19 : decode cX3_skipLetters 19 = .ok (.caload, 1) := by decide +kernel
theorem dX3_skipLetters_20 : decode cX3_skipLetters 20 = .ok (.invokestatic 73, 3) := by decide +kernel
theorem dX3_skipLetters_23 : decode cX3_skipLetters 23 = .ok (.ifCond .eq 16, 3) := by decide +kernel
theorem dX3_skipLetters_26 : decode cX3_skipLetters 26 = .ok (.aload_n 0, 1) := by decide +kernel
theorem dX3_skipLetters_27 : decode cX3_skipLetters 27 = .ok (.dup, 1) := by decide +kernel
theorem dX3_skipLetters_28 : decode cX3_skipLetters 28 = .ok (.getfield 30, 3) := by decide +kernel
theorem dX3_skipLetters_31 : decode cX3_skipLetters 31 = .ok (.iconst 1, 1) := by decide +kernel
theorem dX3_skipLetters_32 : decode cX3_skipLetters 32 = .ok (.iadd, 1) := by decide +kernel
theorem dX3_skipLetters_33 : decode cX3_skipLetters 33 = .ok (.putfield 30, 3) := by decide +kernel
theorem dX3_skipLetters_36 : decode cX3_skipLetters 36 = .ok (.goto (-36), 3) := by decide +kernel
theorem dX3_skipLetters_39 : decode cX3_skipLetters 39 = .ok (.return_, 1) := by decide +kernel
theorem dX3_wordRead_0 : decode cX3_wordRead 0 = .ok (.aload_n 0, 1) := by decide +kernel
theorem dX3_wordRead_1 : decode cX3_wordRead 1 = .ok (.ldc 88, 2) := by decide +kernel
theorem dX3_wordRead_3 : decode cX3_wordRead 3 = .ok (.invokevirtual 90, 3) := by decide +kernel
theorem dX3_wordRead_6 : decode cX3_wordRead 6 = .ok (.ifCond .eq 5, 3) := by decide +kernel
theorem dX3_wordRead_9 : decode cX3_wordRead 9 = .ok (.iconst 4, 1) := by decide +kernel
theorem dX3_wordRead_10 : decode cX3_wordRead 10 = .ok (.ireturn, 1) := by decide +kernel
theorem dX3_wordRead_11 : decode cX3_wordRead 11 = .ok (.aload_n 0, 1) := by decide +kernel
theorem dX3_wordRead_12 : decode cX3_wordRead 12 = .ok (.ldc 94, 2) := by decide +kernel
theorem dX3_wordRead_14 : decode cX3_wordRead 14 = .ok (.invokevirtual 90, 3) := by decide +kernel
theorem dX3_wordRead_17 : decode cX3_wordRead 17 = .ok (.ifCond .eq 5, 3) := by decide +kernel
theorem dX3_wordRead_20 : decode cX3_wordRead 20 = .ok (.iconst 5, 1) := by decide +kernel
theorem dX3_wordRead_21 : decode cX3_wordRead 21 = .ok (.ireturn, 1) := by decide +kernel
theorem dX3_wordRead_22 : decode cX3_wordRead 22 = .ok (.aload_n 0, 1) := by decide +kernel
theorem dX3_wordRead_23 : decode cX3_wordRead 23 = .ok (.ldc 96, 2) := by decide +kernel
theorem dX3_wordRead_25 : decode cX3_wordRead 25 = .ok (.invokevirtual 90, 3) := by decide +kernel
theorem dX3_wordRead_28 : decode cX3_wordRead 28 = .ok (.ifCond .eq 6, 3) := by decide +kernel
theorem dX3_wordRead_31 : decode cX3_wordRead 31 = .ok (.bipush 6, 2) := by decide +kernel
theorem dX3_wordRead_33 : decode cX3_wordRead 33 = .ok (.ireturn, 1) := by decide +kernel
theorem dX3_wordRead_34 : decode cX3_wordRead 34 = .ok (.aload_n 0, 1) := by decide +kernel
theorem dX3_wordRead_35 : decode cX3_wordRead 35 = .ok (.ldc 98, 2) := by decide +kernel
theorem dX3_wordRead_37 : decode cX3_wordRead 37 = .ok (.invokevirtual 90, 3) := by decide +kernel
theorem dX3_wordRead_40 : decode cX3_wordRead 40 = .ok (.ifCond .eq 6, 3) := by decide +kernel
theorem dX3_wordRead_43 : decode cX3_wordRead 43 = .ok (.bipush 7, 2) := by decide +kernel
theorem dX3_wordRead_45 : decode cX3_wordRead 45 = .ok (.ireturn, 1) := by decide +kernel
theorem dX3_wordRead_46 : decode cX3_wordRead 46 = .ok (.aload_n 0, 1) := by decide +kernel
theorem dX3_wordRead_47 : decode cX3_wordRead 47 = .ok (.ldc 100, 2) := by decide +kernel
theorem dX3_wordRead_49 : decode cX3_wordRead 49 = .ok (.invokevirtual 90, 3) := by decide +kernel
theorem dX3_wordRead_52 : decode cX3_wordRead 52 = .ok (.ifCond .eq 6, 3) := by decide +kernel
theorem dX3_wordRead_55 : decode cX3_wordRead 55 = .ok (.bipush 8, 2) := by decide +kernel
theorem dX3_wordRead_57 : decode cX3_wordRead 57 = .ok (.ireturn, 1) := by decide +kernel
theorem dX3_wordRead_58 : decode cX3_wordRead 58 = .ok (.aload_n 0, 1) := by decide +kernel
theorem dX3_wordRead_59 : decode cX3_wordRead 59 = .ok (.ldc 102, 2) := by decide +kernel
theorem dX3_wordRead_61 : decode cX3_wordRead 61 = .ok (.invokevirtual 90, 3) := by decide +kernel
theorem dX3_wordRead_64 : decode cX3_wordRead 64 = .ok (.ifCond .eq 8, 3) := by decide +kernel
theorem dX3_wordRead_67 : decode cX3_wordRead 67 = .ok (.bipush 9, 2) := by decide +kernel
theorem dX3_wordRead_69 : decode cX3_wordRead 69 = .ok (.goto 4, 3) := by decide +kernel
theorem dX3_wordRead_72 : decode cX3_wordRead 72 = .ok (.iconst 1, 1) := by decide +kernel
theorem dX3_wordRead_73 : decode cX3_wordRead 73 = .ok (.ireturn, 1) := by decide +kernel
theorem dX3_spells_0 : decode cX3_spells 0 = .ok (.aload_n 0, 1) := by decide +kernel
theorem dX3_spells_1 : decode cX3_spells 1 = .ok (.getfield 30, 3) := by decide +kernel
theorem dX3_spells_4 : decode cX3_spells 4 = .ok (.aload_n 0, 1) := by decide +kernel
theorem dX3_spells_5 : decode cX3_spells 5 = .ok (.getfield 66, 3) := by decide +kernel
theorem dX3_spells_8 : decode cX3_spells 8 = .ok (.isub, 1) := by decide +kernel
theorem dX3_spells_9 : decode cX3_spells 9 = .ok (.aload_n 1, 1) := by decide +kernel
theorem dX3_spells_10 : decode cX3_spells 10 = .ok (.invokevirtual 104, 3) := by decide +kernel
theorem dX3_spells_13 : decode cX3_spells 13 = .ok (.if_icmp .eq 5, 3) := by decide +kernel
theorem dX3_spells_16 : decode cX3_spells 16 = .ok (.iconst 0, 1) := by decide +kernel
theorem dX3_spells_17 : decode cX3_spells 17 = .ok (.ireturn, 1) := by decide +kernel
theorem dX3_spells_18 : decode cX3_spells 18 = .ok (.iconst 0, 1) := by decide +kernel
theorem dX3_spells_19 : decode cX3_spells 19 = .ok (.istore_n 2, 1) := by decide +kernel
theorem dX3_spells_20 : decode cX3_spells 20 = .ok (.iload_n 2, 1) := by decide +kernel
theorem dX3_spells_21 : decode cX3_spells 21 = .ok (.aload_n 1, 1) := by decide +kernel
theorem dX3_spells_22 : decode cX3_spells 22 = .ok (.invokevirtual 104, 3) := by decide +kernel
theorem dX3_spells_25 : decode cX3_spells 25 = .ok (.if_icmp .ge 30, 3) := by decide +kernel
theorem dX3_spells_28 : decode cX3_spells 28 = .ok (.aload_n 0, 1) := by decide +kernel
theorem dX3_spells_29 : decode cX3_spells 29 = .ok (.getfield 15, 3) := by decide +kernel
theorem dX3_spells_32 : decode cX3_spells 32 = .ok (.aload_n 0, 1) := by decide +kernel
theorem dX3_spells_33 : decode cX3_spells 33 = .ok (.getfield 66, 3) := by decide +kernel
theorem dX3_spells_36 : decode cX3_spells 36 = .ok (.iload_n 2, 1) := by decide +kernel
theorem dX3_spells_37 : decode cX3_spells 37 = .ok (.iadd, 1) := by decide +kernel
theorem dX3_spells_38 : decode cX3_spells 38 = .ok (.caload, 1) := by decide +kernel
theorem dX3_spells_39 : decode cX3_spells 39 = .ok (.aload_n 1, 1) := by decide +kernel
theorem dX3_spells_40 : decode cX3_spells 40 = .ok (.iload_n 2, 1) := by decide +kernel
theorem dX3_spells_41 : decode cX3_spells 41 = .ok (.invokevirtual 108, 3) := by decide +kernel
theorem dX3_spells_44 : decode cX3_spells 44 = .ok (.if_icmp .eq 5, 3) := by decide +kernel
theorem dX3_spells_47 : decode cX3_spells 47 = .ok (.iconst 0, 1) := by decide +kernel
theorem dX3_spells_48 : decode cX3_spells 48 = .ok (.ireturn, 1) := by decide +kernel
theorem dX3_spells_49 : decode cX3_spells 49 = .ok (.iinc 2 1, 3) := by decide +kernel
theorem dX3_spells_52 : decode cX3_spells 52 = .ok (.goto (-32), 3) := by decide +kernel
theorem dX3_spells_55 : decode cX3_spells 55 = .ok (.iconst 1, 1) := by decide +kernel
theorem dX3_spells_56 : decode cX3_spells 56 = .ok (.ireturn, 1) := by decide +kernel
theorem dX3_readNumber_0 : decode cX3_readNumber 0 = .ok (.aload_n 0, 1) := by decide +kernel
theorem dX3_readNumber_1 : decode cX3_readNumber 1 = .ok (.getfield 30, 3) := by decide +kernel
theorem dX3_readNumber_4 : decode cX3_readNumber 4 = .ok (.aload_n 0, 1) := by decide +kernel
theorem dX3_readNumber_5 : decode cX3_readNumber 5 = .ok (.getfield 19, 3) := by decide +kernel
theorem dX3_readNumber_8 : decode cX3_readNumber 8 = .ok (.if_icmp .ge 72, 3) := by decide +kernel
theorem dX3_readNumber_11 : decode cX3_readNumber 11 = .ok (.aload_n 0, 1) := by decide +kernel
theorem dX3_readNumber_12 : decode cX3_readNumber 12 = .ok (.getfield 15, 3) := by decide +kernel
theorem dX3_readNumber_15 : decode cX3_readNumber 15 = .ok (.aload_n 0, 1) := by decide +kernel
theorem dX3_readNumber_16 : decode cX3_readNumber 16 = .ok (.getfield 30, 3) := by decide +kernel
theorem dX3_readNumber_19 : decode cX3_readNumber 19 = .ok (.caload, 1) := by decide +kernel
theorem dX3_readNumber_20 : decode cX3_readNumber 20 = .ok (.invokestatic 82, 3) := by decide +kernel
theorem dX3_readNumber_23 : decode cX3_readNumber 23 = .ok (.ifCond .eq 57, 3) := by decide +kernel
theorem dX3_readNumber_26 : decode cX3_readNumber 26 = .ok (.aload_n 0, 1) := by decide +kernel
theorem dX3_readNumber_27 : decode cX3_readNumber 27 = .ok (.aload_n 0, 1) := by decide +kernel
theorem dX3_readNumber_28 : decode cX3_readNumber 28 = .ok (.getfield 30, 3) := by decide +kernel
theorem dX3_readNumber_31 : decode cX3_readNumber 31 = .ok (.aload_n 0, 1) := by decide +kernel
theorem dX3_readNumber_32 : decode cX3_readNumber 32 = .ok (.getfield 66, 3) := by decide +kernel
theorem dX3_readNumber_35 : decode cX3_readNumber 35 = .ok (.isub, 1) := by decide +kernel
theorem dX3_readNumber_36 : decode cX3_readNumber 36 = .ok (.iconst 2, 1) := by decide +kernel
theorem dX3_readNumber_37 : decode cX3_readNumber 37 = .ok (.if_icmp .ge 26, 3) := by decide +kernel
theorem dX3_readNumber_40 : decode cX3_readNumber 40 = .ok (.bipush 10, 2) := by decide +kernel
theorem dX3_readNumber_42 : decode cX3_readNumber 42 = .ok (.aload_n 0, 1) := by decide +kernel
theorem dX3_readNumber_43 : decode cX3_readNumber 43 = .ok (.getfield 63, 3) := by decide +kernel
theorem dX3_readNumber_46 : decode cX3_readNumber 46 = .ok (.imul, 1) := by decide +kernel
theorem dX3_readNumber_47 : decode cX3_readNumber 47 = .ok (.aload_n 0, 1) := by decide +kernel
theorem dX3_readNumber_48 : decode cX3_readNumber 48 = .ok (.getfield 15, 3) := by decide +kernel
theorem dX3_readNumber_51 : decode cX3_readNumber 51 = .ok (.aload_n 0, 1) := by decide +kernel
theorem dX3_readNumber_52 : decode cX3_readNumber 52 = .ok (.getfield 30, 3) := by decide +kernel
theorem dX3_readNumber_55 : decode cX3_readNumber 55 = .ok (.caload, 1) := by decide +kernel
theorem dX3_readNumber_56 : decode cX3_readNumber 56 = .ok (.iadd, 1) := by decide +kernel
theorem dX3_readNumber_57 : decode cX3_readNumber 57 = .ok (.bipush 48, 2) := by decide +kernel
theorem dX3_readNumber_59 : decode cX3_readNumber 59 = .ok (.isub, 1) := by decide +kernel
theorem dX3_readNumber_60 : decode cX3_readNumber 60 = .ok (.goto 4, 3) := by decide +kernel
theorem dX3_readNumber_63 : decode cX3_readNumber 63 = .ok (.iconst 0, 1) := by decide +kernel
theorem dX3_readNumber_64 : decode cX3_readNumber 64 = .ok (.putfield 63, 3) := by decide +kernel
theorem dX3_readNumber_67 : decode cX3_readNumber 67 = .ok (.aload_n 0, 1) := by decide +kernel
theorem dX3_readNumber_68 : decode cX3_readNumber 68 = .ok (.dup, 1) := by decide +kernel
theorem dX3_readNumber_69 : decode cX3_readNumber 69 = .ok (.getfield 30, 3) := by decide +kernel
theorem dX3_readNumber_72 : decode cX3_readNumber 72 = .ok (.iconst 1, 1) := by decide +kernel
theorem dX3_readNumber_73 : decode cX3_readNumber 73 = .ok (.iadd, 1) := by decide +kernel
theorem dX3_readNumber_74 : decode cX3_readNumber 74 = .ok (.putfield 30, 3) := by decide +kernel
theorem dX3_readNumber_77 : decode cX3_readNumber 77 = .ok (.goto (-77), 3) := by decide +kernel
theorem dX3_readNumber_80 : decode cX3_readNumber 80 = .ok (.aload_n 0, 1) := by decide +kernel
theorem dX3_readNumber_81 : decode cX3_readNumber 81 = .ok (.aload_n 0, 1) := by decide +kernel
theorem dX3_readNumber_82 : decode cX3_readNumber 82 = .ok (.getfield 30, 3) := by decide +kernel
theorem dX3_readNumber_85 : decode cX3_readNumber 85 = .ok (.aload_n 0, 1) := by decide +kernel
theorem dX3_readNumber_86 : decode cX3_readNumber 86 = .ok (.getfield 66, 3) := by decide +kernel
theorem dX3_readNumber_89 : decode cX3_readNumber 89 = .ok (.isub, 1) := by decide +kernel
theorem dX3_readNumber_90 : decode cX3_readNumber 90 = .ok (.iconst 2, 1) := by decide +kernel
theorem dX3_readNumber_91 : decode cX3_readNumber 91 = .ok (.if_icmp .gt 7, 3) := by decide +kernel
theorem dX3_readNumber_94 : decode cX3_readNumber 94 = .ok (.iconst 2, 1) := by decide +kernel
theorem dX3_readNumber_95 : decode cX3_readNumber 95 = .ok (.goto 4, 3) := by decide +kernel
theorem dX3_readNumber_98 : decode cX3_readNumber 98 = .ok (.iconst 1, 1) := by decide +kernel
theorem dX3_readNumber_99 : decode cX3_readNumber 99 = .ok (.putfield 36, 3) := by decide +kernel
theorem dX3_readNumber_102 : decode cX3_readNumber 102 = .ok (.return_, 1) := by decide +kernel
theorem dX3_isBlank_0 : decode cX3_isBlank 0 = .ok (.iload_n 0, 1) := by decide +kernel
theorem dX3_isBlank_1 : decode cX3_isBlank 1 = .ok (.bipush 32, 2) := by decide +kernel
theorem dX3_isBlank_3 : decode cX3_isBlank 3 = .ok (.if_icmp .eq 9, 3) := by decide +kernel
theorem dX3_isBlank_6 : decode cX3_isBlank 6 = .ok (.iload_n 0, 1) := by decide +kernel
theorem dX3_isBlank_7 : decode cX3_isBlank 7 = .ok (.bipush 10, 2) := by decide +kernel
theorem dX3_isBlank_9 : decode cX3_isBlank 9 = .ok (.if_icmp .ne 7, 3) := by decide +kernel
theorem dX3_isBlank_12 : decode cX3_isBlank 12 = .ok (.iconst 1, 1) := by decide +kernel
theorem dX3_isBlank_13 : decode cX3_isBlank 13 = .ok (.goto 4, 3) := by decide +kernel
theorem dX3_isBlank_16 : decode cX3_isBlank 16 = .ok (.iconst 0, 1) := by decide +kernel
theorem dX3_isBlank_17 : decode cX3_isBlank 17 = .ok (.ireturn, 1) := by decide +kernel
theorem dX3_isLetter_0 : decode cX3_isLetter 0 = .ok (.iload_n 0, 1) := by decide +kernel
theorem dX3_isLetter_1 : decode cX3_isLetter 1 = .ok (.bipush 97, 2) := by decide +kernel
theorem dX3_isLetter_3 : decode cX3_isLetter 3 = .ok (.if_icmp .lt 9, 3) := by decide +kernel
theorem dX3_isLetter_6 : decode cX3_isLetter 6 = .ok (.iload_n 0, 1) := by decide +kernel
theorem dX3_isLetter_7 : decode cX3_isLetter 7 = .ok (.bipush 122, 2) := by decide +kernel
theorem dX3_isLetter_9 : decode cX3_isLetter 9 = .ok (.if_icmp .le 15, 3) := by decide +kernel
theorem dX3_isLetter_12 : decode cX3_isLetter 12 = .ok (.iload_n 0, 1) := by decide +kernel
theorem dX3_isLetter_13 : decode cX3_isLetter 13 = .ok (.bipush 65, 2) := by decide +kernel
theorem dX3_isLetter_15 : decode cX3_isLetter 15 = .ok (.if_icmp .lt 13, 3) := by decide +kernel
theorem dX3_isLetter_18 : decode cX3_isLetter 18 = .ok (.iload_n 0, 1) := by decide +kernel
theorem dX3_isLetter_19 : decode cX3_isLetter 19 = .ok (.bipush 90, 2) := by decide +kernel
theorem dX3_isLetter_21 : decode cX3_isLetter 21 = .ok (.if_icmp .gt 7, 3) := by decide +kernel
theorem dX3_isLetter_24 : decode cX3_isLetter 24 = .ok (.iconst 1, 1) := by decide +kernel
theorem dX3_isLetter_25 : decode cX3_isLetter 25 = .ok (.goto 4, 3) := by decide +kernel
theorem dX3_isLetter_28 : decode cX3_isLetter 28 = .ok (.iconst 0, 1) := by decide +kernel
theorem dX3_isLetter_29 : decode cX3_isLetter 29 = .ok (.ireturn, 1) := by decide +kernel
theorem dX3_isDigit_0 : decode cX3_isDigit 0 = .ok (.iload_n 0, 1) := by decide +kernel
theorem dX3_isDigit_1 : decode cX3_isDigit 1 = .ok (.bipush 48, 2) := by decide +kernel
theorem dX3_isDigit_3 : decode cX3_isDigit 3 = .ok (.if_icmp .lt 13, 3) := by decide +kernel
theorem dX3_isDigit_6 : decode cX3_isDigit 6 = .ok (.iload_n 0, 1) := by decide +kernel
theorem dX3_isDigit_7 : decode cX3_isDigit 7 = .ok (.bipush 57, 2) := by decide +kernel
theorem dX3_isDigit_9 : decode cX3_isDigit 9 = .ok (.if_icmp .gt 7, 3) := by decide +kernel
theorem dX3_isDigit_12 : decode cX3_isDigit 12 = .ok (.iconst 1, 1) := by decide +kernel
theorem dX3_isDigit_13 : decode cX3_isDigit 13 = .ok (.goto 4, 3) := by decide +kernel
theorem dX3_isDigit_16 : decode cX3_isDigit 16 = .ok (.iconst 0, 1) := by decide +kernel
theorem dX3_isDigit_17 : decode cX3_isDigit 17 = .ok (.ireturn, 1) := by decide +kernel
theorem dX4_init_0 : decode cX4_init 0 = .ok (.aload_n 0, 1) := by decide +kernel
theorem dX4_init_1 : decode cX4_init 1 = .ok (.invokespecial 3, 3) := by decide +kernel
theorem dX4_init_4 : decode cX4_init 4 = .ok (.aload_n 0, 1) := by decide +kernel
theorem dX4_init_5 : decode cX4_init 5 = .ok (.bipush 64, 2) := by decide +kernel
theorem dX4_init_7 : decode cX4_init 7 = .ok (.newarray .int, 2) := by decide +kernel
theorem dX4_init_9 : decode cX4_init 9 = .ok (.putfield 9, 3) := by decide +kernel
theorem dX4_init_12 : decode cX4_init 12 = .ok (.aload_n 0, 1) := by decide +kernel
theorem dX4_init_13 : decode cX4_init 13 = .ok (.bipush 64, 2) := by decide +kernel
theorem dX4_init_15 : decode cX4_init 15 = .ok (.newarray .int, 2) := by decide +kernel
theorem dX4_init_17 : decode cX4_init 17 = .ok (.putfield 15, 3) := by decide +kernel
theorem dX4_init_20 : decode cX4_init 20 = .ok (.aload_n 0, 1) := by decide +kernel
theorem dX4_init_21 : decode cX4_init 21 = .ok (.bipush 6, 2) := by decide +kernel
theorem dX4_init_23 : decode cX4_init 23 = .ok (.newarray .int, 2) := by decide +kernel
theorem dX4_init_25 : decode cX4_init 25 = .ok (.putfield 18, 3) := by decide +kernel
theorem dX4_init_28 : decode cX4_init 28 = .ok (.aload_n 0, 1) := by decide +kernel
theorem dX4_init_29 : decode cX4_init 29 = .ok (.bipush 64, 2) := by decide +kernel
theorem dX4_init_31 : decode cX4_init 31 = .ok (.newarray .int, 2) := by decide +kernel
theorem dX4_init_33 : decode cX4_init 33 = .ok (.putfield 21, 3) := by decide +kernel
theorem dX4_init_36 : decode cX4_init 36 = .ok (.aload_n 0, 1) := by decide +kernel
theorem dX4_init_37 : decode cX4_init 37 = .ok (.bipush 64, 2) := by decide +kernel
theorem dX4_init_39 : decode cX4_init 39 = .ok (.newarray .int, 2) := by decide +kernel
theorem dX4_init_41 : decode cX4_init 41 = .ok (.putfield 24, 3) := by decide +kernel
theorem dX4_init_44 : decode cX4_init 44 = .ok (.aload_n 0, 1) := by decide +kernel
theorem dX4_init_45 : decode cX4_init 45 = .ok (.bipush 25, 2) := by decide +kernel
theorem dX4_init_47 : decode cX4_init 47 = .ok (.newarray .long, 2) := by decide +kernel
theorem dX4_init_49 : decode cX4_init 49 = .ok (.putfield 27, 3) := by decide +kernel
theorem dX4_init_52 : decode cX4_init 52 = .ok (.return_, 1) := by decide +kernel
theorem dX4_lay_0 : decode cX4_lay 0 = .ok (.aload_n 0, 1) := by decide +kernel
theorem dX4_lay_1 : decode cX4_lay 1 = .ok (.iload_n 1, 1) := by decide +kernel
theorem dX4_lay_2 : decode cX4_lay 2 = .ok (.putfield 31, 3) := by decide +kernel
theorem dX4_lay_5 : decode cX4_lay 5 = .ok (.aload_n 0, 1) := by decide +kernel
theorem dX4_lay_6 : decode cX4_lay 6 = .ok (.iload_n 2, 1) := by decide +kernel
theorem dX4_lay_7 : decode cX4_lay 7 = .ok (.putfield 35, 3) := by decide +kernel
theorem dX4_lay_10 : decode cX4_lay 10 = .ok (.aload_n 0, 1) := by decide +kernel
theorem dX4_lay_11 : decode cX4_lay 11 = .ok (.iload_n 1, 1) := by decide +kernel
theorem dX4_lay_12 : decode cX4_lay 12 = .ok (.iload_n 2, 1) := by decide +kernel
theorem dX4_lay_13 : decode cX4_lay 13 = .ok (.imul, 1) := by decide +kernel
theorem dX4_lay_14 : decode cX4_lay 14 = .ok (.putfield 38, 3) := by decide +kernel
theorem dX4_lay_17 : decode cX4_lay 17 = .ok (.aload_n 0, 1) := by decide +kernel
theorem dX4_lay_18 : decode cX4_lay 18 = .ok (.lconst 0, 1) := by decide +kernel
theorem dX4_lay_19 : decode cX4_lay 19 = .ok (.putfield 41, 3) := by decide +kernel
theorem dX4_lay_22 : decode cX4_lay 22 = .ok (.aload_n 0, 1) := by decide +kernel
theorem dX4_lay_23 : decode cX4_lay 23 = .ok (.lconst 0, 1) := by decide +kernel
theorem dX4_lay_24 : decode cX4_lay 24 = .ok (.putfield 45, 3) := by decide +kernel
theorem dX4_lay_27 : decode cX4_lay 27 = .ok (.aload_n 0, 1) := by decide +kernel
theorem dX4_lay_28 : decode cX4_lay 28 = .ok (.iconst 0, 1) := by decide +kernel
theorem dX4_lay_29 : decode cX4_lay 29 = .ok (.putfield 48, 3) := by decide +kernel
theorem dX4_lay_32 : decode cX4_lay 32 = .ok (.aload_n 0, 1) := by decide +kernel
theorem dX4_lay_33 : decode cX4_lay 33 = .ok (.iconst 0, 1) := by decide +kernel
theorem dX4_lay_34 : decode cX4_lay 34 = .ok (.putfield 51, 3) := by decide +kernel
theorem dX4_lay_37 : decode cX4_lay 37 = .ok (.aload_n 0, 1) := by decide +kernel
theorem dX4_lay_38 : decode cX4_lay 38 = .ok (.getfield 9, 3) := by decide +kernel
theorem dX4_lay_41 : decode cX4_lay 41 = .ok (.iconst (-1), 1) := by decide +kernel
theorem dX4_lay_42 : decode cX4_lay 42 = .ok (.invokestatic 54, 3) := by decide +kernel
theorem dX4_lay_45 : decode cX4_lay 45 = .ok (.aload_n 0, 1) := by decide +kernel
theorem dX4_lay_46 : decode cX4_lay 46 = .ok (.getfield 15, 3) := by decide +kernel
theorem dX4_lay_49 : decode cX4_lay 49 = .ok (.iconst 0, 1) := by decide +kernel
theorem dX4_lay_50 : decode cX4_lay 50 = .ok (.invokestatic 54, 3) := by decide +kernel
theorem dX4_lay_53 : decode cX4_lay 53 = .ok (.aload_n 0, 1) := by decide +kernel
theorem dX4_lay_54 : decode cX4_lay 54 = .ok (.getfield 18, 3) := by decide +kernel
theorem dX4_lay_57 : decode cX4_lay 57 = .ok (.bipush 16, 2) := by decide +kernel
theorem dX4_lay_59 : decode cX4_lay 59 = .ok (.invokestatic 54, 3) := by decide +kernel
theorem dX4_lay_62 : decode cX4_lay 62 = .ok (.aload_n 0, 1) := by decide +kernel
theorem dX4_lay_63 : decode cX4_lay 63 = .ok (.invokevirtual 60, 3) := by decide +kernel
theorem dX4_lay_66 : decode cX4_lay 66 = .ok (.aload_n 0, 1) := by decide +kernel
theorem dX4_lay_67 : decode cX4_lay 67 = .ok (.dup, 1) := by decide +kernel
theorem dX4_lay_68 : decode cX4_lay 68 = .ok (.getfield 63, 3) := by decide +kernel
theorem dX4_lay_71 : decode cX4_lay 71 = .ok (.iconst 1, 1) := by decide +kernel
theorem dX4_lay_72 : decode cX4_lay 72 = .ok (.iadd, 1) := by decide +kernel
theorem dX4_lay_73 : decode cX4_lay 73 = .ok (.putfield 63, 3) := by decide +kernel
theorem dX4_lay_76 : decode cX4_lay 76 = .ok (.return_, 1) := by decide +kernel
theorem dX4_layCells_0 : decode cX4_layCells 0 = .ok (.aload_n 0, 1) := by decide +kernel
theorem dX4_layCells_1 : decode cX4_layCells 1 = .ok (.lconst 0, 1) := by decide +kernel
theorem dX4_layCells_2 : decode cX4_layCells 2 = .ok (.putfield 66, 3) := by decide +kernel
theorem dX4_layCells_5 : decode cX4_layCells 5 = .ok (.aload_n 0, 1) := by decide +kernel
theorem dX4_layCells_6 : decode cX4_layCells 6 = .ok (.lconst 0, 1) := by decide +kernel
theorem dX4_layCells_7 : decode cX4_layCells 7 = .ok (.putfield 69, 3) := by decide +kernel
theorem dX4_layCells_10 : decode cX4_layCells 10 = .ok (.aload_n 0, 1) := by decide +kernel
theorem dX4_layCells_11 : decode cX4_layCells 11 = .ok (.lconst 0, 1) := by decide +kernel
theorem dX4_layCells_12 : decode cX4_layCells 12 = .ok (.putfield 72, 3) := by decide +kernel
theorem dX4_layCells_15 : decode cX4_layCells 15 = .ok (.aload_n 0, 1) := by decide +kernel
theorem dX4_layCells_16 : decode cX4_layCells 16 = .ok (.lconst 0, 1) := by decide +kernel
theorem dX4_layCells_17 : decode cX4_layCells 17 = .ok (.putfield 75, 3) := by decide +kernel
theorem dX4_layCells_20 : decode cX4_layCells 20 = .ok (.aload_n 0, 1) := by decide +kernel
theorem dX4_layCells_21 : decode cX4_layCells 21 = .ok (.lconst 0, 1) := by decide +kernel
theorem dX4_layCells_22 : decode cX4_layCells 22 = .ok (.putfield 78, 3) := by decide +kernel
theorem dX4_layCells_25 : decode cX4_layCells 25 = .ok (.iconst 0, 1) := by decide +kernel
theorem dX4_layCells_26 : decode cX4_layCells 26 = .ok (.istore_n 1, 1) := by decide +kernel
theorem dX4_layCells_27 : decode cX4_layCells 27 = .ok (.iload_n 1, 1) := by decide +kernel
theorem dX4_layCells_28 : decode cX4_layCells 28 = .ok (.aload_n 0, 1) := by decide +kernel
theorem dX4_layCells_29 : decode cX4_layCells 29 = .ok (.getfield 35, 3) := by decide +kernel
theorem dX4_layCells_32 : decode cX4_layCells 32 = .ok (.if_icmp .ge 39, 3) := by decide +kernel
theorem dX4_layCells_35 : decode cX4_layCells 35 = .ok (.iconst 0, 1) := by decide +kernel
theorem dX4_layCells_36 : decode cX4_layCells 36 = .ok (.istore_n 2, 1) := by decide +kernel
theorem dX4_layCells_37 : decode cX4_layCells 37 = .ok (.iload_n 2, 1) := by decide +kernel
theorem dX4_layCells_38 : decode cX4_layCells 38 = .ok (.aload_n 0, 1) := by decide +kernel
theorem dX4_layCells_39 : decode cX4_layCells 39 = .ok (.getfield 31, 3) := by decide +kernel
theorem dX4_layCells_42 : decode cX4_layCells 42 = .ok (.if_icmp .ge 23, 3) := by decide +kernel
theorem dX4_layCells_45 : decode cX4_layCells 45 = .ok (.aload_n 0, 1) := by decide +kernel
theorem dX4_layCells_46 : decode cX4_layCells 46 = .ok (.aload_n 0, 1) := by decide +kernel
theorem dX4_layCells_47 : decode cX4_layCells 47 = .ok (.getfield 31, 3) := by decide +kernel
theorem dX4_layCells_50 : decode cX4_layCells 50 = .ok (.iload_n 1, 1) := by decide +kernel
theorem dX4_layCells_51 : decode cX4_layCells 51 = .ok (.imul, 1) := by decide +kernel
theorem dX4_layCells_52 : decode cX4_layCells 52 = .ok (.iload_n 2, 1) := by decide +kernel
theorem dX4_layCells_53 : decode cX4_layCells 53 = .ok (.iadd, 1) := by decide +kernel
theorem dX4_layCells_54 : decode cX4_layCells 54 = .ok (.iload_n 2, 1) := by decide +kernel
theorem dX4_layCells_55 : decode cX4_layCells 55 = .ok (.iload_n 1, 1) := by decide +kernel
theorem dX4_layCells_56 : decode cX4_layCells 56 = .ok (.invokevirtual 81, 3) := by decide +kernel
theorem dX4_layCells_59 : decode cX4_layCells 59 = .ok (.iinc 2 1, 3) := by decide +kernel
theorem dX4_layCells_62 : decode cX4_layCells 62 = .ok (.goto (-25), 3) := by decide +kernel
theorem dX4_layCells_65 : decode cX4_layCells 65 = .ok (.iinc 1 1, 3) := by decide +kernel
theorem dX4_layCells_68 : decode cX4_layCells 68 = .ok (.goto (-41), 3) := by decide +kernel
theorem dX4_layCells_71 : decode cX4_layCells 71 = .ok (.return_, 1) := by decide +kernel
theorem dX4_layCell_0 : decode cX4_layCell 0 = .ok (.iload_n 1, 1) := by decide +kernel
theorem dX4_layCell_1 : decode cX4_layCell 1 = .ok (.ifCond .lt 9, 3) := by decide +kernel
theorem dX4_layCell_4 : decode cX4_layCell 4 = .ok (.iload_n 1, 1) := by decide +kernel
theorem dX4_layCell_5 : decode cX4_layCell 5 = .ok (.bipush 64, 2) := by decide +kernel
theorem dX4_layCell_7 : decode cX4_layCell 7 = .ok (.if_icmp .lt 4, 3) := by decide +kernel
theorem dX4_layCell_10 : decode cX4_layCell 10 = .ok (.return_, 1) := by decide +kernel
theorem dX4_layCell_11 : decode cX4_layCell 11 = .ok (.lconst 1, 1) := by decide +kernel
theorem dX4_layCell_12 : decode cX4_layCell 12 = .ok (.iload_n 1, 1) := by decide +kernel
theorem dX4_layCell_13 : decode cX4_layCell 13 = .ok (.lshl, 1) := by decide +kernel
theorem dX4_layCell_14 : decode cX4_layCell 14 = .ok (.lstore 4, 2) := by decide +kernel
theorem dX4_layCell_16 : decode cX4_layCell 16 = .ok (.aload_n 0, 1) := by decide +kernel
theorem dX4_layCell_17 : decode cX4_layCell 17 = .ok (.getfield 21, 3) := by decide +kernel
theorem dX4_layCell_20 : decode cX4_layCell 20 = .ok (.iload_n 1, 1) := by decide +kernel
theorem dX4_layCell_21 : decode cX4_layCell 21 = .ok (.iload_n 2, 1) := by decide +kernel
theorem dX4_layCell_22 : decode cX4_layCell 22 = .ok (.iastore, 1) := by decide +kernel
theorem dX4_layCell_23 : decode cX4_layCell 23 = .ok (.aload_n 0, 1) := by decide +kernel
theorem dX4_layCell_24 : decode cX4_layCell 24 = .ok (.getfield 24, 3) := by decide +kernel
theorem dX4_layCell_27 : decode cX4_layCell 27 = .ok (.iload_n 1, 1) := by decide +kernel
theorem dX4_layCell_28 : decode cX4_layCell 28 = .ok (.iload_n 3, 1) := by decide +kernel
theorem dX4_layCell_29 : decode cX4_layCell 29 = .ok (.iastore, 1) := by decide +kernel
theorem dX4_layCell_30 : decode cX4_layCell 30 = .ok (.aload_n 0, 1) := by decide +kernel
theorem dX4_layCell_31 : decode cX4_layCell 31 = .ok (.dup, 1) := by decide +kernel
theorem dX4_layCell_32 : decode cX4_layCell 32 = .ok (.getfield 66, 3) := by decide +kernel
theorem dX4_layCell_35 : decode cX4_layCell 35 = .ok (.lload 4, 2) := by decide +kernel
theorem dX4_layCell_37 : decode cX4_layCell 37 = .ok (.lor, 1) := by decide +kernel
theorem dX4_layCell_38 : decode cX4_layCell 38 = .ok (.putfield 66, 3) := by decide +kernel
theorem dX4_layCell_41 : decode cX4_layCell 41 = .ok (.aload_n 0, 1) := by decide +kernel
theorem dX4_layCell_42 : decode cX4_layCell 42 = .ok (.dup, 1) := by decide +kernel
theorem dX4_layCell_43 : decode cX4_layCell 43 = .ok (.getfield 69, 3) := by decide +kernel
theorem dX4_layCell_46 : decode cX4_layCell 46 = .ok (.iload_n 2, 1) := by decide +kernel
theorem dX4_layCell_47 : decode cX4_layCell 47 = .ok (.ifCond .ne 8, 3) := by decide +kernel
theorem dX4_layCell_50 : decode cX4_layCell 50 = .ok (.lload 4, 2) := by decide +kernel
theorem dX4_layCell_52 : decode cX4_layCell 52 = .ok (.goto 4, 3) := by decide +kernel
theorem dX4_layCell_55 : decode cX4_layCell 55 = .ok (.lconst 0, 1) := by decide +kernel
theorem dX4_layCell_56 : decode cX4_layCell 56 = .ok (.lor, 1) := by decide +kernel
theorem dX4_layCell_57 : decode cX4_layCell 57 = .ok (.putfield 69, 3) := by decide +kernel
theorem dX4_layCell_60 : decode cX4_layCell 60 = .ok (.aload_n 0, 1) := by decide +kernel
theorem dX4_layCell_61 : decode cX4_layCell 61 = .ok (.dup, 1) := by decide +kernel
theorem dX4_layCell_62 : decode cX4_layCell 62 = .ok (.getfield 72, 3) := by decide +kernel
theorem dX4_layCell_65 : decode cX4_layCell 65 = .ok (.iload_n 2, 1) := by decide +kernel
theorem dX4_layCell_66 : decode cX4_layCell 66 = .ok (.aload_n 0, 1) := by decide +kernel
theorem dX4_layCell_67 : decode cX4_layCell 67 = .ok (.getfield 31, 3) := by decide +kernel
theorem dX4_layCell_70 : decode cX4_layCell 70 = .ok (.iconst 1, 1) := by decide +kernel
theorem dX4_layCell_71 : decode cX4_layCell 71 = .ok (.isub, 1) := by decide +kernel
theorem dX4_layCell_72 : decode cX4_layCell 72 = .ok (.if_icmp .ne 8, 3) := by decide +kernel
theorem dX4_layCell_75 : decode cX4_layCell 75 = .ok (.lload 4, 2) := by decide +kernel
theorem dX4_layCell_77 : decode cX4_layCell 77 = .ok (.goto 4, 3) := by decide +kernel
theorem dX4_layCell_80 : decode cX4_layCell 80 = .ok (.lconst 0, 1) := by decide +kernel
theorem dX4_layCell_81 : decode cX4_layCell 81 = .ok (.lor, 1) := by decide +kernel
theorem dX4_layCell_82 : decode cX4_layCell 82 = .ok (.putfield 72, 3) := by decide +kernel
theorem dX4_layCell_85 : decode cX4_layCell 85 = .ok (.aload_n 0, 1) := by decide +kernel
theorem dX4_layCell_86 : decode cX4_layCell 86 = .ok (.dup, 1) := by decide +kernel
theorem dX4_layCell_87 : decode cX4_layCell 87 = .ok (.getfield 75, 3) := by decide +kernel
theorem dX4_layCell_90 : decode cX4_layCell 90 = .ok (.iload_n 3, 1) := by decide +kernel
theorem dX4_layCell_91 : decode cX4_layCell 91 = .ok (.ifCond .ne 8, 3) := by decide +kernel
theorem dX4_layCell_94 : decode cX4_layCell 94 = .ok (.lload 4, 2) := by decide +kernel
theorem dX4_layCell_96 : decode cX4_layCell 96 = .ok (.goto 4, 3) := by decide +kernel
theorem dX4_layCell_99 : decode cX4_layCell 99 = .ok (.lconst 0, 1) := by decide +kernel
theorem dX4_layCell_100 : decode cX4_layCell 100 = .ok (.lor, 1) := by decide +kernel
theorem dX4_layCell_101 : decode cX4_layCell 101 = .ok (.putfield 75, 3) := by decide +kernel
theorem dX4_layCell_104 : decode cX4_layCell 104 = .ok (.aload_n 0, 1) := by decide +kernel
theorem dX4_layCell_105 : decode cX4_layCell 105 = .ok (.dup, 1) := by decide +kernel
theorem dX4_layCell_106 : decode cX4_layCell 106 = .ok (.getfield 78, 3) := by decide +kernel
theorem dX4_layCell_109 : decode cX4_layCell 109 = .ok (.iload_n 3, 1) := by decide +kernel
theorem dX4_layCell_110 : decode cX4_layCell 110 = .ok (.aload_n 0, 1) := by decide +kernel
theorem dX4_layCell_111 : decode cX4_layCell 111 = .ok (.getfield 35, 3) := by decide +kernel
theorem dX4_layCell_114 : decode cX4_layCell 114 = .ok (.iconst 1, 1) := by decide +kernel
theorem dX4_layCell_115 : decode cX4_layCell 115 = .ok (.isub, 1) := by decide +kernel
theorem dX4_layCell_116 : decode cX4_layCell 116 = .ok (.if_icmp .ne 8, 3) := by decide +kernel
theorem dX4_layCell_119 : decode cX4_layCell 119 = .ok (.lload 4, 2) := by decide +kernel
theorem dX4_layCell_121 : decode cX4_layCell 121 = .ok (.goto 4, 3) := by decide +kernel
theorem dX4_layCell_124 : decode cX4_layCell 124 = .ok (.lconst 0, 1) := by decide +kernel
theorem dX4_layCell_125 : decode cX4_layCell 125 = .ok (.lor, 1) := by decide +kernel
theorem dX4_layCell_126 : decode cX4_layCell 126 = .ok (.putfield 78, 3) := by decide +kernel
theorem dX4_layCell_129 : decode cX4_layCell 129 = .ok (.return_, 1) := by decide +kernel
theorem dX4_hasCell_0 : decode cX4_hasCell 0 = .ok (.iload_n 1, 1) := by decide +kernel
theorem dX4_hasCell_1 : decode cX4_hasCell 1 = .ok (.ifCond .lt 15, 3) := by decide +kernel
theorem dX4_hasCell_4 : decode cX4_hasCell 4 = .ok (.iload_n 1, 1) := by decide +kernel
theorem dX4_hasCell_5 : decode cX4_hasCell 5 = .ok (.aload_n 0, 1) := by decide +kernel
theorem dX4_hasCell_6 : decode cX4_hasCell 6 = .ok (.getfield 38, 3) := by decide +kernel
theorem dX4_hasCell_9 : decode cX4_hasCell 9 = .ok (.if_icmp .ge 7, 3) := by decide +kernel
theorem dX4_hasCell_12 : decode cX4_hasCell 12 = .ok (.iconst 1, 1) := by decide +kernel
theorem dX4_hasCell_13 : decode cX4_hasCell 13 = .ok (.goto 4, 3) := by decide +kernel
theorem dX4_hasCell_16 : decode cX4_hasCell 16 = .ok (.iconst 0, 1) := by decide +kernel
theorem dX4_hasCell_17 : decode cX4_hasCell 17 = .ok (.ireturn, 1) := by decide +kernel
theorem dX4_setReach_0 : decode cX4_setReach 0 = .ok (.aload_n 0, 1) := by decide +kernel
theorem dX4_setReach_1 : decode cX4_setReach 1 = .ok (.getfield 9, 3) := by decide +kernel
theorem dX4_setReach_4 : decode cX4_setReach 4 = .ok (.iload_n 1, 1) := by decide +kernel
theorem dX4_setReach_5 : decode cX4_setReach 5 = .ok (.iload_n 2, 1) := by decide +kernel
theorem dX4_setReach_6 : decode cX4_setReach 6 = .ok (.iastore, 1) := by decide +kernel
theorem dX4_setReach_7 : decode cX4_setReach 7 = .ok (.aload_n 0, 1) := by decide +kernel
theorem dX4_setReach_8 : decode cX4_setReach 8 = .ok (.aload_n 0, 1) := by decide +kernel
theorem dX4_setReach_9 : decode cX4_setReach 9 = .ok (.getfield 41, 3) := by decide +kernel
theorem dX4_setReach_12 : decode cX4_setReach 12 = .ok (.lconst 1, 1) := by decide +kernel
theorem dX4_setReach_13 : decode cX4_setReach 13 = .ok (.iload_n 1, 1) := by decide +kernel
theorem dX4_setReach_14 : decode cX4_setReach 14 = .ok (.lshl, 1) := by decide +kernel
theorem dX4_setReach_15 : decode cX4_setReach 15 = .ok (.ldc2_w 85, 3) := by decide +kernel
theorem dX4_setReach_18 : decode cX4_setReach 18 = .ok (.lxor, 1) := by decide +kernel
theorem dX4_setReach_19 : decode cX4_setReach 19 = .ok (.land, 1) := by decide +kernel
theorem dX4_setReach_20 : decode cX4_setReach 20 = .ok (.iload_n 2, 1) := by decide +kernel
theorem dX4_setReach_21 : decode cX4_setReach 21 = .ok (.iconst (-1), 1) := by decide +kernel
theorem dX4_setReach_22 : decode cX4_setReach 22 = .ok (.if_icmp .ne 7, 3) := by decide +kernel
theorem dX4_setReach_25 : decode cX4_setReach 25 = .ok (.lconst 0, 1) := by decide +kernel
theorem dX4_setReach_26 : decode cX4_setReach 26 = .ok (.goto 6, 3) := by decide +kernel
theorem dX4_setReach_29 : decode cX4_setReach 29 = .ok (.lconst 1, 1) := by decide +kernel
theorem dX4_setReach_30 : decode cX4_setReach 30 = .ok (.iload_n 1, 1) := by decide +kernel
theorem dX4_setReach_31 : decode cX4_setReach 31 = .ok (.lshl, 1) := by decide +kernel
theorem dX4_setReach_32 : decode cX4_setReach 32 = .ok (.lor, 1) := by decide +kernel
theorem dX4_setReach_33 : decode cX4_setReach 33 = .ok (.putfield 41, 3) := by decide +kernel
theorem dX4_setReach_36 : decode cX4_setReach 36 = .ok (.lconst 0, 1) := by decide +kernel
theorem dX4_setReach_37 : decode cX4_setReach 37 = .ok (.lstore_n 3, 1) := by decide +kernel
theorem dX4_setReach_38 : decode cX4_setReach 38 = .ok (.iconst 3, 1) := by decide +kernel
theorem dX4_setReach_39 : decode cX4_setReach 39 = .ok (.istore 5, 2) := by decide +kernel
theorem dX4_setReach_41 : decode cX4_setReach 41 = .ok (.iload 5, 2) := by decide +kernel
theorem dX4_setReach_43 : decode cX4_setReach 43 = .ok (.ifCond .lt 22, 3) := by decide +kernel
theorem dX4_setReach_46 : decode cX4_setReach 46 = .ok (.aload_n 0, 1) := by decide +kernel
theorem dX4_setReach_47 : decode cX4_setReach 47 = .ok (.lload_n 3, 1) := by decide +kernel
theorem dX4_setReach_48 : decode cX4_setReach 48 = .ok (.invokevirtual 87, 3) := by decide +kernel
theorem dX4_setReach_51 : decode cX4_setReach 51 = .ok (.aload_n 0, 1) := by decide +kernel
theorem dX4_setReach_52 : decode cX4_setReach 52 = .ok (.iload 5, 2) := by decide +kernel
theorem dX4_setReach_54 : decode cX4_setReach 54 = .ok (.invokevirtual 91, 3) := by decide +kernel
theorem dX4_setReach_57 : decode cX4_setReach 57 = .ok (.lor, 1) := by decide +kernel
theorem dX4_setReach_58 : decode cX4_setReach 58 = .ok (.lstore_n 3, 1) := by decide +kernel
theorem dX4_setReach_59 : decode cX4_setReach 59 = .ok (.iinc 5 (-1), 3) := by decide +kernel
theorem dX4_setReach_62 : decode cX4_setReach 62 = .ok (.goto (-21), 3) := by decide +kernel
theorem dX4_setReach_65 : decode cX4_setReach 65 = .ok (.aload_n 0, 1) := by decide +kernel
theorem dX4_setReach_66 : decode cX4_setReach 66 = .ok (.lload_n 3, 1) := by decide +kernel
theorem dX4_setReach_67 : decode cX4_setReach 67 = .ok (.putfield 45, 3) := by decide +kernel
theorem dX4_setReach_70 : decode cX4_setReach 70 = .ok (.aload_n 0, 1) := by decide +kernel
theorem dX4_setReach_71 : decode cX4_setReach 71 = .ok (.dup, 1) := by decide +kernel
theorem dX4_setReach_72 : decode cX4_setReach 72 = .ok (.getfield 63, 3) := by decide +kernel
theorem dX4_setReach_75 : decode cX4_setReach 75 = .ok (.iconst 1, 1) := by decide +kernel
theorem dX4_setReach_76 : decode cX4_setReach 76 = .ok (.iadd, 1) := by decide +kernel
theorem dX4_setReach_77 : decode cX4_setReach 77 = .ok (.putfield 63, 3) := by decide +kernel
theorem dX4_setReach_80 : decode cX4_setReach 80 = .ok (.return_, 1) := by decide +kernel
theorem dX4_landsOfReach_0 : decode cX4_landsOfReach 0 = .ok (.lconst 0, 1) := by decide +kernel
theorem dX4_landsOfReach_1 : decode cX4_landsOfReach 1 = .ok (.lstore_n 2, 1) := by decide +kernel
theorem dX4_landsOfReach_2 : decode cX4_landsOfReach 2 = .ok (.iconst 0, 1) := by decide +kernel
theorem dX4_landsOfReach_3 : decode cX4_landsOfReach 3 = .ok (.istore 4, 2) := by decide +kernel
theorem dX4_landsOfReach_5 : decode cX4_landsOfReach 5 = .ok (.iload 4, 2) := by decide +kernel
theorem dX4_landsOfReach_7 : decode cX4_landsOfReach 7 = .ok (.aload_n 0, 1) := by decide +kernel
theorem dX4_landsOfReach_8 : decode cX4_landsOfReach 8 = .ok (.getfield 38, 3) := by decide +kernel
theorem dX4_landsOfReach_11 : decode cX4_landsOfReach 11 = .ok (.if_icmp .ge 27, 3) := by decide +kernel
theorem dX4_landsOfReach_14 : decode cX4_landsOfReach 14 = .ok (.aload_n 0, 1) := by decide +kernel
theorem dX4_landsOfReach_15 : decode cX4_landsOfReach 15 = .ok (.getfield 9, 3) := by decide +kernel
theorem dX4_landsOfReach_18 : decode cX4_landsOfReach 18 = .ok (.iload 4, 2) := by decide +kernel
theorem dX4_landsOfReach_20 : decode cX4_landsOfReach 20 = .ok (.iaload, 1) := by decide +kernel
theorem dX4_landsOfReach_21 : decode cX4_landsOfReach 21 = .ok (.iload_n 1, 1) := by decide +kernel
theorem dX4_landsOfReach_22 : decode cX4_landsOfReach 22 = .ok (.if_icmp .ne 10, 3) := by decide +kernel
theorem dX4_landsOfReach_25 : decode cX4_landsOfReach 25 = .ok (.lload_n 2, 1) := by decide +kernel
theorem dX4_landsOfReach_26 : decode cX4_landsOfReach 26 = .ok (.lconst 1, 1) := by decide +kernel
theorem dX4_landsOfReach_27 : decode cX4_landsOfReach 27 = .ok (.iload 4, 2) := by decide +kernel
theorem dX4_landsOfReach_29 : decode cX4_landsOfReach 29 = .ok (.lshl, 1) := by decide +kernel
theorem dX4_landsOfReach_30 : decode cX4_landsOfReach 30 = .ok (.lor, 1) := by decide +kernel
theorem dX4_landsOfReach_31 : decode cX4_landsOfReach 31 = .ok (.lstore_n 2, 1) := by decide +kernel
theorem dX4_landsOfReach_32 : decode cX4_landsOfReach 32 = .ok (.iinc 4 1, 3) := by decide +kernel
theorem dX4_landsOfReach_35 : decode cX4_landsOfReach 35 = .ok (.goto (-30), 3) := by decide +kernel
theorem dX4_landsOfReach_38 : decode cX4_landsOfReach 38 = .ok (.lload_n 2, 1) := by decide +kernel
theorem dX4_landsOfReach_39 : decode cX4_landsOfReach 39 = .ok (.lreturn, 1) := by decide +kernel
theorem dX4_grown_0 : decode cX4_grown 0 = .ok (.lload_n 1, 1) := by decide +kernel
theorem dX4_grown_1 : decode cX4_grown 1 = .ok (.aload_n 0, 1) := by decide +kernel
theorem dX4_grown_2 : decode cX4_grown 2 = .ok (.lload_n 1, 1) := by decide +kernel
theorem dX4_grown_3 : decode cX4_grown 3 = .ok (.invokevirtual 95, 3) := by decide +kernel
theorem dX4_grown_6 : decode cX4_grown 6 = .ok (.lor, 1) := by decide +kernel
theorem dX4_grown_7 : decode cX4_grown 7 = .ok (.aload_n 0, 1) := by decide +kernel
theorem dX4_grown_8 : decode cX4_grown 8 = .ok (.lload_n 1, 1) := by decide +kernel
theorem dX4_grown_9 : decode cX4_grown 9 = .ok (.invokevirtual 98, 3) := by decide +kernel
theorem dX4_grown_12 : decode cX4_grown 12 = .ok (.lor, 1) := by decide +kernel
theorem dX4_grown_13 : decode cX4_grown 13 = .ok (.lstore_n 3, 1) := by decide +kernel
theorem dX4_grown_14 : decode cX4_grown 14 = .ok (.lload_n 3, 1) := by decide +kernel
theorem dX4_grown_15 : decode cX4_grown 15 = .ok (.aload_n 0, 1) := by decide +kernel
theorem dX4_grown_16 : decode cX4_grown 16 = .ok (.lload_n 3, 1) := by decide +kernel
theorem dX4_grown_17 : decode cX4_grown 17 = .ok (.invokevirtual 101, 3) := by decide +kernel
theorem dX4_grown_20 : decode cX4_grown 20 = .ok (.lor, 1) := by decide +kernel
theorem dX4_grown_21 : decode cX4_grown 21 = .ok (.aload_n 0, 1) := by decide +kernel
theorem dX4_grown_22 : decode cX4_grown 22 = .ok (.lload_n 3, 1) := by decide +kernel
theorem dX4_grown_23 : decode cX4_grown 23 = .ok (.invokevirtual 104, 3) := by decide +kernel
theorem dX4_grown_26 : decode cX4_grown 26 = .ok (.lor, 1) := by decide +kernel
theorem dX4_grown_27 : decode cX4_grown 27 = .ok (.lreturn, 1) := by decide +kernel
theorem dX4_setSwell_0 : decode cX4_setSwell 0 = .ok (.aload_n 0, 1) := by decide +kernel
theorem dX4_setSwell_1 : decode cX4_setSwell 1 = .ok (.getfield 15, 3) := by decide +kernel
theorem dX4_setSwell_4 : decode cX4_setSwell 4 = .ok (.iload_n 1, 1) := by decide +kernel
theorem dX4_setSwell_5 : decode cX4_setSwell 5 = .ok (.iload_n 2, 1) := by decide +kernel
theorem dX4_setSwell_6 : decode cX4_setSwell 6 = .ok (.iastore, 1) := by decide +kernel
theorem dX4_setSwell_7 : decode cX4_setSwell 7 = .ok (.aload_n 0, 1) := by decide +kernel
theorem dX4_setSwell_8 : decode cX4_setSwell 8 = .ok (.dup, 1) := by decide +kernel
theorem dX4_setSwell_9 : decode cX4_setSwell 9 = .ok (.getfield 63, 3) := by decide +kernel
theorem dX4_setSwell_12 : decode cX4_setSwell 12 = .ok (.iconst 1, 1) := by decide +kernel
theorem dX4_setSwell_13 : decode cX4_setSwell 13 = .ok (.iadd, 1) := by decide +kernel
theorem dX4_setSwell_14 : decode cX4_setSwell 14 = .ok (.putfield 63, 3) := by decide +kernel
theorem dX4_setSwell_17 : decode cX4_setSwell 17 = .ok (.return_, 1) := by decide +kernel
theorem dX4_setDrifts_0 : decode cX4_setDrifts 0 = .ok (.aload_n 0, 1) := by decide +kernel
theorem dX4_setDrifts_1 : decode cX4_setDrifts 1 = .ok (.getfield 18, 3) := by decide +kernel
theorem dX4_setDrifts_4 : decode cX4_setDrifts 4 = .ok (.iload_n 1, 1) := by decide +kernel
theorem dX4_setDrifts_5 : decode cX4_setDrifts 5 = .ok (.iload_n 2, 1) := by decide +kernel
theorem dX4_setDrifts_6 : decode cX4_setDrifts 6 = .ok (.iastore, 1) := by decide +kernel
theorem dX4_setDrifts_7 : decode cX4_setDrifts 7 = .ok (.aload_n 0, 1) := by decide +kernel
theorem dX4_setDrifts_8 : decode cX4_setDrifts 8 = .ok (.dup, 1) := by decide +kernel
theorem dX4_setDrifts_9 : decode cX4_setDrifts 9 = .ok (.getfield 63, 3) := by decide +kernel
theorem dX4_setDrifts_12 : decode cX4_setDrifts 12 = .ok (.iconst 1, 1) := by decide +kernel
theorem dX4_setDrifts_13 : decode cX4_setDrifts 13 = .ok (.iadd, 1) := by decide +kernel
theorem dX4_setDrifts_14 : decode cX4_setDrifts 14 = .ok (.putfield 63, 3) := by decide +kernel
theorem dX4_setDrifts_17 : decode cX4_setDrifts 17 = .ok (.return_, 1) := by decide +kernel
theorem dX4_setWatches_0 : decode cX4_setWatches 0 = .ok (.aload_n 0, 1) := by decide +kernel
theorem dX4_setWatches_1 : decode cX4_setWatches 1 = .ok (.iload_n 1, 1) := by decide +kernel
theorem dX4_setWatches_2 : decode cX4_setWatches 2 = .ok (.putfield 48, 3) := by decide +kernel
theorem dX4_setWatches_5 : decode cX4_setWatches 5 = .ok (.aload_n 0, 1) := by decide +kernel
theorem dX4_setWatches_6 : decode cX4_setWatches 6 = .ok (.iload_n 2, 1) := by decide +kernel
theorem dX4_setWatches_7 : decode cX4_setWatches 7 = .ok (.putfield 51, 3) := by decide +kernel
theorem dX4_setWatches_10 : decode cX4_setWatches 10 = .ok (.aload_n 0, 1) := by decide +kernel
theorem dX4_setWatches_11 : decode cX4_setWatches 11 = .ok (.dup, 1) := by decide +kernel
theorem dX4_setWatches_12 : decode cX4_setWatches 12 = .ok (.getfield 63, 3) := by decide +kernel
theorem dX4_setWatches_15 : decode cX4_setWatches 15 = .ok (.iconst 1, 1) := by decide +kernel
theorem dX4_setWatches_16 : decode cX4_setWatches 16 = .ok (.iadd, 1) := by decide +kernel
theorem dX4_setWatches_17 : decode cX4_setWatches 17 = .ok (.putfield 63, 3) := by decide +kernel
theorem dX4_setWatches_20 : decode cX4_setWatches 20 = .ok (.return_, 1) := by decide +kernel
theorem dX4_driftsBy_0 : decode cX4_driftsBy 0 = .ok (.aload_n 0, 1) := by decide +kernel
theorem dX4_driftsBy_1 : decode cX4_driftsBy 1 = .ok (.getfield 18, 3) := by decide +kernel
theorem dX4_driftsBy_4 : decode cX4_driftsBy 4 = .ok (.iload_n 1, 1) := by decide +kernel
theorem dX4_driftsBy_5 : decode cX4_driftsBy 5 = .ok (.iaload, 1) := by decide +kernel
theorem dX4_driftsBy_6 : decode cX4_driftsBy 6 = .ok (.i2l, 1) := by decide +kernel
theorem dX4_driftsBy_7 : decode cX4_driftsBy 7 = .ok (.iload_n 2, 1) := by decide +kernel
theorem dX4_driftsBy_8 : decode cX4_driftsBy 8 = .ok (.invokestatic 107, 3) := by decide +kernel
theorem dX4_driftsBy_11 : decode cX4_driftsBy 11 = .ok (.ireturn, 1) := by decide +kernel
theorem dX4_isAllLand_0 : decode cX4_isAllLand 0 = .ok (.lload_n 1, 1) := by decide +kernel
theorem dX4_isAllLand_1 : decode cX4_isAllLand 1 = .ok (.aload_n 0, 1) := by decide +kernel
theorem dX4_isAllLand_2 : decode cX4_isAllLand 2 = .ok (.getfield 41, 3) := by decide +kernel
theorem dX4_isAllLand_5 : decode cX4_isAllLand 5 = .ok (.ldc2_w 85, 3) := by decide +kernel
theorem dX4_isAllLand_8 : decode cX4_isAllLand 8 = .ok (.lxor, 1) := by decide +kernel
theorem dX4_isAllLand_9 : decode cX4_isAllLand 9 = .ok (.land, 1) := by decide +kernel
theorem dX4_isAllLand_10 : decode cX4_isAllLand 10 = .ok (.lconst 0, 1) := by decide +kernel
theorem dX4_isAllLand_11 : decode cX4_isAllLand 11 = .ok (.lcmp, 1) := by decide +kernel
theorem dX4_isAllLand_12 : decode cX4_isAllLand 12 = .ok (.ifCond .ne 7, 3) := by decide +kernel
theorem dX4_isAllLand_15 : decode cX4_isAllLand 15 = .ok (.iconst 1, 1) := by decide +kernel
theorem dX4_isAllLand_16 : decode cX4_isAllLand 16 = .ok (.goto 4, 3) := by decide +kernel
theorem dX4_isAllLand_19 : decode cX4_isAllLand 19 = .ok (.iconst 0, 1) := by decide +kernel
theorem dX4_isAllLand_20 : decode cX4_isAllLand 20 = .ok (.ireturn, 1) := by decide +kernel
theorem dX4_signAt_0 : decode cX4_signAt 0 = .ok (.iload_n 3, 1) := by decide +kernel
theorem dX4_signAt_1 : decode cX4_signAt 1 = .ok (.ifCond .ne 10, 3) := by decide +kernel
theorem dX4_signAt_4 : decode cX4_signAt 4 = .ok (.aload_n 0, 1) := by decide +kernel
theorem dX4_signAt_5 : decode cX4_signAt 5 = .ok (.getfield 15, 3) := by decide +kernel
theorem dX4_signAt_8 : decode cX4_signAt 8 = .ok (.iload_n 1, 1) := by decide +kernel
theorem dX4_signAt_9 : decode cX4_signAt 9 = .ok (.iaload, 1) := by decide +kernel
theorem dX4_signAt_10 : decode cX4_signAt 10 = .ok (.ireturn, 1) := by decide +kernel
theorem dX4_signAt_11 : decode cX4_signAt 11 = .ok (.iload_n 3, 1) := by decide +kernel
theorem dX4_signAt_12 : decode cX4_signAt 12 = .ok (.iconst 1, 1) := by decide +kernel
theorem dX4_signAt_13 : decode cX4_signAt 13 = .ok (.if_icmp .ne 28, 3) := by decide +kernel
theorem dX4_signAt_16 : decode cX4_signAt 16 = .ok (.aload_n 0, 1) := by decide +kernel
theorem dX4_signAt_17 : decode cX4_signAt 17 = .ok (.getfield 48, 3) := by decide +kernel
theorem dX4_signAt_20 : decode cX4_signAt 20 = .ok (.i2l, 1) := by decide +kernel
theorem dX4_signAt_21 : decode cX4_signAt 21 = .ok (.iload_n 2, 1) := by decide +kernel
theorem dX4_signAt_22 : decode cX4_signAt 22 = .ok (.invokestatic 107, 3) := by decide +kernel
theorem dX4_signAt_25 : decode cX4_signAt 25 = .ok (.ifCond .eq 14, 3) := by decide +kernel
theorem dX4_signAt_28 : decode cX4_signAt 28 = .ok (.aload_n 0, 1) := by decide +kernel
theorem dX4_signAt_29 : decode cX4_signAt 29 = .ok (.getfield 24, 3) := by decide +kernel
theorem dX4_signAt_32 : decode cX4_signAt 32 = .ok (.iload_n 1, 1) := by decide +kernel
theorem dX4_signAt_33 : decode cX4_signAt 33 = .ok (.iaload, 1) := by decide +kernel
theorem dX4_signAt_34 : decode cX4_signAt 34 = .ok (.iconst 2, 1) := by decide +kernel
theorem dX4_signAt_35 : decode cX4_signAt 35 = .ok (.idiv, 1) := by decide +kernel
theorem dX4_signAt_36 : decode cX4_signAt 36 = .ok (.goto 4, 3) := by decide +kernel
theorem dX4_signAt_39 : decode cX4_signAt 39 = .ok (.iconst (-1), 1) := by decide +kernel
theorem dX4_signAt_40 : decode cX4_signAt 40 = .ok (.ireturn, 1) := by decide +kernel
theorem dX4_signAt_41 : decode cX4_signAt 41 = .ok (.aload_n 0, 1) := by decide +kernel
theorem dX4_signAt_42 : decode cX4_signAt 42 = .ok (.getfield 51, 3) := by decide +kernel
theorem dX4_signAt_45 : decode cX4_signAt 45 = .ok (.i2l, 1) := by decide +kernel
theorem dX4_signAt_46 : decode cX4_signAt 46 = .ok (.iload_n 2, 1) := by decide +kernel
theorem dX4_signAt_47 : decode cX4_signAt 47 = .ok (.invokestatic 107, 3) := by decide +kernel
theorem dX4_signAt_50 : decode cX4_signAt 50 = .ok (.ifCond .eq 18, 3) := by decide +kernel
theorem dX4_signAt_53 : decode cX4_signAt 53 = .ok (.aload_n 0, 1) := by decide +kernel
theorem dX4_signAt_54 : decode cX4_signAt 54 = .ok (.getfield 45, 3) := by decide +kernel
theorem dX4_signAt_57 : decode cX4_signAt 57 = .ok (.iload_n 1, 1) := by decide +kernel
theorem dX4_signAt_58 : decode cX4_signAt 58 = .ok (.invokestatic 107, 3) := by decide +kernel
theorem dX4_signAt_61 : decode cX4_signAt 61 = .ok (.ifCond .eq 7, 3) := by decide +kernel
theorem dX4_signAt_64 : decode cX4_signAt 64 = .ok (.iconst 1, 1) := by decide +kernel
theorem dX4_signAt_65 : decode cX4_signAt 65 = .ok (.goto 4, 3) := by decide +kernel
theorem dX4_signAt_68 : decode cX4_signAt 68 = .ok (.iconst 0, 1) := by decide +kernel
theorem dX4_signAt_69 : decode cX4_signAt 69 = .ok (.ireturn, 1) := by decide +kernel
theorem dX4_having_0 : decode cX4_having 0 = .ok (.lconst 0, 1) := by decide +kernel
theorem dX4_having_1 : decode cX4_having 1 = .ok (.lstore 4, 2) := by decide +kernel
theorem dX4_having_3 : decode cX4_having 3 = .ok (.iconst 0, 1) := by decide +kernel
theorem dX4_having_4 : decode cX4_having 4 = .ok (.istore 6, 2) := by decide +kernel
theorem dX4_having_6 : decode cX4_having 6 = .ok (.iload 6, 2) := by decide +kernel
theorem dX4_having_8 : decode cX4_having 8 = .ok (.aload_n 0, 1) := by decide +kernel
theorem dX4_having_9 : decode cX4_having 9 = .ok (.getfield 38, 3) := by decide +kernel
theorem dX4_having_12 : decode cX4_having 12 = .ok (.if_icmp .ge 30, 3) := by decide +kernel
theorem dX4_having_15 : decode cX4_having 15 = .ok (.aload_n 0, 1) := by decide +kernel
theorem dX4_having_16 : decode cX4_having 16 = .ok (.iload 6, 2) := by decide +kernel
theorem dX4_having_18 : decode cX4_having 18 = .ok (.iload_n 3, 1) := by decide +kernel
theorem dX4_having_19 : decode cX4_having 19 = .ok (.iload_n 1, 1) := by decide +kernel
theorem dX4_having_20 : decode cX4_having 20 = .ok (.invokevirtual 111, 3) := by decide +kernel
theorem dX4_having_23 : decode cX4_having 23 = .ok (.iload_n 2, 1) := by decide +kernel
theorem dX4_having_24 : decode cX4_having 24 = .ok (.if_icmp .ne 12, 3) := by decide +kernel
theorem dX4_having_27 : decode cX4_having 27 = .ok (.lload 4, 2) := by decide +kernel
theorem dX4_having_29 : decode cX4_having 29 = .ok (.lconst 1, 1) := by decide +kernel
theorem dX4_having_30 : decode cX4_having 30 = .ok (.iload 6, 2) := by decide +kernel
theorem dX4_having_32 : decode cX4_having 32 = .ok (.lshl, 1) := by decide +kernel
theorem dX4_having_33 : decode cX4_having 33 = .ok (.lor, 1) := by decide +kernel
theorem dX4_having_34 : decode cX4_having 34 = .ok (.lstore 4, 2) := by decide +kernel
theorem dX4_having_36 : decode cX4_having 36 = .ok (.iinc 6 1, 3) := by decide +kernel
theorem dX4_having_39 : decode cX4_having 39 = .ok (.goto (-33), 3) := by decide +kernel
theorem dX4_having_42 : decode cX4_having 42 = .ok (.lload 4, 2) := by decide +kernel
theorem dX4_having_44 : decode cX4_having 44 = .ok (.lreturn, 1) := by decide +kernel
theorem dX4_target_0 : decode cX4_target 0 = .ok (.aload_n 0, 1) := by decide +kernel
theorem dX4_target_1 : decode cX4_target 1 = .ok (.getfield 21, 3) := by decide +kernel
theorem dX4_target_4 : decode cX4_target 4 = .ok (.iload_n 1, 1) := by decide +kernel
theorem dX4_target_5 : decode cX4_target 5 = .ok (.iaload, 1) := by decide +kernel
theorem dX4_target_6 : decode cX4_target 6 = .ok (.iload_n 2, 1) := by decide +kernel
theorem dX4_target_7 : decode cX4_target 7 = .ok (.invokestatic 115, 3) := by decide +kernel
theorem dX4_target_10 : decode cX4_target 10 = .ok (.iadd, 1) := by decide +kernel
theorem dX4_target_11 : decode cX4_target 11 = .ok (.iload_n 3, 1) := by decide +kernel
theorem dX4_target_12 : decode cX4_target 12 = .ok (.invokestatic 115, 3) := by decide +kernel
theorem dX4_target_15 : decode cX4_target 15 = .ok (.iadd, 1) := by decide +kernel
theorem dX4_target_16 : decode cX4_target 16 = .ok (.istore 4, 2) := by decide +kernel
theorem dX4_target_18 : decode cX4_target 18 = .ok (.aload_n 0, 1) := by decide +kernel
theorem dX4_target_19 : decode cX4_target 19 = .ok (.getfield 24, 3) := by decide +kernel
theorem dX4_target_22 : decode cX4_target 22 = .ok (.iload_n 1, 1) := by decide +kernel
theorem dX4_target_23 : decode cX4_target 23 = .ok (.iaload, 1) := by decide +kernel
theorem dX4_target_24 : decode cX4_target 24 = .ok (.iload_n 2, 1) := by decide +kernel
theorem dX4_target_25 : decode cX4_target 25 = .ok (.invokestatic 119, 3) := by decide +kernel
theorem dX4_target_28 : decode cX4_target 28 = .ok (.iadd, 1) := by decide +kernel
theorem dX4_target_29 : decode cX4_target 29 = .ok (.iload_n 3, 1) := by decide +kernel
theorem dX4_target_30 : decode cX4_target 30 = .ok (.invokestatic 119, 3) := by decide +kernel
theorem dX4_target_33 : decode cX4_target 33 = .ok (.iadd, 1) := by decide +kernel
theorem dX4_target_34 : decode cX4_target 34 = .ok (.istore 5, 2) := by decide +kernel
theorem dX4_target_36 : decode cX4_target 36 = .ok (.aload_n 0, 1) := by decide +kernel
theorem dX4_target_37 : decode cX4_target 37 = .ok (.getfield 31, 3) := by decide +kernel
theorem dX4_target_40 : decode cX4_target 40 = .ok (.iload 5, 2) := by decide +kernel
theorem dX4_target_42 : decode cX4_target 42 = .ok (.aload_n 0, 1) := by decide +kernel
theorem dX4_target_43 : decode cX4_target 43 = .ok (.getfield 35, 3) := by decide +kernel
theorem dX4_target_46 : decode cX4_target 46 = .ok (.iconst 1, 1) := by decide +kernel
theorem dX4_target_47 : decode cX4_target 47 = .ok (.isub, 1) := by decide +kernel
theorem dX4_target_48 : decode cX4_target 48 = .ok (.invokestatic 122, 3) := by decide +kernel
theorem dX4_target_51 : decode cX4_target 51 = .ok (.imul, 1) := by decide +kernel
theorem dX4_target_52 : decode cX4_target 52 = .ok (.iload 4, 2) := by decide +kernel
theorem dX4_target_54 : decode cX4_target 54 = .ok (.aload_n 0, 1) := by decide +kernel
theorem dX4_target_55 : decode cX4_target 55 = .ok (.getfield 31, 3) := by decide +kernel
theorem dX4_target_58 : decode cX4_target 58 = .ok (.iconst 1, 1) := by decide +kernel
theorem dX4_target_59 : decode cX4_target 59 = .ok (.isub, 1) := by decide +kernel
theorem dX4_target_60 : decode cX4_target 60 = .ok (.invokestatic 122, 3) := by decide +kernel
theorem dX4_target_63 : decode cX4_target 63 = .ok (.iadd, 1) := by decide +kernel
theorem dX4_target_64 : decode cX4_target 64 = .ok (.ireturn, 1) := by decide +kernel
theorem dX4_eastward_0 : decode cX4_eastward 0 = .ok (.iload_n 0, 1) := by decide +kernel
theorem dX4_eastward_1 : decode cX4_eastward 1 = .ok (.iconst 3, 1) := by decide +kernel
theorem dX4_eastward_2 : decode cX4_eastward 2 = .ok (.irem, 1) := by decide +kernel
theorem dX4_eastward_3 : decode cX4_eastward 3 = .ok (.iconst 1, 1) := by decide +kernel
theorem dX4_eastward_4 : decode cX4_eastward 4 = .ok (.isub, 1) := by decide +kernel
theorem dX4_eastward_5 : decode cX4_eastward 5 = .ok (.ireturn, 1) := by decide +kernel
theorem dX4_southward_0 : decode cX4_southward 0 = .ok (.iload_n 0, 1) := by decide +kernel
theorem dX4_southward_1 : decode cX4_southward 1 = .ok (.iconst 3, 1) := by decide +kernel
theorem dX4_southward_2 : decode cX4_southward 2 = .ok (.idiv, 1) := by decide +kernel
theorem dX4_southward_3 : decode cX4_southward 3 = .ok (.iconst 1, 1) := by decide +kernel
theorem dX4_southward_4 : decode cX4_southward 4 = .ok (.isub, 1) := by decide +kernel
theorem dX4_southward_5 : decode cX4_southward 5 = .ok (.ireturn, 1) := by decide +kernel
theorem dX4_clamped_0 : decode cX4_clamped 0 = .ok (.iconst 0, 1) := by decide +kernel
theorem dX4_clamped_1 : decode cX4_clamped 1 = .ok (.iload_n 0, 1) := by decide +kernel
theorem dX4_clamped_2 : decode cX4_clamped 2 = .ok (.iload_n 1, 1) := by decide +kernel
theorem dX4_clamped_3 : decode cX4_clamped 3 = .ok (.invokestatic 126, 3) := by decide +kernel
theorem dX4_clamped_6 : decode cX4_clamped 6 = .ok (.invokestatic 131, 3) := by decide +kernel
theorem dX4_clamped_9 : decode cX4_clamped 9 = .ok (.ireturn, 1) := by decide +kernel
theorem dX4_spread_0 : decode cX4_spread 0 = .ok (.lload_n 1, 1) := by decide +kernel
theorem dX4_spread_1 : decode cX4_spread 1 = .ok (.aload_n 0, 1) := by decide +kernel
theorem dX4_spread_2 : decode cX4_spread 2 = .ok (.getfield 41, 3) := by decide +kernel
theorem dX4_spread_5 : decode cX4_spread 5 = .ok (.ldc2_w 85, 3) := by decide +kernel
theorem dX4_spread_8 : decode cX4_spread 8 = .ok (.lxor, 1) := by decide +kernel
theorem dX4_spread_9 : decode cX4_spread 9 = .ok (.land, 1) := by decide +kernel
theorem dX4_spread_10 : decode cX4_spread 10 = .ok (.lstore_n 3, 1) := by decide +kernel
theorem dX4_spread_11 : decode cX4_spread 11 = .ok (.aload_n 0, 1) := by decide +kernel
theorem dX4_spread_12 : decode cX4_spread 12 = .ok (.lload_n 1, 1) := by decide +kernel
theorem dX4_spread_13 : decode cX4_spread 13 = .ok (.aload_n 0, 1) := by decide +kernel
theorem dX4_spread_14 : decode cX4_spread 14 = .ok (.getfield 41, 3) := by decide +kernel
theorem dX4_spread_17 : decode cX4_spread 17 = .ok (.land, 1) := by decide +kernel
theorem dX4_spread_18 : decode cX4_spread 18 = .ok (.putfield 134, 3) := by decide +kernel
theorem dX4_spread_21 : decode cX4_spread 21 = .ok (.aload_n 0, 1) := by decide +kernel
theorem dX4_spread_22 : decode cX4_spread 22 = .ok (.lload_n 3, 1) := by decide +kernel
theorem dX4_spread_23 : decode cX4_spread 23 = .ok (.invokevirtual 101, 3) := by decide +kernel
theorem dX4_spread_26 : decode cX4_spread 26 = .ok (.lstore 5, 2) := by decide +kernel
theorem dX4_spread_28 : decode cX4_spread 28 = .ok (.aload_n 0, 1) := by decide +kernel
theorem dX4_spread_29 : decode cX4_spread 29 = .ok (.lload_n 3, 1) := by decide +kernel
theorem dX4_spread_30 : decode cX4_spread 30 = .ok (.invokevirtual 104, 3) := by decide +kernel
theorem dX4_spread_33 : decode cX4_spread 33 = .ok (.lstore 7, 2) := by decide +kernel
theorem dX4_spread_35 : decode cX4_spread 35 = .ok (.aload_n 0, 1) := by decide +kernel
theorem dX4_spread_36 : decode cX4_spread 36 = .ok (.iconst 0, 1) := by decide +kernel
theorem dX4_spread_37 : decode cX4_spread 37 = .ok (.aload_n 0, 1) := by decide +kernel
theorem dX4_spread_38 : decode cX4_spread 38 = .ok (.lload 5, 2) := by decide +kernel
theorem dX4_spread_40 : decode cX4_spread 40 = .ok (.invokevirtual 101, 3) := by decide +kernel
theorem dX4_spread_43 : decode cX4_spread 43 = .ok (.invokevirtual 137, 3) := by decide +kernel
theorem dX4_spread_46 : decode cX4_spread 46 = .ok (.aload_n 0, 1) := by decide +kernel
theorem dX4_spread_47 : decode cX4_spread 47 = .ok (.iconst 1, 1) := by decide +kernel
theorem dX4_spread_48 : decode cX4_spread 48 = .ok (.lload 5, 2) := by decide +kernel
theorem dX4_spread_50 : decode cX4_spread 50 = .ok (.invokevirtual 137, 3) := by decide +kernel
theorem dX4_spread_53 : decode cX4_spread 53 = .ok (.aload_n 0, 1) := by decide +kernel
theorem dX4_spread_54 : decode cX4_spread 54 = .ok (.iconst 2, 1) := by decide +kernel
theorem dX4_spread_55 : decode cX4_spread 55 = .ok (.lload_n 3, 1) := by decide +kernel
theorem dX4_spread_56 : decode cX4_spread 56 = .ok (.invokevirtual 137, 3) := by decide +kernel
theorem dX4_spread_59 : decode cX4_spread 59 = .ok (.aload_n 0, 1) := by decide +kernel
theorem dX4_spread_60 : decode cX4_spread 60 = .ok (.iconst 3, 1) := by decide +kernel
theorem dX4_spread_61 : decode cX4_spread 61 = .ok (.lload 7, 2) := by decide +kernel
theorem dX4_spread_63 : decode cX4_spread 63 = .ok (.invokevirtual 137, 3) := by decide +kernel
theorem dX4_spread_66 : decode cX4_spread 66 = .ok (.aload_n 0, 1) := by decide +kernel
theorem dX4_spread_67 : decode cX4_spread 67 = .ok (.iconst 4, 1) := by decide +kernel
theorem dX4_spread_68 : decode cX4_spread 68 = .ok (.aload_n 0, 1) := by decide +kernel
theorem dX4_spread_69 : decode cX4_spread 69 = .ok (.lload 7, 2) := by decide +kernel
theorem dX4_spread_71 : decode cX4_spread 71 = .ok (.invokevirtual 104, 3) := by decide +kernel
theorem dX4_spread_74 : decode cX4_spread 74 = .ok (.invokevirtual 137, 3) := by decide +kernel
theorem dX4_spread_77 : decode cX4_spread 77 = .ok (.return_, 1) := by decide +kernel
theorem dX4_spreadRow_0 : decode cX4_spreadRow 0 = .ok (.iconst 5, 1) := by decide +kernel
theorem dX4_spreadRow_1 : decode cX4_spreadRow 1 = .ok (.iload_n 1, 1) := by decide +kernel
theorem dX4_spreadRow_2 : decode cX4_spreadRow 2 = .ok (.imul, 1) := by decide +kernel
theorem dX4_spreadRow_3 : decode cX4_spreadRow 3 = .ok (.istore 4, 2) := by decide +kernel
theorem dX4_spreadRow_5 : decode cX4_spreadRow 5 = .ok (.aload_n 0, 1) := by decide +kernel
theorem dX4_spreadRow_6 : decode cX4_spreadRow 6 = .ok (.lload_n 2, 1) := by decide +kernel
theorem dX4_spreadRow_7 : decode cX4_spreadRow 7 = .ok (.invokevirtual 95, 3) := by decide +kernel
theorem dX4_spreadRow_10 : decode cX4_spreadRow 10 = .ok (.lstore 5, 2) := by decide +kernel
theorem dX4_spreadRow_12 : decode cX4_spreadRow 12 = .ok (.aload_n 0, 1) := by decide +kernel
theorem dX4_spreadRow_13 : decode cX4_spreadRow 13 = .ok (.lload_n 2, 1) := by decide +kernel
theorem dX4_spreadRow_14 : decode cX4_spreadRow 14 = .ok (.invokevirtual 98, 3) := by decide +kernel
theorem dX4_spreadRow_17 : decode cX4_spreadRow 17 = .ok (.lstore 7, 2) := by decide +kernel
theorem dX4_spreadRow_19 : decode cX4_spreadRow 19 = .ok (.aload_n 0, 1) := by decide +kernel
theorem dX4_spreadRow_20 : decode cX4_spreadRow 20 = .ok (.getfield 27, 3) := by decide +kernel
theorem dX4_spreadRow_23 : decode cX4_spreadRow 23 = .ok (.iload 4, 2) := by decide +kernel
theorem dX4_spreadRow_25 : decode cX4_spreadRow 25 = .ok (.aload_n 0, 1) := by decide +kernel
theorem dX4_spreadRow_26 : decode cX4_spreadRow 26 = .ok (.lload 5, 2) := by decide +kernel
theorem dX4_spreadRow_28 : decode cX4_spreadRow 28 = .ok (.invokevirtual 95, 3) := by decide +kernel
theorem dX4_spreadRow_31 : decode cX4_spreadRow 31 = .ok (.lastore, 1) := by decide +kernel
theorem dX4_spreadRow_32 : decode cX4_spreadRow 32 = .ok (.aload_n 0, 1) := by decide +kernel
theorem dX4_spreadRow_33 : decode cX4_spreadRow 33 = .ok (.getfield 27, 3) := by decide +kernel
theorem dX4_spreadRow_36 : decode cX4_spreadRow 36 = .ok (.iload 4, 2) := by decide +kernel
theorem dX4_spreadRow_38 : decode cX4_spreadRow 38 = .ok (.iconst 1, 1) := by decide +kernel
theorem dX4_spreadRow_39 : decode cX4_spreadRow 39 = .ok (.iadd, 1) := by decide +kernel
theorem dX4_spreadRow_40 : decode cX4_spreadRow 40 = .ok (.lload 5, 2) := by decide +kernel
theorem dX4_spreadRow_42 : decode cX4_spreadRow 42 = .ok (.lastore, 1) := by decide +kernel
theorem dX4_spreadRow_43 : decode cX4_spreadRow 43 = .ok (.aload_n 0, 1) := by decide +kernel
theorem dX4_spreadRow_44 : decode cX4_spreadRow 44 = .ok (.getfield 27, 3) := by decide +kernel
theorem dX4_spreadRow_47 : decode cX4_spreadRow 47 = .ok (.iload 4, 2) := by decide +kernel
theorem dX4_spreadRow_49 : decode cX4_spreadRow 49 = .ok (.iconst 2, 1) := by decide +kernel
theorem dX4_spreadRow_50 : decode cX4_spreadRow 50 = .ok (.iadd, 1) := by decide +kernel
theorem dX4_spreadRow_51 : decode cX4_spreadRow 51 = .ok (.lload_n 2, 1) := by decide +kernel
theorem dX4_spreadRow_52 : decode cX4_spreadRow 52 = .ok (.lastore, 1) := by decide +kernel
theorem dX4_spreadRow_53 : decode cX4_spreadRow 53 = .ok (.aload_n 0, 1) := by decide +kernel
theorem dX4_spreadRow_54 : decode cX4_spreadRow 54 = .ok (.getfield 27, 3) := by decide +kernel
theorem dX4_spreadRow_57 : decode cX4_spreadRow 57 = .ok (.iload 4, 2) := by decide +kernel
theorem dX4_spreadRow_59 : decode cX4_spreadRow 59 = .ok (.iconst 3, 1) := by decide +kernel
theorem dX4_spreadRow_60 : decode cX4_spreadRow 60 = .ok (.iadd, 1) := by decide +kernel
theorem dX4_spreadRow_61 : decode cX4_spreadRow 61 = .ok (.lload 7, 2) := by decide +kernel
theorem dX4_spreadRow_63 : decode cX4_spreadRow 63 = .ok (.lastore, 1) := by decide +kernel
theorem dX4_spreadRow_64 : decode cX4_spreadRow 64 = .ok (.aload_n 0, 1) := by decide +kernel
theorem dX4_spreadRow_65 : decode cX4_spreadRow 65 = .ok (.getfield 27, 3) := by decide +kernel
theorem dX4_spreadRow_68 : decode cX4_spreadRow 68 = .ok (.iload 4, 2) := by decide +kernel
theorem dX4_spreadRow_70 : decode cX4_spreadRow 70 = .ok (.iconst 4, 1) := by decide +kernel
theorem dX4_spreadRow_71 : decode cX4_spreadRow 71 = .ok (.iadd, 1) := by decide +kernel
theorem dX4_spreadRow_72 : decode cX4_spreadRow 72 = .ok (.aload_n 0, 1) := by decide +kernel
theorem dX4_spreadRow_73 : decode cX4_spreadRow 73 = .ok (.lload 7, 2) := by decide +kernel
theorem dX4_spreadRow_75 : decode cX4_spreadRow 75 = .ok (.invokevirtual 98, 3) := by decide +kernel
theorem dX4_spreadRow_78 : decode cX4_spreadRow 78 = .ok (.lastore, 1) := by decide +kernel
theorem dX4_spreadRow_79 : decode cX4_spreadRow 79 = .ok (.return_, 1) := by decide +kernel
theorem dX4_spreadBy_0 : decode cX4_spreadBy 0 = .ok (.aload_n 0, 1) := by decide +kernel
theorem dX4_spreadBy_1 : decode cX4_spreadBy 1 = .ok (.getfield 134, 3) := by decide +kernel
theorem dX4_spreadBy_4 : decode cX4_spreadBy 4 = .ok (.lstore_n 3, 1) := by decide +kernel
theorem dX4_spreadBy_5 : decode cX4_spreadBy 5 = .ok (.iload_n 1, 1) := by decide +kernel
theorem dX4_spreadBy_6 : decode cX4_spreadBy 6 = .ok (.invokestatic 141, 3) := by decide +kernel
theorem dX4_spreadBy_9 : decode cX4_spreadBy 9 = .ok (.istore 5, 2) := by decide +kernel
theorem dX4_spreadBy_11 : decode cX4_spreadBy 11 = .ok (.iconst 0, 1) := by decide +kernel
theorem dX4_spreadBy_12 : decode cX4_spreadBy 12 = .ok (.istore 6, 2) := by decide +kernel
theorem dX4_spreadBy_14 : decode cX4_spreadBy 14 = .ok (.iload 6, 2) := by decide +kernel
theorem dX4_spreadBy_16 : decode cX4_spreadBy 16 = .ok (.bipush 9, 2) := by decide +kernel
theorem dX4_spreadBy_18 : decode cX4_spreadBy 18 = .ok (.if_icmp .ge 35, 3) := by decide +kernel
theorem dX4_spreadBy_21 : decode cX4_spreadBy 21 = .ok (.aload_n 0, 1) := by decide +kernel
theorem dX4_spreadBy_22 : decode cX4_spreadBy 22 = .ok (.iload_n 2, 1) := by decide +kernel
theorem dX4_spreadBy_23 : decode cX4_spreadBy 23 = .ok (.iload 6, 2) := by decide +kernel
theorem dX4_spreadBy_25 : decode cX4_spreadBy 25 = .ok (.invokevirtual 144, 3) := by decide +kernel
theorem dX4_spreadBy_28 : decode cX4_spreadBy 28 = .ok (.ifCond .eq 19, 3) := by decide +kernel
theorem dX4_spreadBy_31 : decode cX4_spreadBy 31 = .ok (.lload_n 3, 1) := by decide +kernel
theorem dX4_spreadBy_32 : decode cX4_spreadBy 32 = .ok (.aload_n 0, 1) := by decide +kernel
theorem dX4_spreadBy_33 : decode cX4_spreadBy 33 = .ok (.getfield 27, 3) := by decide +kernel
theorem dX4_spreadBy_36 : decode cX4_spreadBy 36 = .ok (.iload 5, 2) := by decide +kernel
theorem dX4_spreadBy_38 : decode cX4_spreadBy 38 = .ok (.iload 6, 2) := by decide +kernel
theorem dX4_spreadBy_40 : decode cX4_spreadBy 40 = .ok (.invokestatic 141, 3) := by decide +kernel
theorem dX4_spreadBy_43 : decode cX4_spreadBy 43 = .ok (.iadd, 1) := by decide +kernel
theorem dX4_spreadBy_44 : decode cX4_spreadBy 44 = .ok (.laload, 1) := by decide +kernel
theorem dX4_spreadBy_45 : decode cX4_spreadBy 45 = .ok (.lor, 1) := by decide +kernel
theorem dX4_spreadBy_46 : decode cX4_spreadBy 46 = .ok (.lstore_n 3, 1) := by decide +kernel
theorem dX4_spreadBy_47 : decode cX4_spreadBy 47 = .ok (.iinc 6 1, 3) := by decide +kernel
theorem dX4_spreadBy_50 : decode cX4_spreadBy 50 = .ok (.goto (-36), 3) := by decide +kernel
theorem dX4_spreadBy_53 : decode cX4_spreadBy 53 = .ok (.lload_n 3, 1) := by decide +kernel
theorem dX4_spreadBy_54 : decode cX4_spreadBy 54 = .ok (.lreturn, 1) := by decide +kernel
theorem dX4_shiftOf_0 : decode cX4_shiftOf 0 = .ok (.iload_n 0, 1) := by decide +kernel
theorem dX4_shiftOf_1 : decode cX4_shiftOf 1 = .ok (.iconst 3, 1) := by decide +kernel
theorem dX4_shiftOf_2 : decode cX4_shiftOf 2 = .ok (.idiv, 1) := by decide +kernel
theorem dX4_shiftOf_3 : decode cX4_shiftOf 3 = .ok (.iconst 5, 1) := by decide +kernel
theorem dX4_shiftOf_4 : decode cX4_shiftOf 4 = .ok (.imul, 1) := by decide +kernel
theorem dX4_shiftOf_5 : decode cX4_shiftOf 5 = .ok (.iload_n 0, 1) := by decide +kernel
theorem dX4_shiftOf_6 : decode cX4_shiftOf 6 = .ok (.iconst 3, 1) := by decide +kernel
theorem dX4_shiftOf_7 : decode cX4_shiftOf 7 = .ok (.irem, 1) := by decide +kernel
theorem dX4_shiftOf_8 : decode cX4_shiftOf 8 = .ok (.iadd, 1) := by decide +kernel
theorem dX4_shiftOf_9 : decode cX4_shiftOf 9 = .ok (.ireturn, 1) := by decide +kernel
theorem dX4_oneWest_0 : decode cX4_oneWest 0 = .ok (.lload_n 1, 1) := by decide +kernel
theorem dX4_oneWest_1 : decode cX4_oneWest 1 = .ok (.aload_n 0, 1) := by decide +kernel
theorem dX4_oneWest_2 : decode cX4_oneWest 2 = .ok (.getfield 69, 3) := by decide +kernel
theorem dX4_oneWest_5 : decode cX4_oneWest 5 = .ok (.ldc2_w 85, 3) := by decide +kernel
theorem dX4_oneWest_8 : decode cX4_oneWest 8 = .ok (.lxor, 1) := by decide +kernel
theorem dX4_oneWest_9 : decode cX4_oneWest 9 = .ok (.land, 1) := by decide +kernel
theorem dX4_oneWest_10 : decode cX4_oneWest 10 = .ok (.iconst 1, 1) := by decide +kernel
theorem dX4_oneWest_11 : decode cX4_oneWest 11 = .ok (.lushr, 1) := by decide +kernel
theorem dX4_oneWest_12 : decode cX4_oneWest 12 = .ok (.lload_n 1, 1) := by decide +kernel
theorem dX4_oneWest_13 : decode cX4_oneWest 13 = .ok (.aload_n 0, 1) := by decide +kernel
theorem dX4_oneWest_14 : decode cX4_oneWest 14 = .ok (.getfield 69, 3) := by decide +kernel
theorem dX4_oneWest_17 : decode cX4_oneWest 17 = .ok (.land, 1) := by decide +kernel
theorem dX4_oneWest_18 : decode cX4_oneWest 18 = .ok (.lor, 1) := by decide +kernel
theorem dX4_oneWest_19 : decode cX4_oneWest 19 = .ok (.lreturn, 1) := by decide +kernel
theorem dX4_oneEast_0 : decode cX4_oneEast 0 = .ok (.lload_n 1, 1) := by decide +kernel
theorem dX4_oneEast_1 : decode cX4_oneEast 1 = .ok (.aload_n 0, 1) := by decide +kernel
theorem dX4_oneEast_2 : decode cX4_oneEast 2 = .ok (.getfield 72, 3) := by decide +kernel
theorem dX4_oneEast_5 : decode cX4_oneEast 5 = .ok (.ldc2_w 85, 3) := by decide +kernel
theorem dX4_oneEast_8 : decode cX4_oneEast 8 = .ok (.lxor, 1) := by decide +kernel
theorem dX4_oneEast_9 : decode cX4_oneEast 9 = .ok (.land, 1) := by decide +kernel
theorem dX4_oneEast_10 : decode cX4_oneEast 10 = .ok (.iconst 1, 1) := by decide +kernel
theorem dX4_oneEast_11 : decode cX4_oneEast 11 = .ok (.lshl, 1) := by decide +kernel
theorem dX4_oneEast_12 : decode cX4_oneEast 12 = .ok (.lload_n 1, 1) := by decide +kernel
theorem dX4_oneEast_13 : decode cX4_oneEast 13 = .ok (.aload_n 0, 1) := by decide +kernel
theorem dX4_oneEast_14 : decode cX4_oneEast 14 = .ok (.getfield 72, 3) := by decide +kernel
theorem dX4_oneEast_17 : decode cX4_oneEast 17 = .ok (.land, 1) := by decide +kernel
theorem dX4_oneEast_18 : decode cX4_oneEast 18 = .ok (.lor, 1) := by decide +kernel
theorem dX4_oneEast_19 : decode cX4_oneEast 19 = .ok (.lreturn, 1) := by decide +kernel
theorem dX4_oneNorth_0 : decode cX4_oneNorth 0 = .ok (.lload_n 1, 1) := by decide +kernel
theorem dX4_oneNorth_1 : decode cX4_oneNorth 1 = .ok (.aload_n 0, 1) := by decide +kernel
theorem dX4_oneNorth_2 : decode cX4_oneNorth 2 = .ok (.getfield 75, 3) := by decide +kernel
theorem dX4_oneNorth_5 : decode cX4_oneNorth 5 = .ok (.ldc2_w 85, 3) := by decide +kernel
theorem dX4_oneNorth_8 : decode cX4_oneNorth 8 = .ok (.lxor, 1) := by decide +kernel
theorem dX4_oneNorth_9 : decode cX4_oneNorth 9 = .ok (.land, 1) := by decide +kernel
theorem dX4_oneNorth_10 : decode cX4_oneNorth 10 = .ok (.aload_n 0, 1) := by decide +kernel
theorem dX4_oneNorth_11 : decode cX4_oneNorth 11 = .ok (.getfield 31, 3) := by decide +kernel
theorem dX4_oneNorth_14 : decode cX4_oneNorth 14 = .ok (.lushr, 1) := by decide +kernel
theorem dX4_oneNorth_15 : decode cX4_oneNorth 15 = .ok (.lload_n 1, 1) := by decide +kernel
theorem dX4_oneNorth_16 : decode cX4_oneNorth 16 = .ok (.aload_n 0, 1) := by decide +kernel
theorem dX4_oneNorth_17 : decode cX4_oneNorth 17 = .ok (.getfield 75, 3) := by decide +kernel
theorem dX4_oneNorth_20 : decode cX4_oneNorth 20 = .ok (.land, 1) := by decide +kernel
theorem dX4_oneNorth_21 : decode cX4_oneNorth 21 = .ok (.lor, 1) := by decide +kernel
theorem dX4_oneNorth_22 : decode cX4_oneNorth 22 = .ok (.lreturn, 1) := by decide +kernel
theorem dX4_oneSouth_0 : decode cX4_oneSouth 0 = .ok (.lload_n 1, 1) := by decide +kernel
theorem dX4_oneSouth_1 : decode cX4_oneSouth 1 = .ok (.aload_n 0, 1) := by decide +kernel
theorem dX4_oneSouth_2 : decode cX4_oneSouth 2 = .ok (.getfield 78, 3) := by decide +kernel
theorem dX4_oneSouth_5 : decode cX4_oneSouth 5 = .ok (.ldc2_w 85, 3) := by decide +kernel
theorem dX4_oneSouth_8 : decode cX4_oneSouth 8 = .ok (.lxor, 1) := by decide +kernel
theorem dX4_oneSouth_9 : decode cX4_oneSouth 9 = .ok (.land, 1) := by decide +kernel
theorem dX4_oneSouth_10 : decode cX4_oneSouth 10 = .ok (.aload_n 0, 1) := by decide +kernel
theorem dX4_oneSouth_11 : decode cX4_oneSouth 11 = .ok (.getfield 31, 3) := by decide +kernel
theorem dX4_oneSouth_14 : decode cX4_oneSouth 14 = .ok (.lshl, 1) := by decide +kernel
theorem dX4_oneSouth_15 : decode cX4_oneSouth 15 = .ok (.lload_n 1, 1) := by decide +kernel
theorem dX4_oneSouth_16 : decode cX4_oneSouth 16 = .ok (.aload_n 0, 1) := by decide +kernel
theorem dX4_oneSouth_17 : decode cX4_oneSouth 17 = .ok (.getfield 78, 3) := by decide +kernel
theorem dX4_oneSouth_20 : decode cX4_oneSouth 20 = .ok (.land, 1) := by decide +kernel
theorem dX4_oneSouth_21 : decode cX4_oneSouth 21 = .ok (.lor, 1) := by decide +kernel
theorem dX4_oneSouth_22 : decode cX4_oneSouth 22 = .ok (.lreturn, 1) := by decide +kernel
theorem dX1_init_0 : decode cX1_init 0 = .ok (.aload_n 0, 1) := by decide +kernel
theorem dX1_init_1 : decode cX1_init 1 = .ok (.invokespecial 3, 3) := by decide +kernel
theorem dX1_init_4 : decode cX1_init 4 = .ok (.aload_n 0, 1) := by decide +kernel
theorem dX1_init_5 : decode cX1_init 5 = .ok (.new 9, 3) := by decide +kernel
theorem dX1_init_8 : decode cX1_init 8 = .ok (.dup, 1) := by decide +kernel
theorem dX1_init_9 : decode cX1_init 9 = .ok (.invokespecial 11, 3) := by decide +kernel
theorem dX1_init_12 : decode cX1_init 12 = .ok (.putfield 12, 3) := by decide +kernel
theorem dX1_init_15 : decode cX1_init 15 = .ok (.aload_n 0, 1) := by decide +kernel
theorem dX1_init_16 : decode cX1_init 16 = .ok (.new 9, 3) := by decide +kernel
theorem dX1_init_19 : decode cX1_init 19 = .ok (.dup, 1) := by decide +kernel
theorem dX1_init_20 : decode cX1_init 20 = .ok (.invokespecial 11, 3) := by decide +kernel
theorem dX1_init_23 : decode cX1_init 23 = .ok (.putfield 18, 3) := by decide +kernel
theorem dX1_init_26 : decode cX1_init 26 = .ok (.aload_n 0, 1) := by decide +kernel
theorem dX1_init_27 : decode cX1_init 27 = .ok (.new 9, 3) := by decide +kernel
theorem dX1_init_30 : decode cX1_init 30 = .ok (.dup, 1) := by decide +kernel
theorem dX1_init_31 : decode cX1_init 31 = .ok (.invokespecial 11, 3) := by decide +kernel
theorem dX1_init_34 : decode cX1_init 34 = .ok (.putfield 21, 3) := by decide +kernel
theorem dX1_init_37 : decode cX1_init 37 = .ok (.aload_n 0, 1) := by decide +kernel
end
section
theorem dX1_init_38 : decode cX1_init 38 = .ok (.sipush 576, 3) := by decide +kernel
theorem dX1_init_41 : decode cX1_init 41 = .ok (.newarray .int, 2) := by decide +kernel
theorem dX1_init_43 : decode cX1_init 43 = .ok (.putfield 24, 3) := by decide +kernel
theorem dX1_init_46 : decode cX1_init 46 = .ok (.aload_n 0, 1) := by decide +kernel
theorem dX1_init_47 : decode cX1_init 47 = .ok (.bipush 6, 2) := by decide +kernel
theorem dX1_init_49 : decode cX1_init 49 = .ok (.newarray .long, 2) := by decide +kernel
theorem dX1_init_51 : decode cX1_init 51 = .ok (.putfield 28, 3) := by decide +kernel
theorem dX1_init_54 : decode cX1_init 54 = .ok (.return_, 1) := by decide +kernel
theorem dX1_forget_0 : decode cX1_forget 0 = .ok (.aload_n 0, 1) := by decide +kernel
theorem dX1_forget_1 : decode cX1_forget 1 = .ok (.iconst 0, 1) := by decide +kernel
theorem dX1_forget_2 : decode cX1_forget 2 = .ok (.putfield 32, 3) := by decide +kernel
theorem dX1_forget_5 : decode cX1_forget 5 = .ok (.return_, 1) := by decide +kernel
theorem dX1_hear_0 : decode cX1_hear 0 = .ok (.aload_n 0, 1) := by decide +kernel
theorem dX1_hear_1 : decode cX1_hear 1 = .ok (.getfield 32, 3) := by decide +kernel
theorem dX1_hear_4 : decode cX1_hear 4 = .ok (.ifCond .eq 15, 3) := by decide +kernel
theorem dX1_hear_7 : decode cX1_hear 7 = .ok (.aload_n 0, 1) := by decide +kernel
theorem dX1_hear_8 : decode cX1_hear 8 = .ok (.getfield 36, 3) := by decide +kernel
theorem dX1_hear_11 : decode cX1_hear 11 = .ok (.aload_n 1, 1) := by decide +kernel
theorem dX1_hear_12 : decode cX1_hear 12 = .ok (.getfield 40, 3) := by decide +kernel
theorem dX1_hear_15 : decode cX1_hear 15 = .ok (.if_icmp .ne 4, 3) := by decide +kernel
theorem dX1_hear_18 : decode cX1_hear 18 = .ok (.return_, 1) := by decide +kernel
theorem dX1_hear_19 : decode cX1_hear 19 = .ok (.aload_n 0, 1) := by decide +kernel
theorem dX1_hear_20 : decode cX1_hear 20 = .ok (.iconst 1, 1) := by decide +kernel
theorem dX1_hear_21 : decode cX1_hear 21 = .ok (.putfield 32, 3) := by decide +kernel
theorem dX1_hear_24 : decode cX1_hear 24 = .ok (.aload_n 0, 1) := by decide +kernel
theorem dX1_hear_25 : decode cX1_hear 25 = .ok (.aload_n 1, 1) := by decide +kernel
theorem dX1_hear_26 : decode cX1_hear 26 = .ok (.getfield 40, 3) := by decide +kernel
theorem dX1_hear_29 : decode cX1_hear 29 = .ok (.putfield 36, 3) := by decide +kernel
theorem dX1_hear_32 : decode cX1_hear 32 = .ok (.aload_n 0, 1) := by decide +kernel
theorem dX1_hear_33 : decode cX1_hear 33 = .ok (.aload_n 1, 1) := by decide +kernel
theorem dX1_hear_34 : decode cX1_hear 34 = .ok (.invokevirtual 45, 3) := by decide +kernel
theorem dX1_hear_37 : decode cX1_hear 37 = .ok (.aload_n 2, 1) := by decide +kernel
theorem dX1_hear_38 : decode cX1_hear 38 = .ok (.getfield 49, 3) := by decide +kernel
theorem dX1_hear_41 : decode cX1_hear 41 = .ok (.iconst 1, 1) := by decide +kernel
theorem dX1_hear_42 : decode cX1_hear 42 = .ok (.isub, 1) := by decide +kernel
theorem dX1_hear_43 : decode cX1_hear 43 = .ok (.istore_n 3, 1) := by decide +kernel
theorem dX1_hear_44 : decode cX1_hear 44 = .ok (.iload_n 3, 1) := by decide +kernel
theorem dX1_hear_45 : decode cX1_hear 45 = .ok (.ifCond .lt 16, 3) := by decide +kernel
theorem dX1_hear_48 : decode cX1_hear 48 = .ok (.aload_n 0, 1) := by decide +kernel
theorem dX1_hear_49 : decode cX1_hear 49 = .ok (.aload_n 1, 1) := by decide +kernel
theorem dX1_hear_50 : decode cX1_hear 50 = .ok (.aload_n 2, 1) := by decide +kernel
theorem dX1_hear_51 : decode cX1_hear 51 = .ok (.iload_n 3, 1) := by decide +kernel
theorem dX1_hear_52 : decode cX1_hear 52 = .ok (.invokevirtual 54, 3) := by decide +kernel
theorem dX1_hear_55 : decode cX1_hear 55 = .ok (.iinc 3 (-1), 3) := by decide +kernel
theorem dX1_hear_58 : decode cX1_hear 58 = .ok (.goto (-14), 3) := by decide +kernel
theorem dX1_hear_61 : decode cX1_hear 61 = .ok (.return_, 1) := by decide +kernel
theorem dX1_standAtEnd_0 : decode cX1_standAtEnd 0 = .ok (.iconst 0, 1) := by decide +kernel
theorem dX1_standAtEnd_1 : decode cX1_standAtEnd 1 = .ok (.istore_n 2, 1) := by decide +kernel
theorem dX1_standAtEnd_2 : decode cX1_standAtEnd 2 = .ok (.iload_n 2, 1) := by decide +kernel
theorem dX1_standAtEnd_3 : decode cX1_standAtEnd 3 = .ok (.bipush 6, 2) := by decide +kernel
theorem dX1_standAtEnd_5 : decode cX1_standAtEnd 5 = .ok (.if_icmp .ge 59, 3) := by decide +kernel
theorem dX1_standAtEnd_8 : decode cX1_standAtEnd 8 = .ok (.iconst 0, 1) := by decide +kernel
theorem dX1_standAtEnd_9 : decode cX1_standAtEnd 9 = .ok (.istore_n 3, 1) := by decide +kernel
theorem dX1_standAtEnd_10 : decode cX1_standAtEnd 10 = .ok (.iload_n 3, 1) := by decide +kernel
theorem dX1_standAtEnd_11 : decode cX1_standAtEnd 11 = .ok (.bipush 64, 2) := by decide +kernel
theorem dX1_standAtEnd_13 : decode cX1_standAtEnd 13 = .ok (.if_icmp .ge 45, 3) := by decide +kernel
theorem dX1_standAtEnd_16 : decode cX1_standAtEnd 16 = .ok (.aload_n 1, 1) := by decide +kernel
theorem dX1_standAtEnd_17 : decode cX1_standAtEnd 17 = .ok (.getfield 58, 3) := by decide +kernel
theorem dX1_standAtEnd_20 : decode cX1_standAtEnd 20 = .ok (.iload_n 3, 1) := by decide +kernel
theorem dX1_standAtEnd_21 : decode cX1_standAtEnd 21 = .ok (.invokestatic 62, 3) := by decide +kernel
theorem dX1_standAtEnd_24 : decode cX1_standAtEnd 24 = .ok (.ifCond .eq 7, 3) := by decide +kernel
theorem dX1_standAtEnd_27 : decode cX1_standAtEnd 27 = .ok (.iconst 0, 1) := by decide +kernel
theorem dX1_standAtEnd_28 : decode cX1_standAtEnd 28 = .ok (.goto 5, 3) := by decide +kernel
theorem dX1_standAtEnd_31 : decode cX1_standAtEnd 31 = .ok (.ldc 66, 2) := by decide +kernel
theorem dX1_standAtEnd_33 : decode cX1_standAtEnd 33 = .ok (.istore 4, 2) := by decide +kernel
theorem dX1_standAtEnd_35 : decode cX1_standAtEnd 35 = .ok (.aload_n 0, 1) := by decide +kernel
theorem dX1_standAtEnd_36 : decode cX1_standAtEnd 36 = .ok (.getfield 12, 3) := by decide +kernel
theorem dX1_standAtEnd_39 : decode cX1_standAtEnd 39 = .ok (.iload_n 2, 1) := by decide +kernel
theorem dX1_standAtEnd_40 : decode cX1_standAtEnd 40 = .ok (.bipush 64, 2) := by decide +kernel
theorem dX1_standAtEnd_42 : decode cX1_standAtEnd 42 = .ok (.imul, 1) := by decide +kernel
theorem dX1_standAtEnd_43 : decode cX1_standAtEnd 43 = .ok (.iload_n 3, 1) := by decide +kernel
theorem dX1_standAtEnd_44 : decode cX1_standAtEnd 44 = .ok (.iadd, 1) := by decide +kernel
theorem dX1_standAtEnd_45 : decode cX1_standAtEnd 45 = .ok (.iload 4, 2) := by decide +kernel
theorem dX1_standAtEnd_47 : decode cX1_standAtEnd 47 = .ok (.iload 4, 2) := by decide +kernel
theorem dX1_standAtEnd_49 : decode cX1_standAtEnd 49 = .ok (.invokevirtual 67, 3) := by decide +kernel
theorem dX1_standAtEnd_52 : decode cX1_standAtEnd 52 = .ok (.iinc 3 1, 3) := by decide +kernel
theorem dX1_standAtEnd_55 : decode cX1_standAtEnd 55 = .ok (.goto (-45), 3) := by decide +kernel
theorem dX1_standAtEnd_58 : decode cX1_standAtEnd 58 = .ok (.iinc 2 1, 3) := by decide +kernel
theorem dX1_standAtEnd_61 : decode cX1_standAtEnd 61 = .ok (.goto (-59), 3) := by decide +kernel
theorem dX1_standAtEnd_64 : decode cX1_standAtEnd 64 = .ok (.return_, 1) := by decide +kernel
theorem dX1_goThroughLine_0 : decode cX1_goThroughLine 0 = .ok (.aload_n 0, 1) := by decide +kernel
theorem dX1_goThroughLine_1 : decode cX1_goThroughLine 1 = .ok (.aload_n 1, 1) := by decide +kernel
theorem dX1_goThroughLine_2 : decode cX1_goThroughLine 2 = .ok (.aload_n 2, 1) := by decide +kernel
theorem dX1_goThroughLine_3 : decode cX1_goThroughLine 3 = .ok (.getfield 71, 3) := by decide +kernel
theorem dX1_goThroughLine_6 : decode cX1_goThroughLine 6 = .ok (.iload_n 3, 1) := by decide +kernel
theorem dX1_goThroughLine_7 : decode cX1_goThroughLine 7 = .ok (.iaload, 1) := by decide +kernel
theorem dX1_goThroughLine_8 : decode cX1_goThroughLine 8 = .ok (.invokevirtual 74, 3) := by decide +kernel
theorem dX1_goThroughLine_11 : decode cX1_goThroughLine 11 = .ok (.iconst 0, 1) := by decide +kernel
theorem dX1_goThroughLine_12 : decode cX1_goThroughLine 12 = .ok (.istore 4, 2) := by decide +kernel
theorem dX1_goThroughLine_14 : decode cX1_goThroughLine 14 = .ok (.iload 4, 2) := by decide +kernel
theorem dX1_goThroughLine_16 : decode cX1_goThroughLine 16 = .ok (.bipush 6, 2) := by decide +kernel
theorem dX1_goThroughLine_18 : decode cX1_goThroughLine 18 = .ok (.if_icmp .ge 24, 3) := by decide +kernel
theorem dX1_goThroughLine_21 : decode cX1_goThroughLine 21 = .ok (.aload_n 0, 1) := by decide +kernel
theorem dX1_goThroughLine_22 : decode cX1_goThroughLine 22 = .ok (.getfield 28, 3) := by decide +kernel
theorem dX1_goThroughLine_25 : decode cX1_goThroughLine 25 = .ok (.iload 4, 2) := by decide +kernel
theorem dX1_goThroughLine_27 : decode cX1_goThroughLine 27 = .ok (.aload_n 2, 1) := by decide +kernel
theorem dX1_goThroughLine_28 : decode cX1_goThroughLine 28 = .ok (.iload_n 3, 1) := by decide +kernel
theorem dX1_goThroughLine_29 : decode cX1_goThroughLine 29 = .ok (.aload_n 1, 1) := by decide +kernel
theorem dX1_goThroughLine_30 : decode cX1_goThroughLine 30 = .ok (.iload 4, 2) := by decide +kernel
theorem dX1_goThroughLine_32 : decode cX1_goThroughLine 32 = .ok (.invokevirtual 78, 3) := by decide +kernel
theorem dX1_goThroughLine_35 : decode cX1_goThroughLine 35 = .ok (.lastore, 1) := by decide +kernel
theorem dX1_goThroughLine_36 : decode cX1_goThroughLine 36 = .ok (.iinc 4 1, 3) := by decide +kernel
theorem dX1_goThroughLine_39 : decode cX1_goThroughLine 39 = .ok (.goto (-25), 3) := by decide +kernel
theorem dX1_goThroughLine_42 : decode cX1_goThroughLine 42 = .ok (.aload_n 0, 1) := by decide +kernel
theorem dX1_goThroughLine_43 : decode cX1_goThroughLine 43 = .ok (.getfield 18, 3) := by decide +kernel
theorem dX1_goThroughLine_46 : decode cX1_goThroughLine 46 = .ok (.aload_n 0, 1) := by decide +kernel
theorem dX1_goThroughLine_47 : decode cX1_goThroughLine 47 = .ok (.getfield 12, 3) := by decide +kernel
theorem dX1_goThroughLine_50 : decode cX1_goThroughLine 50 = .ok (.invokevirtual 81, 3) := by decide +kernel
theorem dX1_goThroughLine_53 : decode cX1_goThroughLine 53 = .ok (.aload_n 2, 1) := by decide +kernel
theorem dX1_goThroughLine_54 : decode cX1_goThroughLine 54 = .ok (.getfield 85, 3) := by decide +kernel
theorem dX1_goThroughLine_57 : decode cX1_goThroughLine 57 = .ok (.iload_n 3, 1) := by decide +kernel
theorem dX1_goThroughLine_58 : decode cX1_goThroughLine 58 = .ok (.iaload, 1) := by decide +kernel
theorem dX1_goThroughLine_59 : decode cX1_goThroughLine 59 = .ok (.istore 4, 2) := by decide +kernel
theorem dX1_goThroughLine_61 : decode cX1_goThroughLine 61 = .ok (.iload 4, 2) := by decide +kernel
theorem dX1_goThroughLine_63 : decode cX1_goThroughLine 63 = .ok (.ifCond .le 52, 3) := by decide +kernel
theorem dX1_goThroughLine_66 : decode cX1_goThroughLine 66 = .ok (.iconst 0, 1) := by decide +kernel
theorem dX1_goThroughLine_67 : decode cX1_goThroughLine 67 = .ok (.istore 5, 2) := by decide +kernel
theorem dX1_goThroughLine_69 : decode cX1_goThroughLine 69 = .ok (.iload 5, 2) := by decide +kernel
theorem dX1_goThroughLine_71 : decode cX1_goThroughLine 71 = .ok (.bipush 6, 2) := by decide +kernel
theorem dX1_goThroughLine_73 : decode cX1_goThroughLine 73 = .ok (.if_icmp .ge 16, 3) := by decide +kernel
theorem dX1_goThroughLine_76 : decode cX1_goThroughLine 76 = .ok (.aload_n 0, 1) := by decide +kernel
theorem dX1_goThroughLine_77 : decode cX1_goThroughLine 77 = .ok (.aload_n 1, 1) := by decide +kernel
theorem dX1_goThroughLine_78 : decode cX1_goThroughLine 78 = .ok (.iload 5, 2) := by decide +kernel
theorem dX1_goThroughLine_80 : decode cX1_goThroughLine 80 = .ok (.invokevirtual 88, 3) := by decide +kernel
theorem dX1_goThroughLine_83 : decode cX1_goThroughLine 83 = .ok (.iinc 5 1, 3) := by decide +kernel
theorem dX1_goThroughLine_86 : decode cX1_goThroughLine 86 = .ok (.goto (-17), 3) := by decide +kernel
theorem dX1_goThroughLine_89 : decode cX1_goThroughLine 89 = .ok (.aload_n 0, 1) := by decide +kernel
theorem dX1_goThroughLine_90 : decode cX1_goThroughLine 90 = .ok (.getfield 21, 3) := by decide +kernel
theorem dX1_goThroughLine_93 : decode cX1_goThroughLine 93 = .ok (.astore 5, 2) := by decide +kernel
theorem dX1_goThroughLine_95 : decode cX1_goThroughLine 95 = .ok (.aload_n 0, 1) := by decide +kernel
theorem dX1_goThroughLine_96 : decode cX1_goThroughLine 96 = .ok (.aload_n 0, 1) := by decide +kernel
theorem dX1_goThroughLine_97 : decode cX1_goThroughLine 97 = .ok (.getfield 18, 3) := by decide +kernel
theorem dX1_goThroughLine_100 : decode cX1_goThroughLine 100 = .ok (.putfield 21, 3) := by decide +kernel
theorem dX1_goThroughLine_103 : decode cX1_goThroughLine 103 = .ok (.aload_n 0, 1) := by decide +kernel
theorem dX1_goThroughLine_104 : decode cX1_goThroughLine 104 = .ok (.aload 5, 2) := by decide +kernel
theorem dX1_goThroughLine_106 : decode cX1_goThroughLine 106 = .ok (.putfield 18, 3) := by decide +kernel
theorem dX1_goThroughLine_109 : decode cX1_goThroughLine 109 = .ok (.iinc 4 (-1), 3) := by decide +kernel
theorem dX1_goThroughLine_112 : decode cX1_goThroughLine 112 = .ok (.goto (-51), 3) := by decide +kernel
theorem dX1_goThroughLine_115 : decode cX1_goThroughLine 115 = .ok (.aload_n 0, 1) := by decide +kernel
theorem dX1_goThroughLine_116 : decode cX1_goThroughLine 116 = .ok (.getfield 18, 3) := by decide +kernel
theorem dX1_goThroughLine_119 : decode cX1_goThroughLine 119 = .ok (.astore 4, 2) := by decide +kernel
theorem dX1_goThroughLine_121 : decode cX1_goThroughLine 121 = .ok (.aload_n 0, 1) := by decide +kernel
theorem dX1_goThroughLine_122 : decode cX1_goThroughLine 122 = .ok (.aload_n 0, 1) := by decide +kernel
theorem dX1_goThroughLine_123 : decode cX1_goThroughLine 123 = .ok (.getfield 12, 3) := by decide +kernel
theorem dX1_goThroughLine_126 : decode cX1_goThroughLine 126 = .ok (.putfield 18, 3) := by decide +kernel
theorem dX1_goThroughLine_129 : decode cX1_goThroughLine 129 = .ok (.aload_n 0, 1) := by decide +kernel
theorem dX1_goThroughLine_130 : decode cX1_goThroughLine 130 = .ok (.aload 4, 2) := by decide +kernel
theorem dX1_goThroughLine_132 : decode cX1_goThroughLine 132 = .ok (.putfield 12, 3) := by decide +kernel
theorem dX1_goThroughLine_135 : decode cX1_goThroughLine 135 = .ok (.return_, 1) := by decide +kernel
theorem dX1_findTargets_0 : decode cX1_findTargets 0 = .ok (.iconst 0, 1) := by decide +kernel
theorem dX1_findTargets_1 : decode cX1_findTargets 1 = .ok (.istore_n 3, 1) := by decide +kernel
theorem dX1_findTargets_2 : decode cX1_findTargets 2 = .ok (.iload_n 3, 1) := by decide +kernel
theorem dX1_findTargets_3 : decode cX1_findTargets 3 = .ok (.aload_n 1, 1) := by decide +kernel
theorem dX1_findTargets_4 : decode cX1_findTargets 4 = .ok (.getfield 91, 3) := by decide +kernel
theorem dX1_findTargets_7 : decode cX1_findTargets 7 = .ok (.if_icmp .ge 45, 3) := by decide +kernel
theorem dX1_findTargets_10 : decode cX1_findTargets 10 = .ok (.iconst 0, 1) := by decide +kernel
theorem dX1_findTargets_11 : decode cX1_findTargets 11 = .ok (.istore 4, 2) := by decide +kernel
theorem dX1_findTargets_13 : decode cX1_findTargets 13 = .ok (.iload 4, 2) := by decide +kernel
theorem dX1_findTargets_15 : decode cX1_findTargets 15 = .ok (.bipush 9, 2) := by decide +kernel
theorem dX1_findTargets_17 : decode cX1_findTargets 17 = .ok (.if_icmp .ge 29, 3) := by decide +kernel
theorem dX1_findTargets_20 : decode cX1_findTargets 20 = .ok (.aload_n 0, 1) := by decide +kernel
theorem dX1_findTargets_21 : decode cX1_findTargets 21 = .ok (.getfield 24, 3) := by decide +kernel
theorem dX1_findTargets_24 : decode cX1_findTargets 24 = .ok (.iload_n 3, 1) := by decide +kernel
theorem dX1_findTargets_25 : decode cX1_findTargets 25 = .ok (.bipush 9, 2) := by decide +kernel
theorem dX1_findTargets_27 : decode cX1_findTargets 27 = .ok (.imul, 1) := by decide +kernel
theorem dX1_findTargets_28 : decode cX1_findTargets 28 = .ok (.iload 4, 2) := by decide +kernel
theorem dX1_findTargets_30 : decode cX1_findTargets 30 = .ok (.iadd, 1) := by decide +kernel
theorem dX1_findTargets_31 : decode cX1_findTargets 31 = .ok (.aload_n 1, 1) := by decide +kernel
theorem dX1_findTargets_32 : decode cX1_findTargets 32 = .ok (.iload_n 3, 1) := by decide +kernel
theorem dX1_findTargets_33 : decode cX1_findTargets 33 = .ok (.iload_n 2, 1) := by decide +kernel
theorem dX1_findTargets_34 : decode cX1_findTargets 34 = .ok (.iload 4, 2) := by decide +kernel
theorem dX1_findTargets_36 : decode cX1_findTargets 36 = .ok (.invokevirtual 94, 3) := by decide +kernel
theorem dX1_findTargets_39 : decode cX1_findTargets 39 = .ok (.iastore, 1) := by decide +kernel
theorem dX1_findTargets_40 : decode cX1_findTargets 40 = .ok (.iinc 4 1, 3) := by decide +kernel
theorem dX1_findTargets_43 : decode cX1_findTargets 43 = .ok (.goto (-30), 3) := by decide +kernel
theorem dX1_findTargets_46 : decode cX1_findTargets 46 = .ok (.iinc 3 1, 3) := by decide +kernel
theorem dX1_findTargets_49 : decode cX1_findTargets 49 = .ok (.goto (-47), 3) := by decide +kernel
theorem dX1_findTargets_52 : decode cX1_findTargets 52 = .ok (.return_, 1) := by decide +kernel
theorem dX1_goThroughHour_0 : decode cX1_goThroughHour 0 = .ok (.iload_n 2, 1) := by decide +kernel
theorem dX1_goThroughHour_1 : decode cX1_goThroughHour 1 = .ok (.iconst 1, 1) := by decide +kernel
theorem dX1_goThroughHour_2 : decode cX1_goThroughHour 2 = .ok (.iadd, 1) := by decide +kernel
theorem dX1_goThroughHour_3 : decode cX1_goThroughHour 3 = .ok (.bipush 6, 2) := by decide +kernel
theorem dX1_goThroughHour_5 : decode cX1_goThroughHour 5 = .ok (.irem, 1) := by decide +kernel
theorem dX1_goThroughHour_6 : decode cX1_goThroughHour 6 = .ok (.bipush 64, 2) := by decide +kernel
theorem dX1_goThroughHour_8 : decode cX1_goThroughHour 8 = .ok (.imul, 1) := by decide +kernel
theorem dX1_goThroughHour_9 : decode cX1_goThroughHour 9 = .ok (.istore_n 3, 1) := by decide +kernel
theorem dX1_goThroughHour_10 : decode cX1_goThroughHour 10 = .ok (.iconst 0, 1) := by decide +kernel
theorem dX1_goThroughHour_11 : decode cX1_goThroughHour 11 = .ok (.istore 4, 2) := by decide +kernel
theorem dX1_goThroughHour_13 : decode cX1_goThroughHour 13 = .ok (.iload 4, 2) := by decide +kernel
theorem dX1_goThroughHour_15 : decode cX1_goThroughHour 15 = .ok (.aload_n 1, 1) := by decide +kernel
theorem dX1_goThroughHour_16 : decode cX1_goThroughHour 16 = .ok (.getfield 91, 3) := by decide +kernel
theorem dX1_goThroughHour_19 : decode cX1_goThroughHour 19 = .ok (.if_icmp .ge 105, 3) := by decide +kernel
theorem dX1_goThroughHour_22 : decode cX1_goThroughHour 22 = .ok (.iload_n 2, 1) := by decide +kernel
theorem dX1_goThroughHour_23 : decode cX1_goThroughHour 23 = .ok (.bipush 64, 2) := by decide +kernel
theorem dX1_goThroughHour_25 : decode cX1_goThroughHour 25 = .ok (.imul, 1) := by decide +kernel
theorem dX1_goThroughHour_26 : decode cX1_goThroughHour 26 = .ok (.iload 4, 2) := by decide +kernel
theorem dX1_goThroughHour_28 : decode cX1_goThroughHour 28 = .ok (.iadd, 1) := by decide +kernel
theorem dX1_goThroughHour_29 : decode cX1_goThroughHour 29 = .ok (.istore 5, 2) := by decide +kernel
theorem dX1_goThroughHour_31 : decode cX1_goThroughHour 31 = .ok (.aload_n 1, 1) := by decide +kernel
theorem dX1_goThroughHour_32 : decode cX1_goThroughHour 32 = .ok (.getfield 58, 3) := by decide +kernel
theorem dX1_goThroughHour_35 : decode cX1_goThroughHour 35 = .ok (.iload 4, 2) := by decide +kernel
theorem dX1_goThroughHour_37 : decode cX1_goThroughHour 37 = .ok (.invokestatic 62, 3) := by decide +kernel
theorem dX1_goThroughHour_40 : decode cX1_goThroughHour 40 = .ok (.ifCond .eq 17, 3) := by decide +kernel
theorem dX1_goThroughHour_43 : decode cX1_goThroughHour 43 = .ok (.aload_n 0, 1) := by decide +kernel
theorem dX1_goThroughHour_44 : decode cX1_goThroughHour 44 = .ok (.getfield 21, 3) := by decide +kernel
theorem dX1_goThroughHour_47 : decode cX1_goThroughHour 47 = .ok (.iload 5, 2) := by decide +kernel
theorem dX1_goThroughHour_49 : decode cX1_goThroughHour 49 = .ok (.iconst 0, 1) := by decide +kernel
theorem dX1_goThroughHour_50 : decode cX1_goThroughHour 50 = .ok (.iconst 0, 1) := by decide +kernel
theorem dX1_goThroughHour_51 : decode cX1_goThroughHour 51 = .ok (.invokevirtual 67, 3) := by decide +kernel
theorem dX1_goThroughHour_54 : decode cX1_goThroughHour 54 = .ok (.goto 64, 3) := by decide +kernel
theorem dX1_goThroughHour_57 : decode cX1_goThroughHour 57 = .ok (.aload_n 0, 1) := by decide +kernel
theorem dX1_goThroughHour_58 : decode cX1_goThroughHour 58 = .ok (.getfield 28, 3) := by decide +kernel
theorem dX1_goThroughHour_61 : decode cX1_goThroughHour 61 = .ok (.iload_n 2, 1) := by decide +kernel
theorem dX1_goThroughHour_62 : decode cX1_goThroughHour 62 = .ok (.laload, 1) := by decide +kernel
theorem dX1_goThroughHour_63 : decode cX1_goThroughHour 63 = .ok (.iload 4, 2) := by decide +kernel
theorem dX1_goThroughHour_65 : decode cX1_goThroughHour 65 = .ok (.invokestatic 62, 3) := by decide +kernel
theorem dX1_goThroughHour_68 : decode cX1_goThroughHour 68 = .ok (.ifCond .eq 35, 3) := by decide +kernel
theorem dX1_goThroughHour_71 : decode cX1_goThroughHour 71 = .ok (.aload_n 0, 1) := by decide +kernel
theorem dX1_goThroughHour_72 : decode cX1_goThroughHour 72 = .ok (.getfield 21, 3) := by decide +kernel
theorem dX1_goThroughHour_75 : decode cX1_goThroughHour 75 = .ok (.iload 5, 2) := by decide +kernel
theorem dX1_goThroughHour_77 : decode cX1_goThroughHour 77 = .ok (.aload_n 0, 1) := by decide +kernel
theorem dX1_goThroughHour_78 : decode cX1_goThroughHour 78 = .ok (.getfield 12, 3) := by decide +kernel
theorem dX1_goThroughHour_81 : decode cX1_goThroughHour 81 = .ok (.getfield 98, 3) := by decide +kernel
theorem dX1_goThroughHour_84 : decode cX1_goThroughHour 84 = .ok (.iload 5, 2) := by decide +kernel
theorem dX1_goThroughHour_86 : decode cX1_goThroughHour 86 = .ok (.iaload, 1) := by decide +kernel
theorem dX1_goThroughHour_87 : decode cX1_goThroughHour 87 = .ok (.aload_n 0, 1) := by decide +kernel
theorem dX1_goThroughHour_88 : decode cX1_goThroughHour 88 = .ok (.getfield 12, 3) := by decide +kernel
theorem dX1_goThroughHour_91 : decode cX1_goThroughHour 91 = .ok (.getfield 101, 3) := by decide +kernel
theorem dX1_goThroughHour_94 : decode cX1_goThroughHour 94 = .ok (.iload 5, 2) := by decide +kernel
theorem dX1_goThroughHour_96 : decode cX1_goThroughHour 96 = .ok (.iaload, 1) := by decide +kernel
theorem dX1_goThroughHour_97 : decode cX1_goThroughHour 97 = .ok (.invokevirtual 67, 3) := by decide +kernel
theorem dX1_goThroughHour_100 : decode cX1_goThroughHour 100 = .ok (.goto 18, 3) := by decide +kernel
theorem dX1_goThroughHour_103 : decode cX1_goThroughHour 103 = .ok (.aload_n 0, 1) := by decide +kernel
theorem dX1_goThroughHour_104 : decode cX1_goThroughHour 104 = .ok (.iload 4, 2) := by decide +kernel
theorem dX1_goThroughHour_106 : decode cX1_goThroughHour 106 = .ok (.iload 5, 2) := by decide +kernel
theorem dX1_goThroughHour_108 : decode cX1_goThroughHour 108 = .ok (.iload_n 3, 1) := by decide +kernel
theorem dX1_goThroughHour_109 : decode cX1_goThroughHour 109 = .ok (.aload_n 1, 1) := by decide +kernel
theorem dX1_goThroughHour_110 : decode cX1_goThroughHour 110 = .ok (.getfield 104, 3) := by decide +kernel
theorem dX1_goThroughHour_113 : decode cX1_goThroughHour 113 = .ok (.iload_n 2, 1) := by decide +kernel
theorem dX1_goThroughHour_114 : decode cX1_goThroughHour 114 = .ok (.iaload, 1) := by decide +kernel
theorem dX1_goThroughHour_115 : decode cX1_goThroughHour 115 = .ok (.invokevirtual 107, 3) := by decide +kernel
theorem dX1_goThroughHour_118 : decode cX1_goThroughHour 118 = .ok (.iinc 4 1, 3) := by decide +kernel
theorem dX1_goThroughHour_121 : decode cX1_goThroughHour 121 = .ok (.goto (-108), 3) := by decide +kernel
theorem dX1_goThroughHour_124 : decode cX1_goThroughHour 124 = .ok (.return_, 1) := by decide +kernel
theorem dX1_steerOn_0 : decode cX1_steerOn 0 = .ok (.iconst 0, 1) := by decide +kernel
theorem dX1_steerOn_1 : decode cX1_steerOn 1 = .ok (.istore 5, 2) := by decide +kernel
theorem dX1_steerOn_3 : decode cX1_steerOn 3 = .ok (.ldc 66, 2) := by decide +kernel
theorem dX1_steerOn_5 : decode cX1_steerOn 5 = .ok (.istore 6, 2) := by decide +kernel
theorem dX1_steerOn_7 : decode cX1_steerOn 7 = .ok (.iconst 0, 1) := by decide +kernel
theorem dX1_steerOn_8 : decode cX1_steerOn 8 = .ok (.istore 7, 2) := by decide +kernel
theorem dX1_steerOn_10 : decode cX1_steerOn 10 = .ok (.iload 7, 2) := by decide +kernel
theorem dX1_steerOn_12 : decode cX1_steerOn 12 = .ok (.bipush 9, 2) := by decide +kernel
theorem dX1_steerOn_14 : decode cX1_steerOn 14 = .ok (.if_icmp .ge 70, 3) := by decide +kernel
theorem dX1_steerOn_17 : decode cX1_steerOn 17 = .ok (.iload 4, 2) := by decide +kernel
theorem dX1_steerOn_19 : decode cX1_steerOn 19 = .ok (.i2l, 1) := by decide +kernel
theorem dX1_steerOn_20 : decode cX1_steerOn 20 = .ok (.iload 7, 2) := by decide +kernel
theorem dX1_steerOn_22 : decode cX1_steerOn 22 = .ok (.invokestatic 62, 3) := by decide +kernel
theorem dX1_steerOn_25 : decode cX1_steerOn 25 = .ok (.ifCond .eq 53, 3) := by decide +kernel
theorem dX1_steerOn_28 : decode cX1_steerOn 28 = .ok (.iload_n 3, 1) := by decide +kernel
theorem dX1_steerOn_29 : decode cX1_steerOn 29 = .ok (.aload_n 0, 1) := by decide +kernel
theorem dX1_steerOn_30 : decode cX1_steerOn 30 = .ok (.getfield 24, 3) := by decide +kernel
theorem dX1_steerOn_33 : decode cX1_steerOn 33 = .ok (.iload_n 1, 1) := by decide +kernel
theorem dX1_steerOn_34 : decode cX1_steerOn 34 = .ok (.bipush 9, 2) := by decide +kernel
theorem dX1_steerOn_36 : decode cX1_steerOn 36 = .ok (.imul, 1) := by decide +kernel
theorem dX1_steerOn_37 : decode cX1_steerOn 37 = .ok (.iload 7, 2) := by decide +kernel
theorem dX1_steerOn_39 : decode cX1_steerOn 39 = .ok (.iadd, 1) := by decide +kernel
theorem dX1_steerOn_40 : decode cX1_steerOn 40 = .ok (.iaload, 1) := by decide +kernel
theorem dX1_steerOn_41 : decode cX1_steerOn 41 = .ok (.iadd, 1) := by decide +kernel
theorem dX1_steerOn_42 : decode cX1_steerOn 42 = .ok (.istore 8, 2) := by decide +kernel
theorem dX1_steerOn_44 : decode cX1_steerOn 44 = .ok (.iload 5, 2) := by decide +kernel
theorem dX1_steerOn_46 : decode cX1_steerOn 46 = .ok (.aload_n 0, 1) := by decide +kernel
theorem dX1_steerOn_47 : decode cX1_steerOn 47 = .ok (.getfield 18, 3) := by decide +kernel
theorem dX1_steerOn_50 : decode cX1_steerOn 50 = .ok (.getfield 98, 3) := by decide +kernel
theorem dX1_steerOn_53 : decode cX1_steerOn 53 = .ok (.iload 8, 2) := by decide +kernel
theorem dX1_steerOn_55 : decode cX1_steerOn 55 = .ok (.iaload, 1) := by decide +kernel
theorem dX1_steerOn_56 : decode cX1_steerOn 56 = .ok (.invokestatic 111, 3) := by decide +kernel
theorem dX1_steerOn_59 : decode cX1_steerOn 59 = .ok (.istore 5, 2) := by decide +kernel
theorem dX1_steerOn_61 : decode cX1_steerOn 61 = .ok (.iload 6, 2) := by decide +kernel
theorem dX1_steerOn_63 : decode cX1_steerOn 63 = .ok (.aload_n 0, 1) := by decide +kernel
theorem dX1_steerOn_64 : decode cX1_steerOn 64 = .ok (.getfield 18, 3) := by decide +kernel
theorem dX1_steerOn_67 : decode cX1_steerOn 67 = .ok (.getfield 101, 3) := by decide +kernel
theorem dX1_steerOn_70 : decode cX1_steerOn 70 = .ok (.iload 8, 2) := by decide +kernel
theorem dX1_steerOn_72 : decode cX1_steerOn 72 = .ok (.iaload, 1) := by decide +kernel
theorem dX1_steerOn_73 : decode cX1_steerOn 73 = .ok (.invokestatic 117, 3) := by decide +kernel
theorem dX1_steerOn_76 : decode cX1_steerOn 76 = .ok (.istore 6, 2) := by decide +kernel
theorem dX1_steerOn_78 : decode cX1_steerOn 78 = .ok (.iinc 7 1, 3) := by decide +kernel
theorem dX1_steerOn_81 : decode cX1_steerOn 81 = .ok (.goto (-71), 3) := by decide +kernel
theorem dX1_steerOn_84 : decode cX1_steerOn 84 = .ok (.aload_n 0, 1) := by decide +kernel
theorem dX1_steerOn_85 : decode cX1_steerOn 85 = .ok (.getfield 21, 3) := by decide +kernel
theorem dX1_steerOn_88 : decode cX1_steerOn 88 = .ok (.iload_n 2, 1) := by decide +kernel
theorem dX1_steerOn_89 : decode cX1_steerOn 89 = .ok (.iload 5, 2) := by decide +kernel
theorem dX1_steerOn_91 : decode cX1_steerOn 91 = .ok (.iconst 1, 1) := by decide +kernel
theorem dX1_steerOn_92 : decode cX1_steerOn 92 = .ok (.iadd, 1) := by decide +kernel
theorem dX1_steerOn_93 : decode cX1_steerOn 93 = .ok (.iload 6, 2) := by decide +kernel
theorem dX1_steerOn_95 : decode cX1_steerOn 95 = .ok (.iconst 1, 1) := by decide +kernel
theorem dX1_steerOn_96 : decode cX1_steerOn 96 = .ok (.iadd, 1) := by decide +kernel
theorem dX1_steerOn_97 : decode cX1_steerOn 97 = .ok (.invokevirtual 67, 3) := by decide +kernel
theorem dX1_steerOn_100 : decode cX1_steerOn 100 = .ok (.return_, 1) := by decide +kernel
theorem dX1_longestOf_0 : decode cX1_longestOf 0 = .ok (.iconst 0, 1) := by decide +kernel
theorem dX1_longestOf_1 : decode cX1_longestOf 1 = .ok (.istore 4, 2) := by decide +kernel
theorem dX1_longestOf_3 : decode cX1_longestOf 3 = .ok (.iconst 0, 1) := by decide +kernel
theorem dX1_longestOf_4 : decode cX1_longestOf 4 = .ok (.istore 5, 2) := by decide +kernel
theorem dX1_longestOf_6 : decode cX1_longestOf 6 = .ok (.iload 5, 2) := by decide +kernel
theorem dX1_longestOf_8 : decode cX1_longestOf 8 = .ok (.bipush 64, 2) := by decide +kernel
theorem dX1_longestOf_10 : decode cX1_longestOf 10 = .ok (.if_icmp .ge 40, 3) := by decide +kernel
theorem dX1_longestOf_13 : decode cX1_longestOf 13 = .ok (.lload_n 1, 1) := by decide +kernel
theorem dX1_longestOf_14 : decode cX1_longestOf 14 = .ok (.iload 5, 2) := by decide +kernel
theorem dX1_longestOf_16 : decode cX1_longestOf 16 = .ok (.invokestatic 62, 3) := by decide +kernel
theorem dX1_longestOf_19 : decode cX1_longestOf 19 = .ok (.ifCond .eq 25, 3) := by decide +kernel
theorem dX1_longestOf_22 : decode cX1_longestOf 22 = .ok (.iload 4, 2) := by decide +kernel
theorem dX1_longestOf_24 : decode cX1_longestOf 24 = .ok (.aload_n 0, 1) := by decide +kernel
theorem dX1_longestOf_25 : decode cX1_longestOf 25 = .ok (.getfield 12, 3) := by decide +kernel
theorem dX1_longestOf_28 : decode cX1_longestOf 28 = .ok (.getfield 98, 3) := by decide +kernel
theorem dX1_longestOf_31 : decode cX1_longestOf 31 = .ok (.iload_n 3, 1) := by decide +kernel
theorem dX1_longestOf_32 : decode cX1_longestOf 32 = .ok (.bipush 64, 2) := by decide +kernel
theorem dX1_longestOf_34 : decode cX1_longestOf 34 = .ok (.imul, 1) := by decide +kernel
theorem dX1_longestOf_35 : decode cX1_longestOf 35 = .ok (.iload 5, 2) := by decide +kernel
theorem dX1_longestOf_37 : decode cX1_longestOf 37 = .ok (.iadd, 1) := by decide +kernel
theorem dX1_longestOf_38 : decode cX1_longestOf 38 = .ok (.iaload, 1) := by decide +kernel
theorem dX1_longestOf_39 : decode cX1_longestOf 39 = .ok (.invokestatic 111, 3) := by decide +kernel
theorem dX1_longestOf_42 : decode cX1_longestOf 42 = .ok (.istore 4, 2) := by decide +kernel
theorem dX1_longestOf_44 : decode cX1_longestOf 44 = .ok (.iinc 5 1, 3) := by decide +kernel
theorem dX1_longestOf_47 : decode cX1_longestOf 47 = .ok (.goto (-41), 3) := by decide +kernel
theorem dX1_longestOf_50 : decode cX1_longestOf 50 = .ok (.iload 4, 2) := by decide +kernel
theorem dX1_longestOf_52 : decode cX1_longestOf 52 = .ok (.ldc 66, 2) := by decide +kernel
theorem dX1_longestOf_54 : decode cX1_longestOf 54 = .ok (.if_icmp .ge 8, 3) := by decide +kernel
theorem dX1_longestOf_57 : decode cX1_longestOf 57 = .ok (.iload 4, 2) := by decide +kernel
theorem dX1_longestOf_59 : decode cX1_longestOf 59 = .ok (.goto 4, 3) := by decide +kernel
theorem dX1_longestOf_62 : decode cX1_longestOf 62 = .ok (.iconst (-1), 1) := by decide +kernel
theorem dX1_longestOf_63 : decode cX1_longestOf 63 = .ok (.ireturn, 1) := by decide +kernel
theorem dX1_shortestOf_0 : decode cX1_shortestOf 0 = .ok (.ldc 66, 2) := by decide +kernel
theorem dX1_shortestOf_2 : decode cX1_shortestOf 2 = .ok (.istore 4, 2) := by decide +kernel
theorem dX1_shortestOf_4 : decode cX1_shortestOf 4 = .ok (.iconst 0, 1) := by decide +kernel
theorem dX1_shortestOf_5 : decode cX1_shortestOf 5 = .ok (.istore 5, 2) := by decide +kernel
theorem dX1_shortestOf_7 : decode cX1_shortestOf 7 = .ok (.iload 5, 2) := by decide +kernel
theorem dX1_shortestOf_9 : decode cX1_shortestOf 9 = .ok (.bipush 64, 2) := by decide +kernel
theorem dX1_shortestOf_11 : decode cX1_shortestOf 11 = .ok (.if_icmp .ge 40, 3) := by decide +kernel
theorem dX1_shortestOf_14 : decode cX1_shortestOf 14 = .ok (.lload_n 1, 1) := by decide +kernel
theorem dX1_shortestOf_15 : decode cX1_shortestOf 15 = .ok (.iload 5, 2) := by decide +kernel
theorem dX1_shortestOf_17 : decode cX1_shortestOf 17 = .ok (.invokestatic 62, 3) := by decide +kernel
theorem dX1_shortestOf_20 : decode cX1_shortestOf 20 = .ok (.ifCond .eq 25, 3) := by decide +kernel
theorem dX1_shortestOf_23 : decode cX1_shortestOf 23 = .ok (.iload 4, 2) := by decide +kernel
theorem dX1_shortestOf_25 : decode cX1_shortestOf 25 = .ok (.aload_n 0, 1) := by decide +kernel
theorem dX1_shortestOf_26 : decode cX1_shortestOf 26 = .ok (.getfield 12, 3) := by decide +kernel
theorem dX1_shortestOf_29 : decode cX1_shortestOf 29 = .ok (.getfield 101, 3) := by decide +kernel
theorem dX1_shortestOf_32 : decode cX1_shortestOf 32 = .ok (.iload_n 3, 1) := by decide +kernel
theorem dX1_shortestOf_33 : decode cX1_shortestOf 33 = .ok (.bipush 64, 2) := by decide +kernel
theorem dX1_shortestOf_35 : decode cX1_shortestOf 35 = .ok (.imul, 1) := by decide +kernel
theorem dX1_shortestOf_36 : decode cX1_shortestOf 36 = .ok (.iload 5, 2) := by decide +kernel
theorem dX1_shortestOf_38 : decode cX1_shortestOf 38 = .ok (.iadd, 1) := by decide +kernel
theorem dX1_shortestOf_39 : decode cX1_shortestOf 39 = .ok (.iaload, 1) := by decide +kernel
theorem dX1_shortestOf_40 : decode cX1_shortestOf 40 = .ok (.invokestatic 117, 3) := by decide +kernel
theorem dX1_shortestOf_43 : decode cX1_shortestOf 43 = .ok (.istore 4, 2) := by decide +kernel
theorem dX1_shortestOf_45 : decode cX1_shortestOf 45 = .ok (.iinc 5 1, 3) := by decide +kernel
theorem dX1_shortestOf_48 : decode cX1_shortestOf 48 = .ok (.goto (-41), 3) := by decide +kernel
theorem dX1_shortestOf_51 : decode cX1_shortestOf 51 = .ok (.iload 4, 2) := by decide +kernel
theorem dX1_shortestOf_53 : decode cX1_shortestOf 53 = .ok (.ldc 66, 2) := by decide +kernel
theorem dX1_shortestOf_55 : decode cX1_shortestOf 55 = .ok (.if_icmp .ge 8, 3) := by decide +kernel
theorem dX1_shortestOf_58 : decode cX1_shortestOf 58 = .ok (.iload 4, 2) := by decide +kernel
theorem dX1_shortestOf_60 : decode cX1_shortestOf 60 = .ok (.goto 4, 3) := by decide +kernel
theorem dX1_shortestOf_63 : decode cX1_shortestOf 63 = .ok (.iconst (-1), 1) := by decide +kernel
theorem dX1_shortestOf_64 : decode cX1_shortestOf 64 = .ok (.ireturn, 1) := by decide +kernel
theorem dX1_unsureOf_0 : decode cX1_unsureOf 0 = .ok (.iconst 0, 1) := by decide +kernel
theorem dX1_unsureOf_1 : decode cX1_unsureOf 1 = .ok (.istore 4, 2) := by decide +kernel
theorem dX1_unsureOf_3 : decode cX1_unsureOf 3 = .ok (.iconst 0, 1) := by decide +kernel
theorem dX1_unsureOf_4 : decode cX1_unsureOf 4 = .ok (.istore 5, 2) := by decide +kernel
theorem dX1_unsureOf_6 : decode cX1_unsureOf 6 = .ok (.iload 5, 2) := by decide +kernel
theorem dX1_unsureOf_8 : decode cX1_unsureOf 8 = .ok (.bipush 64, 2) := by decide +kernel
theorem dX1_unsureOf_10 : decode cX1_unsureOf 10 = .ok (.if_icmp .ge 41, 3) := by decide +kernel
theorem dX1_unsureOf_13 : decode cX1_unsureOf 13 = .ok (.lload_n 1, 1) := by decide +kernel
theorem dX1_unsureOf_14 : decode cX1_unsureOf 14 = .ok (.iload 5, 2) := by decide +kernel
theorem dX1_unsureOf_16 : decode cX1_unsureOf 16 = .ok (.invokestatic 62, 3) := by decide +kernel
theorem dX1_unsureOf_19 : decode cX1_unsureOf 19 = .ok (.ifCond .eq 26, 3) := by decide +kernel
theorem dX1_unsureOf_22 : decode cX1_unsureOf 22 = .ok (.aload_n 0, 1) := by decide +kernel
theorem dX1_unsureOf_23 : decode cX1_unsureOf 23 = .ok (.getfield 12, 3) := by decide +kernel
theorem dX1_unsureOf_26 : decode cX1_unsureOf 26 = .ok (.getfield 98, 3) := by decide +kernel
theorem dX1_unsureOf_29 : decode cX1_unsureOf 29 = .ok (.iload_n 3, 1) := by decide +kernel
theorem dX1_unsureOf_30 : decode cX1_unsureOf 30 = .ok (.bipush 64, 2) := by decide +kernel
theorem dX1_unsureOf_32 : decode cX1_unsureOf 32 = .ok (.imul, 1) := by decide +kernel
theorem dX1_unsureOf_33 : decode cX1_unsureOf 33 = .ok (.iload 5, 2) := by decide +kernel
theorem dX1_unsureOf_35 : decode cX1_unsureOf 35 = .ok (.iadd, 1) := by decide +kernel
theorem dX1_unsureOf_36 : decode cX1_unsureOf 36 = .ok (.iaload, 1) := by decide +kernel
theorem dX1_unsureOf_37 : decode cX1_unsureOf 37 = .ok (.ldc 66, 2) := by decide +kernel
theorem dX1_unsureOf_39 : decode cX1_unsureOf 39 = .ok (.if_icmp .lt 6, 3) := by decide +kernel
theorem dX1_unsureOf_42 : decode cX1_unsureOf 42 = .ok (.iinc 4 1, 3) := by decide +kernel
theorem dX1_unsureOf_45 : decode cX1_unsureOf 45 = .ok (.iinc 5 1, 3) := by decide +kernel
theorem dX1_unsureOf_48 : decode cX1_unsureOf 48 = .ok (.goto (-42), 3) := by decide +kernel
theorem dX1_unsureOf_51 : decode cX1_unsureOf 51 = .ok (.iload 4, 2) := by decide +kernel
theorem dX1_unsureOf_53 : decode cX1_unsureOf 53 = .ok (.ireturn, 1) := by decide +kernel
theorem dX5_init_0 : decode cX5_init 0 = .ok (.aload_n 0, 1) := by decide +kernel
theorem dX5_init_1 : decode cX5_init 1 = .ok (.invokespecial 5, 3) := by decide +kernel
theorem dX5_init_4 : decode cX5_init 4 = .ok (.aload_n 0, 1) := by decide +kernel
theorem dX5_init_5 : decode cX5_init 5 = .ok (.bipush 12, 2) := by decide +kernel
theorem dX5_init_7 : decode cX5_init 7 = .ok (.newarray .int, 2) := by decide +kernel
theorem dX5_init_9 : decode cX5_init 9 = .ok (.putfield 11, 3) := by decide +kernel
theorem dX5_init_12 : decode cX5_init 12 = .ok (.aload_n 0, 1) := by decide +kernel
theorem dX5_init_13 : decode cX5_init 13 = .ok (.sipush 3000, 3) := by decide +kernel
theorem dX5_init_16 : decode cX5_init 16 = .ok (.newarray .long, 2) := by decide +kernel
theorem dX5_init_18 : decode cX5_init 18 = .ok (.putfield 15, 3) := by decide +kernel
theorem dX5_init_21 : decode cX5_init 21 = .ok (.aload_n 0, 1) := by decide +kernel
theorem dX5_init_22 : decode cX5_init 22 = .ok (.sipush 3000, 3) := by decide +kernel
theorem dX5_init_25 : decode cX5_init 25 = .ok (.newarray .int, 2) := by decide +kernel
theorem dX5_init_27 : decode cX5_init 27 = .ok (.putfield 19, 3) := by decide +kernel
theorem dX5_init_30 : decode cX5_init 30 = .ok (.aload_n 0, 1) := by decide +kernel
theorem dX5_init_31 : decode cX5_init 31 = .ok (.sipush 3000, 3) := by decide +kernel
theorem dX5_init_34 : decode cX5_init 34 = .ok (.newarray .int, 2) := by decide +kernel
theorem dX5_init_36 : decode cX5_init 36 = .ok (.putfield 22, 3) := by decide +kernel
theorem dX5_init_39 : decode cX5_init 39 = .ok (.aload_n 0, 1) := by decide +kernel
theorem dX5_init_40 : decode cX5_init 40 = .ok (.sipush 4096, 3) := by decide +kernel
theorem dX5_init_43 : decode cX5_init 43 = .ok (.newarray .int, 2) := by decide +kernel
theorem dX5_init_45 : decode cX5_init 45 = .ok (.putfield 25, 3) := by decide +kernel
theorem dX5_init_48 : decode cX5_init 48 = .ok (.return_, 1) := by decide +kernel
theorem dX5_shortest_0 : decode cX5_shortest 0 = .ok (.aload_n 0, 1) := by decide +kernel
theorem dX5_shortest_1 : decode cX5_shortest 1 = .ok (.getfield 28, 3) := by decide +kernel
theorem dX5_shortest_4 : decode cX5_shortest 4 = .ok (.ifCond .eq 37, 3) := by decide +kernel
theorem dX5_shortest_7 : decode cX5_shortest 7 = .ok (.aload_n 0, 1) := by decide +kernel
theorem dX5_shortest_8 : decode cX5_shortest 8 = .ok (.getfield 32, 3) := by decide +kernel
theorem dX5_shortest_11 : decode cX5_shortest 11 = .ok (.lload_n 2, 1) := by decide +kernel
theorem dX5_shortest_12 : decode cX5_shortest 12 = .ok (.lcmp, 1) := by decide +kernel
theorem dX5_shortest_13 : decode cX5_shortest 13 = .ok (.ifCond .ne 28, 3) := by decide +kernel
theorem dX5_shortest_16 : decode cX5_shortest 16 = .ok (.aload_n 0, 1) := by decide +kernel
theorem dX5_shortest_17 : decode cX5_shortest 17 = .ok (.getfield 36, 3) := by decide +kernel
theorem dX5_shortest_20 : decode cX5_shortest 20 = .ok (.iload 4, 2) := by decide +kernel
theorem dX5_shortest_22 : decode cX5_shortest 22 = .ok (.if_icmp .ne 19, 3) := by decide +kernel
theorem dX5_shortest_25 : decode cX5_shortest 25 = .ok (.aload_n 0, 1) := by decide +kernel
theorem dX5_shortest_26 : decode cX5_shortest 26 = .ok (.getfield 40, 3) := by decide +kernel
theorem dX5_shortest_29 : decode cX5_shortest 29 = .ok (.aload_n 1, 1) := by decide +kernel
theorem dX5_shortest_30 : decode cX5_shortest 30 = .ok (.getfield 43, 3) := by decide +kernel
theorem dX5_shortest_33 : decode cX5_shortest 33 = .ok (.if_icmp .ne 8, 3) := by decide +kernel
theorem dX5_shortest_36 : decode cX5_shortest 36 = .ok (.aload_n 0, 1) := by decide +kernel
theorem dX5_shortest_37 : decode cX5_shortest 37 = .ok (.getfield 48, 3) := by decide +kernel
theorem dX5_shortest_40 : decode cX5_shortest 40 = .ok (.ireturn, 1) := by decide +kernel
theorem dX5_shortest_41 : decode cX5_shortest 41 = .ok (.aload_n 0, 1) := by decide +kernel
theorem dX5_shortest_42 : decode cX5_shortest 42 = .ok (.iconst 1, 1) := by decide +kernel
theorem dX5_shortest_43 : decode cX5_shortest 43 = .ok (.putfield 28, 3) := by decide +kernel
theorem dX5_shortest_46 : decode cX5_shortest 46 = .ok (.aload_n 0, 1) := by decide +kernel
theorem dX5_shortest_47 : decode cX5_shortest 47 = .ok (.lload_n 2, 1) := by decide +kernel
theorem dX5_shortest_48 : decode cX5_shortest 48 = .ok (.putfield 32, 3) := by decide +kernel
theorem dX5_shortest_51 : decode cX5_shortest 51 = .ok (.aload_n 0, 1) := by decide +kernel
theorem dX5_shortest_52 : decode cX5_shortest 52 = .ok (.iload 4, 2) := by decide +kernel
theorem dX5_shortest_54 : decode cX5_shortest 54 = .ok (.putfield 36, 3) := by decide +kernel
theorem dX5_shortest_57 : decode cX5_shortest 57 = .ok (.aload_n 0, 1) := by decide +kernel
theorem dX5_shortest_58 : decode cX5_shortest 58 = .ok (.aload_n 1, 1) := by decide +kernel
theorem dX5_shortest_59 : decode cX5_shortest 59 = .ok (.getfield 43, 3) := by decide +kernel
theorem dX5_shortest_62 : decode cX5_shortest 62 = .ok (.putfield 40, 3) := by decide +kernel
theorem dX5_shortest_65 : decode cX5_shortest 65 = .ok (.aload_n 0, 1) := by decide +kernel
theorem dX5_shortest_66 : decode cX5_shortest 66 = .ok (.aload_n 1, 1) := by decide +kernel
theorem dX5_shortest_67 : decode cX5_shortest 67 = .ok (.lload_n 2, 1) := by decide +kernel
theorem dX5_shortest_68 : decode cX5_shortest 68 = .ok (.invokevirtual 51, 3) := by decide +kernel
theorem dX5_shortest_71 : decode cX5_shortest 71 = .ok (.ifCond .eq 7, 3) := by decide +kernel
theorem dX5_shortest_74 : decode cX5_shortest 74 = .ok (.iconst 0, 1) := by decide +kernel
theorem dX5_shortest_75 : decode cX5_shortest 75 = .ok (.goto 11, 3) := by decide +kernel
theorem dX5_shortest_78 : decode cX5_shortest 78 = .ok (.aload_n 0, 1) := by decide +kernel
theorem dX5_shortest_79 : decode cX5_shortest 79 = .ok (.aload_n 1, 1) := by decide +kernel
theorem dX5_shortest_80 : decode cX5_shortest 80 = .ok (.lload_n 2, 1) := by decide +kernel
theorem dX5_shortest_81 : decode cX5_shortest 81 = .ok (.iload 4, 2) := by decide +kernel
theorem dX5_shortest_83 : decode cX5_shortest 83 = .ok (.invokevirtual 55, 3) := by decide +kernel
theorem dX5_shortest_86 : decode cX5_shortest 86 = .ok (.putfield 48, 3) := by decide +kernel
theorem dX5_shortest_89 : decode cX5_shortest 89 = .ok (.aload_n 0, 1) := by decide +kernel
theorem dX5_shortest_90 : decode cX5_shortest 90 = .ok (.getfield 48, 3) := by decide +kernel
theorem dX5_shortest_93 : decode cX5_shortest 93 = .ok (.ireturn, 1) := by decide +kernel
theorem dX5_lookThrough_0 : decode cX5_lookThrough 0 = .ok (.aload_n 0, 1) := by decide +kernel
theorem dX5_lookThrough_1 : decode cX5_lookThrough 1 = .ok (.getfield 25, 3) := by decide +kernel
theorem dX5_lookThrough_4 : decode cX5_lookThrough 4 = .ok (.iconst 0, 1) := by decide +kernel
theorem dX5_lookThrough_5 : decode cX5_lookThrough 5 = .ok (.invokestatic 59, 3) := by decide +kernel
theorem dX5_lookThrough_8 : decode cX5_lookThrough 8 = .ok (.aload_n 0, 1) := by decide +kernel
theorem dX5_lookThrough_9 : decode cX5_lookThrough 9 = .ok (.iconst 0, 1) := by decide +kernel
theorem dX5_lookThrough_10 : decode cX5_lookThrough 10 = .ok (.putfield 65, 3) := by decide +kernel
theorem dX5_lookThrough_13 : decode cX5_lookThrough 13 = .ok (.aload_n 0, 1) := by decide +kernel
theorem dX5_lookThrough_14 : decode cX5_lookThrough 14 = .ok (.lload_n 2, 1) := by decide +kernel
theorem dX5_lookThrough_15 : decode cX5_lookThrough 15 = .ok (.iload 4, 2) := by decide +kernel
theorem dX5_lookThrough_17 : decode cX5_lookThrough 17 = .ok (.iconst 0, 1) := by decide +kernel
theorem dX5_lookThrough_18 : decode cX5_lookThrough 18 = .ok (.invokevirtual 68, 3) := by decide +kernel
theorem dX5_lookThrough_21 : decode cX5_lookThrough 21 = .ok (.pop, 1) := by decide +kernel
theorem dX5_lookThrough_22 : decode cX5_lookThrough 22 = .ok (.iconst 0, 1) := by decide +kernel
theorem dX5_lookThrough_23 : decode cX5_lookThrough 23 = .ok (.istore 5, 2) := by decide +kernel
theorem dX5_lookThrough_25 : decode cX5_lookThrough 25 = .ok (.iconst 0, 1) := by decide +kernel
theorem dX5_lookThrough_26 : decode cX5_lookThrough 26 = .ok (.istore 6, 2) := by decide +kernel
theorem dX5_lookThrough_28 : decode cX5_lookThrough 28 = .ok (.iload 6, 2) := by decide +kernel
theorem dX5_lookThrough_30 : decode cX5_lookThrough 30 = .ok (.bipush 12, 2) := by decide +kernel
theorem dX5_lookThrough_32 : decode cX5_lookThrough 32 = .ok (.if_icmp .ge 68, 3) := by decide +kernel
theorem dX5_lookThrough_35 : decode cX5_lookThrough 35 = .ok (.aload_n 0, 1) := by decide +kernel
theorem dX5_lookThrough_36 : decode cX5_lookThrough 36 = .ok (.getfield 65, 3) := by decide +kernel
theorem dX5_lookThrough_39 : decode cX5_lookThrough 39 = .ok (.istore 7, 2) := by decide +kernel
theorem dX5_lookThrough_41 : decode cX5_lookThrough 41 = .ok (.iload 5, 2) := by decide +kernel
theorem dX5_lookThrough_43 : decode cX5_lookThrough 43 = .ok (.istore 8, 2) := by decide +kernel
theorem dX5_lookThrough_45 : decode cX5_lookThrough 45 = .ok (.iload 8, 2) := by decide +kernel
theorem dX5_lookThrough_47 : decode cX5_lookThrough 47 = .ok (.iload 7, 2) := by decide +kernel
theorem dX5_lookThrough_49 : decode cX5_lookThrough 49 = .ok (.if_icmp .ge 41, 3) := by decide +kernel
theorem dX5_lookThrough_52 : decode cX5_lookThrough 52 = .ok (.aload_n 0, 1) := by decide +kernel
theorem dX5_lookThrough_53 : decode cX5_lookThrough 53 = .ok (.aload_n 1, 1) := by decide +kernel
theorem dX5_lookThrough_54 : decode cX5_lookThrough 54 = .ok (.iload 8, 2) := by decide +kernel
theorem dX5_lookThrough_56 : decode cX5_lookThrough 56 = .ok (.iload 6, 2) := by decide +kernel
theorem dX5_lookThrough_58 : decode cX5_lookThrough 58 = .ok (.invokevirtual 72, 3) := by decide +kernel
theorem dX5_lookThrough_61 : decode cX5_lookThrough 61 = .ok (.istore 9, 2) := by decide +kernel
theorem dX5_lookThrough_63 : decode cX5_lookThrough 63 = .ok (.iload 9, 2) := by decide +kernel
theorem dX5_lookThrough_65 : decode cX5_lookThrough 65 = .ok (.ifCond .eq 19, 3) := by decide +kernel
theorem dX5_lookThrough_68 : decode cX5_lookThrough 68 = .ok (.iload 9, 2) := by decide +kernel
theorem dX5_lookThrough_70 : decode cX5_lookThrough 70 = .ok (.iconst 1, 1) := by decide +kernel
theorem dX5_lookThrough_71 : decode cX5_lookThrough 71 = .ok (.if_icmp .ne 10, 3) := by decide +kernel
theorem dX5_lookThrough_74 : decode cX5_lookThrough 74 = .ok (.iload 6, 2) := by decide +kernel
theorem dX5_lookThrough_76 : decode cX5_lookThrough 76 = .ok (.iconst 1, 1) := by decide +kernel
theorem dX5_lookThrough_77 : decode cX5_lookThrough 77 = .ok (.iadd, 1) := by decide +kernel
theorem dX5_lookThrough_78 : decode cX5_lookThrough 78 = .ok (.goto 5, 3) := by decide +kernel
theorem dX5_lookThrough_81 : decode cX5_lookThrough 81 = .ok (.bipush (-2), 2) := by decide +kernel
theorem dX5_lookThrough_83 : decode cX5_lookThrough 83 = .ok (.ireturn, 1) := by decide +kernel
theorem dX5_lookThrough_84 : decode cX5_lookThrough 84 = .ok (.iinc 8 1, 3) := by decide +kernel
theorem dX5_lookThrough_87 : decode cX5_lookThrough 87 = .ok (.goto (-42), 3) := by decide +kernel
theorem dX5_lookThrough_90 : decode cX5_lookThrough 90 = .ok (.iload 7, 2) := by decide +kernel
theorem dX5_lookThrough_92 : decode cX5_lookThrough 92 = .ok (.istore 5, 2) := by decide +kernel
theorem dX5_lookThrough_94 : decode cX5_lookThrough 94 = .ok (.iinc 6 1, 3) := by decide +kernel
theorem dX5_lookThrough_97 : decode cX5_lookThrough 97 = .ok (.goto (-69), 3) := by decide +kernel
theorem dX5_lookThrough_100 : decode cX5_lookThrough 100 = .ok (.iconst (-1), 1) := by decide +kernel
theorem dX5_lookThrough_101 : decode cX5_lookThrough 101 = .ok (.ireturn, 1) := by decide +kernel
theorem dX5_goOn_0 : decode cX5_goOn 0 = .ok (.aload_n 0, 1) := by decide +kernel
theorem dX5_goOn_1 : decode cX5_goOn 1 = .ok (.getfield 19, 3) := by decide +kernel
theorem dX5_goOn_4 : decode cX5_goOn 4 = .ok (.iload_n 2, 1) := by decide +kernel
theorem dX5_goOn_5 : decode cX5_goOn 5 = .ok (.iaload, 1) := by decide +kernel
theorem dX5_goOn_6 : decode cX5_goOn 6 = .ok (.istore 4, 2) := by decide +kernel
theorem dX5_goOn_8 : decode cX5_goOn 8 = .ok (.iload 4, 2) := by decide +kernel
theorem dX5_goOn_10 : decode cX5_goOn 10 = .ok (.iconst 1, 1) := by decide +kernel
theorem dX5_goOn_11 : decode cX5_goOn 11 = .ok (.iadd, 1) := by decide +kernel
theorem dX5_goOn_12 : decode cX5_goOn 12 = .ok (.bipush 6, 2) := by decide +kernel
theorem dX5_goOn_14 : decode cX5_goOn 14 = .ok (.irem, 1) := by decide +kernel
theorem dX5_goOn_15 : decode cX5_goOn 15 = .ok (.istore 5, 2) := by decide +kernel
theorem dX5_goOn_17 : decode cX5_goOn 17 = .ok (.iload_n 3, 1) := by decide +kernel
theorem dX5_goOn_18 : decode cX5_goOn 18 = .ok (.iconst 1, 1) := by decide +kernel
theorem dX5_goOn_19 : decode cX5_goOn 19 = .ok (.iadd, 1) := by decide +kernel
theorem dX5_goOn_20 : decode cX5_goOn 20 = .ok (.bipush 12, 2) := by decide +kernel
theorem dX5_goOn_22 : decode cX5_goOn 22 = .ok (.if_icmp .ge 7, 3) := by decide +kernel
theorem dX5_goOn_25 : decode cX5_goOn 25 = .ok (.iconst 1, 1) := by decide +kernel
theorem dX5_goOn_26 : decode cX5_goOn 26 = .ok (.goto 4, 3) := by decide +kernel
theorem dX5_goOn_29 : decode cX5_goOn 29 = .ok (.iconst 0, 1) := by decide +kernel
theorem dX5_goOn_30 : decode cX5_goOn 30 = .ok (.istore 6, 2) := by decide +kernel
theorem dX5_goOn_32 : decode cX5_goOn 32 = .ok (.aload_n 1, 1) := by decide +kernel
theorem dX5_goOn_33 : decode cX5_goOn 33 = .ok (.aload_n 0, 1) := by decide +kernel
theorem dX5_goOn_34 : decode cX5_goOn 34 = .ok (.getfield 15, 3) := by decide +kernel
theorem dX5_goOn_37 : decode cX5_goOn 37 = .ok (.iload_n 2, 1) := by decide +kernel
theorem dX5_goOn_38 : decode cX5_goOn 38 = .ok (.laload, 1) := by decide +kernel
theorem dX5_goOn_39 : decode cX5_goOn 39 = .ok (.invokevirtual 76, 3) := by decide +kernel
theorem dX5_goOn_42 : decode cX5_goOn 42 = .ok (.iconst 0, 1) := by decide +kernel
theorem dX5_goOn_43 : decode cX5_goOn 43 = .ok (.istore 7, 2) := by decide +kernel
theorem dX5_goOn_45 : decode cX5_goOn 45 = .ok (.iload 7, 2) := by decide +kernel
theorem dX5_goOn_47 : decode cX5_goOn 47 = .ok (.bipush 9, 2) := by decide +kernel
theorem dX5_goOn_49 : decode cX5_goOn 49 = .ok (.if_icmp .ge 64, 3) := by decide +kernel
theorem dX5_goOn_52 : decode cX5_goOn 52 = .ok (.aload_n 1, 1) := by decide +kernel
theorem dX5_goOn_53 : decode cX5_goOn 53 = .ok (.iload 7, 2) := by decide +kernel
theorem dX5_goOn_55 : decode cX5_goOn 55 = .ok (.iload 4, 2) := by decide +kernel
theorem dX5_goOn_57 : decode cX5_goOn 57 = .ok (.invokevirtual 80, 3) := by decide +kernel
theorem dX5_goOn_60 : decode cX5_goOn 60 = .ok (.lstore 8, 2) := by decide +kernel
theorem dX5_goOn_62 : decode cX5_goOn 62 = .ok (.aload_n 1, 1) := by decide +kernel
theorem dX5_goOn_63 : decode cX5_goOn 63 = .ok (.lload 8, 2) := by decide +kernel
theorem dX5_goOn_65 : decode cX5_goOn 65 = .ok (.invokevirtual 51, 3) := by decide +kernel
theorem dX5_goOn_68 : decode cX5_goOn 68 = .ok (.ifCond .eq 13, 3) := by decide +kernel
theorem dX5_goOn_71 : decode cX5_goOn 71 = .ok (.aload_n 0, 1) := by decide +kernel
theorem dX5_goOn_72 : decode cX5_goOn 72 = .ok (.iload_n 2, 1) := by decide +kernel
theorem dX5_goOn_73 : decode cX5_goOn 73 = .ok (.iload 7, 2) := by decide +kernel
theorem dX5_goOn_75 : decode cX5_goOn 75 = .ok (.iload_n 3, 1) := by decide +kernel
theorem dX5_goOn_76 : decode cX5_goOn 76 = .ok (.invokevirtual 84, 3) := by decide +kernel
theorem dX5_goOn_79 : decode cX5_goOn 79 = .ok (.iconst 1, 1) := by decide +kernel
theorem dX5_goOn_80 : decode cX5_goOn 80 = .ok (.ireturn, 1) := by decide +kernel
theorem dX5_goOn_81 : decode cX5_goOn 81 = .ok (.iload 6, 2) := by decide +kernel
theorem dX5_goOn_83 : decode cX5_goOn 83 = .ok (.ifCond .eq 24, 3) := by decide +kernel
theorem dX5_goOn_86 : decode cX5_goOn 86 = .ok (.aload_n 0, 1) := by decide +kernel
theorem dX5_goOn_87 : decode cX5_goOn 87 = .ok (.lload 8, 2) := by decide +kernel
theorem dX5_goOn_89 : decode cX5_goOn 89 = .ok (.iload 5, 2) := by decide +kernel
theorem dX5_goOn_91 : decode cX5_goOn 91 = .ok (.iload_n 2, 1) := by decide +kernel
theorem dX5_goOn_92 : decode cX5_goOn 92 = .ok (.bipush 9, 2) := by decide +kernel
theorem dX5_goOn_94 : decode cX5_goOn 94 = .ok (.imul, 1) := by decide +kernel
theorem dX5_goOn_95 : decode cX5_goOn 95 = .ok (.iload 7, 2) := by decide +kernel
theorem dX5_goOn_97 : decode cX5_goOn 97 = .ok (.iadd, 1) := by decide +kernel
theorem dX5_goOn_98 : decode cX5_goOn 98 = .ok (.invokevirtual 68, 3) := by decide +kernel
theorem dX5_goOn_101 : decode cX5_goOn 101 = .ok (.ifCond .ne 6, 3) := by decide +kernel
theorem dX5_goOn_104 : decode cX5_goOn 104 = .ok (.bipush (-2), 2) := by decide +kernel
theorem dX5_goOn_106 : decode cX5_goOn 106 = .ok (.ireturn, 1) := by decide +kernel
theorem dX5_goOn_107 : decode cX5_goOn 107 = .ok (.iinc 7 1, 3) := by decide +kernel
theorem dX5_goOn_110 : decode cX5_goOn 110 = .ok (.goto (-65), 3) := by decide +kernel
theorem dX5_goOn_113 : decode cX5_goOn 113 = .ok (.iconst 0, 1) := by decide +kernel
theorem dX5_goOn_114 : decode cX5_goOn 114 = .ok (.ireturn, 1) := by decide +kernel
theorem dX5_keepNew_0 : decode cX5_keepNew 0 = .ok (.lload_n 1, 1) := by decide +kernel
theorem dX5_keepNew_1 : decode cX5_keepNew 1 = .ok (.iload_n 3, 1) := by decide +kernel
theorem dX5_keepNew_2 : decode cX5_keepNew 2 = .ok (.i2l, 1) := by decide +kernel
theorem dX5_keepNew_3 : decode cX5_keepNew 3 = .ok (.ladd, 1) := by decide +kernel
theorem dX5_keepNew_4 : decode cX5_keepNew 4 = .ok (.ldc2_w 88, 3) := by decide +kernel
theorem dX5_keepNew_7 : decode cX5_keepNew 7 = .ok (.lmul, 1) := by decide +kernel
theorem dX5_keepNew_8 : decode cX5_keepNew 8 = .ok (.bipush 52, 2) := by decide +kernel
theorem dX5_keepNew_10 : decode cX5_keepNew 10 = .ok (.lushr, 1) := by decide +kernel
theorem dX5_keepNew_11 : decode cX5_keepNew 11 = .ok (.l2i, 1) := by decide +kernel
theorem dX5_keepNew_12 : decode cX5_keepNew 12 = .ok (.istore 5, 2) := by decide +kernel
theorem dX5_keepNew_14 : decode cX5_keepNew 14 = .ok (.iconst 0, 1) := by decide +kernel
theorem dX5_keepNew_15 : decode cX5_keepNew 15 = .ok (.istore 6, 2) := by decide +kernel
theorem dX5_keepNew_17 : decode cX5_keepNew 17 = .ok (.iload 6, 2) := by decide +kernel
theorem dX5_keepNew_19 : decode cX5_keepNew 19 = .ok (.sipush 4096, 3) := by decide +kernel
theorem dX5_keepNew_22 : decode cX5_keepNew 22 = .ok (.if_icmp .ge 72, 3) := by decide +kernel
theorem dX5_keepNew_25 : decode cX5_keepNew 25 = .ok (.iload 5, 2) := by decide +kernel
theorem dX5_keepNew_27 : decode cX5_keepNew 27 = .ok (.iload 6, 2) := by decide +kernel
theorem dX5_keepNew_29 : decode cX5_keepNew 29 = .ok (.iadd, 1) := by decide +kernel
theorem dX5_keepNew_30 : decode cX5_keepNew 30 = .ok (.sipush 4095, 3) := by decide +kernel
theorem dX5_keepNew_33 : decode cX5_keepNew 33 = .ok (.iand, 1) := by decide +kernel
theorem dX5_keepNew_34 : decode cX5_keepNew 34 = .ok (.istore 7, 2) := by decide +kernel
theorem dX5_keepNew_36 : decode cX5_keepNew 36 = .ok (.aload_n 0, 1) := by decide +kernel
theorem dX5_keepNew_37 : decode cX5_keepNew 37 = .ok (.getfield 25, 3) := by decide +kernel
theorem dX5_keepNew_40 : decode cX5_keepNew 40 = .ok (.iload 7, 2) := by decide +kernel
theorem dX5_keepNew_42 : decode cX5_keepNew 42 = .ok (.iaload, 1) := by decide +kernel
theorem dX5_keepNew_43 : decode cX5_keepNew 43 = .ok (.iconst 1, 1) := by decide +kernel
theorem dX5_keepNew_44 : decode cX5_keepNew 44 = .ok (.isub, 1) := by decide +kernel
theorem dX5_keepNew_45 : decode cX5_keepNew 45 = .ok (.istore 8, 2) := by decide +kernel
theorem dX5_keepNew_47 : decode cX5_keepNew 47 = .ok (.iload 8, 2) := by decide +kernel
theorem dX5_keepNew_49 : decode cX5_keepNew 49 = .ok (.ifCond .ge 14, 3) := by decide +kernel
theorem dX5_keepNew_52 : decode cX5_keepNew 52 = .ok (.aload_n 0, 1) := by decide +kernel
theorem dX5_keepNew_53 : decode cX5_keepNew 53 = .ok (.iload 7, 2) := by decide +kernel
theorem dX5_keepNew_55 : decode cX5_keepNew 55 = .ok (.lload_n 1, 1) := by decide +kernel
theorem dX5_keepNew_56 : decode cX5_keepNew 56 = .ok (.iload_n 3, 1) := by decide +kernel
theorem dX5_keepNew_57 : decode cX5_keepNew 57 = .ok (.iload 4, 2) := by decide +kernel
theorem dX5_keepNew_59 : decode cX5_keepNew 59 = .ok (.invokevirtual 90, 3) := by decide +kernel
theorem dX5_keepNew_62 : decode cX5_keepNew 62 = .ok (.ireturn, 1) := by decide +kernel
theorem dX5_keepNew_63 : decode cX5_keepNew 63 = .ok (.aload_n 0, 1) := by decide +kernel
theorem dX5_keepNew_64 : decode cX5_keepNew 64 = .ok (.getfield 15, 3) := by decide +kernel
theorem dX5_keepNew_67 : decode cX5_keepNew 67 = .ok (.iload 8, 2) := by decide +kernel
theorem dX5_keepNew_69 : decode cX5_keepNew 69 = .ok (.laload, 1) := by decide +kernel
theorem dX5_keepNew_70 : decode cX5_keepNew 70 = .ok (.lload_n 1, 1) := by decide +kernel
theorem dX5_keepNew_71 : decode cX5_keepNew 71 = .ok (.lcmp, 1) := by decide +kernel
theorem dX5_keepNew_72 : decode cX5_keepNew 72 = .ok (.ifCond .ne 16, 3) := by decide +kernel
theorem dX5_keepNew_75 : decode cX5_keepNew 75 = .ok (.aload_n 0, 1) := by decide +kernel
theorem dX5_keepNew_76 : decode cX5_keepNew 76 = .ok (.getfield 19, 3) := by decide +kernel
theorem dX5_keepNew_79 : decode cX5_keepNew 79 = .ok (.iload 8, 2) := by decide +kernel
theorem dX5_keepNew_81 : decode cX5_keepNew 81 = .ok (.iaload, 1) := by decide +kernel
theorem dX5_keepNew_82 : decode cX5_keepNew 82 = .ok (.iload_n 3, 1) := by decide +kernel
theorem dX5_keepNew_83 : decode cX5_keepNew 83 = .ok (.if_icmp .ne 5, 3) := by decide +kernel
theorem dX5_keepNew_86 : decode cX5_keepNew 86 = .ok (.iconst 1, 1) := by decide +kernel
theorem dX5_keepNew_87 : decode cX5_keepNew 87 = .ok (.ireturn, 1) := by decide +kernel
theorem dX5_keepNew_88 : decode cX5_keepNew 88 = .ok (.iinc 6 1, 3) := by decide +kernel
theorem dX5_keepNew_91 : decode cX5_keepNew 91 = .ok (.goto (-74), 3) := by decide +kernel
theorem dX5_keepNew_94 : decode cX5_keepNew 94 = .ok (.iconst 0, 1) := by decide +kernel
theorem dX5_keepNew_95 : decode cX5_keepNew 95 = .ok (.ireturn, 1) := by decide +kernel
theorem dX5_keepAt_0 : decode cX5_keepAt 0 = .ok (.aload_n 0, 1) := by decide +kernel
theorem dX5_keepAt_1 : decode cX5_keepAt 1 = .ok (.getfield 65, 3) := by decide +kernel
theorem dX5_keepAt_4 : decode cX5_keepAt 4 = .ok (.sipush 3000, 3) := by decide +kernel
theorem dX5_keepAt_7 : decode cX5_keepAt 7 = .ok (.if_icmp .lt 5, 3) := by decide +kernel
theorem dX5_keepAt_10 : decode cX5_keepAt 10 = .ok (.iconst 0, 1) := by decide +kernel
theorem dX5_keepAt_11 : decode cX5_keepAt 11 = .ok (.ireturn, 1) := by decide +kernel
theorem dX5_keepAt_12 : decode cX5_keepAt 12 = .ok (.aload_n 0, 1) := by decide +kernel
theorem dX5_keepAt_13 : decode cX5_keepAt 13 = .ok (.getfield 15, 3) := by decide +kernel
theorem dX5_keepAt_16 : decode cX5_keepAt 16 = .ok (.aload_n 0, 1) := by decide +kernel
theorem dX5_keepAt_17 : decode cX5_keepAt 17 = .ok (.getfield 65, 3) := by decide +kernel
theorem dX5_keepAt_20 : decode cX5_keepAt 20 = .ok (.lload_n 2, 1) := by decide +kernel
theorem dX5_keepAt_21 : decode cX5_keepAt 21 = .ok (.lastore, 1) := by decide +kernel
theorem dX5_keepAt_22 : decode cX5_keepAt 22 = .ok (.aload_n 0, 1) := by decide +kernel
theorem dX5_keepAt_23 : decode cX5_keepAt 23 = .ok (.getfield 19, 3) := by decide +kernel
theorem dX5_keepAt_26 : decode cX5_keepAt 26 = .ok (.aload_n 0, 1) := by decide +kernel
theorem dX5_keepAt_27 : decode cX5_keepAt 27 = .ok (.getfield 65, 3) := by decide +kernel
theorem dX5_keepAt_30 : decode cX5_keepAt 30 = .ok (.iload 4, 2) := by decide +kernel
theorem dX5_keepAt_32 : decode cX5_keepAt 32 = .ok (.iastore, 1) := by decide +kernel
theorem dX5_keepAt_33 : decode cX5_keepAt 33 = .ok (.aload_n 0, 1) := by decide +kernel
theorem dX5_keepAt_34 : decode cX5_keepAt 34 = .ok (.getfield 22, 3) := by decide +kernel
theorem dX5_keepAt_37 : decode cX5_keepAt 37 = .ok (.aload_n 0, 1) := by decide +kernel
theorem dX5_keepAt_38 : decode cX5_keepAt 38 = .ok (.getfield 65, 3) := by decide +kernel
theorem dX5_keepAt_41 : decode cX5_keepAt 41 = .ok (.iload 5, 2) := by decide +kernel
theorem dX5_keepAt_43 : decode cX5_keepAt 43 = .ok (.iastore, 1) := by decide +kernel
theorem dX5_keepAt_44 : decode cX5_keepAt 44 = .ok (.aload_n 0, 1) := by decide +kernel
theorem dX5_keepAt_45 : decode cX5_keepAt 45 = .ok (.dup, 1) := by decide +kernel
theorem dX5_keepAt_46 : decode cX5_keepAt 46 = .ok (.getfield 65, 3) := by decide +kernel
theorem dX5_keepAt_49 : decode cX5_keepAt 49 = .ok (.iconst 1, 1) := by decide +kernel
theorem dX5_keepAt_50 : decode cX5_keepAt 50 = .ok (.iadd, 1) := by decide +kernel
theorem dX5_keepAt_51 : decode cX5_keepAt 51 = .ok (.putfield 65, 3) := by decide +kernel
theorem dX5_keepAt_54 : decode cX5_keepAt 54 = .ok (.aload_n 0, 1) := by decide +kernel
theorem dX5_keepAt_55 : decode cX5_keepAt 55 = .ok (.getfield 25, 3) := by decide +kernel
theorem dX5_keepAt_58 : decode cX5_keepAt 58 = .ok (.iload_n 1, 1) := by decide +kernel
theorem dX5_keepAt_59 : decode cX5_keepAt 59 = .ok (.aload_n 0, 1) := by decide +kernel
theorem dX5_keepAt_60 : decode cX5_keepAt 60 = .ok (.getfield 65, 3) := by decide +kernel
theorem dX5_keepAt_63 : decode cX5_keepAt 63 = .ok (.iastore, 1) := by decide +kernel
theorem dX5_keepAt_64 : decode cX5_keepAt 64 = .ok (.iconst 1, 1) := by decide +kernel
theorem dX5_keepAt_65 : decode cX5_keepAt 65 = .ok (.ireturn, 1) := by decide +kernel
theorem dX5_writeRow_0 : decode cX5_writeRow 0 = .ok (.aload_n 0, 1) := by decide +kernel
theorem dX5_writeRow_1 : decode cX5_writeRow 1 = .ok (.getfield 11, 3) := by decide +kernel
theorem dX5_writeRow_4 : decode cX5_writeRow 4 = .ok (.iload_n 3, 1) := by decide +kernel
theorem dX5_writeRow_5 : decode cX5_writeRow 5 = .ok (.iload_n 2, 1) := by decide +kernel
theorem dX5_writeRow_6 : decode cX5_writeRow 6 = .ok (.iastore, 1) := by decide +kernel
theorem dX5_writeRow_7 : decode cX5_writeRow 7 = .ok (.iload_n 1, 1) := by decide +kernel
theorem dX5_writeRow_8 : decode cX5_writeRow 8 = .ok (.istore 4, 2) := by decide +kernel
theorem dX5_writeRow_10 : decode cX5_writeRow 10 = .ok (.iload_n 3, 1) := by decide +kernel
theorem dX5_writeRow_11 : decode cX5_writeRow 11 = .ok (.iconst 1, 1) := by decide +kernel
theorem dX5_writeRow_12 : decode cX5_writeRow 12 = .ok (.isub, 1) := by decide +kernel
theorem dX5_writeRow_13 : decode cX5_writeRow 13 = .ok (.istore 5, 2) := by decide +kernel
theorem dX5_writeRow_15 : decode cX5_writeRow 15 = .ok (.iload 5, 2) := by decide +kernel
theorem dX5_writeRow_17 : decode cX5_writeRow 17 = .ok (.ifCond .lt 38, 3) := by decide +kernel
theorem dX5_writeRow_20 : decode cX5_writeRow 20 = .ok (.aload_n 0, 1) := by decide +kernel
theorem dX5_writeRow_21 : decode cX5_writeRow 21 = .ok (.getfield 11, 3) := by decide +kernel
theorem dX5_writeRow_24 : decode cX5_writeRow 24 = .ok (.iload 5, 2) := by decide +kernel
theorem dX5_writeRow_26 : decode cX5_writeRow 26 = .ok (.aload_n 0, 1) := by decide +kernel
theorem dX5_writeRow_27 : decode cX5_writeRow 27 = .ok (.getfield 22, 3) := by decide +kernel
theorem dX5_writeRow_30 : decode cX5_writeRow 30 = .ok (.iload 4, 2) := by decide +kernel
theorem dX5_writeRow_32 : decode cX5_writeRow 32 = .ok (.iaload, 1) := by decide +kernel
theorem dX5_writeRow_33 : decode cX5_writeRow 33 = .ok (.bipush 9, 2) := by decide +kernel
theorem dX5_writeRow_35 : decode cX5_writeRow 35 = .ok (.irem, 1) := by decide +kernel
theorem dX5_writeRow_36 : decode cX5_writeRow 36 = .ok (.iastore, 1) := by decide +kernel
theorem dX5_writeRow_37 : decode cX5_writeRow 37 = .ok (.aload_n 0, 1) := by decide +kernel
theorem dX5_writeRow_38 : decode cX5_writeRow 38 = .ok (.getfield 22, 3) := by decide +kernel
theorem dX5_writeRow_41 : decode cX5_writeRow 41 = .ok (.iload 4, 2) := by decide +kernel
theorem dX5_writeRow_43 : decode cX5_writeRow 43 = .ok (.iaload, 1) := by decide +kernel
theorem dX5_writeRow_44 : decode cX5_writeRow 44 = .ok (.bipush 9, 2) := by decide +kernel
theorem dX5_writeRow_46 : decode cX5_writeRow 46 = .ok (.idiv, 1) := by decide +kernel
theorem dX5_writeRow_47 : decode cX5_writeRow 47 = .ok (.istore 4, 2) := by decide +kernel
theorem dX5_writeRow_49 : decode cX5_writeRow 49 = .ok (.iinc 5 (-1), 3) := by decide +kernel
theorem dX5_writeRow_52 : decode cX5_writeRow 52 = .ok (.goto (-37), 3) := by decide +kernel
theorem dX5_writeRow_55 : decode cX5_writeRow 55 = .ok (.return_, 1) := by decide +kernel
theorem dX6_init_0 : decode cX6_init 0 = .ok (.aload_n 0, 1) := by decide +kernel
theorem dX6_init_1 : decode cX6_init 1 = .ok (.invokespecial 3, 3) := by decide +kernel
theorem dX6_init_4 : decode cX6_init 4 = .ok (.aload_n 0, 1) := by decide +kernel
theorem dX6_init_5 : decode cX6_init 5 = .ok (.new 9, 3) := by decide +kernel
theorem dX6_init_8 : decode cX6_init 8 = .ok (.dup, 1) := by decide +kernel
theorem dX6_init_9 : decode cX6_init 9 = .ok (.invokespecial 11, 3) := by decide +kernel
theorem dX6_init_12 : decode cX6_init 12 = .ok (.putfield 12, 3) := by decide +kernel
theorem dX6_init_15 : decode cX6_init 15 = .ok (.aload_n 0, 1) := by decide +kernel
theorem dX6_init_16 : decode cX6_init 16 = .ok (.new 16, 3) := by decide +kernel
theorem dX6_init_19 : decode cX6_init 19 = .ok (.dup, 1) := by decide +kernel
theorem dX6_init_20 : decode cX6_init 20 = .ok (.invokespecial 18, 3) := by decide +kernel
theorem dX6_init_23 : decode cX6_init 23 = .ok (.putfield 19, 3) := by decide +kernel
theorem dX6_init_26 : decode cX6_init 26 = .ok (.aload_n 0, 1) := by decide +kernel
theorem dX6_init_27 : decode cX6_init 27 = .ok (.new 23, 3) := by decide +kernel
theorem dX6_init_30 : decode cX6_init 30 = .ok (.dup, 1) := by decide +kernel
theorem dX6_init_31 : decode cX6_init 31 = .ok (.invokespecial 25, 3) := by decide +kernel
theorem dX6_init_34 : decode cX6_init 34 = .ok (.putfield 26, 3) := by decide +kernel
theorem dX6_init_37 : decode cX6_init 37 = .ok (.aload_n 0, 1) := by decide +kernel
theorem dX6_init_38 : decode cX6_init 38 = .ok (.new 23, 3) := by decide +kernel
theorem dX6_init_41 : decode cX6_init 41 = .ok (.dup, 1) := by decide +kernel
theorem dX6_init_42 : decode cX6_init 42 = .ok (.invokespecial 25, 3) := by decide +kernel
theorem dX6_init_45 : decode cX6_init 45 = .ok (.putfield 30, 3) := by decide +kernel
theorem dX6_init_48 : decode cX6_init 48 = .ok (.aload_n 0, 1) := by decide +kernel
theorem dX6_init_49 : decode cX6_init 49 = .ok (.aconst_null, 1) := by decide +kernel
theorem dX6_init_50 : decode cX6_init 50 = .ok (.putfield 33, 3) := by decide +kernel
theorem dX6_init_53 : decode cX6_init 53 = .ok (.aload_n 0, 1) := by decide +kernel
theorem dX6_init_54 : decode cX6_init 54 = .ok (.aconst_null, 1) := by decide +kernel
theorem dX6_init_55 : decode cX6_init 55 = .ok (.putfield 37, 3) := by decide +kernel
theorem dX6_init_58 : decode cX6_init 58 = .ok (.aload_n 0, 1) := by decide +kernel
theorem dX6_init_59 : decode cX6_init 59 = .ok (.getfield 12, 3) := by decide +kernel
theorem dX6_init_62 : decode cX6_init 62 = .ok (.iconst 4, 1) := by decide +kernel
theorem dX6_init_63 : decode cX6_init 63 = .ok (.iconst 4, 1) := by decide +kernel
theorem dX6_init_64 : decode cX6_init 64 = .ok (.invokevirtual 41, 3) := by decide +kernel
theorem dX6_init_67 : decode cX6_init 67 = .ok (.aload_n 0, 1) := by decide +kernel
theorem dX6_init_68 : decode cX6_init 68 = .ok (.aload_n 0, 1) := by decide +kernel
theorem dX6_init_69 : decode cX6_init 69 = .ok (.getfield 12, 3) := by decide +kernel
theorem dX6_init_72 : decode cX6_init 72 = .ok (.getfield 45, 3) := by decide +kernel
theorem dX6_init_75 : decode cX6_init 75 = .ok (.putfield 49, 3) := by decide +kernel
theorem dX6_init_78 : decode cX6_init 78 = .ok (.aload_n 0, 1) := by decide +kernel
theorem dX6_init_79 : decode cX6_init 79 = .ok (.iconst 0, 1) := by decide +kernel
theorem dX6_init_80 : decode cX6_init 80 = .ok (.putfield 52, 3) := by decide +kernel
theorem dX6_init_83 : decode cX6_init 83 = .ok (.aload_n 0, 1) := by decide +kernel
theorem dX6_init_84 : decode cX6_init 84 = .ok (.iconst (-1), 1) := by decide +kernel
theorem dX6_init_85 : decode cX6_init 85 = .ok (.putfield 56, 3) := by decide +kernel
theorem dX6_init_88 : decode cX6_init 88 = .ok (.return_, 1) := by decide +kernel
theorem dX6_sea_0 : decode cX6_sea 0 = .ok (.iload_n 1, 1) := by decide +kernel
theorem dX6_sea_1 : decode cX6_sea 1 = .ok (.iconst 2, 1) := by decide +kernel
theorem dX6_sea_2 : decode cX6_sea 2 = .ok (.if_icmp .lt 20, 3) := by decide +kernel
theorem dX6_sea_5 : decode cX6_sea 5 = .ok (.iload_n 1, 1) := by decide +kernel
theorem dX6_sea_6 : decode cX6_sea 6 = .ok (.bipush 8, 2) := by decide +kernel
theorem dX6_sea_8 : decode cX6_sea 8 = .ok (.if_icmp .gt 14, 3) := by decide +kernel
theorem dX6_sea_11 : decode cX6_sea 11 = .ok (.iload_n 2, 1) := by decide +kernel
theorem dX6_sea_12 : decode cX6_sea 12 = .ok (.iconst 2, 1) := by decide +kernel
theorem dX6_sea_13 : decode cX6_sea 13 = .ok (.if_icmp .lt 9, 3) := by decide +kernel
theorem dX6_sea_16 : decode cX6_sea 16 = .ok (.iload_n 2, 1) := by decide +kernel
theorem dX6_sea_17 : decode cX6_sea 17 = .ok (.bipush 8, 2) := by decide +kernel
theorem dX6_sea_19 : decode cX6_sea 19 = .ok (.if_icmp .le 5, 3) := by decide +kernel
theorem dX6_sea_22 : decode cX6_sea 22 = .ok (.iconst 0, 1) := by decide +kernel
theorem dX6_sea_23 : decode cX6_sea 23 = .ok (.ireturn, 1) := by decide +kernel
theorem dX6_sea_24 : decode cX6_sea 24 = .ok (.aload_n 0, 1) := by decide +kernel
theorem dX6_sea_25 : decode cX6_sea 25 = .ok (.getfield 12, 3) := by decide +kernel
theorem dX6_sea_28 : decode cX6_sea 28 = .ok (.iload_n 1, 1) := by decide +kernel
theorem dX6_sea_29 : decode cX6_sea 29 = .ok (.iload_n 2, 1) := by decide +kernel
theorem dX6_sea_30 : decode cX6_sea 30 = .ok (.invokevirtual 41, 3) := by decide +kernel
theorem dX6_sea_33 : decode cX6_sea 33 = .ok (.aload_n 0, 1) := by decide +kernel
theorem dX6_sea_34 : decode cX6_sea 34 = .ok (.aload_n 0, 1) := by decide +kernel
theorem dX6_sea_35 : decode cX6_sea 35 = .ok (.getfield 12, 3) := by decide +kernel
theorem dX6_sea_38 : decode cX6_sea 38 = .ok (.getfield 45, 3) := by decide +kernel
theorem dX6_sea_41 : decode cX6_sea 41 = .ok (.invokevirtual 59, 3) := by decide +kernel
theorem dX6_sea_44 : decode cX6_sea 44 = .ok (.iconst 1, 1) := by decide +kernel
theorem dX6_sea_45 : decode cX6_sea 45 = .ok (.ireturn, 1) := by decide +kernel
theorem dX6_land_0 : decode cX6_land 0 = .ok (.aload_n 0, 1) := by decide +kernel
theorem dX6_land_1 : decode cX6_land 1 = .ok (.getfield 12, 3) := by decide +kernel
theorem dX6_land_4 : decode cX6_land 4 = .ok (.iload_n 1, 1) := by decide +kernel
theorem dX6_land_5 : decode cX6_land 5 = .ok (.invokevirtual 63, 3) := by decide +kernel
theorem dX6_land_8 : decode cX6_land 8 = .ok (.ifCond .eq 13, 3) := by decide +kernel
theorem dX6_land_11 : decode cX6_land 11 = .ok (.iload_n 2, 1) := by decide +kernel
theorem dX6_land_12 : decode cX6_land 12 = .ok (.iconst (-1), 1) := by decide +kernel
theorem dX6_land_13 : decode cX6_land 13 = .ok (.if_icmp .lt 8, 3) := by decide +kernel
theorem dX6_land_16 : decode cX6_land 16 = .ok (.iload_n 2, 1) := by decide +kernel
theorem dX6_land_17 : decode cX6_land 17 = .ok (.iconst 3, 1) := by decide +kernel
theorem dX6_land_18 : decode cX6_land 18 = .ok (.if_icmp .le 5, 3) := by decide +kernel
theorem dX6_land_21 : decode cX6_land 21 = .ok (.iconst 0, 1) := by decide +kernel
theorem dX6_land_22 : decode cX6_land 22 = .ok (.ireturn, 1) := by decide +kernel
theorem dX6_land_23 : decode cX6_land 23 = .ok (.aload_n 0, 1) := by decide +kernel
theorem dX6_land_24 : decode cX6_land 24 = .ok (.getfield 12, 3) := by decide +kernel
theorem dX6_land_27 : decode cX6_land 27 = .ok (.iload_n 1, 1) := by decide +kernel
theorem dX6_land_28 : decode cX6_land 28 = .ok (.iload_n 2, 1) := by decide +kernel
theorem dX6_land_29 : decode cX6_land 29 = .ok (.invokevirtual 67, 3) := by decide +kernel
theorem dX6_land_32 : decode cX6_land 32 = .ok (.iconst 1, 1) := by decide +kernel
theorem dX6_land_33 : decode cX6_land 33 = .ok (.ireturn, 1) := by decide +kernel
theorem dX6_swell_0 : decode cX6_swell 0 = .ok (.aload_n 0, 1) := by decide +kernel
theorem dX6_swell_1 : decode cX6_swell 1 = .ok (.getfield 12, 3) := by decide +kernel
theorem dX6_swell_4 : decode cX6_swell 4 = .ok (.iload_n 1, 1) := by decide +kernel
theorem dX6_swell_5 : decode cX6_swell 5 = .ok (.invokevirtual 63, 3) := by decide +kernel
theorem dX6_swell_8 : decode cX6_swell 8 = .ok (.ifCond .eq 12, 3) := by decide +kernel
theorem dX6_swell_11 : decode cX6_swell 11 = .ok (.iload_n 2, 1) := by decide +kernel
theorem dX6_swell_12 : decode cX6_swell 12 = .ok (.ifCond .lt 8, 3) := by decide +kernel
theorem dX6_swell_15 : decode cX6_swell 15 = .ok (.iload_n 2, 1) := by decide +kernel
theorem dX6_swell_16 : decode cX6_swell 16 = .ok (.iconst 3, 1) := by decide +kernel
theorem dX6_swell_17 : decode cX6_swell 17 = .ok (.if_icmp .le 5, 3) := by decide +kernel
theorem dX6_swell_20 : decode cX6_swell 20 = .ok (.iconst 0, 1) := by decide +kernel
theorem dX6_swell_21 : decode cX6_swell 21 = .ok (.ireturn, 1) := by decide +kernel
theorem dX6_swell_22 : decode cX6_swell 22 = .ok (.aload_n 0, 1) := by decide +kernel
theorem dX6_swell_23 : decode cX6_swell 23 = .ok (.getfield 12, 3) := by decide +kernel
theorem dX6_swell_26 : decode cX6_swell 26 = .ok (.iload_n 1, 1) := by decide +kernel
theorem dX6_swell_27 : decode cX6_swell 27 = .ok (.iload_n 2, 1) := by decide +kernel
theorem dX6_swell_28 : decode cX6_swell 28 = .ok (.invokevirtual 70, 3) := by decide +kernel
theorem dX6_swell_31 : decode cX6_swell 31 = .ok (.iconst 1, 1) := by decide +kernel
theorem dX6_swell_32 : decode cX6_swell 32 = .ok (.ireturn, 1) := by decide +kernel
theorem dX6_drifts_0 : decode cX6_drifts 0 = .ok (.iload_n 1, 1) := by decide +kernel
theorem dX6_drifts_1 : decode cX6_drifts 1 = .ok (.invokestatic 73, 3) := by decide +kernel
theorem dX6_drifts_4 : decode cX6_drifts 4 = .ok (.ifCond .eq 14, 3) := by decide +kernel
theorem dX6_drifts_7 : decode cX6_drifts 7 = .ok (.iload_n 2, 1) := by decide +kernel
theorem dX6_drifts_8 : decode cX6_drifts 8 = .ok (.ifCond .le 10, 3) := by decide +kernel
theorem dX6_drifts_11 : decode cX6_drifts 11 = .ok (.iload_n 2, 1) := by decide +kernel
theorem dX6_drifts_12 : decode cX6_drifts 12 = .ok (.sipush 512, 3) := by decide +kernel
theorem dX6_drifts_15 : decode cX6_drifts 15 = .ok (.if_icmp .lt 5, 3) := by decide +kernel
theorem dX6_drifts_18 : decode cX6_drifts 18 = .ok (.iconst 0, 1) := by decide +kernel
theorem dX6_drifts_19 : decode cX6_drifts 19 = .ok (.ireturn, 1) := by decide +kernel
theorem dX6_drifts_20 : decode cX6_drifts 20 = .ok (.aload_n 0, 1) := by decide +kernel
theorem dX6_drifts_21 : decode cX6_drifts 21 = .ok (.getfield 12, 3) := by decide +kernel
theorem dX6_drifts_24 : decode cX6_drifts 24 = .ok (.iload_n 1, 1) := by decide +kernel
theorem dX6_drifts_25 : decode cX6_drifts 25 = .ok (.iload_n 2, 1) := by decide +kernel
theorem dX6_drifts_26 : decode cX6_drifts 26 = .ok (.invokevirtual 76, 3) := by decide +kernel
theorem dX6_drifts_29 : decode cX6_drifts 29 = .ok (.iconst 1, 1) := by decide +kernel
theorem dX6_drifts_30 : decode cX6_drifts 30 = .ok (.ireturn, 1) := by decide +kernel
theorem dX6_watches_0 : decode cX6_watches 0 = .ok (.iload_n 1, 1) := by decide +kernel
theorem dX6_watches_1 : decode cX6_watches 1 = .ok (.invokestatic 79, 3) := by decide +kernel
theorem dX6_watches_4 : decode cX6_watches 4 = .ok (.ifCond .eq 10, 3) := by decide +kernel
theorem dX6_watches_7 : decode cX6_watches 7 = .ok (.iload_n 2, 1) := by decide +kernel
theorem dX6_watches_8 : decode cX6_watches 8 = .ok (.invokestatic 79, 3) := by decide +kernel
theorem dX6_watches_11 : decode cX6_watches 11 = .ok (.ifCond .ne 5, 3) := by decide +kernel
theorem dX6_watches_14 : decode cX6_watches 14 = .ok (.iconst 0, 1) := by decide +kernel
theorem dX6_watches_15 : decode cX6_watches 15 = .ok (.ireturn, 1) := by decide +kernel
theorem dX6_watches_16 : decode cX6_watches 16 = .ok (.aload_n 0, 1) := by decide +kernel
theorem dX6_watches_17 : decode cX6_watches 17 = .ok (.getfield 12, 3) := by decide +kernel
theorem dX6_watches_20 : decode cX6_watches 20 = .ok (.iload_n 1, 1) := by decide +kernel
theorem dX6_watches_21 : decode cX6_watches 21 = .ok (.iload_n 2, 1) := by decide +kernel
theorem dX6_watches_22 : decode cX6_watches 22 = .ok (.invokevirtual 82, 3) := by decide +kernel
theorem dX6_watches_25 : decode cX6_watches 25 = .ok (.iconst 1, 1) := by decide +kernel
theorem dX6_watches_26 : decode cX6_watches 26 = .ok (.ireturn, 1) := by decide +kernel
theorem dX6_look_0 : decode cX6_look 0 = .ok (.iload_n 1, 1) := by decide +kernel
theorem dX6_look_1 : decode cX6_look 1 = .ok (.tableswitch 125 0 8 #[51, 59, 67, 72, 80, 96, 101, 109, 117], 51) := by decide +kernel
theorem dX6_look_52 : decode cX6_look 52 = .ok (.aload_n 0, 1) := by decide +kernel
theorem dX6_look_53 : decode cX6_look 53 = .ok (.getfield 12, 3) := by decide +kernel
theorem dX6_look_56 : decode cX6_look 56 = .ok (.getfield 85, 3) := by decide +kernel
theorem dX6_look_59 : decode cX6_look 59 = .ok (.ireturn, 1) := by decide +kernel
theorem dX6_look_60 : decode cX6_look 60 = .ok (.aload_n 0, 1) := by decide +kernel
theorem dX6_look_61 : decode cX6_look 61 = .ok (.getfield 12, 3) := by decide +kernel
theorem dX6_look_64 : decode cX6_look 64 = .ok (.getfield 88, 3) := by decide +kernel
theorem dX6_look_67 : decode cX6_look 67 = .ok (.ireturn, 1) := by decide +kernel
theorem dX6_look_68 : decode cX6_look 68 = .ok (.aload_n 0, 1) := by decide +kernel
theorem dX6_look_69 : decode cX6_look 69 = .ok (.getfield 52, 3) := by decide +kernel
theorem dX6_look_72 : decode cX6_look 72 = .ok (.ireturn, 1) := by decide +kernel
theorem dX6_look_73 : decode cX6_look 73 = .ok (.aload_n 0, 1) := by decide +kernel
theorem dX6_look_74 : decode cX6_look 74 = .ok (.getfield 49, 3) := by decide +kernel
theorem dX6_look_77 : decode cX6_look 77 = .ok (.invokestatic 91, 3) := by decide +kernel
theorem dX6_look_80 : decode cX6_look 80 = .ok (.ireturn, 1) := by decide +kernel
theorem dX6_look_81 : decode cX6_look 81 = .ok (.aload_n 0, 1) := by decide +kernel
theorem dX6_look_82 : decode cX6_look 82 = .ok (.getfield 49, 3) := by decide +kernel
theorem dX6_look_85 : decode cX6_look 85 = .ok (.aload_n 0, 1) := by decide +kernel
theorem dX6_look_86 : decode cX6_look 86 = .ok (.getfield 12, 3) := by decide +kernel
theorem dX6_look_89 : decode cX6_look 89 = .ok (.getfield 97, 3) := by decide +kernel
theorem dX6_look_92 : decode cX6_look 92 = .ok (.land, 1) := by decide +kernel
theorem dX6_look_93 : decode cX6_look 93 = .ok (.invokestatic 91, 3) := by decide +kernel
theorem dX6_look_96 : decode cX6_look 96 = .ok (.ireturn, 1) := by decide +kernel
theorem dX6_look_97 : decode cX6_look 97 = .ok (.aload_n 0, 1) := by decide +kernel
theorem dX6_look_98 : decode cX6_look 98 = .ok (.getfield 56, 3) := by decide +kernel
theorem dX6_look_101 : decode cX6_look 101 = .ok (.ireturn, 1) := by decide +kernel
theorem dX6_look_102 : decode cX6_look 102 = .ok (.aload_n 0, 1) := by decide +kernel
theorem dX6_look_103 : decode cX6_look 103 = .ok (.getfield 26, 3) := by decide +kernel
theorem dX6_look_106 : decode cX6_look 106 = .ok (.getfield 100, 3) := by decide +kernel
theorem dX6_look_109 : decode cX6_look 109 = .ok (.ireturn, 1) := by decide +kernel
theorem dX6_look_110 : decode cX6_look 110 = .ok (.aload_n 0, 1) := by decide +kernel
theorem dX6_look_111 : decode cX6_look 111 = .ok (.getfield 12, 3) := by decide +kernel
theorem dX6_look_114 : decode cX6_look 114 = .ok (.getfield 103, 3) := by decide +kernel
theorem dX6_look_117 : decode cX6_look 117 = .ok (.ireturn, 1) := by decide +kernel
theorem dX6_look_118 : decode cX6_look 118 = .ok (.aload_n 0, 1) := by decide +kernel
theorem dX6_look_119 : decode cX6_look 119 = .ok (.getfield 12, 3) := by decide +kernel
theorem dX6_look_122 : decode cX6_look 122 = .ok (.getfield 106, 3) := by decide +kernel
theorem dX6_look_125 : decode cX6_look 125 = .ok (.ireturn, 1) := by decide +kernel
theorem dX6_look_126 : decode cX6_look 126 = .ok (.aload_n 0, 1) := by decide +kernel
theorem dX6_look_127 : decode cX6_look 127 = .ok (.iload_n 1, 1) := by decide +kernel
theorem dX6_look_128 : decode cX6_look 128 = .ok (.invokevirtual 109, 3) := by decide +kernel
theorem dX6_look_131 : decode cX6_look 131 = .ok (.ireturn, 1) := by decide +kernel
theorem dX6_lookAtRows_0 : decode cX6_lookAtRows 0 = .ok (.iload_n 1, 1) := by decide +kernel
theorem dX6_lookAtRows_1 : decode cX6_lookAtRows 1 = .ok (.sipush 200, 3) := by decide +kernel
theorem dX6_lookAtRows_4 : decode cX6_lookAtRows 4 = .ok (.if_icmp .lt 37, 3) := by decide +kernel
theorem dX6_lookAtRows_7 : decode cX6_lookAtRows 7 = .ok (.aload_n 0, 1) := by decide +kernel
theorem dX6_lookAtRows_8 : decode cX6_lookAtRows 8 = .ok (.getfield 12, 3) := by decide +kernel
theorem dX6_lookAtRows_11 : decode cX6_lookAtRows 11 = .ok (.iload_n 1, 1) := by decide +kernel
theorem dX6_lookAtRows_12 : decode cX6_lookAtRows 12 = .ok (.sipush 200, 3) := by decide +kernel
theorem dX6_lookAtRows_15 : decode cX6_lookAtRows 15 = .ok (.isub, 1) := by decide +kernel
theorem dX6_lookAtRows_16 : decode cX6_lookAtRows 16 = .ok (.invokevirtual 63, 3) := by decide +kernel
theorem dX6_lookAtRows_19 : decode cX6_lookAtRows 19 = .ok (.ifCond .eq 19, 3) := by decide +kernel
theorem dX6_lookAtRows_22 : decode cX6_lookAtRows 22 = .ok (.aload_n 0, 1) := by decide +kernel
theorem dX6_lookAtRows_23 : decode cX6_lookAtRows 23 = .ok (.getfield 12, 3) := by decide +kernel
theorem dX6_lookAtRows_26 : decode cX6_lookAtRows 26 = .ok (.getfield 113, 3) := by decide +kernel
theorem dX6_lookAtRows_29 : decode cX6_lookAtRows 29 = .ok (.iload_n 1, 1) := by decide +kernel
theorem dX6_lookAtRows_30 : decode cX6_lookAtRows 30 = .ok (.sipush 200, 3) := by decide +kernel
theorem dX6_lookAtRows_33 : decode cX6_lookAtRows 33 = .ok (.isub, 1) := by decide +kernel
theorem dX6_lookAtRows_34 : decode cX6_lookAtRows 34 = .ok (.iaload, 1) := by decide +kernel
theorem dX6_lookAtRows_35 : decode cX6_lookAtRows 35 = .ok (.goto 5, 3) := by decide +kernel
theorem dX6_lookAtRows_38 : decode cX6_lookAtRows 38 = .ok (.bipush (-2), 2) := by decide +kernel
theorem dX6_lookAtRows_40 : decode cX6_lookAtRows 40 = .ok (.ireturn, 1) := by decide +kernel
theorem dX6_lookAtRows_41 : decode cX6_lookAtRows 41 = .ok (.iload_n 1, 1) := by decide +kernel
theorem dX6_lookAtRows_42 : decode cX6_lookAtRows 42 = .ok (.bipush 100, 2) := by decide +kernel
theorem dX6_lookAtRows_44 : decode cX6_lookAtRows 44 = .ok (.if_icmp .lt 35, 3) := by decide +kernel
theorem dX6_lookAtRows_47 : decode cX6_lookAtRows 47 = .ok (.aload_n 0, 1) := by decide +kernel
theorem dX6_lookAtRows_48 : decode cX6_lookAtRows 48 = .ok (.getfield 12, 3) := by decide +kernel
theorem dX6_lookAtRows_51 : decode cX6_lookAtRows 51 = .ok (.iload_n 1, 1) := by decide +kernel
theorem dX6_lookAtRows_52 : decode cX6_lookAtRows 52 = .ok (.bipush 100, 2) := by decide +kernel
theorem dX6_lookAtRows_54 : decode cX6_lookAtRows 54 = .ok (.isub, 1) := by decide +kernel
theorem dX6_lookAtRows_55 : decode cX6_lookAtRows 55 = .ok (.invokevirtual 63, 3) := by decide +kernel
theorem dX6_lookAtRows_58 : decode cX6_lookAtRows 58 = .ok (.ifCond .eq 18, 3) := by decide +kernel
theorem dX6_lookAtRows_61 : decode cX6_lookAtRows 61 = .ok (.aload_n 0, 1) := by decide +kernel
theorem dX6_lookAtRows_62 : decode cX6_lookAtRows 62 = .ok (.getfield 12, 3) := by decide +kernel
theorem dX6_lookAtRows_65 : decode cX6_lookAtRows 65 = .ok (.getfield 117, 3) := by decide +kernel
theorem dX6_lookAtRows_68 : decode cX6_lookAtRows 68 = .ok (.iload_n 1, 1) := by decide +kernel
theorem dX6_lookAtRows_69 : decode cX6_lookAtRows 69 = .ok (.bipush 100, 2) := by decide +kernel
theorem dX6_lookAtRows_71 : decode cX6_lookAtRows 71 = .ok (.isub, 1) := by decide +kernel
theorem dX6_lookAtRows_72 : decode cX6_lookAtRows 72 = .ok (.iaload, 1) := by decide +kernel
theorem dX6_lookAtRows_73 : decode cX6_lookAtRows 73 = .ok (.goto 5, 3) := by decide +kernel
theorem dX6_lookAtRows_76 : decode cX6_lookAtRows 76 = .ok (.bipush (-2), 2) := by decide +kernel
theorem dX6_lookAtRows_78 : decode cX6_lookAtRows 78 = .ok (.ireturn, 1) := by decide +kernel
theorem dX6_lookAtRows_79 : decode cX6_lookAtRows 79 = .ok (.iload_n 1, 1) := by decide +kernel
theorem dX6_lookAtRows_80 : decode cX6_lookAtRows 80 = .ok (.bipush 10, 2) := by decide +kernel
theorem dX6_lookAtRows_82 : decode cX6_lookAtRows 82 = .ok (.if_icmp .lt 31, 3) := by decide +kernel
theorem dX6_lookAtRows_85 : decode cX6_lookAtRows 85 = .ok (.iload_n 1, 1) := by decide +kernel
theorem dX6_lookAtRows_86 : decode cX6_lookAtRows 86 = .ok (.bipush 10, 2) := by decide +kernel
theorem dX6_lookAtRows_88 : decode cX6_lookAtRows 88 = .ok (.isub, 1) := by decide +kernel
theorem dX6_lookAtRows_89 : decode cX6_lookAtRows 89 = .ok (.invokestatic 73, 3) := by decide +kernel
theorem dX6_lookAtRows_92 : decode cX6_lookAtRows 92 = .ok (.ifCond .eq 18, 3) := by decide +kernel
theorem dX6_lookAtRows_95 : decode cX6_lookAtRows 95 = .ok (.aload_n 0, 1) := by decide +kernel
theorem dX6_lookAtRows_96 : decode cX6_lookAtRows 96 = .ok (.getfield 12, 3) := by decide +kernel
theorem dX6_lookAtRows_99 : decode cX6_lookAtRows 99 = .ok (.getfield 120, 3) := by decide +kernel
theorem dX6_lookAtRows_102 : decode cX6_lookAtRows 102 = .ok (.iload_n 1, 1) := by decide +kernel
theorem dX6_lookAtRows_103 : decode cX6_lookAtRows 103 = .ok (.bipush 10, 2) := by decide +kernel
theorem dX6_lookAtRows_105 : decode cX6_lookAtRows 105 = .ok (.isub, 1) := by decide +kernel
theorem dX6_lookAtRows_106 : decode cX6_lookAtRows 106 = .ok (.iaload, 1) := by decide +kernel
theorem dX6_lookAtRows_107 : decode cX6_lookAtRows 107 = .ok (.goto 5, 3) := by decide +kernel
theorem dX6_lookAtRows_110 : decode cX6_lookAtRows 110 = .ok (.bipush (-2), 2) := by decide +kernel
theorem dX6_lookAtRows_112 : decode cX6_lookAtRows 112 = .ok (.ireturn, 1) := by decide +kernel
theorem dX6_lookAtRows_113 : decode cX6_lookAtRows 113 = .ok (.bipush (-2), 2) := by decide +kernel
theorem dX6_lookAtRows_115 : decode cX6_lookAtRows 115 = .ok (.ireturn, 1) := by decide +kernel
theorem dX6_reckoned_0 : decode cX6_reckoned 0 = .ok (.aload_n 0, 1) := by decide +kernel
theorem dX6_reckoned_1 : decode cX6_reckoned 1 = .ok (.getfield 49, 3) := by decide +kernel
theorem dX6_reckoned_4 : decode cX6_reckoned 4 = .ok (.lreturn, 1) := by decide +kernel
theorem dX6_begin_0 : decode cX6_begin 0 = .ok (.lload_n 1, 1) := by decide +kernel
theorem dX6_begin_1 : decode cX6_begin 1 = .ok (.lconst 0, 1) := by decide +kernel
theorem dX6_begin_2 : decode cX6_begin 2 = .ok (.lcmp, 1) := by decide +kernel
theorem dX6_begin_3 : decode cX6_begin 3 = .ok (.ifCond .eq 21, 3) := by decide +kernel
theorem dX6_begin_6 : decode cX6_begin 6 = .ok (.lload_n 1, 1) := by decide +kernel
theorem dX6_begin_7 : decode cX6_begin 7 = .ok (.aload_n 0, 1) := by decide +kernel
theorem dX6_begin_8 : decode cX6_begin 8 = .ok (.getfield 12, 3) := by decide +kernel
theorem dX6_begin_11 : decode cX6_begin 11 = .ok (.getfield 45, 3) := by decide +kernel
theorem dX6_begin_14 : decode cX6_begin 14 = .ok (.ldc2_w 123, 3) := by decide +kernel
theorem dX6_begin_17 : decode cX6_begin 17 = .ok (.lxor, 1) := by decide +kernel
theorem dX6_begin_18 : decode cX6_begin 18 = .ok (.land, 1) := by decide +kernel
theorem dX6_begin_19 : decode cX6_begin 19 = .ok (.lconst 0, 1) := by decide +kernel
theorem dX6_begin_20 : decode cX6_begin 20 = .ok (.lcmp, 1) := by decide +kernel
theorem dX6_begin_21 : decode cX6_begin 21 = .ok (.ifCond .eq 5, 3) := by decide +kernel
theorem dX6_begin_24 : decode cX6_begin 24 = .ok (.iconst 0, 1) := by decide +kernel
theorem dX6_begin_25 : decode cX6_begin 25 = .ok (.ireturn, 1) := by decide +kernel
theorem dX6_begin_26 : decode cX6_begin 26 = .ok (.aload_n 0, 1) := by decide +kernel
theorem dX6_begin_27 : decode cX6_begin 27 = .ok (.lload_n 1, 1) := by decide +kernel
theorem dX6_begin_28 : decode cX6_begin 28 = .ok (.invokevirtual 59, 3) := by decide +kernel
theorem dX6_begin_31 : decode cX6_begin 31 = .ok (.iconst 1, 1) := by decide +kernel
theorem dX6_begin_32 : decode cX6_begin 32 = .ok (.ireturn, 1) := by decide +kernel
theorem dX6_startWith_0 : decode cX6_startWith 0 = .ok (.aload_n 0, 1) := by decide +kernel
theorem dX6_startWith_1 : decode cX6_startWith 1 = .ok (.lload_n 1, 1) := by decide +kernel
theorem dX6_startWith_2 : decode cX6_startWith 2 = .ok (.putfield 49, 3) := by decide +kernel
theorem dX6_startWith_5 : decode cX6_startWith 5 = .ok (.aload_n 0, 1) := by decide +kernel
theorem dX6_startWith_6 : decode cX6_startWith 6 = .ok (.iconst 0, 1) := by decide +kernel
theorem dX6_startWith_7 : decode cX6_startWith 7 = .ok (.putfield 52, 3) := by decide +kernel
theorem dX6_startWith_10 : decode cX6_startWith 10 = .ok (.aload_n 0, 1) := by decide +kernel
theorem dX6_startWith_11 : decode cX6_startWith 11 = .ok (.iconst (-1), 1) := by decide +kernel
theorem dX6_startWith_12 : decode cX6_startWith 12 = .ok (.putfield 56, 3) := by decide +kernel
theorem dX6_startWith_15 : decode cX6_startWith 15 = .ok (.return_, 1) := by decide +kernel
theorem dX6_put_0 : decode cX6_put 0 = .ok (.aload_n 0, 1) := by decide +kernel
theorem dX6_put_1 : decode cX6_put 1 = .ok (.getfield 12, 3) := by decide +kernel
theorem dX6_put_4 : decode cX6_put 4 = .ok (.iload_n 1, 1) := by decide +kernel
theorem dX6_put_5 : decode cX6_put 5 = .ok (.invokevirtual 63, 3) := by decide +kernel
theorem dX6_put_8 : decode cX6_put 8 = .ok (.ifCond .eq 14, 3) := by decide +kernel
theorem dX6_put_11 : decode cX6_put 11 = .ok (.aload_n 0, 1) := by decide +kernel
theorem dX6_put_12 : decode cX6_put 12 = .ok (.getfield 49, 3) := by decide +kernel
theorem dX6_put_15 : decode cX6_put 15 = .ok (.iload_n 1, 1) := by decide +kernel
theorem dX6_put_16 : decode cX6_put 16 = .ok (.invokestatic 125, 3) := by decide +kernel
theorem dX6_put_19 : decode cX6_put 19 = .ok (.ifCond .ne 5, 3) := by decide +kernel
theorem dX6_put_22 : decode cX6_put 22 = .ok (.iconst 0, 1) := by decide +kernel
theorem dX6_put_23 : decode cX6_put 23 = .ok (.ireturn, 1) := by decide +kernel
theorem dX6_put_24 : decode cX6_put 24 = .ok (.aload_n 0, 1) := by decide +kernel
theorem dX6_put_25 : decode cX6_put 25 = .ok (.iload_n 1, 1) := by decide +kernel
theorem dX6_put_26 : decode cX6_put 26 = .ok (.putfield 56, 3) := by decide +kernel
theorem dX6_put_29 : decode cX6_put 29 = .ok (.iconst 1, 1) := by decide +kernel
theorem dX6_put_30 : decode cX6_put 30 = .ok (.ireturn, 1) := by decide +kernel
theorem dX6_steer_0 : decode cX6_steer 0 = .ok (.aload_n 0, 1) := by decide +kernel
theorem dX6_steer_1 : decode cX6_steer 1 = .ok (.invokevirtual 129, 3) := by decide +kernel
theorem dX6_steer_4 : decode cX6_steer 4 = .ok (.istore_n 3, 1) := by decide +kernel
theorem dX6_steer_5 : decode cX6_steer 5 = .ok (.iload_n 1, 1) := by decide +kernel
theorem dX6_steer_6 : decode cX6_steer 6 = .ok (.invokestatic 133, 3) := by decide +kernel
theorem dX6_steer_9 : decode cX6_steer 9 = .ok (.ifCond .eq 32, 3) := by decide +kernel
theorem dX6_steer_12 : decode cX6_steer 12 = .ok (.iload_n 2, 1) := by decide +kernel
theorem dX6_steer_13 : decode cX6_steer 13 = .ok (.invokestatic 133, 3) := by decide +kernel
theorem dX6_steer_16 : decode cX6_steer 16 = .ok (.ifCond .eq 25, 3) := by decide +kernel
theorem dX6_steer_19 : decode cX6_steer 19 = .ok (.aload_n 0, 1) := by decide +kernel
theorem dX6_steer_20 : decode cX6_steer 20 = .ok (.getfield 12, 3) := by decide +kernel
theorem dX6_steer_23 : decode cX6_steer 23 = .ok (.iload_n 3, 1) := by decide +kernel
theorem dX6_steer_24 : decode cX6_steer 24 = .ok (.iload_n 2, 1) := by decide +kernel
theorem dX6_steer_25 : decode cX6_steer 25 = .ok (.invokevirtual 136, 3) := by decide +kernel
theorem dX6_steer_28 : decode cX6_steer 28 = .ok (.ifCond .eq 13, 3) := by decide +kernel
theorem dX6_steer_31 : decode cX6_steer 31 = .ok (.aload_n 0, 1) := by decide +kernel
theorem dX6_steer_32 : decode cX6_steer 32 = .ok (.getfield 52, 3) := by decide +kernel
theorem dX6_steer_35 : decode cX6_steer 35 = .ok (.sipush 9999, 3) := by decide +kernel
theorem dX6_steer_38 : decode cX6_steer 38 = .ok (.if_icmp .lt 5, 3) := by decide +kernel
theorem dX6_steer_41 : decode cX6_steer 41 = .ok (.iconst (-1), 1) := by decide +kernel
theorem dX6_steer_42 : decode cX6_steer 42 = .ok (.ireturn, 1) := by decide +kernel
theorem dX6_steer_43 : decode cX6_steer 43 = .ok (.aload_n 0, 1) := by decide +kernel
theorem dX6_steer_44 : decode cX6_steer 44 = .ok (.getfield 12, 3) := by decide +kernel
theorem dX6_steer_47 : decode cX6_steer 47 = .ok (.aload_n 0, 1) := by decide +kernel
theorem dX6_steer_48 : decode cX6_steer 48 = .ok (.getfield 49, 3) := by decide +kernel
theorem dX6_steer_51 : decode cX6_steer 51 = .ok (.invokevirtual 140, 3) := by decide +kernel
theorem dX6_steer_54 : decode cX6_steer 54 = .ok (.aload_n 0, 1) := by decide +kernel
theorem dX6_steer_55 : decode cX6_steer 55 = .ok (.aload_n 0, 1) := by decide +kernel
theorem dX6_steer_56 : decode cX6_steer 56 = .ok (.getfield 12, 3) := by decide +kernel
theorem dX6_steer_59 : decode cX6_steer 59 = .ok (.iload_n 1, 1) := by decide +kernel
theorem dX6_steer_60 : decode cX6_steer 60 = .ok (.iload_n 3, 1) := by decide +kernel
theorem dX6_steer_61 : decode cX6_steer 61 = .ok (.invokevirtual 143, 3) := by decide +kernel
theorem dX6_steer_64 : decode cX6_steer 64 = .ok (.putfield 49, 3) := by decide +kernel
theorem dX6_steer_67 : decode cX6_steer 67 = .ok (.aload_n 0, 1) := by decide +kernel
theorem dX6_steer_68 : decode cX6_steer 68 = .ok (.getfield 12, 3) := by decide +kernel
theorem dX6_steer_71 : decode cX6_steer 71 = .ok (.aload_n 0, 1) := by decide +kernel
theorem dX6_steer_72 : decode cX6_steer 72 = .ok (.getfield 56, 3) := by decide +kernel
theorem dX6_steer_75 : decode cX6_steer 75 = .ok (.invokevirtual 63, 3) := by decide +kernel
theorem dX6_steer_78 : decode cX6_steer 78 = .ok (.ifCond .eq 37, 3) := by decide +kernel
theorem dX6_steer_81 : decode cX6_steer 81 = .ok (.aload_n 0, 1) := by decide +kernel
theorem dX6_steer_82 : decode cX6_steer 82 = .ok (.getfield 12, 3) := by decide +kernel
theorem dX6_steer_85 : decode cX6_steer 85 = .ok (.getfield 97, 3) := by decide +kernel
theorem dX6_steer_88 : decode cX6_steer 88 = .ok (.aload_n 0, 1) := by decide +kernel
theorem dX6_steer_89 : decode cX6_steer 89 = .ok (.getfield 56, 3) := by decide +kernel
theorem dX6_steer_92 : decode cX6_steer 92 = .ok (.invokestatic 125, 3) := by decide +kernel
theorem dX6_steer_95 : decode cX6_steer 95 = .ok (.ifCond .ne 20, 3) := by decide +kernel
theorem dX6_steer_98 : decode cX6_steer 98 = .ok (.aload_n 0, 1) := by decide +kernel
theorem dX6_steer_99 : decode cX6_steer 99 = .ok (.aload_n 0, 1) := by decide +kernel
theorem dX6_steer_100 : decode cX6_steer 100 = .ok (.getfield 12, 3) := by decide +kernel
theorem dX6_steer_103 : decode cX6_steer 103 = .ok (.aload_n 0, 1) := by decide +kernel
theorem dX6_steer_104 : decode cX6_steer 104 = .ok (.getfield 56, 3) := by decide +kernel
theorem dX6_steer_107 : decode cX6_steer 107 = .ok (.iload_n 1, 1) := by decide +kernel
theorem dX6_steer_108 : decode cX6_steer 108 = .ok (.iload_n 2, 1) := by decide +kernel
theorem dX6_steer_109 : decode cX6_steer 109 = .ok (.invokevirtual 147, 3) := by decide +kernel
theorem dX6_steer_112 : decode cX6_steer 112 = .ok (.putfield 56, 3) := by decide +kernel
theorem dX6_steer_115 : decode cX6_steer 115 = .ok (.aload_n 0, 1) := by decide +kernel
theorem dX6_steer_116 : decode cX6_steer 116 = .ok (.dup, 1) := by decide +kernel
theorem dX6_steer_117 : decode cX6_steer 117 = .ok (.getfield 52, 3) := by decide +kernel
theorem dX6_steer_120 : decode cX6_steer 120 = .ok (.iconst 1, 1) := by decide +kernel
theorem dX6_steer_121 : decode cX6_steer 121 = .ok (.iadd, 1) := by decide +kernel
theorem dX6_steer_122 : decode cX6_steer 122 = .ok (.putfield 52, 3) := by decide +kernel
theorem dX6_steer_125 : decode cX6_steer 125 = .ok (.aload_n 0, 1) := by decide +kernel
theorem dX6_steer_126 : decode cX6_steer 126 = .ok (.getfield 49, 3) := by decide +kernel
theorem dX6_steer_129 : decode cX6_steer 129 = .ok (.invokestatic 91, 3) := by decide +kernel
theorem dX6_steer_132 : decode cX6_steer 132 = .ok (.ireturn, 1) := by decide +kernel
theorem dX6_sign_0 : decode cX6_sign 0 = .ok (.aload_n 0, 1) := by decide +kernel
theorem dX6_sign_1 : decode cX6_sign 1 = .ok (.getfield 12, 3) := by decide +kernel
theorem dX6_sign_4 : decode cX6_sign 4 = .ok (.iload_n 1, 1) := by decide +kernel
theorem dX6_sign_5 : decode cX6_sign 5 = .ok (.invokevirtual 63, 3) := by decide +kernel
theorem dX6_sign_8 : decode cX6_sign 8 = .ok (.ifCond .eq 17, 3) := by decide +kernel
theorem dX6_sign_11 : decode cX6_sign 11 = .ok (.iload_n 2, 1) := by decide +kernel
theorem dX6_sign_12 : decode cX6_sign 12 = .ok (.invokestatic 73, 3) := by decide +kernel
theorem dX6_sign_15 : decode cX6_sign 15 = .ok (.ifCond .eq 10, 3) := by decide +kernel
theorem dX6_sign_18 : decode cX6_sign 18 = .ok (.iload_n 3, 1) := by decide +kernel
theorem dX6_sign_19 : decode cX6_sign 19 = .ok (.invokestatic 151, 3) := by decide +kernel
theorem dX6_sign_22 : decode cX6_sign 22 = .ok (.ifCond .ne 6, 3) := by decide +kernel
theorem dX6_sign_25 : decode cX6_sign 25 = .ok (.bipush (-2), 2) := by decide +kernel
theorem dX6_sign_27 : decode cX6_sign 27 = .ok (.ireturn, 1) := by decide +kernel
theorem dX6_sign_28 : decode cX6_sign 28 = .ok (.aload_n 0, 1) := by decide +kernel
theorem dX6_sign_29 : decode cX6_sign 29 = .ok (.getfield 12, 3) := by decide +kernel
theorem dX6_sign_32 : decode cX6_sign 32 = .ok (.iload_n 1, 1) := by decide +kernel
theorem dX6_sign_33 : decode cX6_sign 33 = .ok (.iload_n 2, 1) := by decide +kernel
theorem dX6_sign_34 : decode cX6_sign 34 = .ok (.iload_n 3, 1) := by decide +kernel
theorem dX6_sign_35 : decode cX6_sign 35 = .ok (.invokevirtual 154, 3) := by decide +kernel
theorem dX6_sign_38 : decode cX6_sign 38 = .ok (.ireturn, 1) := by decide +kernel
theorem dX6_see_0 : decode cX6_see 0 = .ok (.iload_n 1, 1) := by decide +kernel
theorem dX6_see_1 : decode cX6_see 1 = .ok (.invokestatic 151, 3) := by decide +kernel
theorem dX6_see_4 : decode cX6_see 4 = .ok (.ifCond .ne 5, 3) := by decide +kernel
theorem dX6_see_7 : decode cX6_see 7 = .ok (.iconst (-1), 1) := by decide +kernel
theorem dX6_see_8 : decode cX6_see 8 = .ok (.ireturn, 1) := by decide +kernel
theorem dX6_see_9 : decode cX6_see 9 = .ok (.aload_n 0, 1) := by decide +kernel
theorem dX6_see_10 : decode cX6_see 10 = .ok (.getfield 49, 3) := by decide +kernel
theorem dX6_see_13 : decode cX6_see 13 = .ok (.aload_n 0, 1) := by decide +kernel
theorem dX6_see_14 : decode cX6_see 14 = .ok (.getfield 12, 3) := by decide +kernel
theorem dX6_see_17 : decode cX6_see 17 = .ok (.iload_n 1, 1) := by decide +kernel
theorem dX6_see_18 : decode cX6_see 18 = .ok (.iload_n 2, 1) := by decide +kernel
theorem dX6_see_19 : decode cX6_see 19 = .ok (.aload_n 0, 1) := by decide +kernel
theorem dX6_see_20 : decode cX6_see 20 = .ok (.invokevirtual 129, 3) := by decide +kernel
theorem dX6_see_23 : decode cX6_see 23 = .ok (.invokevirtual 157, 3) := by decide +kernel
theorem dX6_see_26 : decode cX6_see 26 = .ok (.land, 1) := by decide +kernel
theorem dX6_see_27 : decode cX6_see 27 = .ok (.lstore_n 3, 1) := by decide +kernel
theorem dX6_see_28 : decode cX6_see 28 = .ok (.lload_n 3, 1) := by decide +kernel
theorem dX6_see_29 : decode cX6_see 29 = .ok (.lconst 0, 1) := by decide +kernel
theorem dX6_see_30 : decode cX6_see 30 = .ok (.lcmp, 1) := by decide +kernel
theorem dX6_see_31 : decode cX6_see 31 = .ok (.ifCond .eq 28, 3) := by decide +kernel
theorem dX6_see_34 : decode cX6_see 34 = .ok (.aload_n 0, 1) := by decide +kernel
theorem dX6_see_35 : decode cX6_see 35 = .ok (.getfield 12, 3) := by decide +kernel
theorem dX6_see_38 : decode cX6_see 38 = .ok (.aload_n 0, 1) := by decide +kernel
theorem dX6_see_39 : decode cX6_see 39 = .ok (.getfield 56, 3) := by decide +kernel
theorem dX6_see_42 : decode cX6_see 42 = .ok (.invokevirtual 63, 3) := by decide +kernel
theorem dX6_see_45 : decode cX6_see 45 = .ok (.ifCond .eq 16, 3) := by decide +kernel
theorem dX6_see_48 : decode cX6_see 48 = .ok (.lload_n 3, 1) := by decide +kernel
theorem dX6_see_49 : decode cX6_see 49 = .ok (.aload_n 0, 1) := by decide +kernel
theorem dX6_see_50 : decode cX6_see 50 = .ok (.getfield 56, 3) := by decide +kernel
theorem dX6_see_53 : decode cX6_see 53 = .ok (.invokestatic 125, 3) := by decide +kernel
theorem dX6_see_56 : decode cX6_see 56 = .ok (.ifCond .ne 5, 3) := by decide +kernel
theorem dX6_see_59 : decode cX6_see 59 = .ok (.iconst (-1), 1) := by decide +kernel
theorem dX6_see_60 : decode cX6_see 60 = .ok (.ireturn, 1) := by decide +kernel
theorem dX6_see_61 : decode cX6_see 61 = .ok (.aload_n 0, 1) := by decide +kernel
theorem dX6_see_62 : decode cX6_see 62 = .ok (.lload_n 3, 1) := by decide +kernel
theorem dX6_see_63 : decode cX6_see 63 = .ok (.putfield 49, 3) := by decide +kernel
theorem dX6_see_66 : decode cX6_see 66 = .ok (.aload_n 0, 1) := by decide +kernel
theorem dX6_see_67 : decode cX6_see 67 = .ok (.getfield 49, 3) := by decide +kernel
theorem dX6_see_70 : decode cX6_see 70 = .ok (.invokestatic 91, 3) := by decide +kernel
theorem dX6_see_73 : decode cX6_see 73 = .ok (.ireturn, 1) := by decide +kernel
theorem dX6_sights_0 : decode cX6_sights 0 = .ok (.aload_n 0, 1) := by decide +kernel
theorem dX6_sights_1 : decode cX6_sights 1 = .ok (.getfield 12, 3) := by decide +kernel
theorem dX6_sights_4 : decode cX6_sights 4 = .ok (.aload_n 0, 1) := by decide +kernel
theorem dX6_sights_5 : decode cX6_sights 5 = .ok (.getfield 56, 3) := by decide +kernel
theorem dX6_sights_8 : decode cX6_sights 8 = .ok (.invokevirtual 63, 3) := by decide +kernel
theorem dX6_sights_11 : decode cX6_sights 11 = .ok (.ifCond .ne 5, 3) := by decide +kernel
theorem dX6_sights_14 : decode cX6_sights 14 = .ok (.iconst (-1), 1) := by decide +kernel
theorem dX6_sights_15 : decode cX6_sights 15 = .ok (.ireturn, 1) := by decide +kernel
theorem dX6_sights_16 : decode cX6_sights 16 = .ok (.aload_n 0, 1) := by decide +kernel
theorem dX6_sights_17 : decode cX6_sights 17 = .ok (.invokevirtual 129, 3) := by decide +kernel
theorem dX6_sights_20 : decode cX6_sights 20 = .ok (.istore_n 1, 1) := by decide +kernel
theorem dX6_sights_21 : decode cX6_sights 21 = .ok (.iconst 0, 1) := by decide +kernel
theorem dX6_sights_22 : decode cX6_sights 22 = .ok (.istore_n 2, 1) := by decide +kernel
theorem dX6_sights_23 : decode cX6_sights 23 = .ok (.iload_n 2, 1) := by decide +kernel
theorem dX6_sights_24 : decode cX6_sights 24 = .ok (.iconst 2, 1) := by decide +kernel
theorem dX6_sights_25 : decode cX6_sights 25 = .ok (.if_icmp .gt 40, 3) := by decide +kernel
theorem dX6_sights_28 : decode cX6_sights 28 = .ok (.aload_n 0, 1) := by decide +kernel
theorem dX6_sights_29 : decode cX6_sights 29 = .ok (.dup, 1) := by decide +kernel
theorem dX6_sights_30 : decode cX6_sights 30 = .ok (.getfield 49, 3) := by decide +kernel
theorem dX6_sights_33 : decode cX6_sights 33 = .ok (.aload_n 0, 1) := by decide +kernel
theorem dX6_sights_34 : decode cX6_sights 34 = .ok (.getfield 12, 3) := by decide +kernel
theorem dX6_sights_37 : decode cX6_sights 37 = .ok (.iload_n 2, 1) := by decide +kernel
theorem dX6_sights_38 : decode cX6_sights 38 = .ok (.aload_n 0, 1) := by decide +kernel
theorem dX6_sights_39 : decode cX6_sights 39 = .ok (.getfield 12, 3) := by decide +kernel
theorem dX6_sights_42 : decode cX6_sights 42 = .ok (.aload_n 0, 1) := by decide +kernel
theorem dX6_sights_43 : decode cX6_sights 43 = .ok (.getfield 56, 3) := by decide +kernel
theorem dX6_sights_46 : decode cX6_sights 46 = .ok (.iload_n 1, 1) := by decide +kernel
theorem dX6_sights_47 : decode cX6_sights 47 = .ok (.iload_n 2, 1) := by decide +kernel
theorem dX6_sights_48 : decode cX6_sights 48 = .ok (.invokevirtual 154, 3) := by decide +kernel
theorem dX6_sights_51 : decode cX6_sights 51 = .ok (.iload_n 1, 1) := by decide +kernel
theorem dX6_sights_52 : decode cX6_sights 52 = .ok (.invokevirtual 157, 3) := by decide +kernel
theorem dX6_sights_55 : decode cX6_sights 55 = .ok (.land, 1) := by decide +kernel
theorem dX6_sights_56 : decode cX6_sights 56 = .ok (.putfield 49, 3) := by decide +kernel
theorem dX6_sights_59 : decode cX6_sights 59 = .ok (.iinc 2 1, 3) := by decide +kernel
theorem dX6_sights_62 : decode cX6_sights 62 = .ok (.goto (-39), 3) := by decide +kernel
theorem dX6_sights_65 : decode cX6_sights 65 = .ok (.aload_n 0, 1) := by decide +kernel
theorem dX6_sights_66 : decode cX6_sights 66 = .ok (.getfield 49, 3) := by decide +kernel
theorem dX6_sights_69 : decode cX6_sights 69 = .ok (.invokestatic 91, 3) := by decide +kernel
theorem dX6_sights_72 : decode cX6_sights 72 = .ok (.ireturn, 1) := by decide +kernel
theorem dX6_feed_0 : decode cX6_feed 0 = .ok (.aload_n 0, 1) := by decide +kernel
theorem dX6_feed_1 : decode cX6_feed 1 = .ok (.getfield 19, 3) := by decide +kernel
theorem dX6_feed_4 : decode cX6_feed 4 = .ok (.getfield 161, 3) := by decide +kernel
theorem dX6_feed_7 : decode cX6_feed 7 = .ok (.bipush 20, 2) := by decide +kernel
theorem dX6_feed_9 : decode cX6_feed 9 = .ok (.iadd, 1) := by decide +kernel
theorem dX6_feed_10 : decode cX6_feed 10 = .ok (.sipush 400, 3) := by decide +kernel
theorem dX6_feed_13 : decode cX6_feed 13 = .ok (.if_icmp .le 5, 3) := by decide +kernel
theorem dX6_feed_16 : decode cX6_feed 16 = .ok (.iconst (-1), 1) := by decide +kernel
theorem dX6_feed_17 : decode cX6_feed 17 = .ok (.ireturn, 1) := by decide +kernel
theorem dX6_feed_18 : decode cX6_feed 18 = .ok (.aload_n 0, 1) := by decide +kernel
theorem dX6_feed_19 : decode cX6_feed 19 = .ok (.getfield 19, 3) := by decide +kernel
theorem dX6_feed_22 : decode cX6_feed 22 = .ok (.iload_n 1, 1) := by decide +kernel
theorem dX6_feed_23 : decode cX6_feed 23 = .ok (.invokevirtual 164, 3) := by decide +kernel
theorem dX6_feed_26 : decode cX6_feed 26 = .ok (.aload_n 0, 1) := by decide +kernel
theorem dX6_feed_27 : decode cX6_feed 27 = .ok (.getfield 19, 3) := by decide +kernel
theorem dX6_feed_30 : decode cX6_feed 30 = .ok (.iload_n 2, 1) := by decide +kernel
theorem dX6_feed_31 : decode cX6_feed 31 = .ok (.invokevirtual 164, 3) := by decide +kernel
theorem dX6_feed_34 : decode cX6_feed 34 = .ok (.aload_n 0, 1) := by decide +kernel
theorem dX6_feed_35 : decode cX6_feed 35 = .ok (.getfield 19, 3) := by decide +kernel
theorem dX6_feed_38 : decode cX6_feed 38 = .ok (.iload_n 3, 1) := by decide +kernel
theorem dX6_feed_39 : decode cX6_feed 39 = .ok (.invokevirtual 164, 3) := by decide +kernel
theorem dX6_feed_42 : decode cX6_feed 42 = .ok (.aload_n 0, 1) := by decide +kernel
theorem dX6_feed_43 : decode cX6_feed 43 = .ok (.getfield 19, 3) := by decide +kernel
theorem dX6_feed_46 : decode cX6_feed 46 = .ok (.iload 4, 2) := by decide +kernel
theorem dX6_feed_48 : decode cX6_feed 48 = .ok (.invokevirtual 164, 3) := by decide +kernel
theorem dX6_feed_51 : decode cX6_feed 51 = .ok (.aload_n 0, 1) := by decide +kernel
theorem dX6_feed_52 : decode cX6_feed 52 = .ok (.getfield 19, 3) := by decide +kernel
theorem dX6_feed_55 : decode cX6_feed 55 = .ok (.iload 5, 2) := by decide +kernel
theorem dX6_feed_57 : decode cX6_feed 57 = .ok (.invokevirtual 164, 3) := by decide +kernel
theorem dX6_feed_60 : decode cX6_feed 60 = .ok (.aload_n 0, 1) := by decide +kernel
theorem dX6_feed_61 : decode cX6_feed 61 = .ok (.getfield 19, 3) := by decide +kernel
theorem dX6_feed_64 : decode cX6_feed 64 = .ok (.getfield 161, 3) := by decide +kernel
theorem dX6_feed_67 : decode cX6_feed 67 = .ok (.ireturn, 1) := by decide +kernel
theorem dX6_end_0 : decode cX6_end 0 = .ok (.iload_n 1, 1) := by decide +kernel
theorem dX6_end_1 : decode cX6_end 1 = .ok (.ifCond .lt 14, 3) := by decide +kernel
theorem dX6_end_4 : decode cX6_end 4 = .ok (.iload_n 1, 1) := by decide +kernel
theorem dX6_end_5 : decode cX6_end 5 = .ok (.aload_n 0, 1) := by decide +kernel
theorem dX6_end_6 : decode cX6_end 6 = .ok (.getfield 19, 3) := by decide +kernel
theorem dX6_end_9 : decode cX6_end 9 = .ok (.getfield 161, 3) := by decide +kernel
theorem dX6_end_12 : decode cX6_end 12 = .ok (.if_icmp .le 5, 3) := by decide +kernel
theorem dX6_end_15 : decode cX6_end 15 = .ok (.iconst (-1), 1) := by decide +kernel
theorem dX6_end_16 : decode cX6_end 16 = .ok (.ireturn, 1) := by decide +kernel
theorem dX6_end_17 : decode cX6_end 17 = .ok (.aload_n 0, 1) := by decide +kernel
theorem dX6_end_18 : decode cX6_end 18 = .ok (.getfield 19, 3) := by decide +kernel
theorem dX6_end_21 : decode cX6_end 21 = .ok (.iload_n 1, 1) := by decide +kernel
theorem dX6_end_22 : decode cX6_end 22 = .ok (.putfield 161, 3) := by decide +kernel
theorem dX6_end_25 : decode cX6_end 25 = .ok (.iload_n 1, 1) := by decide +kernel
theorem dX6_end_26 : decode cX6_end 26 = .ok (.ireturn, 1) := by decide +kernel
theorem dX6_chant_0 : decode cX6_chant 0 = .ok (.aload_n 0, 1) := by decide +kernel
theorem dX6_chant_1 : decode cX6_chant 1 = .ok (.getfield 19, 3) := by decide +kernel
theorem dX6_chant_4 : decode cX6_chant 4 = .ok (.aload_n 0, 1) := by decide +kernel
theorem dX6_chant_5 : decode cX6_chant 5 = .ok (.getfield 30, 3) := by decide +kernel
theorem dX6_chant_8 : decode cX6_chant 8 = .ok (.invokevirtual 168, 3) := by decide +kernel
theorem dX6_chant_11 : decode cX6_chant 11 = .ok (.istore_n 1, 1) := by decide +kernel
theorem dX6_chant_12 : decode cX6_chant 12 = .ok (.aload_n 0, 1) := by decide +kernel
theorem dX6_chant_13 : decode cX6_chant 13 = .ok (.getfield 19, 3) := by decide +kernel
theorem dX6_chant_16 : decode cX6_chant 16 = .ok (.iconst 0, 1) := by decide +kernel
theorem dX6_chant_17 : decode cX6_chant 17 = .ok (.putfield 161, 3) := by decide +kernel
theorem dX6_chant_20 : decode cX6_chant 20 = .ok (.iload_n 1, 1) := by decide +kernel
theorem dX6_chant_21 : decode cX6_chant 21 = .ok (.ifCond .ne 5, 3) := by decide +kernel
theorem dX6_chant_24 : decode cX6_chant 24 = .ok (.iconst (-1), 1) := by decide +kernel
theorem dX6_chant_25 : decode cX6_chant 25 = .ok (.ireturn, 1) := by decide +kernel
theorem dX6_chant_26 : decode cX6_chant 26 = .ok (.aload_n 0, 1) := by decide +kernel
theorem dX6_chant_27 : decode cX6_chant 27 = .ok (.getfield 26, 3) := by decide +kernel
theorem dX6_chant_30 : decode cX6_chant 30 = .ok (.astore_n 2, 1) := by decide +kernel
theorem dX6_chant_31 : decode cX6_chant 31 = .ok (.aload_n 0, 1) := by decide +kernel
theorem dX6_chant_32 : decode cX6_chant 32 = .ok (.aload_n 0, 1) := by decide +kernel
theorem dX6_chant_33 : decode cX6_chant 33 = .ok (.getfield 30, 3) := by decide +kernel
theorem dX6_chant_36 : decode cX6_chant 36 = .ok (.putfield 26, 3) := by decide +kernel
theorem dX6_chant_39 : decode cX6_chant 39 = .ok (.aload_n 0, 1) := by decide +kernel
theorem dX6_chant_40 : decode cX6_chant 40 = .ok (.aload_n 2, 1) := by decide +kernel
theorem dX6_chant_41 : decode cX6_chant 41 = .ok (.putfield 30, 3) := by decide +kernel
theorem dX6_chant_44 : decode cX6_chant 44 = .ok (.aload_n 0, 1) := by decide +kernel
theorem dX6_chant_45 : decode cX6_chant 45 = .ok (.getfield 33, 3) := by decide +kernel
theorem dX6_chant_48 : decode cX6_chant 48 = .ok (.ifnull 10, 3) := by decide +kernel
theorem dX6_chant_51 : decode cX6_chant 51 = .ok (.aload_n 0, 1) := by decide +kernel
theorem dX6_chant_52 : decode cX6_chant 52 = .ok (.getfield 33, 3) := by decide +kernel
theorem dX6_chant_55 : decode cX6_chant 55 = .ok (.invokevirtual 172, 3) := by decide +kernel
theorem dX6_chant_58 : decode cX6_chant 58 = .ok (.aload_n 0, 1) := by decide +kernel
theorem dX6_chant_59 : decode cX6_chant 59 = .ok (.getfield 26, 3) := by decide +kernel
theorem dX6_chant_62 : decode cX6_chant 62 = .ok (.getfield 100, 3) := by decide +kernel
theorem dX6_chant_65 : decode cX6_chant 65 = .ok (.ireturn, 1) := by decide +kernel
theorem dX6_fault_0 : decode cX6_fault 0 = .ok (.iload_n 1, 1) := by decide +kernel
theorem dX6_fault_1 : decode cX6_fault 1 = .ok (.ifCond .ne 11, 3) := by decide +kernel
theorem dX6_fault_4 : decode cX6_fault 4 = .ok (.aload_n 0, 1) := by decide +kernel
theorem dX6_fault_5 : decode cX6_fault 5 = .ok (.getfield 19, 3) := by decide +kernel
theorem dX6_fault_8 : decode cX6_fault 8 = .ok (.getfield 177, 3) := by decide +kernel
theorem dX6_fault_11 : decode cX6_fault 11 = .ok (.ireturn, 1) := by decide +kernel
theorem dX6_fault_12 : decode cX6_fault 12 = .ok (.iload_n 1, 1) := by decide +kernel
theorem dX6_fault_13 : decode cX6_fault 13 = .ok (.iconst 1, 1) := by decide +kernel
theorem dX6_fault_14 : decode cX6_fault 14 = .ok (.if_icmp .ne 13, 3) := by decide +kernel
theorem dX6_fault_17 : decode cX6_fault 17 = .ok (.aload_n 0, 1) := by decide +kernel
theorem dX6_fault_18 : decode cX6_fault 18 = .ok (.getfield 19, 3) := by decide +kernel
theorem dX6_fault_21 : decode cX6_fault 21 = .ok (.getfield 180, 3) := by decide +kernel
theorem dX6_fault_24 : decode cX6_fault 24 = .ok (.goto 4, 3) := by decide +kernel
theorem dX6_fault_27 : decode cX6_fault 27 = .ok (.iconst (-1), 1) := by decide +kernel
theorem dX6_fault_28 : decode cX6_fault 28 = .ok (.ireturn, 1) := by decide +kernel
theorem dX6_sure_0 : decode cX6_sure 0 = .ok (.iload_n 1, 1) := by decide +kernel
theorem dX6_sure_1 : decode cX6_sure 1 = .ok (.ifCond .lt 8, 3) := by decide +kernel
theorem dX6_sure_4 : decode cX6_sure 4 = .ok (.iload_n 1, 1) := by decide +kernel
theorem dX6_sure_5 : decode cX6_sure 5 = .ok (.iconst 2, 1) := by decide +kernel
theorem dX6_sure_6 : decode cX6_sure 6 = .ok (.if_icmp .le 6, 3) := by decide +kernel
theorem dX6_sure_9 : decode cX6_sure 9 = .ok (.bipush (-2), 2) := by decide +kernel
theorem dX6_sure_11 : decode cX6_sure 11 = .ok (.ireturn, 1) := by decide +kernel
theorem dX6_sure_12 : decode cX6_sure 12 = .ok (.aload_n 0, 1) := by decide +kernel
theorem dX6_sure_13 : decode cX6_sure 13 = .ok (.invokevirtual 183, 3) := by decide +kernel
theorem dX6_sure_16 : decode cX6_sure 16 = .ok (.astore_n 2, 1) := by decide +kernel
theorem dX6_sure_17 : decode cX6_sure 17 = .ok (.iload_n 1, 1) := by decide +kernel
theorem dX6_sure_18 : decode cX6_sure 18 = .ok (.ifCond .ne 16, 3) := by decide +kernel
theorem dX6_sure_21 : decode cX6_sure 21 = .ok (.aload_n 2, 1) := by decide +kernel
theorem dX6_sure_22 : decode cX6_sure 22 = .ok (.aload_n 0, 1) := by decide +kernel
theorem dX6_sure_23 : decode cX6_sure 23 = .ok (.getfield 49, 3) := by decide +kernel
theorem dX6_sure_26 : decode cX6_sure 26 = .ok (.aload_n 0, 1) := by decide +kernel
theorem dX6_sure_27 : decode cX6_sure 27 = .ok (.invokevirtual 129, 3) := by decide +kernel
theorem dX6_sure_30 : decode cX6_sure 30 = .ok (.invokevirtual 187, 3) := by decide +kernel
theorem dX6_sure_33 : decode cX6_sure 33 = .ok (.ireturn, 1) := by decide +kernel
theorem dX6_sure_34 : decode cX6_sure 34 = .ok (.iload_n 1, 1) := by decide +kernel
theorem dX6_sure_35 : decode cX6_sure 35 = .ok (.iconst 1, 1) := by decide +kernel
theorem dX6_sure_36 : decode cX6_sure 36 = .ok (.if_icmp .ne 18, 3) := by decide +kernel
theorem dX6_sure_39 : decode cX6_sure 39 = .ok (.aload_n 2, 1) := by decide +kernel
theorem dX6_sure_40 : decode cX6_sure 40 = .ok (.aload_n 0, 1) := by decide +kernel
theorem dX6_sure_41 : decode cX6_sure 41 = .ok (.getfield 49, 3) := by decide +kernel
theorem dX6_sure_44 : decode cX6_sure 44 = .ok (.aload_n 0, 1) := by decide +kernel
theorem dX6_sure_45 : decode cX6_sure 45 = .ok (.invokevirtual 129, 3) := by decide +kernel
theorem dX6_sure_48 : decode cX6_sure 48 = .ok (.invokevirtual 191, 3) := by decide +kernel
theorem dX6_sure_51 : decode cX6_sure 51 = .ok (.goto 15, 3) := by decide +kernel
theorem dX6_sure_54 : decode cX6_sure 54 = .ok (.aload_n 2, 1) := by decide +kernel
theorem dX6_sure_55 : decode cX6_sure 55 = .ok (.aload_n 0, 1) := by decide +kernel
theorem dX6_sure_56 : decode cX6_sure 56 = .ok (.getfield 49, 3) := by decide +kernel
theorem dX6_sure_59 : decode cX6_sure 59 = .ok (.aload_n 0, 1) := by decide +kernel
theorem dX6_sure_60 : decode cX6_sure 60 = .ok (.invokevirtual 129, 3) := by decide +kernel
theorem dX6_sure_63 : decode cX6_sure 63 = .ok (.invokevirtual 194, 3) := by decide +kernel
theorem dX6_sure_66 : decode cX6_sure 66 = .ok (.ireturn, 1) := by decide +kernel
theorem dX6_from_0 : decode cX6_from 0 = .ok (.aload_n 0, 1) := by decide +kernel
theorem dX6_from_1 : decode cX6_from 1 = .ok (.getfield 12, 3) := by decide +kernel
theorem dX6_from_4 : decode cX6_from 4 = .ok (.iload_n 1, 1) := by decide +kernel
theorem dX6_from_5 : decode cX6_from 5 = .ok (.invokevirtual 63, 3) := by decide +kernel
theorem dX6_from_8 : decode cX6_from 8 = .ok (.ifCond .ne 6, 3) := by decide +kernel
theorem dX6_from_11 : decode cX6_from 11 = .ok (.bipush (-2), 2) := by decide +kernel
theorem dX6_from_13 : decode cX6_from 13 = .ok (.ireturn, 1) := by decide +kernel
theorem dX6_from_14 : decode cX6_from 14 = .ok (.aload_n 0, 1) := by decide +kernel
theorem dX6_from_15 : decode cX6_from 15 = .ok (.invokevirtual 183, 3) := by decide +kernel
theorem dX6_from_18 : decode cX6_from 18 = .ok (.lconst 1, 1) := by decide +kernel
theorem dX6_from_19 : decode cX6_from 19 = .ok (.iload_n 1, 1) := by decide +kernel
theorem dX6_from_20 : decode cX6_from 20 = .ok (.lshl, 1) := by decide +kernel
theorem dX6_from_21 : decode cX6_from 21 = .ok (.aload_n 0, 1) := by decide +kernel
theorem dX6_from_22 : decode cX6_from 22 = .ok (.invokevirtual 129, 3) := by decide +kernel
theorem dX6_from_25 : decode cX6_from 25 = .ok (.invokevirtual 187, 3) := by decide +kernel
theorem dX6_from_28 : decode cX6_from 28 = .ok (.ireturn, 1) := by decide +kernel
theorem dX6_judgeOfNow_0 : decode cX6_judgeOfNow 0 = .ok (.aload_n 0, 1) := by decide +kernel
theorem dX6_judgeOfNow_1 : decode cX6_judgeOfNow 1 = .ok (.getfield 33, 3) := by decide +kernel
theorem dX6_judgeOfNow_4 : decode cX6_judgeOfNow 4 = .ok (.ifnonnull 14, 3) := by decide +kernel
theorem dX6_judgeOfNow_7 : decode cX6_judgeOfNow 7 = .ok (.aload_n 0, 1) := by decide +kernel
theorem dX6_judgeOfNow_8 : decode cX6_judgeOfNow 8 = .ok (.new 173, 3) := by decide +kernel
theorem dX6_judgeOfNow_11 : decode cX6_judgeOfNow 11 = .ok (.dup, 1) := by decide +kernel
theorem dX6_judgeOfNow_12 : decode cX6_judgeOfNow 12 = .ok (.invokespecial 197, 3) := by decide +kernel
theorem dX6_judgeOfNow_15 : decode cX6_judgeOfNow 15 = .ok (.putfield 33, 3) := by decide +kernel
theorem dX6_judgeOfNow_18 : decode cX6_judgeOfNow 18 = .ok (.aload_n 0, 1) := by decide +kernel
theorem dX6_judgeOfNow_19 : decode cX6_judgeOfNow 19 = .ok (.getfield 33, 3) := by decide +kernel
theorem dX6_judgeOfNow_22 : decode cX6_judgeOfNow 22 = .ok (.aload_n 0, 1) := by decide +kernel
theorem dX6_judgeOfNow_23 : decode cX6_judgeOfNow 23 = .ok (.getfield 12, 3) := by decide +kernel
theorem dX6_judgeOfNow_26 : decode cX6_judgeOfNow 26 = .ok (.aload_n 0, 1) := by decide +kernel
theorem dX6_judgeOfNow_27 : decode cX6_judgeOfNow 27 = .ok (.getfield 26, 3) := by decide +kernel
theorem dX6_judgeOfNow_30 : decode cX6_judgeOfNow 30 = .ok (.invokevirtual 198, 3) := by decide +kernel
theorem dX6_judgeOfNow_33 : decode cX6_judgeOfNow 33 = .ok (.aload_n 0, 1) := by decide +kernel
theorem dX6_judgeOfNow_34 : decode cX6_judgeOfNow 34 = .ok (.getfield 33, 3) := by decide +kernel
theorem dX6_judgeOfNow_37 : decode cX6_judgeOfNow 37 = .ok (.areturn, 1) := by decide +kernel
theorem dX6_sings_0 : decode cX6_sings 0 = .ok (.aload_n 0, 1) := by decide +kernel
theorem dX6_sings_1 : decode cX6_sings 1 = .ok (.getfield 12, 3) := by decide +kernel
theorem dX6_sings_4 : decode cX6_sings 4 = .ok (.aload_n 0, 1) := by decide +kernel
theorem dX6_sings_5 : decode cX6_sings 5 = .ok (.getfield 56, 3) := by decide +kernel
theorem dX6_sings_8 : decode cX6_sings 8 = .ok (.invokevirtual 63, 3) := by decide +kernel
theorem dX6_sings_11 : decode cX6_sings 11 = .ok (.ifCond .eq 18, 3) := by decide +kernel
theorem dX6_sings_14 : decode cX6_sings 14 = .ok (.iload_n 1, 1) := by decide +kernel
theorem dX6_sings_15 : decode cX6_sings 15 = .ok (.ifCond .lt 14, 3) := by decide +kernel
theorem dX6_sings_18 : decode cX6_sings 18 = .ok (.iload_n 1, 1) := by decide +kernel
theorem dX6_sings_19 : decode cX6_sings 19 = .ok (.aload_n 0, 1) := by decide +kernel
theorem dX6_sings_20 : decode cX6_sings 20 = .ok (.getfield 26, 3) := by decide +kernel
theorem dX6_sings_23 : decode cX6_sings 23 = .ok (.getfield 100, 3) := by decide +kernel
theorem dX6_sings_26 : decode cX6_sings 26 = .ok (.if_icmp .lt 5, 3) := by decide +kernel
theorem dX6_sings_29 : decode cX6_sings 29 = .ok (.iconst (-1), 1) := by decide +kernel
theorem dX6_sings_30 : decode cX6_sings 30 = .ok (.ireturn, 1) := by decide +kernel
theorem dX6_sings_31 : decode cX6_sings 31 = .ok (.aload_n 0, 1) := by decide +kernel
theorem dX6_sings_32 : decode cX6_sings 32 = .ok (.getfield 12, 3) := by decide +kernel
theorem dX6_sings_35 : decode cX6_sings 35 = .ok (.getfield 97, 3) := by decide +kernel
theorem dX6_sings_38 : decode cX6_sings 38 = .ok (.aload_n 0, 1) := by decide +kernel
theorem dX6_sings_39 : decode cX6_sings 39 = .ok (.getfield 56, 3) := by decide +kernel
theorem dX6_sings_42 : decode cX6_sings 42 = .ok (.invokestatic 125, 3) := by decide +kernel
theorem dX6_sings_45 : decode cX6_sings 45 = .ok (.ifCond .eq 6, 3) := by decide +kernel
theorem dX6_sings_48 : decode cX6_sings 48 = .ok (.bipush 9, 2) := by decide +kernel
theorem dX6_sings_50 : decode cX6_sings 50 = .ok (.ireturn, 1) := by decide +kernel
theorem dX6_sings_51 : decode cX6_sings 51 = .ok (.iload_n 1, 1) := by decide +kernel
theorem dX6_sings_52 : decode cX6_sings 52 = .ok (.istore_n 2, 1) := by decide +kernel
theorem dX6_sings_53 : decode cX6_sings 53 = .ok (.iload_n 2, 1) := by decide +kernel
theorem dX6_sings_54 : decode cX6_sings 54 = .ok (.aload_n 0, 1) := by decide +kernel
theorem dX6_sings_55 : decode cX6_sings 55 = .ok (.getfield 26, 3) := by decide +kernel
theorem dX6_sings_58 : decode cX6_sings 58 = .ok (.getfield 100, 3) := by decide +kernel
theorem dX6_sings_61 : decode cX6_sings 61 = .ok (.if_icmp .ge 45, 3) := by decide +kernel
theorem dX6_sings_64 : decode cX6_sings 64 = .ok (.aload_n 0, 1) := by decide +kernel
theorem dX6_sings_65 : decode cX6_sings 65 = .ok (.getfield 26, 3) := by decide +kernel
theorem dX6_sings_68 : decode cX6_sings 68 = .ok (.iload_n 2, 1) := by decide +kernel
theorem dX6_sings_69 : decode cX6_sings 69 = .ok (.aload_n 0, 1) := by decide +kernel
theorem dX6_sings_70 : decode cX6_sings 70 = .ok (.getfield 12, 3) := by decide +kernel
theorem dX6_sings_73 : decode cX6_sings 73 = .ok (.aload_n 0, 1) := by decide +kernel
theorem dX6_sings_74 : decode cX6_sings 74 = .ok (.invokevirtual 129, 3) := by decide +kernel
theorem dX6_sings_77 : decode cX6_sings 77 = .ok (.invokevirtual 202, 3) := by decide +kernel
theorem dX6_sings_80 : decode cX6_sings 80 = .ok (.aload_n 0, 1) := by decide +kernel
theorem dX6_sings_81 : decode cX6_sings 81 = .ok (.getfield 56, 3) := by decide +kernel
theorem dX6_sings_84 : decode cX6_sings 84 = .ok (.invokestatic 125, 3) := by decide +kernel
theorem dX6_sings_87 : decode cX6_sings 87 = .ok (.ifCond .ne 13, 3) := by decide +kernel
theorem dX6_sings_90 : decode cX6_sings 90 = .ok (.aload_n 0, 1) := by decide +kernel
theorem dX6_sings_91 : decode cX6_sings 91 = .ok (.getfield 26, 3) := by decide +kernel
theorem dX6_sings_94 : decode cX6_sings 94 = .ok (.getfield 206, 3) := by decide +kernel
theorem dX6_sings_97 : decode cX6_sings 97 = .ok (.iload_n 2, 1) := by decide +kernel
theorem dX6_sings_98 : decode cX6_sings 98 = .ok (.iaload, 1) := by decide +kernel
theorem dX6_sings_99 : decode cX6_sings 99 = .ok (.ireturn, 1) := by decide +kernel
theorem dX6_sings_100 : decode cX6_sings 100 = .ok (.iinc 2 1, 3) := by decide +kernel
theorem dX6_sings_103 : decode cX6_sings 103 = .ok (.goto (-50), 3) := by decide +kernel
theorem dX6_sings_106 : decode cX6_sings 106 = .ok (.bipush 10, 2) := by decide +kernel
theorem dX6_sings_108 : decode cX6_sings 108 = .ok (.ireturn, 1) := by decide +kernel
theorem dX6_blind_0 : decode cX6_blind 0 = .ok (.iload_n 1, 1) := by decide +kernel
theorem dX6_blind_1 : decode cX6_blind 1 = .ok (.bipush 10, 2) := by decide +kernel
theorem dX6_blind_3 : decode cX6_blind 3 = .ok (.isub, 1) := by decide +kernel
theorem dX6_blind_4 : decode cX6_blind 4 = .ok (.istore_n 2, 1) := by decide +kernel
theorem dX6_blind_5 : decode cX6_blind 5 = .ok (.iload_n 1, 1) := by decide +kernel
theorem dX6_blind_6 : decode cX6_blind 6 = .ok (.bipush 10, 2) := by decide +kernel
theorem dX6_blind_8 : decode cX6_blind 8 = .ok (.if_icmp .lt 13, 3) := by decide +kernel
theorem dX6_blind_11 : decode cX6_blind 11 = .ok (.iload_n 2, 1) := by decide +kernel
theorem dX6_blind_12 : decode cX6_blind 12 = .ok (.bipush 12, 2) := by decide +kernel
theorem dX6_blind_14 : decode cX6_blind 14 = .ok (.if_icmp .ge 7, 3) := by decide +kernel
theorem dX6_blind_17 : decode cX6_blind 17 = .ok (.iconst 1, 1) := by decide +kernel
theorem dX6_blind_18 : decode cX6_blind 18 = .ok (.goto 4, 3) := by decide +kernel
theorem dX6_blind_21 : decode cX6_blind 21 = .ok (.iconst 0, 1) := by decide +kernel
theorem dX6_blind_22 : decode cX6_blind 22 = .ok (.istore_n 3, 1) := by decide +kernel
theorem dX6_blind_23 : decode cX6_blind 23 = .ok (.iload_n 1, 1) := by decide +kernel
theorem dX6_blind_24 : decode cX6_blind 24 = .ok (.ifCond .eq 10, 3) := by decide +kernel
theorem dX6_blind_27 : decode cX6_blind 27 = .ok (.iload_n 3, 1) := by decide +kernel
theorem dX6_blind_28 : decode cX6_blind 28 = .ok (.ifCond .ne 6, 3) := by decide +kernel
theorem dX6_blind_31 : decode cX6_blind 31 = .ok (.bipush (-2), 2) := by decide +kernel
theorem dX6_blind_33 : decode cX6_blind 33 = .ok (.ireturn, 1) := by decide +kernel
theorem dX6_blind_34 : decode cX6_blind 34 = .ok (.aload_n 0, 1) := by decide +kernel
theorem dX6_blind_35 : decode cX6_blind 35 = .ok (.getfield 37, 3) := by decide +kernel
theorem dX6_blind_38 : decode cX6_blind 38 = .ok (.ifnonnull 14, 3) := by decide +kernel
theorem dX6_blind_41 : decode cX6_blind 41 = .ok (.aload_n 0, 1) := by decide +kernel
theorem dX6_blind_42 : decode cX6_blind 42 = .ok (.new 209, 3) := by decide +kernel
theorem dX6_blind_45 : decode cX6_blind 45 = .ok (.dup, 1) := by decide +kernel
theorem dX6_blind_46 : decode cX6_blind 46 = .ok (.invokespecial 211, 3) := by decide +kernel
theorem dX6_blind_49 : decode cX6_blind 49 = .ok (.putfield 37, 3) := by decide +kernel
theorem dX6_blind_52 : decode cX6_blind 52 = .ok (.aload_n 0, 1) := by decide +kernel
theorem dX6_blind_53 : decode cX6_blind 53 = .ok (.getfield 37, 3) := by decide +kernel
theorem dX6_blind_56 : decode cX6_blind 56 = .ok (.aload_n 0, 1) := by decide +kernel
theorem dX6_blind_57 : decode cX6_blind 57 = .ok (.getfield 12, 3) := by decide +kernel
theorem dX6_blind_60 : decode cX6_blind 60 = .ok (.aload_n 0, 1) := by decide +kernel
theorem dX6_blind_61 : decode cX6_blind 61 = .ok (.getfield 49, 3) := by decide +kernel
theorem dX6_blind_64 : decode cX6_blind 64 = .ok (.aload_n 0, 1) := by decide +kernel
theorem dX6_blind_65 : decode cX6_blind 65 = .ok (.invokevirtual 129, 3) := by decide +kernel
theorem dX6_blind_68 : decode cX6_blind 68 = .ok (.invokevirtual 212, 3) := by decide +kernel
theorem dX6_blind_71 : decode cX6_blind 71 = .ok (.istore 4, 2) := by decide +kernel
theorem dX6_blind_73 : decode cX6_blind 73 = .ok (.iload 4, 2) := by decide +kernel
theorem dX6_blind_75 : decode cX6_blind 75 = .ok (.ifCond .lt 7, 3) := by decide +kernel
theorem dX6_blind_78 : decode cX6_blind 78 = .ok (.iload_n 1, 1) := by decide +kernel
theorem dX6_blind_79 : decode cX6_blind 79 = .ok (.ifCond .ne 6, 3) := by decide +kernel
theorem dX6_blind_82 : decode cX6_blind 82 = .ok (.iload 4, 2) := by decide +kernel
theorem dX6_blind_84 : decode cX6_blind 84 = .ok (.ireturn, 1) := by decide +kernel
theorem dX6_blind_85 : decode cX6_blind 85 = .ok (.iload_n 2, 1) := by decide +kernel
theorem dX6_blind_86 : decode cX6_blind 86 = .ok (.iload 4, 2) := by decide +kernel
theorem dX6_blind_88 : decode cX6_blind 88 = .ok (.if_icmp .ge 15, 3) := by decide +kernel
theorem dX6_blind_91 : decode cX6_blind 91 = .ok (.aload_n 0, 1) := by decide +kernel
theorem dX6_blind_92 : decode cX6_blind 92 = .ok (.getfield 37, 3) := by decide +kernel
theorem dX6_blind_95 : decode cX6_blind 95 = .ok (.getfield 216, 3) := by decide +kernel
theorem dX6_blind_98 : decode cX6_blind 98 = .ok (.iload_n 2, 1) := by decide +kernel
theorem dX6_blind_99 : decode cX6_blind 99 = .ok (.iaload, 1) := by decide +kernel
theorem dX6_blind_100 : decode cX6_blind 100 = .ok (.goto 5, 3) := by decide +kernel
theorem dX6_blind_103 : decode cX6_blind 103 = .ok (.bipush (-2), 2) := by decide +kernel
theorem dX6_blind_105 : decode cX6_blind 105 = .ok (.ireturn, 1) := by decide +kernel
theorem dX6_watchNow_0 : decode cX6_watchNow 0 = .ok (.aload_n 0, 1) := by decide +kernel
theorem dX6_watchNow_1 : decode cX6_watchNow 1 = .ok (.getfield 52, 3) := by decide +kernel
theorem dX6_watchNow_4 : decode cX6_watchNow 4 = .ok (.bipush 6, 2) := by decide +kernel
theorem dX6_watchNow_6 : decode cX6_watchNow 6 = .ok (.irem, 1) := by decide +kernel
theorem dX6_watchNow_7 : decode cX6_watchNow 7 = .ok (.ireturn, 1) := by decide +kernel
theorem dX6_isWatch_0 : decode cX6_isWatch 0 = .ok (.iload_n 0, 1) := by decide +kernel
theorem dX6_isWatch_1 : decode cX6_isWatch 1 = .ok (.ifCond .lt 13, 3) := by decide +kernel
theorem dX6_isWatch_4 : decode cX6_isWatch 4 = .ok (.iload_n 0, 1) := by decide +kernel
theorem dX6_isWatch_5 : decode cX6_isWatch 5 = .ok (.bipush 6, 2) := by decide +kernel
theorem dX6_isWatch_7 : decode cX6_isWatch 7 = .ok (.if_icmp .ge 7, 3) := by decide +kernel
theorem dX6_isWatch_10 : decode cX6_isWatch 10 = .ok (.iconst 1, 1) := by decide +kernel
theorem dX6_isWatch_11 : decode cX6_isWatch 11 = .ok (.goto 4, 3) := by decide +kernel
theorem dX6_isWatch_14 : decode cX6_isWatch 14 = .ok (.iconst 0, 1) := by decide +kernel
theorem dX6_isWatch_15 : decode cX6_isWatch 15 = .ok (.ireturn, 1) := by decide +kernel
theorem dX6_isWatchSet_0 : decode cX6_isWatchSet 0 = .ok (.iload_n 0, 1) := by decide +kernel
theorem dX6_isWatchSet_1 : decode cX6_isWatchSet 1 = .ok (.ifCond .lt 13, 3) := by decide +kernel
theorem dX6_isWatchSet_4 : decode cX6_isWatchSet 4 = .ok (.iload_n 0, 1) := by decide +kernel
theorem dX6_isWatchSet_5 : decode cX6_isWatchSet 5 = .ok (.bipush 64, 2) := by decide +kernel
theorem dX6_isWatchSet_7 : decode cX6_isWatchSet 7 = .ok (.if_icmp .ge 7, 3) := by decide +kernel
theorem dX6_isWatchSet_10 : decode cX6_isWatchSet 10 = .ok (.iconst 1, 1) := by decide +kernel
theorem dX6_isWatchSet_11 : decode cX6_isWatchSet 11 = .ok (.goto 4, 3) := by decide +kernel
theorem dX6_isWatchSet_14 : decode cX6_isWatchSet 14 = .ok (.iconst 0, 1) := by decide +kernel
theorem dX6_isWatchSet_15 : decode cX6_isWatchSet 15 = .ok (.ireturn, 1) := by decide +kernel
theorem dX6_isWay_0 : decode cX6_isWay 0 = .ok (.iload_n 0, 1) := by decide +kernel
theorem dX6_isWay_1 : decode cX6_isWay 1 = .ok (.ifCond .lt 13, 3) := by decide +kernel
theorem dX6_isWay_4 : decode cX6_isWay 4 = .ok (.iload_n 0, 1) := by decide +kernel
theorem dX6_isWay_5 : decode cX6_isWay 5 = .ok (.bipush 9, 2) := by decide +kernel
theorem dX6_isWay_7 : decode cX6_isWay 7 = .ok (.if_icmp .ge 7, 3) := by decide +kernel
theorem dX6_isWay_10 : decode cX6_isWay 10 = .ok (.iconst 1, 1) := by decide +kernel
theorem dX6_isWay_11 : decode cX6_isWay 11 = .ok (.goto 4, 3) := by decide +kernel
theorem dX6_isWay_14 : decode cX6_isWay 14 = .ok (.iconst 0, 1) := by decide +kernel
theorem dX6_isWay_15 : decode cX6_isWay 15 = .ok (.ireturn, 1) := by decide +kernel
theorem dX6_isSign_0 : decode cX6_isSign 0 = .ok (.iload_n 0, 1) := by decide +kernel
theorem dX6_isSign_1 : decode cX6_isSign 1 = .ok (.ifCond .lt 12, 3) := by decide +kernel
theorem dX6_isSign_4 : decode cX6_isSign 4 = .ok (.iload_n 0, 1) := by decide +kernel
theorem dX6_isSign_5 : decode cX6_isSign 5 = .ok (.iconst 2, 1) := by decide +kernel
theorem dX6_isSign_6 : decode cX6_isSign 6 = .ok (.if_icmp .gt 7, 3) := by decide +kernel
theorem dX6_isSign_9 : decode cX6_isSign 9 = .ok (.iconst 1, 1) := by decide +kernel
theorem dX6_isSign_10 : decode cX6_isSign 10 = .ok (.goto 4, 3) := by decide +kernel
theorem dX6_isSign_13 : decode cX6_isSign 13 = .ok (.iconst 0, 1) := by decide +kernel
theorem dX6_isSign_14 : decode cX6_isSign 14 = .ok (.ireturn, 1) := by decide +kernel
theorem dX6_has_0 : decode cX6_has 0 = .ok (.lload_n 0, 1) := by decide +kernel
theorem dX6_has_1 : decode cX6_has 1 = .ok (.iload_n 2, 1) := by decide +kernel
theorem dX6_has_2 : decode cX6_has 2 = .ok (.lushr, 1) := by decide +kernel
theorem dX6_has_3 : decode cX6_has 3 = .ok (.lconst 1, 1) := by decide +kernel
theorem dX6_has_4 : decode cX6_has 4 = .ok (.land, 1) := by decide +kernel
theorem dX6_has_5 : decode cX6_has 5 = .ok (.lconst 0, 1) := by decide +kernel
theorem dX6_has_6 : decode cX6_has 6 = .ok (.lcmp, 1) := by decide +kernel
theorem dX6_has_7 : decode cX6_has 7 = .ok (.ifCond .eq 7, 3) := by decide +kernel
theorem dX6_has_10 : decode cX6_has 10 = .ok (.iconst 1, 1) := by decide +kernel
theorem dX6_has_11 : decode cX6_has 11 = .ok (.goto 4, 3) := by decide +kernel
theorem dX6_has_14 : decode cX6_has 14 = .ok (.iconst 0, 1) := by decide +kernel
theorem dX6_has_15 : decode cX6_has 15 = .ok (.ireturn, 1) := by decide +kernel
theorem dX7_init_0 : decode cX7_init 0 = .ok (.aload_n 0, 1) := by decide +kernel
theorem dX7_init_1 : decode cX7_init 1 = .ok (.invokespecial 1, 3) := by decide +kernel
theorem dX7_init_4 : decode cX7_init 4 = .ok (.aload_n 0, 1) := by decide +kernel
theorem dX7_init_5 : decode cX7_init 5 = .ok (.iconst 4, 1) := by decide +kernel
theorem dX7_init_6 : decode cX7_init 6 = .ok (.putfield 7, 3) := by decide +kernel
end
section
theorem dX7_init_9 : decode cX7_init 9 = .ok (.aload_n 0, 1) := by decide +kernel
theorem dX7_init_10 : decode cX7_init 10 = .ok (.iconst 4, 1) := by decide +kernel
theorem dX7_init_11 : decode cX7_init 11 = .ok (.putfield 13, 3) := by decide +kernel
theorem dX7_init_14 : decode cX7_init 14 = .ok (.aload_n 0, 1) := by decide +kernel
theorem dX7_init_15 : decode cX7_init 15 = .ok (.ldc2_w 16, 3) := by decide +kernel
theorem dX7_init_18 : decode cX7_init 18 = .ok (.putfield 18, 3) := by decide +kernel
theorem dX7_init_21 : decode cX7_init 21 = .ok (.aload_n 0, 1) := by decide +kernel
theorem dX7_init_22 : decode cX7_init 22 = .ok (.iconst (-1), 1) := by decide +kernel
theorem dX7_init_23 : decode cX7_init 23 = .ok (.putfield 22, 3) := by decide +kernel
theorem dX7_init_26 : decode cX7_init 26 = .ok (.aload_n 0, 1) := by decide +kernel
theorem dX7_init_27 : decode cX7_init 27 = .ok (.bipush 64, 2) := by decide +kernel
theorem dX7_init_29 : decode cX7_init 29 = .ok (.newarray .int, 2) := by decide +kernel
theorem dX7_init_31 : decode cX7_init 31 = .ok (.putfield 25, 3) := by decide +kernel
theorem dX7_init_34 : decode cX7_init 34 = .ok (.aload_n 0, 1) := by decide +kernel
theorem dX7_init_35 : decode cX7_init 35 = .ok (.bipush 64, 2) := by decide +kernel
theorem dX7_init_37 : decode cX7_init 37 = .ok (.newarray .int, 2) := by decide +kernel
theorem dX7_init_39 : decode cX7_init 39 = .ok (.putfield 29, 3) := by decide +kernel
theorem dX7_init_42 : decode cX7_init 42 = .ok (.aload_n 0, 1) := by decide +kernel
theorem dX7_init_43 : decode cX7_init 43 = .ok (.bipush 6, 2) := by decide +kernel
theorem dX7_init_45 : decode cX7_init 45 = .ok (.newarray .int, 2) := by decide +kernel
theorem dX7_init_47 : decode cX7_init 47 = .ok (.dup, 1) := by decide +kernel
theorem dX7_init_48 : decode cX7_init 48 = .ok (.iconst 0, 1) := by decide +kernel
theorem dX7_init_49 : decode cX7_init 49 = .ok (.bipush 16, 2) := by decide +kernel
theorem dX7_init_51 : decode cX7_init 51 = .ok (.iastore, 1) := by decide +kernel
theorem dX7_init_52 : decode cX7_init 52 = .ok (.dup, 1) := by decide +kernel
theorem dX7_init_53 : decode cX7_init 53 = .ok (.iconst 1, 1) := by decide +kernel
theorem dX7_init_54 : decode cX7_init 54 = .ok (.bipush 16, 2) := by decide +kernel
theorem dX7_init_56 : decode cX7_init 56 = .ok (.iastore, 1) := by decide +kernel
theorem dX7_init_57 : decode cX7_init 57 = .ok (.dup, 1) := by decide +kernel
theorem dX7_init_58 : decode cX7_init 58 = .ok (.iconst 2, 1) := by decide +kernel
theorem dX7_init_59 : decode cX7_init 59 = .ok (.bipush 16, 2) := by decide +kernel
theorem dX7_init_61 : decode cX7_init 61 = .ok (.iastore, 1) := by decide +kernel
theorem dX7_init_62 : decode cX7_init 62 = .ok (.dup, 1) := by decide +kernel
theorem dX7_init_63 : decode cX7_init 63 = .ok (.iconst 3, 1) := by decide +kernel
theorem dX7_init_64 : decode cX7_init 64 = .ok (.bipush 16, 2) := by decide +kernel
theorem dX7_init_66 : decode cX7_init 66 = .ok (.iastore, 1) := by decide +kernel
theorem dX7_init_67 : decode cX7_init 67 = .ok (.dup, 1) := by decide +kernel
theorem dX7_init_68 : decode cX7_init 68 = .ok (.iconst 4, 1) := by decide +kernel
theorem dX7_init_69 : decode cX7_init 69 = .ok (.bipush 16, 2) := by decide +kernel
theorem dX7_init_71 : decode cX7_init 71 = .ok (.iastore, 1) := by decide +kernel
theorem dX7_init_72 : decode cX7_init 72 = .ok (.dup, 1) := by decide +kernel
theorem dX7_init_73 : decode cX7_init 73 = .ok (.iconst 5, 1) := by decide +kernel
theorem dX7_init_74 : decode cX7_init 74 = .ok (.bipush 16, 2) := by decide +kernel
theorem dX7_init_76 : decode cX7_init 76 = .ok (.iastore, 1) := by decide +kernel
theorem dX7_init_77 : decode cX7_init 77 = .ok (.putfield 32, 3) := by decide +kernel
theorem dX7_init_80 : decode cX7_init 80 = .ok (.aload_n 0, 1) := by decide +kernel
theorem dX7_init_81 : decode cX7_init 81 = .ok (.bipush 12, 2) := by decide +kernel
theorem dX7_init_83 : decode cX7_init 83 = .ok (.newarray .int, 2) := by decide +kernel
theorem dX7_init_85 : decode cX7_init 85 = .ok (.putfield 35, 3) := by decide +kernel
theorem dX7_init_88 : decode cX7_init 88 = .ok (.aload_n 0, 1) := by decide +kernel
theorem dX7_init_89 : decode cX7_init 89 = .ok (.bipush 12, 2) := by decide +kernel
theorem dX7_init_91 : decode cX7_init 91 = .ok (.newarray .int, 2) := by decide +kernel
theorem dX7_init_93 : decode cX7_init 93 = .ok (.putfield 38, 3) := by decide +kernel
theorem dX7_init_96 : decode cX7_init 96 = .ok (.aload_n 0, 1) := by decide +kernel
theorem dX7_init_97 : decode cX7_init 97 = .ok (.bipush 12, 2) := by decide +kernel
theorem dX7_init_99 : decode cX7_init 99 = .ok (.newarray .int, 2) := by decide +kernel
theorem dX7_init_101 : decode cX7_init 101 = .ok (.putfield 41, 3) := by decide +kernel
theorem dX7_init_104 : decode cX7_init 104 = .ok (.aload_n 0, 1) := by decide +kernel
theorem dX7_init_105 : decode cX7_init 105 = .ok (.bipush 12, 2) := by decide +kernel
theorem dX7_init_107 : decode cX7_init 107 = .ok (.newarray .int, 2) := by decide +kernel
theorem dX7_init_109 : decode cX7_init 109 = .ok (.putfield 44, 3) := by decide +kernel
theorem dX7_init_112 : decode cX7_init 112 = .ok (.aload_n 0, 1) := by decide +kernel
theorem dX7_init_113 : decode cX7_init 113 = .ok (.bipush 12, 2) := by decide +kernel
theorem dX7_init_115 : decode cX7_init 115 = .ok (.newarray .int, 2) := by decide +kernel
theorem dX7_init_117 : decode cX7_init 117 = .ok (.putfield 47, 3) := by decide +kernel
theorem dX7_init_120 : decode cX7_init 120 = .ok (.aload_n 0, 1) := by decide +kernel
theorem dX7_init_121 : decode cX7_init 121 = .ok (.bipush 12, 2) := by decide +kernel
theorem dX7_init_123 : decode cX7_init 123 = .ok (.newarray .int, 2) := by decide +kernel
theorem dX7_init_125 : decode cX7_init 125 = .ok (.putfield 50, 3) := by decide +kernel
theorem dX7_init_128 : decode cX7_init 128 = .ok (.aload_n 0, 1) := by decide +kernel
theorem dX7_init_129 : decode cX7_init 129 = .ok (.bipush 12, 2) := by decide +kernel
theorem dX7_init_131 : decode cX7_init 131 = .ok (.newarray .int, 2) := by decide +kernel
theorem dX7_init_133 : decode cX7_init 133 = .ok (.putfield 53, 3) := by decide +kernel
theorem dX7_init_136 : decode cX7_init 136 = .ok (.aload_n 0, 1) := by decide +kernel
theorem dX7_init_137 : decode cX7_init 137 = .ok (.bipush 12, 2) := by decide +kernel
theorem dX7_init_139 : decode cX7_init 139 = .ok (.newarray .int, 2) := by decide +kernel
theorem dX7_init_141 : decode cX7_init 141 = .ok (.putfield 56, 3) := by decide +kernel
theorem dX7_init_144 : decode cX7_init 144 = .ok (.aload_n 0, 1) := by decide +kernel
theorem dX7_init_145 : decode cX7_init 145 = .ok (.sipush 400, 3) := by decide +kernel
theorem dX7_init_148 : decode cX7_init 148 = .ok (.newarray .int, 2) := by decide +kernel
theorem dX7_init_150 : decode cX7_init 150 = .ok (.putfield 59, 3) := by decide +kernel
theorem dX7_init_153 : decode cX7_init 153 = .ok (.aload_n 0, 1) := by decide +kernel
theorem dX7_init_154 : decode cX7_init 154 = .ok (.iconst (-1), 1) := by decide +kernel
theorem dX7_init_155 : decode cX7_init 155 = .ok (.putfield 62, 3) := by decide +kernel
theorem dX7_init_158 : decode cX7_init 158 = .ok (.aload_n 0, 1) := by decide +kernel
theorem dX7_init_159 : decode cX7_init 159 = .ok (.sipush 16384, 3) := by decide +kernel
theorem dX7_init_162 : decode cX7_init 162 = .ok (.newarray .int, 2) := by decide +kernel
theorem dX7_init_164 : decode cX7_init 164 = .ok (.putfield 65, 3) := by decide +kernel
theorem dX7_init_167 : decode cX7_init 167 = .ok (.aload_n 0, 1) := by decide +kernel
theorem dX7_init_168 : decode cX7_init 168 = .ok (.sipush 16384, 3) := by decide +kernel
theorem dX7_init_171 : decode cX7_init 171 = .ok (.newarray .int, 2) := by decide +kernel
theorem dX7_init_173 : decode cX7_init 173 = .ok (.putfield 68, 3) := by decide +kernel
theorem dX7_init_176 : decode cX7_init 176 = .ok (.aload_n 0, 1) := by decide +kernel
theorem dX7_init_177 : decode cX7_init 177 = .ok (.sipush 3000, 3) := by decide +kernel
theorem dX7_init_180 : decode cX7_init 180 = .ok (.newarray .long, 2) := by decide +kernel
theorem dX7_init_182 : decode cX7_init 182 = .ok (.putfield 71, 3) := by decide +kernel
theorem dX7_init_185 : decode cX7_init 185 = .ok (.aload_n 0, 1) := by decide +kernel
theorem dX7_init_186 : decode cX7_init 186 = .ok (.sipush 3000, 3) := by decide +kernel
theorem dX7_init_189 : decode cX7_init 189 = .ok (.newarray .int, 2) := by decide +kernel
theorem dX7_init_191 : decode cX7_init 191 = .ok (.putfield 75, 3) := by decide +kernel
theorem dX7_init_194 : decode cX7_init 194 = .ok (.aload_n 0, 1) := by decide +kernel
theorem dX7_init_195 : decode cX7_init 195 = .ok (.sipush 3000, 3) := by decide +kernel
theorem dX7_init_198 : decode cX7_init 198 = .ok (.newarray .int, 2) := by decide +kernel
theorem dX7_init_200 : decode cX7_init 200 = .ok (.putfield 78, 3) := by decide +kernel
theorem dX7_init_203 : decode cX7_init 203 = .ok (.aload_n 0, 1) := by decide +kernel
theorem dX7_init_204 : decode cX7_init 204 = .ok (.sipush 3000, 3) := by decide +kernel
theorem dX7_init_207 : decode cX7_init 207 = .ok (.newarray .int, 2) := by decide +kernel
theorem dX7_init_209 : decode cX7_init 209 = .ok (.putfield 81, 3) := by decide +kernel
theorem dX7_init_212 : decode cX7_init 212 = .ok (.aload_n 0, 1) := by decide +kernel
theorem dX7_init_213 : decode cX7_init 213 = .ok (.bipush 12, 2) := by decide +kernel
theorem dX7_init_215 : decode cX7_init 215 = .ok (.newarray .int, 2) := by decide +kernel
theorem dX7_init_217 : decode cX7_init 217 = .ok (.putfield 84, 3) := by decide +kernel
theorem dX7_init_220 : decode cX7_init 220 = .ok (.return_, 1) := by decide +kernel
theorem dX7_cells_0 : decode cX7_cells 0 = .ok (.aload_n 0, 1) := by decide +kernel
theorem dX7_cells_1 : decode cX7_cells 1 = .ok (.getfield 7, 3) := by decide +kernel
theorem dX7_cells_4 : decode cX7_cells 4 = .ok (.aload_n 0, 1) := by decide +kernel
theorem dX7_cells_5 : decode cX7_cells 5 = .ok (.getfield 13, 3) := by decide +kernel
theorem dX7_cells_8 : decode cX7_cells 8 = .ok (.imul, 1) := by decide +kernel
theorem dX7_cells_9 : decode cX7_cells 9 = .ok (.ireturn, 1) := by decide +kernel
theorem dX7_isCell_0 : decode cX7_isCell 0 = .ok (.iload_n 1, 1) := by decide +kernel
theorem dX7_isCell_1 : decode cX7_isCell 1 = .ok (.ifCond .lt 15, 3) := by decide +kernel
theorem dX7_isCell_4 : decode cX7_isCell 4 = .ok (.iload_n 1, 1) := by decide +kernel
theorem dX7_isCell_5 : decode cX7_isCell 5 = .ok (.aload_n 0, 1) := by decide +kernel
theorem dX7_isCell_6 : decode cX7_isCell 6 = .ok (.invokevirtual 90, 3) := by decide +kernel
theorem dX7_isCell_9 : decode cX7_isCell 9 = .ok (.if_icmp .ge 7, 3) := by decide +kernel
theorem dX7_isCell_12 : decode cX7_isCell 12 = .ok (.iconst 1, 1) := by decide +kernel
theorem dX7_isCell_13 : decode cX7_isCell 13 = .ok (.goto 4, 3) := by decide +kernel
theorem dX7_isCell_16 : decode cX7_isCell 16 = .ok (.iconst 0, 1) := by decide +kernel
theorem dX7_isCell_17 : decode cX7_isCell 17 = .ok (.ireturn, 1) := by decide +kernel
theorem dX7_isLand_0 : decode cX7_isLand 0 = .ok (.aload_n 0, 1) := by decide +kernel
theorem dX7_isLand_1 : decode cX7_isLand 1 = .ok (.getfield 25, 3) := by decide +kernel
theorem dX7_isLand_4 : decode cX7_isLand 4 = .ok (.iload_n 1, 1) := by decide +kernel
theorem dX7_isLand_5 : decode cX7_isLand 5 = .ok (.iaload, 1) := by decide +kernel
theorem dX7_isLand_6 : decode cX7_isLand 6 = .ok (.ifCond .le 7, 3) := by decide +kernel
theorem dX7_isLand_9 : decode cX7_isLand 9 = .ok (.iconst 1, 1) := by decide +kernel
theorem dX7_isLand_10 : decode cX7_isLand 10 = .ok (.goto 4, 3) := by decide +kernel
theorem dX7_isLand_13 : decode cX7_isLand 13 = .ok (.iconst 0, 1) := by decide +kernel
theorem dX7_isLand_14 : decode cX7_isLand 14 = .ok (.ireturn, 1) := by decide +kernel
theorem dX7_all_0 : decode cX7_all 0 = .ok (.aload_n 0, 1) := by decide +kernel
theorem dX7_all_1 : decode cX7_all 1 = .ok (.invokevirtual 90, 3) := by decide +kernel
theorem dX7_all_4 : decode cX7_all 4 = .ok (.bipush 64, 2) := by decide +kernel
theorem dX7_all_6 : decode cX7_all 6 = .ok (.if_icmp .ne 9, 3) := by decide +kernel
theorem dX7_all_9 : decode cX7_all 9 = .ok (.ldc2_w 94, 3) := by decide +kernel
theorem dX7_all_12 : decode cX7_all 12 = .ok (.goto 11, 3) := by decide +kernel
theorem dX7_all_15 : decode cX7_all 15 = .ok (.lconst 1, 1) := by decide +kernel
theorem dX7_all_16 : decode cX7_all 16 = .ok (.aload_n 0, 1) := by decide +kernel
theorem dX7_all_17 : decode cX7_all 17 = .ok (.invokevirtual 90, 3) := by decide +kernel
theorem dX7_all_20 : decode cX7_all 20 = .ok (.lshl, 1) := by decide +kernel
theorem dX7_all_21 : decode cX7_all 21 = .ok (.lconst 1, 1) := by decide +kernel
theorem dX7_all_22 : decode cX7_all 22 = .ok (.lsub, 1) := by decide +kernel
theorem dX7_all_23 : decode cX7_all 23 = .ok (.lreturn, 1) := by decide +kernel
theorem dX7_has_0 : decode cX7_has 0 = .ok (.lload_n 1, 1) := by decide +kernel
theorem dX7_has_1 : decode cX7_has 1 = .ok (.iload_n 3, 1) := by decide +kernel
theorem dX7_has_2 : decode cX7_has 2 = .ok (.lushr, 1) := by decide +kernel
theorem dX7_has_3 : decode cX7_has 3 = .ok (.lconst 1, 1) := by decide +kernel
theorem dX7_has_4 : decode cX7_has 4 = .ok (.land, 1) := by decide +kernel
theorem dX7_has_5 : decode cX7_has 5 = .ok (.lconst 1, 1) := by decide +kernel
theorem dX7_has_6 : decode cX7_has 6 = .ok (.lcmp, 1) := by decide +kernel
theorem dX7_has_7 : decode cX7_has 7 = .ok (.ifCond .ne 7, 3) := by decide +kernel
theorem dX7_has_10 : decode cX7_has 10 = .ok (.iconst 1, 1) := by decide +kernel
theorem dX7_has_11 : decode cX7_has 11 = .ok (.goto 4, 3) := by decide +kernel
theorem dX7_has_14 : decode cX7_has 14 = .ok (.iconst 0, 1) := by decide +kernel
theorem dX7_has_15 : decode cX7_has 15 = .ok (.ireturn, 1) := by decide +kernel
theorem dX7_count_0 : decode cX7_count 0 = .ok (.iconst 0, 1) := by decide +kernel
theorem dX7_count_1 : decode cX7_count 1 = .ok (.istore_n 3, 1) := by decide +kernel
theorem dX7_count_2 : decode cX7_count 2 = .ok (.iconst 0, 1) := by decide +kernel
theorem dX7_count_3 : decode cX7_count 3 = .ok (.istore 4, 2) := by decide +kernel
theorem dX7_count_5 : decode cX7_count 5 = .ok (.iload 4, 2) := by decide +kernel
theorem dX7_count_7 : decode cX7_count 7 = .ok (.bipush 64, 2) := by decide +kernel
theorem dX7_count_9 : decode cX7_count 9 = .ok (.if_icmp .ge 23, 3) := by decide +kernel
theorem dX7_count_12 : decode cX7_count 12 = .ok (.aload_n 0, 1) := by decide +kernel
theorem dX7_count_13 : decode cX7_count 13 = .ok (.lload_n 1, 1) := by decide +kernel
theorem dX7_count_14 : decode cX7_count 14 = .ok (.iload 4, 2) := by decide +kernel
theorem dX7_count_16 : decode cX7_count 16 = .ok (.invokevirtual 96, 3) := by decide +kernel
theorem dX7_count_19 : decode cX7_count 19 = .ok (.ifCond .eq 7, 3) := by decide +kernel
theorem dX7_count_22 : decode cX7_count 22 = .ok (.iload_n 3, 1) := by decide +kernel
theorem dX7_count_23 : decode cX7_count 23 = .ok (.iconst 1, 1) := by decide +kernel
theorem dX7_count_24 : decode cX7_count 24 = .ok (.iadd, 1) := by decide +kernel
theorem dX7_count_25 : decode cX7_count 25 = .ok (.istore_n 3, 1) := by decide +kernel
theorem dX7_count_26 : decode cX7_count 26 = .ok (.iinc 4 1, 3) := by decide +kernel
theorem dX7_count_29 : decode cX7_count 29 = .ok (.goto (-24), 3) := by decide +kernel
theorem dX7_count_32 : decode cX7_count 32 = .ok (.iload_n 3, 1) := by decide +kernel
theorem dX7_count_33 : decode cX7_count 33 = .ok (.ireturn, 1) := by decide +kernel
theorem dX7_sea_0 : decode cX7_sea 0 = .ok (.aload_n 0, 1) := by decide +kernel
theorem dX7_sea_1 : decode cX7_sea 1 = .ok (.iconst 0, 1) := by decide +kernel
theorem dX7_sea_2 : decode cX7_sea 2 = .ok (.putfield 87, 3) := by decide +kernel
theorem dX7_sea_5 : decode cX7_sea 5 = .ok (.iload_n 1, 1) := by decide +kernel
theorem dX7_sea_6 : decode cX7_sea 6 = .ok (.iconst 2, 1) := by decide +kernel
theorem dX7_sea_7 : decode cX7_sea 7 = .ok (.if_icmp .lt 20, 3) := by decide +kernel
theorem dX7_sea_10 : decode cX7_sea 10 = .ok (.iload_n 1, 1) := by decide +kernel
theorem dX7_sea_11 : decode cX7_sea 11 = .ok (.bipush 8, 2) := by decide +kernel
theorem dX7_sea_13 : decode cX7_sea 13 = .ok (.if_icmp .gt 14, 3) := by decide +kernel
theorem dX7_sea_16 : decode cX7_sea 16 = .ok (.iload_n 2, 1) := by decide +kernel
theorem dX7_sea_17 : decode cX7_sea 17 = .ok (.iconst 2, 1) := by decide +kernel
theorem dX7_sea_18 : decode cX7_sea 18 = .ok (.if_icmp .lt 9, 3) := by decide +kernel
theorem dX7_sea_21 : decode cX7_sea 21 = .ok (.iload_n 2, 1) := by decide +kernel
theorem dX7_sea_22 : decode cX7_sea 22 = .ok (.bipush 8, 2) := by decide +kernel
theorem dX7_sea_24 : decode cX7_sea 24 = .ok (.if_icmp .le 5, 3) := by decide +kernel
theorem dX7_sea_27 : decode cX7_sea 27 = .ok (.iconst 0, 1) := by decide +kernel
theorem dX7_sea_28 : decode cX7_sea 28 = .ok (.ireturn, 1) := by decide +kernel
theorem dX7_sea_29 : decode cX7_sea 29 = .ok (.aload_n 0, 1) := by decide +kernel
theorem dX7_sea_30 : decode cX7_sea 30 = .ok (.iload_n 1, 1) := by decide +kernel
theorem dX7_sea_31 : decode cX7_sea 31 = .ok (.putfield 7, 3) := by decide +kernel
theorem dX7_sea_34 : decode cX7_sea 34 = .ok (.aload_n 0, 1) := by decide +kernel
theorem dX7_sea_35 : decode cX7_sea 35 = .ok (.iload_n 2, 1) := by decide +kernel
theorem dX7_sea_36 : decode cX7_sea 36 = .ok (.putfield 13, 3) := by decide +kernel
theorem dX7_sea_39 : decode cX7_sea 39 = .ok (.aload_n 0, 1) := by decide +kernel
theorem dX7_sea_40 : decode cX7_sea 40 = .ok (.iconst 0, 1) := by decide +kernel
theorem dX7_sea_41 : decode cX7_sea 41 = .ok (.putfield 100, 3) := by decide +kernel
theorem dX7_sea_44 : decode cX7_sea 44 = .ok (.aload_n 0, 1) := by decide +kernel
theorem dX7_sea_45 : decode cX7_sea 45 = .ok (.iconst (-1), 1) := by decide +kernel
theorem dX7_sea_46 : decode cX7_sea 46 = .ok (.putfield 22, 3) := by decide +kernel
theorem dX7_sea_49 : decode cX7_sea 49 = .ok (.aload_n 0, 1) := by decide +kernel
theorem dX7_sea_50 : decode cX7_sea 50 = .ok (.iconst 0, 1) := by decide +kernel
theorem dX7_sea_51 : decode cX7_sea 51 = .ok (.putfield 103, 3) := by decide +kernel
theorem dX7_sea_54 : decode cX7_sea 54 = .ok (.aload_n 0, 1) := by decide +kernel
theorem dX7_sea_55 : decode cX7_sea 55 = .ok (.iconst 0, 1) := by decide +kernel
theorem dX7_sea_56 : decode cX7_sea 56 = .ok (.putfield 106, 3) := by decide +kernel
theorem dX7_sea_59 : decode cX7_sea 59 = .ok (.aload_n 0, 1) := by decide +kernel
theorem dX7_sea_60 : decode cX7_sea 60 = .ok (.aload_n 0, 1) := by decide +kernel
theorem dX7_sea_61 : decode cX7_sea 61 = .ok (.invokevirtual 109, 3) := by decide +kernel
theorem dX7_sea_64 : decode cX7_sea 64 = .ok (.putfield 18, 3) := by decide +kernel
theorem dX7_sea_67 : decode cX7_sea 67 = .ok (.iconst 0, 1) := by decide +kernel
theorem dX7_sea_68 : decode cX7_sea 68 = .ok (.istore_n 3, 1) := by decide +kernel
theorem dX7_sea_69 : decode cX7_sea 69 = .ok (.iload_n 3, 1) := by decide +kernel
theorem dX7_sea_70 : decode cX7_sea 70 = .ok (.bipush 64, 2) := by decide +kernel
theorem dX7_sea_72 : decode cX7_sea 72 = .ok (.if_icmp .ge 23, 3) := by decide +kernel
theorem dX7_sea_75 : decode cX7_sea 75 = .ok (.aload_n 0, 1) := by decide +kernel
theorem dX7_sea_76 : decode cX7_sea 76 = .ok (.getfield 25, 3) := by decide +kernel
theorem dX7_sea_79 : decode cX7_sea 79 = .ok (.iload_n 3, 1) := by decide +kernel
theorem dX7_sea_80 : decode cX7_sea 80 = .ok (.iconst 0, 1) := by decide +kernel
theorem dX7_sea_81 : decode cX7_sea 81 = .ok (.iastore, 1) := by decide +kernel
theorem dX7_sea_82 : decode cX7_sea 82 = .ok (.aload_n 0, 1) := by decide +kernel
theorem dX7_sea_83 : decode cX7_sea 83 = .ok (.getfield 29, 3) := by decide +kernel
theorem dX7_sea_86 : decode cX7_sea 86 = .ok (.iload_n 3, 1) := by decide +kernel
theorem dX7_sea_87 : decode cX7_sea 87 = .ok (.iconst 0, 1) := by decide +kernel
theorem dX7_sea_88 : decode cX7_sea 88 = .ok (.iastore, 1) := by decide +kernel
theorem dX7_sea_89 : decode cX7_sea 89 = .ok (.iinc 3 1, 3) := by decide +kernel
theorem dX7_sea_92 : decode cX7_sea 92 = .ok (.goto (-23), 3) := by decide +kernel
theorem dX7_sea_95 : decode cX7_sea 95 = .ok (.iconst 0, 1) := by decide +kernel
theorem dX7_sea_96 : decode cX7_sea 96 = .ok (.istore_n 3, 1) := by decide +kernel
theorem dX7_sea_97 : decode cX7_sea 97 = .ok (.iload_n 3, 1) := by decide +kernel
theorem dX7_sea_98 : decode cX7_sea 98 = .ok (.bipush 6, 2) := by decide +kernel
theorem dX7_sea_100 : decode cX7_sea 100 = .ok (.if_icmp .ge 17, 3) := by decide +kernel
theorem dX7_sea_103 : decode cX7_sea 103 = .ok (.aload_n 0, 1) := by decide +kernel
theorem dX7_sea_104 : decode cX7_sea 104 = .ok (.getfield 32, 3) := by decide +kernel
theorem dX7_sea_107 : decode cX7_sea 107 = .ok (.iload_n 3, 1) := by decide +kernel
theorem dX7_sea_108 : decode cX7_sea 108 = .ok (.bipush 16, 2) := by decide +kernel
theorem dX7_sea_110 : decode cX7_sea 110 = .ok (.iastore, 1) := by decide +kernel
theorem dX7_sea_111 : decode cX7_sea 111 = .ok (.iinc 3 1, 3) := by decide +kernel
theorem dX7_sea_114 : decode cX7_sea 114 = .ok (.goto (-17), 3) := by decide +kernel
theorem dX7_sea_117 : decode cX7_sea 117 = .ok (.iconst 1, 1) := by decide +kernel
theorem dX7_sea_118 : decode cX7_sea 118 = .ok (.ireturn, 1) := by decide +kernel
theorem dX7_land_0 : decode cX7_land 0 = .ok (.aload_n 0, 1) := by decide +kernel
theorem dX7_land_1 : decode cX7_land 1 = .ok (.iconst 0, 1) := by decide +kernel
theorem dX7_land_2 : decode cX7_land 2 = .ok (.putfield 87, 3) := by decide +kernel
theorem dX7_land_5 : decode cX7_land 5 = .ok (.aload_n 0, 1) := by decide +kernel
theorem dX7_land_6 : decode cX7_land 6 = .ok (.iload_n 1, 1) := by decide +kernel
theorem dX7_land_7 : decode cX7_land 7 = .ok (.invokevirtual 113, 3) := by decide +kernel
theorem dX7_land_10 : decode cX7_land 10 = .ok (.ifCond .eq 13, 3) := by decide +kernel
theorem dX7_land_13 : decode cX7_land 13 = .ok (.iload_n 2, 1) := by decide +kernel
theorem dX7_land_14 : decode cX7_land 14 = .ok (.iconst (-1), 1) := by decide +kernel
theorem dX7_land_15 : decode cX7_land 15 = .ok (.if_icmp .lt 8, 3) := by decide +kernel
theorem dX7_land_18 : decode cX7_land 18 = .ok (.iload_n 2, 1) := by decide +kernel
theorem dX7_land_19 : decode cX7_land 19 = .ok (.iconst 3, 1) := by decide +kernel
theorem dX7_land_20 : decode cX7_land 20 = .ok (.if_icmp .le 5, 3) := by decide +kernel
theorem dX7_land_23 : decode cX7_land 23 = .ok (.iconst 0, 1) := by decide +kernel
theorem dX7_land_24 : decode cX7_land 24 = .ok (.ireturn, 1) := by decide +kernel
theorem dX7_land_25 : decode cX7_land 25 = .ok (.aload_n 0, 1) := by decide +kernel
theorem dX7_land_26 : decode cX7_land 26 = .ok (.getfield 25, 3) := by decide +kernel
theorem dX7_land_29 : decode cX7_land 29 = .ok (.iload_n 1, 1) := by decide +kernel
theorem dX7_land_30 : decode cX7_land 30 = .ok (.iload_n 2, 1) := by decide +kernel
theorem dX7_land_31 : decode cX7_land 31 = .ok (.iconst 1, 1) := by decide +kernel
theorem dX7_land_32 : decode cX7_land 32 = .ok (.iadd, 1) := by decide +kernel
theorem dX7_land_33 : decode cX7_land 33 = .ok (.iastore, 1) := by decide +kernel
theorem dX7_land_34 : decode cX7_land 34 = .ok (.iconst 1, 1) := by decide +kernel
theorem dX7_land_35 : decode cX7_land 35 = .ok (.ireturn, 1) := by decide +kernel
theorem dX7_swell_0 : decode cX7_swell 0 = .ok (.aload_n 0, 1) := by decide +kernel
theorem dX7_swell_1 : decode cX7_swell 1 = .ok (.iconst 0, 1) := by decide +kernel
theorem dX7_swell_2 : decode cX7_swell 2 = .ok (.putfield 87, 3) := by decide +kernel
theorem dX7_swell_5 : decode cX7_swell 5 = .ok (.aload_n 0, 1) := by decide +kernel
theorem dX7_swell_6 : decode cX7_swell 6 = .ok (.iload_n 1, 1) := by decide +kernel
theorem dX7_swell_7 : decode cX7_swell 7 = .ok (.invokevirtual 113, 3) := by decide +kernel
theorem dX7_swell_10 : decode cX7_swell 10 = .ok (.ifCond .eq 12, 3) := by decide +kernel
theorem dX7_swell_13 : decode cX7_swell 13 = .ok (.iload_n 2, 1) := by decide +kernel
theorem dX7_swell_14 : decode cX7_swell 14 = .ok (.ifCond .lt 8, 3) := by decide +kernel
theorem dX7_swell_17 : decode cX7_swell 17 = .ok (.iload_n 2, 1) := by decide +kernel
theorem dX7_swell_18 : decode cX7_swell 18 = .ok (.iconst 3, 1) := by decide +kernel
theorem dX7_swell_19 : decode cX7_swell 19 = .ok (.if_icmp .le 5, 3) := by decide +kernel
theorem dX7_swell_22 : decode cX7_swell 22 = .ok (.iconst 0, 1) := by decide +kernel
theorem dX7_swell_23 : decode cX7_swell 23 = .ok (.ireturn, 1) := by decide +kernel
theorem dX7_swell_24 : decode cX7_swell 24 = .ok (.aload_n 0, 1) := by decide +kernel
theorem dX7_swell_25 : decode cX7_swell 25 = .ok (.getfield 29, 3) := by decide +kernel
theorem dX7_swell_28 : decode cX7_swell 28 = .ok (.iload_n 1, 1) := by decide +kernel
theorem dX7_swell_29 : decode cX7_swell 29 = .ok (.iload_n 2, 1) := by decide +kernel
theorem dX7_swell_30 : decode cX7_swell 30 = .ok (.iastore, 1) := by decide +kernel
theorem dX7_swell_31 : decode cX7_swell 31 = .ok (.iconst 1, 1) := by decide +kernel
theorem dX7_swell_32 : decode cX7_swell 32 = .ok (.ireturn, 1) := by decide +kernel
theorem dX7_drifts_0 : decode cX7_drifts 0 = .ok (.aload_n 0, 1) := by decide +kernel
theorem dX7_drifts_1 : decode cX7_drifts 1 = .ok (.iconst 0, 1) := by decide +kernel
theorem dX7_drifts_2 : decode cX7_drifts 2 = .ok (.putfield 87, 3) := by decide +kernel
theorem dX7_drifts_5 : decode cX7_drifts 5 = .ok (.iload_n 1, 1) := by decide +kernel
theorem dX7_drifts_6 : decode cX7_drifts 6 = .ok (.ifCond .lt 20, 3) := by decide +kernel
theorem dX7_drifts_9 : decode cX7_drifts 9 = .ok (.iload_n 1, 1) := by decide +kernel
theorem dX7_drifts_10 : decode cX7_drifts 10 = .ok (.iconst 5, 1) := by decide +kernel
theorem dX7_drifts_11 : decode cX7_drifts 11 = .ok (.if_icmp .gt 15, 3) := by decide +kernel
theorem dX7_drifts_14 : decode cX7_drifts 14 = .ok (.iload_n 2, 1) := by decide +kernel
theorem dX7_drifts_15 : decode cX7_drifts 15 = .ok (.iconst 1, 1) := by decide +kernel
theorem dX7_drifts_16 : decode cX7_drifts 16 = .ok (.if_icmp .lt 10, 3) := by decide +kernel
theorem dX7_drifts_19 : decode cX7_drifts 19 = .ok (.iload_n 2, 1) := by decide +kernel
theorem dX7_drifts_20 : decode cX7_drifts 20 = .ok (.sipush 511, 3) := by decide +kernel
theorem dX7_drifts_23 : decode cX7_drifts 23 = .ok (.if_icmp .le 5, 3) := by decide +kernel
theorem dX7_drifts_26 : decode cX7_drifts 26 = .ok (.iconst 0, 1) := by decide +kernel
theorem dX7_drifts_27 : decode cX7_drifts 27 = .ok (.ireturn, 1) := by decide +kernel
theorem dX7_drifts_28 : decode cX7_drifts 28 = .ok (.aload_n 0, 1) := by decide +kernel
theorem dX7_drifts_29 : decode cX7_drifts 29 = .ok (.getfield 32, 3) := by decide +kernel
theorem dX7_drifts_32 : decode cX7_drifts 32 = .ok (.iload_n 1, 1) := by decide +kernel
theorem dX7_drifts_33 : decode cX7_drifts 33 = .ok (.iload_n 2, 1) := by decide +kernel
theorem dX7_drifts_34 : decode cX7_drifts 34 = .ok (.iastore, 1) := by decide +kernel
theorem dX7_drifts_35 : decode cX7_drifts 35 = .ok (.iconst 1, 1) := by decide +kernel
theorem dX7_drifts_36 : decode cX7_drifts 36 = .ok (.ireturn, 1) := by decide +kernel
theorem dX7_watches_0 : decode cX7_watches 0 = .ok (.aload_n 0, 1) := by decide +kernel
theorem dX7_watches_1 : decode cX7_watches 1 = .ok (.iconst 0, 1) := by decide +kernel
theorem dX7_watches_2 : decode cX7_watches 2 = .ok (.putfield 87, 3) := by decide +kernel
theorem dX7_watches_5 : decode cX7_watches 5 = .ok (.iload_n 1, 1) := by decide +kernel
theorem dX7_watches_6 : decode cX7_watches 6 = .ok (.ifCond .lt 19, 3) := by decide +kernel
theorem dX7_watches_9 : decode cX7_watches 9 = .ok (.iload_n 1, 1) := by decide +kernel
theorem dX7_watches_10 : decode cX7_watches 10 = .ok (.bipush 63, 2) := by decide +kernel
theorem dX7_watches_12 : decode cX7_watches 12 = .ok (.if_icmp .gt 13, 3) := by decide +kernel
theorem dX7_watches_15 : decode cX7_watches 15 = .ok (.iload_n 2, 1) := by decide +kernel
theorem dX7_watches_16 : decode cX7_watches 16 = .ok (.ifCond .lt 9, 3) := by decide +kernel
theorem dX7_watches_19 : decode cX7_watches 19 = .ok (.iload_n 2, 1) := by decide +kernel
theorem dX7_watches_20 : decode cX7_watches 20 = .ok (.bipush 63, 2) := by decide +kernel
theorem dX7_watches_22 : decode cX7_watches 22 = .ok (.if_icmp .le 5, 3) := by decide +kernel
theorem dX7_watches_25 : decode cX7_watches 25 = .ok (.iconst 0, 1) := by decide +kernel
theorem dX7_watches_26 : decode cX7_watches 26 = .ok (.ireturn, 1) := by decide +kernel
theorem dX7_watches_27 : decode cX7_watches 27 = .ok (.aload_n 0, 1) := by decide +kernel
theorem dX7_watches_28 : decode cX7_watches 28 = .ok (.iload_n 1, 1) := by decide +kernel
theorem dX7_watches_29 : decode cX7_watches 29 = .ok (.putfield 103, 3) := by decide +kernel
theorem dX7_watches_32 : decode cX7_watches 32 = .ok (.aload_n 0, 1) := by decide +kernel
theorem dX7_watches_33 : decode cX7_watches 33 = .ok (.iload_n 2, 1) := by decide +kernel
theorem dX7_watches_34 : decode cX7_watches 34 = .ok (.putfield 106, 3) := by decide +kernel
theorem dX7_watches_37 : decode cX7_watches 37 = .ok (.iconst 1, 1) := by decide +kernel
theorem dX7_watches_38 : decode cX7_watches 38 = .ok (.ireturn, 1) := by decide +kernel
theorem dX7_landsIn_0 : decode cX7_landsIn 0 = .ok (.iconst 0, 1) := by decide +kernel
theorem dX7_landsIn_1 : decode cX7_landsIn 1 = .ok (.istore_n 3, 1) := by decide +kernel
theorem dX7_landsIn_2 : decode cX7_landsIn 2 = .ok (.iconst 0, 1) := by decide +kernel
theorem dX7_landsIn_3 : decode cX7_landsIn 3 = .ok (.istore 4, 2) := by decide +kernel
theorem dX7_landsIn_5 : decode cX7_landsIn 5 = .ok (.iload 4, 2) := by decide +kernel
theorem dX7_landsIn_7 : decode cX7_landsIn 7 = .ok (.aload_n 0, 1) := by decide +kernel
theorem dX7_landsIn_8 : decode cX7_landsIn 8 = .ok (.invokevirtual 90, 3) := by decide +kernel
theorem dX7_landsIn_11 : decode cX7_landsIn 11 = .ok (.if_icmp .ge 32, 3) := by decide +kernel
theorem dX7_landsIn_14 : decode cX7_landsIn 14 = .ok (.aload_n 0, 1) := by decide +kernel
theorem dX7_landsIn_15 : decode cX7_landsIn 15 = .ok (.lload_n 1, 1) := by decide +kernel
theorem dX7_landsIn_16 : decode cX7_landsIn 16 = .ok (.iload 4, 2) := by decide +kernel
theorem dX7_landsIn_18 : decode cX7_landsIn 18 = .ok (.invokevirtual 96, 3) := by decide +kernel
theorem dX7_landsIn_21 : decode cX7_landsIn 21 = .ok (.ifCond .eq 16, 3) := by decide +kernel
theorem dX7_landsIn_24 : decode cX7_landsIn 24 = .ok (.aload_n 0, 1) := by decide +kernel
theorem dX7_landsIn_25 : decode cX7_landsIn 25 = .ok (.iload 4, 2) := by decide +kernel
theorem dX7_landsIn_27 : decode cX7_landsIn 27 = .ok (.invokevirtual 117, 3) := by decide +kernel
theorem dX7_landsIn_30 : decode cX7_landsIn 30 = .ok (.ifCond .eq 7, 3) := by decide +kernel
theorem dX7_landsIn_33 : decode cX7_landsIn 33 = .ok (.iload_n 3, 1) := by decide +kernel
theorem dX7_landsIn_34 : decode cX7_landsIn 34 = .ok (.iconst 1, 1) := by decide +kernel
theorem dX7_landsIn_35 : decode cX7_landsIn 35 = .ok (.iadd, 1) := by decide +kernel
theorem dX7_landsIn_36 : decode cX7_landsIn 36 = .ok (.istore_n 3, 1) := by decide +kernel
theorem dX7_landsIn_37 : decode cX7_landsIn 37 = .ok (.iinc 4 1, 3) := by decide +kernel
theorem dX7_landsIn_40 : decode cX7_landsIn 40 = .ok (.goto (-35), 3) := by decide +kernel
theorem dX7_landsIn_43 : decode cX7_landsIn 43 = .ok (.iload_n 3, 1) := by decide +kernel
theorem dX7_landsIn_44 : decode cX7_landsIn 44 = .ok (.ireturn, 1) := by decide +kernel
theorem dX7_look_0 : decode cX7_look 0 = .ok (.aload_n 0, 1) := by decide +kernel
theorem dX7_look_1 : decode cX7_look 1 = .ok (.iconst 0, 1) := by decide +kernel
theorem dX7_look_2 : decode cX7_look 2 = .ok (.putfield 87, 3) := by decide +kernel
theorem dX7_look_5 : decode cX7_look 5 = .ok (.iload_n 1, 1) := by decide +kernel
theorem dX7_look_6 : decode cX7_look 6 = .ok (.ifCond .ne 8, 3) := by decide +kernel
theorem dX7_look_9 : decode cX7_look 9 = .ok (.aload_n 0, 1) := by decide +kernel
theorem dX7_look_10 : decode cX7_look 10 = .ok (.getfield 7, 3) := by decide +kernel
theorem dX7_look_13 : decode cX7_look 13 = .ok (.ireturn, 1) := by decide +kernel
theorem dX7_look_14 : decode cX7_look 14 = .ok (.iload_n 1, 1) := by decide +kernel
theorem dX7_look_15 : decode cX7_look 15 = .ok (.iconst 1, 1) := by decide +kernel
theorem dX7_look_16 : decode cX7_look 16 = .ok (.if_icmp .ne 8, 3) := by decide +kernel
theorem dX7_look_19 : decode cX7_look 19 = .ok (.aload_n 0, 1) := by decide +kernel
theorem dX7_look_20 : decode cX7_look 20 = .ok (.getfield 13, 3) := by decide +kernel
theorem dX7_look_23 : decode cX7_look 23 = .ok (.ireturn, 1) := by decide +kernel
theorem dX7_look_24 : decode cX7_look 24 = .ok (.iload_n 1, 1) := by decide +kernel
theorem dX7_look_25 : decode cX7_look 25 = .ok (.iconst 2, 1) := by decide +kernel
theorem dX7_look_26 : decode cX7_look 26 = .ok (.if_icmp .ne 8, 3) := by decide +kernel
theorem dX7_look_29 : decode cX7_look 29 = .ok (.aload_n 0, 1) := by decide +kernel
theorem dX7_look_30 : decode cX7_look 30 = .ok (.getfield 100, 3) := by decide +kernel
theorem dX7_look_33 : decode cX7_look 33 = .ok (.ireturn, 1) := by decide +kernel
theorem dX7_look_34 : decode cX7_look 34 = .ok (.iload_n 1, 1) := by decide +kernel
theorem dX7_look_35 : decode cX7_look 35 = .ok (.iconst 3, 1) := by decide +kernel
theorem dX7_look_36 : decode cX7_look 36 = .ok (.if_icmp .ne 12, 3) := by decide +kernel
theorem dX7_look_39 : decode cX7_look 39 = .ok (.aload_n 0, 1) := by decide +kernel
theorem dX7_look_40 : decode cX7_look 40 = .ok (.aload_n 0, 1) := by decide +kernel
theorem dX7_look_41 : decode cX7_look 41 = .ok (.getfield 18, 3) := by decide +kernel
theorem dX7_look_44 : decode cX7_look 44 = .ok (.invokevirtual 120, 3) := by decide +kernel
theorem dX7_look_47 : decode cX7_look 47 = .ok (.ireturn, 1) := by decide +kernel
theorem dX7_look_48 : decode cX7_look 48 = .ok (.iload_n 1, 1) := by decide +kernel
theorem dX7_look_49 : decode cX7_look 49 = .ok (.iconst 4, 1) := by decide +kernel
theorem dX7_look_50 : decode cX7_look 50 = .ok (.if_icmp .ne 12, 3) := by decide +kernel
theorem dX7_look_53 : decode cX7_look 53 = .ok (.aload_n 0, 1) := by decide +kernel
theorem dX7_look_54 : decode cX7_look 54 = .ok (.aload_n 0, 1) := by decide +kernel
theorem dX7_look_55 : decode cX7_look 55 = .ok (.getfield 18, 3) := by decide +kernel
theorem dX7_look_58 : decode cX7_look 58 = .ok (.invokevirtual 124, 3) := by decide +kernel
theorem dX7_look_61 : decode cX7_look 61 = .ok (.ireturn, 1) := by decide +kernel
theorem dX7_look_62 : decode cX7_look 62 = .ok (.iload_n 1, 1) := by decide +kernel
theorem dX7_look_63 : decode cX7_look 63 = .ok (.iconst 5, 1) := by decide +kernel
theorem dX7_look_64 : decode cX7_look 64 = .ok (.if_icmp .ne 8, 3) := by decide +kernel
theorem dX7_look_67 : decode cX7_look 67 = .ok (.aload_n 0, 1) := by decide +kernel
theorem dX7_look_68 : decode cX7_look 68 = .ok (.getfield 22, 3) := by decide +kernel
theorem dX7_look_71 : decode cX7_look 71 = .ok (.ireturn, 1) := by decide +kernel
theorem dX7_look_72 : decode cX7_look 72 = .ok (.iload_n 1, 1) := by decide +kernel
theorem dX7_look_73 : decode cX7_look 73 = .ok (.bipush 6, 2) := by decide +kernel
theorem dX7_look_75 : decode cX7_look 75 = .ok (.if_icmp .ne 8, 3) := by decide +kernel
theorem dX7_look_78 : decode cX7_look 78 = .ok (.aload_n 0, 1) := by decide +kernel
theorem dX7_look_79 : decode cX7_look 79 = .ok (.getfield 127, 3) := by decide +kernel
theorem dX7_look_82 : decode cX7_look 82 = .ok (.ireturn, 1) := by decide +kernel
theorem dX7_look_83 : decode cX7_look 83 = .ok (.iload_n 1, 1) := by decide +kernel
theorem dX7_look_84 : decode cX7_look 84 = .ok (.bipush 7, 2) := by decide +kernel
theorem dX7_look_86 : decode cX7_look 86 = .ok (.if_icmp .ne 8, 3) := by decide +kernel
theorem dX7_look_89 : decode cX7_look 89 = .ok (.aload_n 0, 1) := by decide +kernel
theorem dX7_look_90 : decode cX7_look 90 = .ok (.getfield 103, 3) := by decide +kernel
theorem dX7_look_93 : decode cX7_look 93 = .ok (.ireturn, 1) := by decide +kernel
theorem dX7_look_94 : decode cX7_look 94 = .ok (.iload_n 1, 1) := by decide +kernel
theorem dX7_look_95 : decode cX7_look 95 = .ok (.bipush 8, 2) := by decide +kernel
theorem dX7_look_97 : decode cX7_look 97 = .ok (.if_icmp .ne 8, 3) := by decide +kernel
theorem dX7_look_100 : decode cX7_look 100 = .ok (.aload_n 0, 1) := by decide +kernel
theorem dX7_look_101 : decode cX7_look 101 = .ok (.getfield 106, 3) := by decide +kernel
theorem dX7_look_104 : decode cX7_look 104 = .ok (.ireturn, 1) := by decide +kernel
theorem dX7_look_105 : decode cX7_look 105 = .ok (.iload_n 1, 1) := by decide +kernel
theorem dX7_look_106 : decode cX7_look 106 = .ok (.bipush 10, 2) := by decide +kernel
theorem dX7_look_108 : decode cX7_look 108 = .ok (.if_icmp .lt 19, 3) := by decide +kernel
theorem dX7_look_111 : decode cX7_look 111 = .ok (.iload_n 1, 1) := by decide +kernel
theorem dX7_look_112 : decode cX7_look 112 = .ok (.bipush 16, 2) := by decide +kernel
theorem dX7_look_114 : decode cX7_look 114 = .ok (.if_icmp .ge 13, 3) := by decide +kernel
theorem dX7_look_117 : decode cX7_look 117 = .ok (.aload_n 0, 1) := by decide +kernel
theorem dX7_look_118 : decode cX7_look 118 = .ok (.getfield 32, 3) := by decide +kernel
theorem dX7_look_121 : decode cX7_look 121 = .ok (.iload_n 1, 1) := by decide +kernel
theorem dX7_look_122 : decode cX7_look 122 = .ok (.bipush 10, 2) := by decide +kernel
theorem dX7_look_124 : decode cX7_look 124 = .ok (.isub, 1) := by decide +kernel
theorem dX7_look_125 : decode cX7_look 125 = .ok (.iaload, 1) := by decide +kernel
theorem dX7_look_126 : decode cX7_look 126 = .ok (.ireturn, 1) := by decide +kernel
theorem dX7_look_127 : decode cX7_look 127 = .ok (.iload_n 1, 1) := by decide +kernel
theorem dX7_look_128 : decode cX7_look 128 = .ok (.bipush 100, 2) := by decide +kernel
theorem dX7_look_130 : decode cX7_look 130 = .ok (.if_icmp .lt 26, 3) := by decide +kernel
theorem dX7_look_133 : decode cX7_look 133 = .ok (.aload_n 0, 1) := by decide +kernel
theorem dX7_look_134 : decode cX7_look 134 = .ok (.iload_n 1, 1) := by decide +kernel
theorem dX7_look_135 : decode cX7_look 135 = .ok (.bipush 100, 2) := by decide +kernel
theorem dX7_look_137 : decode cX7_look 137 = .ok (.isub, 1) := by decide +kernel
theorem dX7_look_138 : decode cX7_look 138 = .ok (.invokevirtual 113, 3) := by decide +kernel
theorem dX7_look_141 : decode cX7_look 141 = .ok (.ifCond .eq 15, 3) := by decide +kernel
theorem dX7_look_144 : decode cX7_look 144 = .ok (.aload_n 0, 1) := by decide +kernel
theorem dX7_look_145 : decode cX7_look 145 = .ok (.getfield 25, 3) := by decide +kernel
theorem dX7_look_148 : decode cX7_look 148 = .ok (.iload_n 1, 1) := by decide +kernel
theorem dX7_look_149 : decode cX7_look 149 = .ok (.bipush 100, 2) := by decide +kernel
theorem dX7_look_151 : decode cX7_look 151 = .ok (.isub, 1) := by decide +kernel
theorem dX7_look_152 : decode cX7_look 152 = .ok (.iaload, 1) := by decide +kernel
theorem dX7_look_153 : decode cX7_look 153 = .ok (.iconst 1, 1) := by decide +kernel
theorem dX7_look_154 : decode cX7_look 154 = .ok (.isub, 1) := by decide +kernel
theorem dX7_look_155 : decode cX7_look 155 = .ok (.ireturn, 1) := by decide +kernel
theorem dX7_look_156 : decode cX7_look 156 = .ok (.iload_n 1, 1) := by decide +kernel
theorem dX7_look_157 : decode cX7_look 157 = .ok (.sipush 200, 3) := by decide +kernel
theorem dX7_look_160 : decode cX7_look 160 = .ok (.if_icmp .lt 28, 3) := by decide +kernel
theorem dX7_look_163 : decode cX7_look 163 = .ok (.aload_n 0, 1) := by decide +kernel
theorem dX7_look_164 : decode cX7_look 164 = .ok (.iload_n 1, 1) := by decide +kernel
theorem dX7_look_165 : decode cX7_look 165 = .ok (.sipush 200, 3) := by decide +kernel
theorem dX7_look_168 : decode cX7_look 168 = .ok (.isub, 1) := by decide +kernel
theorem dX7_look_169 : decode cX7_look 169 = .ok (.invokevirtual 113, 3) := by decide +kernel
theorem dX7_look_172 : decode cX7_look 172 = .ok (.ifCond .eq 16, 3) := by decide +kernel
theorem dX7_look_175 : decode cX7_look 175 = .ok (.aload_n 0, 1) := by decide +kernel
theorem dX7_look_176 : decode cX7_look 176 = .ok (.getfield 29, 3) := by decide +kernel
theorem dX7_look_179 : decode cX7_look 179 = .ok (.iload_n 1, 1) := by decide +kernel
theorem dX7_look_180 : decode cX7_look 180 = .ok (.sipush 200, 3) := by decide +kernel
theorem dX7_look_183 : decode cX7_look 183 = .ok (.isub, 1) := by decide +kernel
theorem dX7_look_184 : decode cX7_look 184 = .ok (.iaload, 1) := by decide +kernel
theorem dX7_look_185 : decode cX7_look 185 = .ok (.goto 5, 3) := by decide +kernel
theorem dX7_look_188 : decode cX7_look 188 = .ok (.bipush (-2), 2) := by decide +kernel
theorem dX7_look_190 : decode cX7_look 190 = .ok (.ireturn, 1) := by decide +kernel
theorem dX7_reckoned_0 : decode cX7_reckoned 0 = .ok (.aload_n 0, 1) := by decide +kernel
theorem dX7_reckoned_1 : decode cX7_reckoned 1 = .ok (.iconst 0, 1) := by decide +kernel
theorem dX7_reckoned_2 : decode cX7_reckoned 2 = .ok (.putfield 87, 3) := by decide +kernel
theorem dX7_reckoned_5 : decode cX7_reckoned 5 = .ok (.aload_n 0, 1) := by decide +kernel
theorem dX7_reckoned_6 : decode cX7_reckoned 6 = .ok (.getfield 18, 3) := by decide +kernel
theorem dX7_reckoned_9 : decode cX7_reckoned 9 = .ok (.lreturn, 1) := by decide +kernel
theorem dX7_begin_0 : decode cX7_begin 0 = .ok (.aload_n 0, 1) := by decide +kernel
theorem dX7_begin_1 : decode cX7_begin 1 = .ok (.iconst 0, 1) := by decide +kernel
theorem dX7_begin_2 : decode cX7_begin 2 = .ok (.putfield 87, 3) := by decide +kernel
theorem dX7_begin_5 : decode cX7_begin 5 = .ok (.lload_n 1, 1) := by decide +kernel
theorem dX7_begin_6 : decode cX7_begin 6 = .ok (.lconst 0, 1) := by decide +kernel
theorem dX7_begin_7 : decode cX7_begin 7 = .ok (.lcmp, 1) := by decide +kernel
theorem dX7_begin_8 : decode cX7_begin 8 = .ok (.ifCond .eq 18, 3) := by decide +kernel
theorem dX7_begin_11 : decode cX7_begin 11 = .ok (.lload_n 1, 1) := by decide +kernel
theorem dX7_begin_12 : decode cX7_begin 12 = .ok (.aload_n 0, 1) := by decide +kernel
theorem dX7_begin_13 : decode cX7_begin 13 = .ok (.invokevirtual 109, 3) := by decide +kernel
theorem dX7_begin_16 : decode cX7_begin 16 = .ok (.ldc2_w 94, 3) := by decide +kernel
theorem dX7_begin_19 : decode cX7_begin 19 = .ok (.lxor, 1) := by decide +kernel
theorem dX7_begin_20 : decode cX7_begin 20 = .ok (.land, 1) := by decide +kernel
theorem dX7_begin_21 : decode cX7_begin 21 = .ok (.lconst 0, 1) := by decide +kernel
theorem dX7_begin_22 : decode cX7_begin 22 = .ok (.lcmp, 1) := by decide +kernel
theorem dX7_begin_23 : decode cX7_begin 23 = .ok (.ifCond .eq 5, 3) := by decide +kernel
theorem dX7_begin_26 : decode cX7_begin 26 = .ok (.iconst 0, 1) := by decide +kernel
theorem dX7_begin_27 : decode cX7_begin 27 = .ok (.ireturn, 1) := by decide +kernel
theorem dX7_begin_28 : decode cX7_begin 28 = .ok (.aload_n 0, 1) := by decide +kernel
theorem dX7_begin_29 : decode cX7_begin 29 = .ok (.lload_n 1, 1) := by decide +kernel
theorem dX7_begin_30 : decode cX7_begin 30 = .ok (.putfield 18, 3) := by decide +kernel
theorem dX7_begin_33 : decode cX7_begin 33 = .ok (.aload_n 0, 1) := by decide +kernel
theorem dX7_begin_34 : decode cX7_begin 34 = .ok (.iconst 0, 1) := by decide +kernel
theorem dX7_begin_35 : decode cX7_begin 35 = .ok (.putfield 100, 3) := by decide +kernel
theorem dX7_begin_38 : decode cX7_begin 38 = .ok (.aload_n 0, 1) := by decide +kernel
theorem dX7_begin_39 : decode cX7_begin 39 = .ok (.iconst (-1), 1) := by decide +kernel
theorem dX7_begin_40 : decode cX7_begin 40 = .ok (.putfield 22, 3) := by decide +kernel
theorem dX7_begin_43 : decode cX7_begin 43 = .ok (.iconst 1, 1) := by decide +kernel
theorem dX7_begin_44 : decode cX7_begin 44 = .ok (.ireturn, 1) := by decide +kernel
theorem dX7_put_0 : decode cX7_put 0 = .ok (.aload_n 0, 1) := by decide +kernel
theorem dX7_put_1 : decode cX7_put 1 = .ok (.iconst 0, 1) := by decide +kernel
theorem dX7_put_2 : decode cX7_put 2 = .ok (.putfield 87, 3) := by decide +kernel
theorem dX7_put_5 : decode cX7_put 5 = .ok (.aload_n 0, 1) := by decide +kernel
theorem dX7_put_6 : decode cX7_put 6 = .ok (.iload_n 1, 1) := by decide +kernel
theorem dX7_put_7 : decode cX7_put 7 = .ok (.invokevirtual 113, 3) := by decide +kernel
theorem dX7_put_10 : decode cX7_put 10 = .ok (.ifCond .eq 15, 3) := by decide +kernel
theorem dX7_put_13 : decode cX7_put 13 = .ok (.aload_n 0, 1) := by decide +kernel
theorem dX7_put_14 : decode cX7_put 14 = .ok (.aload_n 0, 1) := by decide +kernel
theorem dX7_put_15 : decode cX7_put 15 = .ok (.getfield 18, 3) := by decide +kernel
theorem dX7_put_18 : decode cX7_put 18 = .ok (.iload_n 1, 1) := by decide +kernel
theorem dX7_put_19 : decode cX7_put 19 = .ok (.invokevirtual 96, 3) := by decide +kernel
theorem dX7_put_22 : decode cX7_put 22 = .ok (.ifCond .ne 5, 3) := by decide +kernel
theorem dX7_put_25 : decode cX7_put 25 = .ok (.iconst 0, 1) := by decide +kernel
theorem dX7_put_26 : decode cX7_put 26 = .ok (.ireturn, 1) := by decide +kernel
theorem dX7_put_27 : decode cX7_put 27 = .ok (.aload_n 0, 1) := by decide +kernel
theorem dX7_put_28 : decode cX7_put 28 = .ok (.iload_n 1, 1) := by decide +kernel
theorem dX7_put_29 : decode cX7_put 29 = .ok (.putfield 22, 3) := by decide +kernel
theorem dX7_put_32 : decode cX7_put 32 = .ok (.iconst 1, 1) := by decide +kernel
theorem dX7_put_33 : decode cX7_put 33 = .ok (.ireturn, 1) := by decide +kernel
theorem dX7_bound_0 : decode cX7_bound 0 = .ok (.iload_n 1, 1) := by decide +kernel
theorem dX7_bound_1 : decode cX7_bound 1 = .ok (.ifCond .ge 7, 3) := by decide +kernel
theorem dX7_bound_4 : decode cX7_bound 4 = .ok (.iconst 0, 1) := by decide +kernel
theorem dX7_bound_5 : decode cX7_bound 5 = .ok (.goto 13, 3) := by decide +kernel
theorem dX7_bound_8 : decode cX7_bound 8 = .ok (.iload_n 1, 1) := by decide +kernel
theorem dX7_bound_9 : decode cX7_bound 9 = .ok (.iload_n 2, 1) := by decide +kernel
theorem dX7_bound_10 : decode cX7_bound 10 = .ok (.if_icmp .le 7, 3) := by decide +kernel
theorem dX7_bound_13 : decode cX7_bound 13 = .ok (.iload_n 2, 1) := by decide +kernel
theorem dX7_bound_14 : decode cX7_bound 14 = .ok (.goto 4, 3) := by decide +kernel
theorem dX7_bound_17 : decode cX7_bound 17 = .ok (.iload_n 1, 1) := by decide +kernel
theorem dX7_bound_18 : decode cX7_bound 18 = .ok (.ireturn, 1) := by decide +kernel
theorem dX7_goes_0 : decode cX7_goes 0 = .ok (.aload_n 0, 1) := by decide +kernel
theorem dX7_goes_1 : decode cX7_goes 1 = .ok (.iload_n 1, 1) := by decide +kernel
theorem dX7_goes_2 : decode cX7_goes 2 = .ok (.invokevirtual 117, 3) := by decide +kernel
theorem dX7_goes_5 : decode cX7_goes 5 = .ok (.ifCond .eq 5, 3) := by decide +kernel
theorem dX7_goes_8 : decode cX7_goes 8 = .ok (.iload_n 1, 1) := by decide +kernel
theorem dX7_goes_9 : decode cX7_goes 9 = .ok (.ireturn, 1) := by decide +kernel
theorem dX7_goes_10 : decode cX7_goes 10 = .ok (.aload_n 0, 1) := by decide +kernel
theorem dX7_goes_11 : decode cX7_goes 11 = .ok (.iload_n 1, 1) := by decide +kernel
theorem dX7_goes_12 : decode cX7_goes 12 = .ok (.aload_n 0, 1) := by decide +kernel
theorem dX7_goes_13 : decode cX7_goes 13 = .ok (.getfield 7, 3) := by decide +kernel
theorem dX7_goes_16 : decode cX7_goes 16 = .ok (.irem, 1) := by decide +kernel
theorem dX7_goes_17 : decode cX7_goes 17 = .ok (.iload_n 2, 1) := by decide +kernel
theorem dX7_goes_18 : decode cX7_goes 18 = .ok (.iconst 3, 1) := by decide +kernel
theorem dX7_goes_19 : decode cX7_goes 19 = .ok (.irem, 1) := by decide +kernel
theorem dX7_goes_20 : decode cX7_goes 20 = .ok (.iadd, 1) := by decide +kernel
theorem dX7_goes_21 : decode cX7_goes 21 = .ok (.iconst 1, 1) := by decide +kernel
theorem dX7_goes_22 : decode cX7_goes 22 = .ok (.isub, 1) := by decide +kernel
theorem dX7_goes_23 : decode cX7_goes 23 = .ok (.iload_n 3, 1) := by decide +kernel
theorem dX7_goes_24 : decode cX7_goes 24 = .ok (.iconst 3, 1) := by decide +kernel
theorem dX7_goes_25 : decode cX7_goes 25 = .ok (.irem, 1) := by decide +kernel
theorem dX7_goes_26 : decode cX7_goes 26 = .ok (.iadd, 1) := by decide +kernel
theorem dX7_goes_27 : decode cX7_goes 27 = .ok (.iconst 1, 1) := by decide +kernel
theorem dX7_goes_28 : decode cX7_goes 28 = .ok (.isub, 1) := by decide +kernel
theorem dX7_goes_29 : decode cX7_goes 29 = .ok (.aload_n 0, 1) := by decide +kernel
theorem dX7_goes_30 : decode cX7_goes 30 = .ok (.getfield 7, 3) := by decide +kernel
theorem dX7_goes_33 : decode cX7_goes 33 = .ok (.iconst 1, 1) := by decide +kernel
theorem dX7_goes_34 : decode cX7_goes 34 = .ok (.isub, 1) := by decide +kernel
theorem dX7_goes_35 : decode cX7_goes 35 = .ok (.invokevirtual 130, 3) := by decide +kernel
theorem dX7_goes_38 : decode cX7_goes 38 = .ok (.istore 4, 2) := by decide +kernel
theorem dX7_goes_40 : decode cX7_goes 40 = .ok (.aload_n 0, 1) := by decide +kernel
theorem dX7_goes_41 : decode cX7_goes 41 = .ok (.iload_n 1, 1) := by decide +kernel
theorem dX7_goes_42 : decode cX7_goes 42 = .ok (.aload_n 0, 1) := by decide +kernel
theorem dX7_goes_43 : decode cX7_goes 43 = .ok (.getfield 7, 3) := by decide +kernel
theorem dX7_goes_46 : decode cX7_goes 46 = .ok (.idiv, 1) := by decide +kernel
theorem dX7_goes_47 : decode cX7_goes 47 = .ok (.iload_n 2, 1) := by decide +kernel
theorem dX7_goes_48 : decode cX7_goes 48 = .ok (.iconst 3, 1) := by decide +kernel
theorem dX7_goes_49 : decode cX7_goes 49 = .ok (.idiv, 1) := by decide +kernel
theorem dX7_goes_50 : decode cX7_goes 50 = .ok (.iadd, 1) := by decide +kernel
theorem dX7_goes_51 : decode cX7_goes 51 = .ok (.iconst 1, 1) := by decide +kernel
theorem dX7_goes_52 : decode cX7_goes 52 = .ok (.isub, 1) := by decide +kernel
theorem dX7_goes_53 : decode cX7_goes 53 = .ok (.iload_n 3, 1) := by decide +kernel
theorem dX7_goes_54 : decode cX7_goes 54 = .ok (.iconst 3, 1) := by decide +kernel
theorem dX7_goes_55 : decode cX7_goes 55 = .ok (.idiv, 1) := by decide +kernel
theorem dX7_goes_56 : decode cX7_goes 56 = .ok (.iadd, 1) := by decide +kernel
theorem dX7_goes_57 : decode cX7_goes 57 = .ok (.iconst 1, 1) := by decide +kernel
theorem dX7_goes_58 : decode cX7_goes 58 = .ok (.isub, 1) := by decide +kernel
theorem dX7_goes_59 : decode cX7_goes 59 = .ok (.aload_n 0, 1) := by decide +kernel
theorem dX7_goes_60 : decode cX7_goes 60 = .ok (.getfield 13, 3) := by decide +kernel
theorem dX7_goes_63 : decode cX7_goes 63 = .ok (.iconst 1, 1) := by decide +kernel
theorem dX7_goes_64 : decode cX7_goes 64 = .ok (.isub, 1) := by decide +kernel
theorem dX7_goes_65 : decode cX7_goes 65 = .ok (.invokevirtual 130, 3) := by decide +kernel
theorem dX7_goes_68 : decode cX7_goes 68 = .ok (.istore 5, 2) := by decide +kernel
theorem dX7_goes_70 : decode cX7_goes 70 = .ok (.aload_n 0, 1) := by decide +kernel
theorem dX7_goes_71 : decode cX7_goes 71 = .ok (.getfield 7, 3) := by decide +kernel
theorem dX7_goes_74 : decode cX7_goes 74 = .ok (.iload 5, 2) := by decide +kernel
theorem dX7_goes_76 : decode cX7_goes 76 = .ok (.imul, 1) := by decide +kernel
theorem dX7_goes_77 : decode cX7_goes 77 = .ok (.iload 4, 2) := by decide +kernel
theorem dX7_goes_79 : decode cX7_goes 79 = .ok (.iadd, 1) := by decide +kernel
theorem dX7_goes_80 : decode cX7_goes 80 = .ok (.ireturn, 1) := by decide +kernel
theorem dX7_goesAll_0 : decode cX7_goesAll 0 = .ok (.lconst 0, 1) := by decide +kernel
theorem dX7_goesAll_1 : decode cX7_goesAll 1 = .ok (.lstore 5, 2) := by decide +kernel
theorem dX7_goesAll_3 : decode cX7_goesAll 3 = .ok (.iconst 0, 1) := by decide +kernel
theorem dX7_goesAll_4 : decode cX7_goesAll 4 = .ok (.istore 7, 2) := by decide +kernel
theorem dX7_goesAll_6 : decode cX7_goesAll 6 = .ok (.iload 7, 2) := by decide +kernel
theorem dX7_goesAll_8 : decode cX7_goesAll 8 = .ok (.aload_n 0, 1) := by decide +kernel
theorem dX7_goesAll_9 : decode cX7_goesAll 9 = .ok (.invokevirtual 90, 3) := by decide +kernel
theorem dX7_goesAll_12 : decode cX7_goesAll 12 = .ok (.if_icmp .ge 70, 3) := by decide +kernel
theorem dX7_goesAll_15 : decode cX7_goesAll 15 = .ok (.aload_n 0, 1) := by decide +kernel
theorem dX7_goesAll_16 : decode cX7_goesAll 16 = .ok (.lload_n 1, 1) := by decide +kernel
theorem dX7_goesAll_17 : decode cX7_goesAll 17 = .ok (.iload 7, 2) := by decide +kernel
theorem dX7_goesAll_19 : decode cX7_goesAll 19 = .ok (.invokevirtual 96, 3) := by decide +kernel
theorem dX7_goesAll_22 : decode cX7_goesAll 22 = .ok (.ifCond .ne 6, 3) := by decide +kernel
theorem dX7_goesAll_25 : decode cX7_goesAll 25 = .ok (.goto 51, 3) := by decide +kernel
theorem dX7_goesAll_28 : decode cX7_goesAll 28 = .ok (.iconst 0, 1) := by decide +kernel
theorem dX7_goesAll_29 : decode cX7_goesAll 29 = .ok (.istore 8, 2) := by decide +kernel
theorem dX7_goesAll_31 : decode cX7_goesAll 31 = .ok (.iload 8, 2) := by decide +kernel
theorem dX7_goesAll_33 : decode cX7_goesAll 33 = .ok (.bipush 9, 2) := by decide +kernel
theorem dX7_goesAll_35 : decode cX7_goesAll 35 = .ok (.if_icmp .ge 41, 3) := by decide +kernel
theorem dX7_goesAll_38 : decode cX7_goesAll 38 = .ok (.aload_n 0, 1) := by decide +kernel
theorem dX7_goesAll_39 : decode cX7_goesAll 39 = .ok (.getfield 32, 3) := by decide +kernel
theorem dX7_goesAll_42 : decode cX7_goesAll 42 = .ok (.iload 4, 2) := by decide +kernel
theorem dX7_goesAll_44 : decode cX7_goesAll 44 = .ok (.iaload, 1) := by decide +kernel
theorem dX7_goesAll_45 : decode cX7_goesAll 45 = .ok (.iload 8, 2) := by decide +kernel
theorem dX7_goesAll_47 : decode cX7_goesAll 47 = .ok (.ishr, 1) := by decide +kernel
theorem dX7_goesAll_48 : decode cX7_goesAll 48 = .ok (.iconst 1, 1) := by decide +kernel
theorem dX7_goesAll_49 : decode cX7_goesAll 49 = .ok (.iand, 1) := by decide +kernel
theorem dX7_goesAll_50 : decode cX7_goesAll 50 = .ok (.iconst 1, 1) := by decide +kernel
theorem dX7_goesAll_51 : decode cX7_goesAll 51 = .ok (.if_icmp .ne 19, 3) := by decide +kernel
theorem dX7_goesAll_54 : decode cX7_goesAll 54 = .ok (.lload 5, 2) := by decide +kernel
theorem dX7_goesAll_56 : decode cX7_goesAll 56 = .ok (.lconst 1, 1) := by decide +kernel
theorem dX7_goesAll_57 : decode cX7_goesAll 57 = .ok (.aload_n 0, 1) := by decide +kernel
theorem dX7_goesAll_58 : decode cX7_goesAll 58 = .ok (.iload 7, 2) := by decide +kernel
theorem dX7_goesAll_60 : decode cX7_goesAll 60 = .ok (.iload_n 3, 1) := by decide +kernel
theorem dX7_goesAll_61 : decode cX7_goesAll 61 = .ok (.iload 8, 2) := by decide +kernel
theorem dX7_goesAll_63 : decode cX7_goesAll 63 = .ok (.invokevirtual 134, 3) := by decide +kernel
theorem dX7_goesAll_66 : decode cX7_goesAll 66 = .ok (.lshl, 1) := by decide +kernel
theorem dX7_goesAll_67 : decode cX7_goesAll 67 = .ok (.lor, 1) := by decide +kernel
theorem dX7_goesAll_68 : decode cX7_goesAll 68 = .ok (.lstore 5, 2) := by decide +kernel
theorem dX7_goesAll_70 : decode cX7_goesAll 70 = .ok (.iinc 8 1, 3) := by decide +kernel
theorem dX7_goesAll_73 : decode cX7_goesAll 73 = .ok (.goto (-42), 3) := by decide +kernel
theorem dX7_goesAll_76 : decode cX7_goesAll 76 = .ok (.iinc 7 1, 3) := by decide +kernel
theorem dX7_goesAll_79 : decode cX7_goesAll 79 = .ok (.goto (-73), 3) := by decide +kernel
theorem dX7_goesAll_82 : decode cX7_goesAll 82 = .ok (.lload 5, 2) := by decide +kernel
theorem dX7_goesAll_84 : decode cX7_goesAll 84 = .ok (.lreturn, 1) := by decide +kernel
theorem dX7_steer_0 : decode cX7_steer 0 = .ok (.aload_n 0, 1) := by decide +kernel
theorem dX7_steer_1 : decode cX7_steer 1 = .ok (.iconst 0, 1) := by decide +kernel
theorem dX7_steer_2 : decode cX7_steer 2 = .ok (.putfield 87, 3) := by decide +kernel
theorem dX7_steer_5 : decode cX7_steer 5 = .ok (.iload_n 1, 1) := by decide +kernel
theorem dX7_steer_6 : decode cX7_steer 6 = .ok (.ifCond .lt 48, 3) := by decide +kernel
theorem dX7_steer_9 : decode cX7_steer 9 = .ok (.iload_n 1, 1) := by decide +kernel
theorem dX7_steer_10 : decode cX7_steer 10 = .ok (.bipush 8, 2) := by decide +kernel
theorem dX7_steer_12 : decode cX7_steer 12 = .ok (.if_icmp .gt 42, 3) := by decide +kernel
theorem dX7_steer_15 : decode cX7_steer 15 = .ok (.iload_n 2, 1) := by decide +kernel
theorem dX7_steer_16 : decode cX7_steer 16 = .ok (.ifCond .lt 38, 3) := by decide +kernel
theorem dX7_steer_19 : decode cX7_steer 19 = .ok (.iload_n 2, 1) := by decide +kernel
theorem dX7_steer_20 : decode cX7_steer 20 = .ok (.bipush 8, 2) := by decide +kernel
theorem dX7_steer_22 : decode cX7_steer 22 = .ok (.if_icmp .gt 32, 3) := by decide +kernel
theorem dX7_steer_25 : decode cX7_steer 25 = .ok (.aload_n 0, 1) := by decide +kernel
theorem dX7_steer_26 : decode cX7_steer 26 = .ok (.getfield 32, 3) := by decide +kernel
theorem dX7_steer_29 : decode cX7_steer 29 = .ok (.aload_n 0, 1) := by decide +kernel
theorem dX7_steer_30 : decode cX7_steer 30 = .ok (.getfield 100, 3) := by decide +kernel
theorem dX7_steer_33 : decode cX7_steer 33 = .ok (.bipush 6, 2) := by decide +kernel
theorem dX7_steer_35 : decode cX7_steer 35 = .ok (.irem, 1) := by decide +kernel
theorem dX7_steer_36 : decode cX7_steer 36 = .ok (.iaload, 1) := by decide +kernel
theorem dX7_steer_37 : decode cX7_steer 37 = .ok (.iload_n 2, 1) := by decide +kernel
theorem dX7_steer_38 : decode cX7_steer 38 = .ok (.ishr, 1) := by decide +kernel
theorem dX7_steer_39 : decode cX7_steer 39 = .ok (.iconst 1, 1) := by decide +kernel
theorem dX7_steer_40 : decode cX7_steer 40 = .ok (.iand, 1) := by decide +kernel
theorem dX7_steer_41 : decode cX7_steer 41 = .ok (.ifCond .eq 13, 3) := by decide +kernel
theorem dX7_steer_44 : decode cX7_steer 44 = .ok (.aload_n 0, 1) := by decide +kernel
theorem dX7_steer_45 : decode cX7_steer 45 = .ok (.getfield 100, 3) := by decide +kernel
theorem dX7_steer_48 : decode cX7_steer 48 = .ok (.sipush 9999, 3) := by decide +kernel
theorem dX7_steer_51 : decode cX7_steer 51 = .ok (.if_icmp .ne 5, 3) := by decide +kernel
theorem dX7_steer_54 : decode cX7_steer 54 = .ok (.iconst (-1), 1) := by decide +kernel
theorem dX7_steer_55 : decode cX7_steer 55 = .ok (.ireturn, 1) := by decide +kernel
theorem dX7_steer_56 : decode cX7_steer 56 = .ok (.aload_n 0, 1) := by decide +kernel
theorem dX7_steer_57 : decode cX7_steer 57 = .ok (.aload_n 0, 1) := by decide +kernel
theorem dX7_steer_58 : decode cX7_steer 58 = .ok (.aload_n 0, 1) := by decide +kernel
theorem dX7_steer_59 : decode cX7_steer 59 = .ok (.getfield 18, 3) := by decide +kernel
theorem dX7_steer_62 : decode cX7_steer 62 = .ok (.iload_n 1, 1) := by decide +kernel
theorem dX7_steer_63 : decode cX7_steer 63 = .ok (.aload_n 0, 1) := by decide +kernel
theorem dX7_steer_64 : decode cX7_steer 64 = .ok (.getfield 100, 3) := by decide +kernel
theorem dX7_steer_67 : decode cX7_steer 67 = .ok (.bipush 6, 2) := by decide +kernel
theorem dX7_steer_69 : decode cX7_steer 69 = .ok (.irem, 1) := by decide +kernel
theorem dX7_steer_70 : decode cX7_steer 70 = .ok (.invokevirtual 138, 3) := by decide +kernel
theorem dX7_steer_73 : decode cX7_steer 73 = .ok (.putfield 18, 3) := by decide +kernel
theorem dX7_steer_76 : decode cX7_steer 76 = .ok (.aload_n 0, 1) := by decide +kernel
theorem dX7_steer_77 : decode cX7_steer 77 = .ok (.getfield 22, 3) := by decide +kernel
theorem dX7_steer_80 : decode cX7_steer 80 = .ok (.iconst (-1), 1) := by decide +kernel
theorem dX7_steer_81 : decode cX7_steer 81 = .ok (.if_icmp .eq 17, 3) := by decide +kernel
theorem dX7_steer_84 : decode cX7_steer 84 = .ok (.aload_n 0, 1) := by decide +kernel
theorem dX7_steer_85 : decode cX7_steer 85 = .ok (.aload_n 0, 1) := by decide +kernel
theorem dX7_steer_86 : decode cX7_steer 86 = .ok (.aload_n 0, 1) := by decide +kernel
theorem dX7_steer_87 : decode cX7_steer 87 = .ok (.getfield 22, 3) := by decide +kernel
theorem dX7_steer_90 : decode cX7_steer 90 = .ok (.iload_n 1, 1) := by decide +kernel
theorem dX7_steer_91 : decode cX7_steer 91 = .ok (.iload_n 2, 1) := by decide +kernel
theorem dX7_steer_92 : decode cX7_steer 92 = .ok (.invokevirtual 134, 3) := by decide +kernel
theorem dX7_steer_95 : decode cX7_steer 95 = .ok (.putfield 22, 3) := by decide +kernel
theorem dX7_steer_98 : decode cX7_steer 98 = .ok (.aload_n 0, 1) := by decide +kernel
theorem dX7_steer_99 : decode cX7_steer 99 = .ok (.aload_n 0, 1) := by decide +kernel
theorem dX7_steer_100 : decode cX7_steer 100 = .ok (.getfield 100, 3) := by decide +kernel
theorem dX7_steer_103 : decode cX7_steer 103 = .ok (.iconst 1, 1) := by decide +kernel
theorem dX7_steer_104 : decode cX7_steer 104 = .ok (.iadd, 1) := by decide +kernel
theorem dX7_steer_105 : decode cX7_steer 105 = .ok (.putfield 100, 3) := by decide +kernel
theorem dX7_steer_108 : decode cX7_steer 108 = .ok (.aload_n 0, 1) := by decide +kernel
theorem dX7_steer_109 : decode cX7_steer 109 = .ok (.aload_n 0, 1) := by decide +kernel
theorem dX7_steer_110 : decode cX7_steer 110 = .ok (.getfield 18, 3) := by decide +kernel
theorem dX7_steer_113 : decode cX7_steer 113 = .ok (.invokevirtual 120, 3) := by decide +kernel
theorem dX7_steer_116 : decode cX7_steer 116 = .ok (.ireturn, 1) := by decide +kernel
theorem dX7_far_0 : decode cX7_far 0 = .ok (.iload_n 1, 1) := by decide +kernel
theorem dX7_far_1 : decode cX7_far 1 = .ok (.iload_n 2, 1) := by decide +kernel
theorem dX7_far_2 : decode cX7_far 2 = .ok (.if_icmp .ge 9, 3) := by decide +kernel
theorem dX7_far_5 : decode cX7_far 5 = .ok (.iload_n 2, 1) := by decide +kernel
theorem dX7_far_6 : decode cX7_far 6 = .ok (.iload_n 1, 1) := by decide +kernel
theorem dX7_far_7 : decode cX7_far 7 = .ok (.isub, 1) := by decide +kernel
theorem dX7_far_8 : decode cX7_far 8 = .ok (.goto 6, 3) := by decide +kernel
theorem dX7_far_11 : decode cX7_far 11 = .ok (.iload_n 1, 1) := by decide +kernel
theorem dX7_far_12 : decode cX7_far 12 = .ok (.iload_n 2, 1) := by decide +kernel
theorem dX7_far_13 : decode cX7_far 13 = .ok (.isub, 1) := by decide +kernel
theorem dX7_far_14 : decode cX7_far 14 = .ok (.ireturn, 1) := by decide +kernel
theorem dX7_signOf_0 : decode cX7_signOf 0 = .ok (.iload_n 3, 1) := by decide +kernel
theorem dX7_signOf_1 : decode cX7_signOf 1 = .ok (.ifCond .ne 10, 3) := by decide +kernel
theorem dX7_signOf_4 : decode cX7_signOf 4 = .ok (.aload_n 0, 1) := by decide +kernel
theorem dX7_signOf_5 : decode cX7_signOf 5 = .ok (.getfield 29, 3) := by decide +kernel
theorem dX7_signOf_8 : decode cX7_signOf 8 = .ok (.iload_n 1, 1) := by decide +kernel
theorem dX7_signOf_9 : decode cX7_signOf 9 = .ok (.iaload, 1) := by decide +kernel
theorem dX7_signOf_10 : decode cX7_signOf 10 = .ok (.ireturn, 1) := by decide +kernel
theorem dX7_signOf_11 : decode cX7_signOf 11 = .ok (.iload_n 3, 1) := by decide +kernel
theorem dX7_signOf_12 : decode cX7_signOf 12 = .ok (.iconst 1, 1) := by decide +kernel
theorem dX7_signOf_13 : decode cX7_signOf 13 = .ok (.if_icmp .ne 28, 3) := by decide +kernel
theorem dX7_signOf_16 : decode cX7_signOf 16 = .ok (.aload_n 0, 1) := by decide +kernel
theorem dX7_signOf_17 : decode cX7_signOf 17 = .ok (.getfield 103, 3) := by decide +kernel
theorem dX7_signOf_20 : decode cX7_signOf 20 = .ok (.iload_n 2, 1) := by decide +kernel
theorem dX7_signOf_21 : decode cX7_signOf 21 = .ok (.ishr, 1) := by decide +kernel
theorem dX7_signOf_22 : decode cX7_signOf 22 = .ok (.iconst 1, 1) := by decide +kernel
theorem dX7_signOf_23 : decode cX7_signOf 23 = .ok (.iand, 1) := by decide +kernel
theorem dX7_signOf_24 : decode cX7_signOf 24 = .ok (.iconst 1, 1) := by decide +kernel
theorem dX7_signOf_25 : decode cX7_signOf 25 = .ok (.if_icmp .ne 14, 3) := by decide +kernel
theorem dX7_signOf_28 : decode cX7_signOf 28 = .ok (.iload_n 1, 1) := by decide +kernel
theorem dX7_signOf_29 : decode cX7_signOf 29 = .ok (.aload_n 0, 1) := by decide +kernel
theorem dX7_signOf_30 : decode cX7_signOf 30 = .ok (.getfield 7, 3) := by decide +kernel
theorem dX7_signOf_33 : decode cX7_signOf 33 = .ok (.idiv, 1) := by decide +kernel
theorem dX7_signOf_34 : decode cX7_signOf 34 = .ok (.iconst 2, 1) := by decide +kernel
theorem dX7_signOf_35 : decode cX7_signOf 35 = .ok (.idiv, 1) := by decide +kernel
theorem dX7_signOf_36 : decode cX7_signOf 36 = .ok (.goto 4, 3) := by decide +kernel
theorem dX7_signOf_39 : decode cX7_signOf 39 = .ok (.iconst (-1), 1) := by decide +kernel
theorem dX7_signOf_40 : decode cX7_signOf 40 = .ok (.ireturn, 1) := by decide +kernel
theorem dX7_signOf_41 : decode cX7_signOf 41 = .ok (.aload_n 0, 1) := by decide +kernel
theorem dX7_signOf_42 : decode cX7_signOf 42 = .ok (.getfield 106, 3) := by decide +kernel
theorem dX7_signOf_45 : decode cX7_signOf 45 = .ok (.iload_n 2, 1) := by decide +kernel
theorem dX7_signOf_46 : decode cX7_signOf 46 = .ok (.ishr, 1) := by decide +kernel
theorem dX7_signOf_47 : decode cX7_signOf 47 = .ok (.iconst 1, 1) := by decide +kernel
theorem dX7_signOf_48 : decode cX7_signOf 48 = .ok (.iand, 1) := by decide +kernel
theorem dX7_signOf_49 : decode cX7_signOf 49 = .ok (.ifCond .ne 5, 3) := by decide +kernel
theorem dX7_signOf_52 : decode cX7_signOf 52 = .ok (.iconst 0, 1) := by decide +kernel
theorem dX7_signOf_53 : decode cX7_signOf 53 = .ok (.ireturn, 1) := by decide +kernel
theorem dX7_signOf_54 : decode cX7_signOf 54 = .ok (.iconst 0, 1) := by decide +kernel
theorem dX7_signOf_55 : decode cX7_signOf 55 = .ok (.istore 4, 2) := by decide +kernel
theorem dX7_signOf_57 : decode cX7_signOf 57 = .ok (.iload 4, 2) := by decide +kernel
theorem dX7_signOf_59 : decode cX7_signOf 59 = .ok (.aload_n 0, 1) := by decide +kernel
theorem dX7_signOf_60 : decode cX7_signOf 60 = .ok (.invokevirtual 90, 3) := by decide +kernel
theorem dX7_signOf_63 : decode cX7_signOf 63 = .ok (.if_icmp .ge 74, 3) := by decide +kernel
theorem dX7_signOf_66 : decode cX7_signOf 66 = .ok (.aload_n 0, 1) := by decide +kernel
theorem dX7_signOf_67 : decode cX7_signOf 67 = .ok (.iload 4, 2) := by decide +kernel
theorem dX7_signOf_69 : decode cX7_signOf 69 = .ok (.invokevirtual 117, 3) := by decide +kernel
theorem dX7_signOf_72 : decode cX7_signOf 72 = .ok (.ifCond .eq 59, 3) := by decide +kernel
theorem dX7_signOf_75 : decode cX7_signOf 75 = .ok (.aload_n 0, 1) := by decide +kernel
theorem dX7_signOf_76 : decode cX7_signOf 76 = .ok (.iload 4, 2) := by decide +kernel
theorem dX7_signOf_78 : decode cX7_signOf 78 = .ok (.aload_n 0, 1) := by decide +kernel
theorem dX7_signOf_79 : decode cX7_signOf 79 = .ok (.getfield 7, 3) := by decide +kernel
theorem dX7_signOf_82 : decode cX7_signOf 82 = .ok (.irem, 1) := by decide +kernel
theorem dX7_signOf_83 : decode cX7_signOf 83 = .ok (.iload_n 1, 1) := by decide +kernel
theorem dX7_signOf_84 : decode cX7_signOf 84 = .ok (.aload_n 0, 1) := by decide +kernel
theorem dX7_signOf_85 : decode cX7_signOf 85 = .ok (.getfield 7, 3) := by decide +kernel
theorem dX7_signOf_88 : decode cX7_signOf 88 = .ok (.irem, 1) := by decide +kernel
theorem dX7_signOf_89 : decode cX7_signOf 89 = .ok (.invokevirtual 142, 3) := by decide +kernel
theorem dX7_signOf_92 : decode cX7_signOf 92 = .ok (.aload_n 0, 1) := by decide +kernel
theorem dX7_signOf_93 : decode cX7_signOf 93 = .ok (.getfield 25, 3) := by decide +kernel
theorem dX7_signOf_96 : decode cX7_signOf 96 = .ok (.iload 4, 2) := by decide +kernel
theorem dX7_signOf_98 : decode cX7_signOf 98 = .ok (.iaload, 1) := by decide +kernel
theorem dX7_signOf_99 : decode cX7_signOf 99 = .ok (.if_icmp .ge 32, 3) := by decide +kernel
theorem dX7_signOf_102 : decode cX7_signOf 102 = .ok (.aload_n 0, 1) := by decide +kernel
theorem dX7_signOf_103 : decode cX7_signOf 103 = .ok (.iload 4, 2) := by decide +kernel
theorem dX7_signOf_105 : decode cX7_signOf 105 = .ok (.aload_n 0, 1) := by decide +kernel
theorem dX7_signOf_106 : decode cX7_signOf 106 = .ok (.getfield 7, 3) := by decide +kernel
theorem dX7_signOf_109 : decode cX7_signOf 109 = .ok (.idiv, 1) := by decide +kernel
theorem dX7_signOf_110 : decode cX7_signOf 110 = .ok (.iload_n 1, 1) := by decide +kernel
theorem dX7_signOf_111 : decode cX7_signOf 111 = .ok (.aload_n 0, 1) := by decide +kernel
theorem dX7_signOf_112 : decode cX7_signOf 112 = .ok (.getfield 7, 3) := by decide +kernel
theorem dX7_signOf_115 : decode cX7_signOf 115 = .ok (.idiv, 1) := by decide +kernel
theorem dX7_signOf_116 : decode cX7_signOf 116 = .ok (.invokevirtual 142, 3) := by decide +kernel
theorem dX7_signOf_119 : decode cX7_signOf 119 = .ok (.aload_n 0, 1) := by decide +kernel
theorem dX7_signOf_120 : decode cX7_signOf 120 = .ok (.getfield 25, 3) := by decide +kernel
theorem dX7_signOf_123 : decode cX7_signOf 123 = .ok (.iload 4, 2) := by decide +kernel
theorem dX7_signOf_125 : decode cX7_signOf 125 = .ok (.iaload, 1) := by decide +kernel
theorem dX7_signOf_126 : decode cX7_signOf 126 = .ok (.if_icmp .ge 5, 3) := by decide +kernel
theorem dX7_signOf_129 : decode cX7_signOf 129 = .ok (.iconst 1, 1) := by decide +kernel
theorem dX7_signOf_130 : decode cX7_signOf 130 = .ok (.ireturn, 1) := by decide +kernel
theorem dX7_signOf_131 : decode cX7_signOf 131 = .ok (.iinc 4 1, 3) := by decide +kernel
theorem dX7_signOf_134 : decode cX7_signOf 134 = .ok (.goto (-77), 3) := by decide +kernel
theorem dX7_signOf_137 : decode cX7_signOf 137 = .ok (.iconst 0, 1) := by decide +kernel
theorem dX7_signOf_138 : decode cX7_signOf 138 = .ok (.ireturn, 1) := by decide +kernel
theorem dX7_sign_0 : decode cX7_sign 0 = .ok (.aload_n 0, 1) := by decide +kernel
theorem dX7_sign_1 : decode cX7_sign 1 = .ok (.iconst 0, 1) := by decide +kernel
theorem dX7_sign_2 : decode cX7_sign 2 = .ok (.putfield 87, 3) := by decide +kernel
theorem dX7_sign_5 : decode cX7_sign 5 = .ok (.aload_n 0, 1) := by decide +kernel
theorem dX7_sign_6 : decode cX7_sign 6 = .ok (.iload_n 1, 1) := by decide +kernel
theorem dX7_sign_7 : decode cX7_sign 7 = .ok (.invokevirtual 113, 3) := by decide +kernel
theorem dX7_sign_10 : decode cX7_sign 10 = .ok (.ifCond .eq 32, 3) := by decide +kernel
theorem dX7_sign_13 : decode cX7_sign 13 = .ok (.iload_n 2, 1) := by decide +kernel
theorem dX7_sign_14 : decode cX7_sign 14 = .ok (.ifCond .lt 28, 3) := by decide +kernel
theorem dX7_sign_17 : decode cX7_sign 17 = .ok (.iload_n 2, 1) := by decide +kernel
theorem dX7_sign_18 : decode cX7_sign 18 = .ok (.bipush 6, 2) := by decide +kernel
theorem dX7_sign_20 : decode cX7_sign 20 = .ok (.if_icmp .ge 22, 3) := by decide +kernel
theorem dX7_sign_23 : decode cX7_sign 23 = .ok (.iload_n 3, 1) := by decide +kernel
theorem dX7_sign_24 : decode cX7_sign 24 = .ok (.ifCond .lt 18, 3) := by decide +kernel
theorem dX7_sign_27 : decode cX7_sign 27 = .ok (.iload_n 3, 1) := by decide +kernel
theorem dX7_sign_28 : decode cX7_sign 28 = .ok (.iconst 3, 1) := by decide +kernel
theorem dX7_sign_29 : decode cX7_sign 29 = .ok (.if_icmp .ge 13, 3) := by decide +kernel
theorem dX7_sign_32 : decode cX7_sign 32 = .ok (.aload_n 0, 1) := by decide +kernel
theorem dX7_sign_33 : decode cX7_sign 33 = .ok (.iload_n 1, 1) := by decide +kernel
theorem dX7_sign_34 : decode cX7_sign 34 = .ok (.iload_n 2, 1) := by decide +kernel
theorem dX7_sign_35 : decode cX7_sign 35 = .ok (.iload_n 3, 1) := by decide +kernel
theorem dX7_sign_36 : decode cX7_sign 36 = .ok (.invokevirtual 145, 3) := by decide +kernel
theorem dX7_sign_39 : decode cX7_sign 39 = .ok (.goto 5, 3) := by decide +kernel
theorem dX7_sign_42 : decode cX7_sign 42 = .ok (.bipush (-2), 2) := by decide +kernel
theorem dX7_sign_44 : decode cX7_sign 44 = .ok (.ireturn, 1) := by decide +kernel
theorem dX7_seen_0 : decode cX7_seen 0 = .ok (.lconst 0, 1) := by decide +kernel
theorem dX7_seen_1 : decode cX7_seen 1 = .ok (.lstore_n 3, 1) := by decide +kernel
theorem dX7_seen_2 : decode cX7_seen 2 = .ok (.iconst 0, 1) := by decide +kernel
theorem dX7_seen_3 : decode cX7_seen 3 = .ok (.istore 5, 2) := by decide +kernel
theorem dX7_seen_5 : decode cX7_seen 5 = .ok (.iload 5, 2) := by decide +kernel
theorem dX7_seen_7 : decode cX7_seen 7 = .ok (.aload_n 0, 1) := by decide +kernel
theorem dX7_seen_8 : decode cX7_seen 8 = .ok (.invokevirtual 90, 3) := by decide +kernel
theorem dX7_seen_11 : decode cX7_seen 11 = .ok (.if_icmp .ge 47, 3) := by decide +kernel
theorem dX7_seen_14 : decode cX7_seen 14 = .ok (.aload_n 0, 1) := by decide +kernel
theorem dX7_seen_15 : decode cX7_seen 15 = .ok (.aload_n 0, 1) := by decide +kernel
theorem dX7_seen_16 : decode cX7_seen 16 = .ok (.getfield 18, 3) := by decide +kernel
theorem dX7_seen_19 : decode cX7_seen 19 = .ok (.iload 5, 2) := by decide +kernel
theorem dX7_seen_21 : decode cX7_seen 21 = .ok (.invokevirtual 96, 3) := by decide +kernel
theorem dX7_seen_24 : decode cX7_seen 24 = .ok (.ifCond .eq 28, 3) := by decide +kernel
theorem dX7_seen_27 : decode cX7_seen 27 = .ok (.aload_n 0, 1) := by decide +kernel
theorem dX7_seen_28 : decode cX7_seen 28 = .ok (.iload 5, 2) := by decide +kernel
theorem dX7_seen_30 : decode cX7_seen 30 = .ok (.aload_n 0, 1) := by decide +kernel
theorem dX7_seen_31 : decode cX7_seen 31 = .ok (.getfield 100, 3) := by decide +kernel
theorem dX7_seen_34 : decode cX7_seen 34 = .ok (.bipush 6, 2) := by decide +kernel
theorem dX7_seen_36 : decode cX7_seen 36 = .ok (.irem, 1) := by decide +kernel
theorem dX7_seen_37 : decode cX7_seen 37 = .ok (.iload_n 1, 1) := by decide +kernel
theorem dX7_seen_38 : decode cX7_seen 38 = .ok (.invokevirtual 145, 3) := by decide +kernel
theorem dX7_seen_41 : decode cX7_seen 41 = .ok (.iload_n 2, 1) := by decide +kernel
theorem dX7_seen_42 : decode cX7_seen 42 = .ok (.if_icmp .ne 10, 3) := by decide +kernel
theorem dX7_seen_45 : decode cX7_seen 45 = .ok (.lload_n 3, 1) := by decide +kernel
theorem dX7_seen_46 : decode cX7_seen 46 = .ok (.lconst 1, 1) := by decide +kernel
theorem dX7_seen_47 : decode cX7_seen 47 = .ok (.iload 5, 2) := by decide +kernel
theorem dX7_seen_49 : decode cX7_seen 49 = .ok (.lshl, 1) := by decide +kernel
theorem dX7_seen_50 : decode cX7_seen 50 = .ok (.lor, 1) := by decide +kernel
theorem dX7_seen_51 : decode cX7_seen 51 = .ok (.lstore_n 3, 1) := by decide +kernel
theorem dX7_seen_52 : decode cX7_seen 52 = .ok (.iinc 5 1, 3) := by decide +kernel
theorem dX7_seen_55 : decode cX7_seen 55 = .ok (.goto (-50), 3) := by decide +kernel
theorem dX7_seen_58 : decode cX7_seen 58 = .ok (.lload_n 3, 1) := by decide +kernel
theorem dX7_seen_59 : decode cX7_seen 59 = .ok (.lreturn, 1) := by decide +kernel
theorem dX7_see_0 : decode cX7_see 0 = .ok (.aload_n 0, 1) := by decide +kernel
theorem dX7_see_1 : decode cX7_see 1 = .ok (.iconst 0, 1) := by decide +kernel
theorem dX7_see_2 : decode cX7_see 2 = .ok (.putfield 87, 3) := by decide +kernel
theorem dX7_see_5 : decode cX7_see 5 = .ok (.iload_n 1, 1) := by decide +kernel
theorem dX7_see_6 : decode cX7_see 6 = .ok (.ifCond .lt 8, 3) := by decide +kernel
theorem dX7_see_9 : decode cX7_see 9 = .ok (.iload_n 1, 1) := by decide +kernel
theorem dX7_see_10 : decode cX7_see 10 = .ok (.iconst 2, 1) := by decide +kernel
theorem dX7_see_11 : decode cX7_see 11 = .ok (.if_icmp .le 5, 3) := by decide +kernel
theorem dX7_see_14 : decode cX7_see 14 = .ok (.iconst (-1), 1) := by decide +kernel
theorem dX7_see_15 : decode cX7_see 15 = .ok (.ireturn, 1) := by decide +kernel
theorem dX7_see_16 : decode cX7_see 16 = .ok (.aload_n 0, 1) := by decide +kernel
theorem dX7_see_17 : decode cX7_see 17 = .ok (.iload_n 1, 1) := by decide +kernel
theorem dX7_see_18 : decode cX7_see 18 = .ok (.iload_n 2, 1) := by decide +kernel
theorem dX7_see_19 : decode cX7_see 19 = .ok (.invokevirtual 148, 3) := by decide +kernel
theorem dX7_see_22 : decode cX7_see 22 = .ok (.lstore_n 3, 1) := by decide +kernel
theorem dX7_see_23 : decode cX7_see 23 = .ok (.lload_n 3, 1) := by decide +kernel
theorem dX7_see_24 : decode cX7_see 24 = .ok (.lconst 0, 1) := by decide +kernel
theorem dX7_see_25 : decode cX7_see 25 = .ok (.lcmp, 1) := by decide +kernel
theorem dX7_see_26 : decode cX7_see 26 = .ok (.ifCond .eq 23, 3) := by decide +kernel
theorem dX7_see_29 : decode cX7_see 29 = .ok (.aload_n 0, 1) := by decide +kernel
theorem dX7_see_30 : decode cX7_see 30 = .ok (.getfield 22, 3) := by decide +kernel
theorem dX7_see_33 : decode cX7_see 33 = .ok (.iconst (-1), 1) := by decide +kernel
theorem dX7_see_34 : decode cX7_see 34 = .ok (.if_icmp .eq 17, 3) := by decide +kernel
theorem dX7_see_37 : decode cX7_see 37 = .ok (.aload_n 0, 1) := by decide +kernel
theorem dX7_see_38 : decode cX7_see 38 = .ok (.lload_n 3, 1) := by decide +kernel
theorem dX7_see_39 : decode cX7_see 39 = .ok (.aload_n 0, 1) := by decide +kernel
theorem dX7_see_40 : decode cX7_see 40 = .ok (.getfield 22, 3) := by decide +kernel
theorem dX7_see_43 : decode cX7_see 43 = .ok (.invokevirtual 96, 3) := by decide +kernel
theorem dX7_see_46 : decode cX7_see 46 = .ok (.ifCond .ne 5, 3) := by decide +kernel
theorem dX7_see_49 : decode cX7_see 49 = .ok (.iconst (-1), 1) := by decide +kernel
theorem dX7_see_50 : decode cX7_see 50 = .ok (.ireturn, 1) := by decide +kernel
theorem dX7_see_51 : decode cX7_see 51 = .ok (.aload_n 0, 1) := by decide +kernel
theorem dX7_see_52 : decode cX7_see 52 = .ok (.lload_n 3, 1) := by decide +kernel
theorem dX7_see_53 : decode cX7_see 53 = .ok (.putfield 18, 3) := by decide +kernel
theorem dX7_see_56 : decode cX7_see 56 = .ok (.aload_n 0, 1) := by decide +kernel
theorem dX7_see_57 : decode cX7_see 57 = .ok (.aload_n 0, 1) := by decide +kernel
theorem dX7_see_58 : decode cX7_see 58 = .ok (.getfield 18, 3) := by decide +kernel
theorem dX7_see_61 : decode cX7_see 61 = .ok (.invokevirtual 120, 3) := by decide +kernel
theorem dX7_see_64 : decode cX7_see 64 = .ok (.ireturn, 1) := by decide +kernel
theorem dX7_sights_0 : decode cX7_sights 0 = .ok (.aload_n 0, 1) := by decide +kernel
theorem dX7_sights_1 : decode cX7_sights 1 = .ok (.iconst 0, 1) := by decide +kernel
theorem dX7_sights_2 : decode cX7_sights 2 = .ok (.putfield 87, 3) := by decide +kernel
theorem dX7_sights_5 : decode cX7_sights 5 = .ok (.aload_n 0, 1) := by decide +kernel
theorem dX7_sights_6 : decode cX7_sights 6 = .ok (.getfield 22, 3) := by decide +kernel
theorem dX7_sights_9 : decode cX7_sights 9 = .ok (.iconst (-1), 1) := by decide +kernel
theorem dX7_sights_10 : decode cX7_sights 10 = .ok (.if_icmp .ne 5, 3) := by decide +kernel
theorem dX7_sights_13 : decode cX7_sights 13 = .ok (.iconst (-1), 1) := by decide +kernel
theorem dX7_sights_14 : decode cX7_sights 14 = .ok (.ireturn, 1) := by decide +kernel
theorem dX7_sights_15 : decode cX7_sights 15 = .ok (.iconst 0, 1) := by decide +kernel
theorem dX7_sights_16 : decode cX7_sights 16 = .ok (.istore_n 1, 1) := by decide +kernel
theorem dX7_sights_17 : decode cX7_sights 17 = .ok (.iload_n 1, 1) := by decide +kernel
theorem dX7_sights_18 : decode cX7_sights 18 = .ok (.iconst 3, 1) := by decide +kernel
theorem dX7_sights_19 : decode cX7_sights 19 = .ok (.if_icmp .ge 34, 3) := by decide +kernel
theorem dX7_sights_22 : decode cX7_sights 22 = .ok (.aload_n 0, 1) := by decide +kernel
theorem dX7_sights_23 : decode cX7_sights 23 = .ok (.aload_n 0, 1) := by decide +kernel
theorem dX7_sights_24 : decode cX7_sights 24 = .ok (.iload_n 1, 1) := by decide +kernel
theorem dX7_sights_25 : decode cX7_sights 25 = .ok (.aload_n 0, 1) := by decide +kernel
theorem dX7_sights_26 : decode cX7_sights 26 = .ok (.aload_n 0, 1) := by decide +kernel
theorem dX7_sights_27 : decode cX7_sights 27 = .ok (.getfield 22, 3) := by decide +kernel
theorem dX7_sights_30 : decode cX7_sights 30 = .ok (.aload_n 0, 1) := by decide +kernel
theorem dX7_sights_31 : decode cX7_sights 31 = .ok (.getfield 100, 3) := by decide +kernel
theorem dX7_sights_34 : decode cX7_sights 34 = .ok (.bipush 6, 2) := by decide +kernel
theorem dX7_sights_36 : decode cX7_sights 36 = .ok (.irem, 1) := by decide +kernel
theorem dX7_sights_37 : decode cX7_sights 37 = .ok (.iload_n 1, 1) := by decide +kernel
theorem dX7_sights_38 : decode cX7_sights 38 = .ok (.invokevirtual 145, 3) := by decide +kernel
theorem dX7_sights_41 : decode cX7_sights 41 = .ok (.invokevirtual 148, 3) := by decide +kernel
theorem dX7_sights_44 : decode cX7_sights 44 = .ok (.putfield 18, 3) := by decide +kernel
theorem dX7_sights_47 : decode cX7_sights 47 = .ok (.iinc 1 1, 3) := by decide +kernel
theorem dX7_sights_50 : decode cX7_sights 50 = .ok (.goto (-33), 3) := by decide +kernel
theorem dX7_sights_53 : decode cX7_sights 53 = .ok (.aload_n 0, 1) := by decide +kernel
theorem dX7_sights_54 : decode cX7_sights 54 = .ok (.aload_n 0, 1) := by decide +kernel
theorem dX7_sights_55 : decode cX7_sights 55 = .ok (.getfield 18, 3) := by decide +kernel
theorem dX7_sights_58 : decode cX7_sights 58 = .ok (.invokevirtual 120, 3) := by decide +kernel
theorem dX7_sights_61 : decode cX7_sights 61 = .ok (.ireturn, 1) := by decide +kernel
theorem dX7_lay_0 : decode cX7_lay 0 = .ok (.bipush 24, 2) := by decide +kernel
theorem dX7_lay_2 : decode cX7_lay 2 = .ok (.istore_n 2, 1) := by decide +kernel
theorem dX7_lay_3 : decode cX7_lay 3 = .ok (.iload_n 2, 1) := by decide +kernel
theorem dX7_lay_4 : decode cX7_lay 4 = .ok (.ifCond .lt 35, 3) := by decide +kernel
theorem dX7_lay_7 : decode cX7_lay 7 = .ok (.aload_n 0, 1) := by decide +kernel
theorem dX7_lay_8 : decode cX7_lay 8 = .ok (.getfield 59, 3) := by decide +kernel
theorem dX7_lay_11 : decode cX7_lay 11 = .ok (.aload_n 0, 1) := by decide +kernel
theorem dX7_lay_12 : decode cX7_lay 12 = .ok (.getfield 152, 3) := by decide +kernel
theorem dX7_lay_15 : decode cX7_lay 15 = .ok (.iload_n 1, 1) := by decide +kernel
theorem dX7_lay_16 : decode cX7_lay 16 = .ok (.iload_n 2, 1) := by decide +kernel
theorem dX7_lay_17 : decode cX7_lay 17 = .ok (.ishr, 1) := by decide +kernel
theorem dX7_lay_18 : decode cX7_lay 18 = .ok (.sipush 255, 3) := by decide +kernel
theorem dX7_lay_21 : decode cX7_lay 21 = .ok (.iand, 1) := by decide +kernel
theorem dX7_lay_22 : decode cX7_lay 22 = .ok (.iastore, 1) := by decide +kernel
theorem dX7_lay_23 : decode cX7_lay 23 = .ok (.aload_n 0, 1) := by decide +kernel
theorem dX7_lay_24 : decode cX7_lay 24 = .ok (.aload_n 0, 1) := by decide +kernel
theorem dX7_lay_25 : decode cX7_lay 25 = .ok (.getfield 152, 3) := by decide +kernel
theorem dX7_lay_28 : decode cX7_lay 28 = .ok (.iconst 1, 1) := by decide +kernel
theorem dX7_lay_29 : decode cX7_lay 29 = .ok (.iadd, 1) := by decide +kernel
theorem dX7_lay_30 : decode cX7_lay 30 = .ok (.putfield 152, 3) := by decide +kernel
theorem dX7_lay_33 : decode cX7_lay 33 = .ok (.iinc 2 (-8), 3) := by decide +kernel
theorem dX7_lay_36 : decode cX7_lay 36 = .ok (.goto (-33), 3) := by decide +kernel
theorem dX7_lay_39 : decode cX7_lay 39 = .ok (.return_, 1) := by decide +kernel
theorem dX7_feed_0 : decode cX7_feed 0 = .ok (.aload_n 0, 1) := by decide +kernel
theorem dX7_feed_1 : decode cX7_feed 1 = .ok (.iconst 0, 1) := by decide +kernel
theorem dX7_feed_2 : decode cX7_feed 2 = .ok (.putfield 87, 3) := by decide +kernel
theorem dX7_feed_5 : decode cX7_feed 5 = .ok (.aload_n 0, 1) := by decide +kernel
theorem dX7_feed_6 : decode cX7_feed 6 = .ok (.getfield 152, 3) := by decide +kernel
theorem dX7_feed_9 : decode cX7_feed 9 = .ok (.bipush 20, 2) := by decide +kernel
theorem dX7_feed_11 : decode cX7_feed 11 = .ok (.iadd, 1) := by decide +kernel
theorem dX7_feed_12 : decode cX7_feed 12 = .ok (.sipush 400, 3) := by decide +kernel
theorem dX7_feed_15 : decode cX7_feed 15 = .ok (.if_icmp .le 5, 3) := by decide +kernel
theorem dX7_feed_18 : decode cX7_feed 18 = .ok (.iconst (-1), 1) := by decide +kernel
theorem dX7_feed_19 : decode cX7_feed 19 = .ok (.ireturn, 1) := by decide +kernel
theorem dX7_feed_20 : decode cX7_feed 20 = .ok (.aload_n 0, 1) := by decide +kernel
theorem dX7_feed_21 : decode cX7_feed 21 = .ok (.iload_n 1, 1) := by decide +kernel
theorem dX7_feed_22 : decode cX7_feed 22 = .ok (.invokevirtual 155, 3) := by decide +kernel
theorem dX7_feed_25 : decode cX7_feed 25 = .ok (.aload_n 0, 1) := by decide +kernel
theorem dX7_feed_26 : decode cX7_feed 26 = .ok (.iload_n 2, 1) := by decide +kernel
theorem dX7_feed_27 : decode cX7_feed 27 = .ok (.invokevirtual 155, 3) := by decide +kernel
theorem dX7_feed_30 : decode cX7_feed 30 = .ok (.aload_n 0, 1) := by decide +kernel
theorem dX7_feed_31 : decode cX7_feed 31 = .ok (.iload_n 3, 1) := by decide +kernel
theorem dX7_feed_32 : decode cX7_feed 32 = .ok (.invokevirtual 155, 3) := by decide +kernel
theorem dX7_feed_35 : decode cX7_feed 35 = .ok (.aload_n 0, 1) := by decide +kernel
theorem dX7_feed_36 : decode cX7_feed 36 = .ok (.iload 4, 2) := by decide +kernel
theorem dX7_feed_38 : decode cX7_feed 38 = .ok (.invokevirtual 155, 3) := by decide +kernel
theorem dX7_feed_41 : decode cX7_feed 41 = .ok (.aload_n 0, 1) := by decide +kernel
theorem dX7_feed_42 : decode cX7_feed 42 = .ok (.iload 5, 2) := by decide +kernel
theorem dX7_feed_44 : decode cX7_feed 44 = .ok (.invokevirtual 155, 3) := by decide +kernel
theorem dX7_feed_47 : decode cX7_feed 47 = .ok (.aload_n 0, 1) := by decide +kernel
theorem dX7_feed_48 : decode cX7_feed 48 = .ok (.getfield 152, 3) := by decide +kernel
theorem dX7_feed_51 : decode cX7_feed 51 = .ok (.ireturn, 1) := by decide +kernel
theorem dX7_end_0 : decode cX7_end 0 = .ok (.aload_n 0, 1) := by decide +kernel
theorem dX7_end_1 : decode cX7_end 1 = .ok (.iconst 0, 1) := by decide +kernel
theorem dX7_end_2 : decode cX7_end 2 = .ok (.putfield 87, 3) := by decide +kernel
theorem dX7_end_5 : decode cX7_end 5 = .ok (.iload_n 1, 1) := by decide +kernel
theorem dX7_end_6 : decode cX7_end 6 = .ok (.ifCond .lt 11, 3) := by decide +kernel
theorem dX7_end_9 : decode cX7_end 9 = .ok (.iload_n 1, 1) := by decide +kernel
theorem dX7_end_10 : decode cX7_end 10 = .ok (.aload_n 0, 1) := by decide +kernel
theorem dX7_end_11 : decode cX7_end 11 = .ok (.getfield 152, 3) := by decide +kernel
theorem dX7_end_14 : decode cX7_end 14 = .ok (.if_icmp .le 5, 3) := by decide +kernel
theorem dX7_end_17 : decode cX7_end 17 = .ok (.iconst (-1), 1) := by decide +kernel
theorem dX7_end_18 : decode cX7_end 18 = .ok (.ireturn, 1) := by decide +kernel
theorem dX7_end_19 : decode cX7_end 19 = .ok (.aload_n 0, 1) := by decide +kernel
theorem dX7_end_20 : decode cX7_end 20 = .ok (.iload_n 1, 1) := by decide +kernel
theorem dX7_end_21 : decode cX7_end 21 = .ok (.putfield 152, 3) := by decide +kernel
theorem dX7_end_24 : decode cX7_end 24 = .ok (.iload_n 1, 1) := by decide +kernel
theorem dX7_end_25 : decode cX7_end 25 = .ok (.ireturn, 1) := by decide +kernel
theorem dX7_fault_0 : decode cX7_fault 0 = .ok (.aload_n 0, 1) := by decide +kernel
theorem dX7_fault_1 : decode cX7_fault 1 = .ok (.iconst 0, 1) := by decide +kernel
theorem dX7_fault_2 : decode cX7_fault 2 = .ok (.putfield 87, 3) := by decide +kernel
theorem dX7_fault_5 : decode cX7_fault 5 = .ok (.iload_n 1, 1) := by decide +kernel
theorem dX7_fault_6 : decode cX7_fault 6 = .ok (.ifCond .ne 10, 3) := by decide +kernel
theorem dX7_fault_9 : decode cX7_fault 9 = .ok (.aload_n 0, 1) := by decide +kernel
theorem dX7_fault_10 : decode cX7_fault 10 = .ok (.getfield 159, 3) := by decide +kernel
theorem dX7_fault_13 : decode cX7_fault 13 = .ok (.goto 16, 3) := by decide +kernel
theorem dX7_fault_16 : decode cX7_fault 16 = .ok (.iload_n 1, 1) := by decide +kernel
theorem dX7_fault_17 : decode cX7_fault 17 = .ok (.iconst 1, 1) := by decide +kernel
theorem dX7_fault_18 : decode cX7_fault 18 = .ok (.if_icmp .ne 10, 3) := by decide +kernel
theorem dX7_fault_21 : decode cX7_fault 21 = .ok (.aload_n 0, 1) := by decide +kernel
theorem dX7_fault_22 : decode cX7_fault 22 = .ok (.getfield 62, 3) := by decide +kernel
theorem dX7_fault_25 : decode cX7_fault 25 = .ok (.goto 4, 3) := by decide +kernel
theorem dX7_fault_28 : decode cX7_fault 28 = .ok (.iconst (-1), 1) := by decide +kernel
theorem dX7_fault_29 : decode cX7_fault 29 = .ok (.ireturn, 1) := by decide +kernel
theorem dX7_raw_0 : decode cX7_raw 0 = .ok (.aload_n 0, 1) := by decide +kernel
theorem dX7_raw_1 : decode cX7_raw 1 = .ok (.getfield 162, 3) := by decide +kernel
theorem dX7_raw_4 : decode cX7_raw 4 = .ok (.iload_n 1, 1) := by decide +kernel
theorem dX7_raw_5 : decode cX7_raw 5 = .ok (.iadd, 1) := by decide +kernel
theorem dX7_raw_6 : decode cX7_raw 6 = .ok (.aload_n 0, 1) := by decide +kernel
theorem dX7_raw_7 : decode cX7_raw 7 = .ok (.getfield 152, 3) := by decide +kernel
theorem dX7_raw_10 : decode cX7_raw 10 = .ok (.if_icmp .ge 17, 3) := by decide +kernel
theorem dX7_raw_13 : decode cX7_raw 13 = .ok (.aload_n 0, 1) := by decide +kernel
theorem dX7_raw_14 : decode cX7_raw 14 = .ok (.getfield 59, 3) := by decide +kernel
theorem dX7_raw_17 : decode cX7_raw 17 = .ok (.aload_n 0, 1) := by decide +kernel
theorem dX7_raw_18 : decode cX7_raw 18 = .ok (.getfield 162, 3) := by decide +kernel
theorem dX7_raw_21 : decode cX7_raw 21 = .ok (.iload_n 1, 1) := by decide +kernel
theorem dX7_raw_22 : decode cX7_raw 22 = .ok (.iadd, 1) := by decide +kernel
theorem dX7_raw_23 : decode cX7_raw 23 = .ok (.iaload, 1) := by decide +kernel
theorem dX7_raw_24 : decode cX7_raw 24 = .ok (.goto 4, 3) := by decide +kernel
theorem dX7_raw_27 : decode cX7_raw 27 = .ok (.iconst (-1), 1) := by decide +kernel
theorem dX7_raw_28 : decode cX7_raw 28 = .ok (.ireturn, 1) := by decide +kernel
theorem dX7_isLetter_0 : decode cX7_isLetter 0 = .ok (.iload_n 1, 1) := by decide +kernel
theorem dX7_isLetter_1 : decode cX7_isLetter 1 = .ok (.bipush 97, 2) := by decide +kernel
theorem dX7_isLetter_3 : decode cX7_isLetter 3 = .ok (.if_icmp .lt 9, 3) := by decide +kernel
theorem dX7_isLetter_6 : decode cX7_isLetter 6 = .ok (.iload_n 1, 1) := by decide +kernel
theorem dX7_isLetter_7 : decode cX7_isLetter 7 = .ok (.bipush 122, 2) := by decide +kernel
theorem dX7_isLetter_9 : decode cX7_isLetter 9 = .ok (.if_icmp .le 15, 3) := by decide +kernel
theorem dX7_isLetter_12 : decode cX7_isLetter 12 = .ok (.iload_n 1, 1) := by decide +kernel
theorem dX7_isLetter_13 : decode cX7_isLetter 13 = .ok (.bipush 65, 2) := by decide +kernel
theorem dX7_isLetter_15 : decode cX7_isLetter 15 = .ok (.if_icmp .lt 13, 3) := by decide +kernel
theorem dX7_isLetter_18 : decode cX7_isLetter 18 = .ok (.iload_n 1, 1) := by decide +kernel
theorem dX7_isLetter_19 : decode cX7_isLetter 19 = .ok (.bipush 90, 2) := by decide +kernel
theorem dX7_isLetter_21 : decode cX7_isLetter 21 = .ok (.if_icmp .gt 7, 3) := by decide +kernel
theorem dX7_isLetter_24 : decode cX7_isLetter 24 = .ok (.iconst 1, 1) := by decide +kernel
theorem dX7_isLetter_25 : decode cX7_isLetter 25 = .ok (.goto 4, 3) := by decide +kernel
theorem dX7_isLetter_28 : decode cX7_isLetter 28 = .ok (.iconst 0, 1) := by decide +kernel
theorem dX7_isLetter_29 : decode cX7_isLetter 29 = .ok (.ireturn, 1) := by decide +kernel
theorem dX7_isDigit_0 : decode cX7_isDigit 0 = .ok (.iload_n 1, 1) := by decide +kernel
theorem dX7_isDigit_1 : decode cX7_isDigit 1 = .ok (.bipush 48, 2) := by decide +kernel
theorem dX7_isDigit_3 : decode cX7_isDigit 3 = .ok (.if_icmp .lt 13, 3) := by decide +kernel
theorem dX7_isDigit_6 : decode cX7_isDigit 6 = .ok (.iload_n 1, 1) := by decide +kernel
theorem dX7_isDigit_7 : decode cX7_isDigit 7 = .ok (.bipush 57, 2) := by decide +kernel
theorem dX7_isDigit_9 : decode cX7_isDigit 9 = .ok (.if_icmp .gt 7, 3) := by decide +kernel
theorem dX7_isDigit_12 : decode cX7_isDigit 12 = .ok (.iconst 1, 1) := by decide +kernel
theorem dX7_isDigit_13 : decode cX7_isDigit 13 = .ok (.goto 4, 3) := by decide +kernel
theorem dX7_isDigit_16 : decode cX7_isDigit 16 = .ok (.iconst 0, 1) := by decide +kernel
theorem dX7_isDigit_17 : decode cX7_isDigit 17 = .ok (.ireturn, 1) := by decide +kernel
theorem dX7_isWord_0 : decode cX7_isWord 0 = .ok (.aload_n 0, 1) := by decide +kernel
theorem dX7_isWord_1 : decode cX7_isWord 1 = .ok (.iconst 0, 1) := by decide +kernel
theorem dX7_isWord_2 : decode cX7_isWord 2 = .ok (.invokevirtual 165, 3) := by decide +kernel
theorem dX7_isWord_5 : decode cX7_isWord 5 = .ok (.iload_n 2, 1) := by decide +kernel
theorem dX7_isWord_6 : decode cX7_isWord 6 = .ok (.if_icmp .ne 22, 3) := by decide +kernel
theorem dX7_isWord_9 : decode cX7_isWord 9 = .ok (.aload_n 0, 1) := by decide +kernel
theorem dX7_isWord_10 : decode cX7_isWord 10 = .ok (.iconst 1, 1) := by decide +kernel
theorem dX7_isWord_11 : decode cX7_isWord 11 = .ok (.invokevirtual 165, 3) := by decide +kernel
theorem dX7_isWord_14 : decode cX7_isWord 14 = .ok (.iload_n 3, 1) := by decide +kernel
theorem dX7_isWord_15 : decode cX7_isWord 15 = .ok (.if_icmp .ne 13, 3) := by decide +kernel
theorem dX7_isWord_18 : decode cX7_isWord 18 = .ok (.aload_n 0, 1) := by decide +kernel
theorem dX7_isWord_19 : decode cX7_isWord 19 = .ok (.iconst 2, 1) := by decide +kernel
theorem dX7_isWord_20 : decode cX7_isWord 20 = .ok (.invokevirtual 165, 3) := by decide +kernel
theorem dX7_isWord_23 : decode cX7_isWord 23 = .ok (.iload 4, 2) := by decide +kernel
theorem dX7_isWord_25 : decode cX7_isWord 25 = .ok (.if_icmp .eq 5, 3) := by decide +kernel
theorem dX7_isWord_28 : decode cX7_isWord 28 = .ok (.iconst 0, 1) := by decide +kernel
theorem dX7_isWord_29 : decode cX7_isWord 29 = .ok (.ireturn, 1) := by decide +kernel
theorem dX7_isWord_30 : decode cX7_isWord 30 = .ok (.iload_n 1, 1) := by decide +kernel
theorem dX7_isWord_31 : decode cX7_isWord 31 = .ok (.iconst 3, 1) := by decide +kernel
theorem dX7_isWord_32 : decode cX7_isWord 32 = .ok (.if_icmp .le 15, 3) := by decide +kernel
theorem dX7_isWord_35 : decode cX7_isWord 35 = .ok (.aload_n 0, 1) := by decide +kernel
theorem dX7_isWord_36 : decode cX7_isWord 36 = .ok (.iconst 3, 1) := by decide +kernel
theorem dX7_isWord_37 : decode cX7_isWord 37 = .ok (.invokevirtual 165, 3) := by decide +kernel
theorem dX7_isWord_40 : decode cX7_isWord 40 = .ok (.iload 5, 2) := by decide +kernel
theorem dX7_isWord_42 : decode cX7_isWord 42 = .ok (.if_icmp .eq 5, 3) := by decide +kernel
theorem dX7_isWord_45 : decode cX7_isWord 45 = .ok (.iconst 0, 1) := by decide +kernel
theorem dX7_isWord_46 : decode cX7_isWord 46 = .ok (.ireturn, 1) := by decide +kernel
theorem dX7_isWord_47 : decode cX7_isWord 47 = .ok (.iload_n 1, 1) := by decide +kernel
theorem dX7_isWord_48 : decode cX7_isWord 48 = .ok (.iconst 5, 1) := by decide +kernel
theorem dX7_isWord_49 : decode cX7_isWord 49 = .ok (.if_icmp .lt 13, 3) := by decide +kernel
theorem dX7_isWord_52 : decode cX7_isWord 52 = .ok (.aload_n 0, 1) := by decide +kernel
theorem dX7_isWord_53 : decode cX7_isWord 53 = .ok (.iconst 4, 1) := by decide +kernel
theorem dX7_isWord_54 : decode cX7_isWord 54 = .ok (.invokevirtual 165, 3) := by decide +kernel
theorem dX7_isWord_57 : decode cX7_isWord 57 = .ok (.iload 6, 2) := by decide +kernel
theorem dX7_isWord_59 : decode cX7_isWord 59 = .ok (.if_icmp .ne 7, 3) := by decide +kernel
theorem dX7_isWord_62 : decode cX7_isWord 62 = .ok (.iconst 1, 1) := by decide +kernel
theorem dX7_isWord_63 : decode cX7_isWord 63 = .ok (.goto 4, 3) := by decide +kernel
theorem dX7_isWord_66 : decode cX7_isWord 66 = .ok (.iconst 0, 1) := by decide +kernel
theorem dX7_isWord_67 : decode cX7_isWord 67 = .ok (.ireturn, 1) := by decide +kernel
theorem dX7_next_0 : decode cX7_next 0 = .ok (.aload_n 0, 1) := by decide +kernel
theorem dX7_next_1 : decode cX7_next 1 = .ok (.iconst 0, 1) := by decide +kernel
theorem dX7_next_2 : decode cX7_next 2 = .ok (.invokevirtual 165, 3) := by decide +kernel
theorem dX7_next_5 : decode cX7_next 5 = .ok (.bipush 32, 2) := by decide +kernel
theorem dX7_next_7 : decode cX7_next 7 = .ok (.if_icmp .eq 13, 3) := by decide +kernel
theorem dX7_next_10 : decode cX7_next 10 = .ok (.aload_n 0, 1) := by decide +kernel
theorem dX7_next_11 : decode cX7_next 11 = .ok (.iconst 0, 1) := by decide +kernel
theorem dX7_next_12 : decode cX7_next 12 = .ok (.invokevirtual 165, 3) := by decide +kernel
theorem dX7_next_15 : decode cX7_next 15 = .ok (.bipush 10, 2) := by decide +kernel
theorem dX7_next_17 : decode cX7_next 17 = .ok (.if_icmp .ne 16, 3) := by decide +kernel
theorem dX7_next_20 : decode cX7_next 20 = .ok (.aload_n 0, 1) := by decide +kernel
theorem dX7_next_21 : decode cX7_next 21 = .ok (.aload_n 0, 1) := by decide +kernel
theorem dX7_next_22 : decode cX7_next 22 = .ok (.getfield 162, 3) := by decide +kernel
theorem dX7_next_25 : decode cX7_next 25 = .ok (.iconst 1, 1) := by decide +kernel
theorem dX7_next_26 : decode cX7_next 26 = .ok (.iadd, 1) := by decide +kernel
theorem dX7_next_27 : decode cX7_next 27 = .ok (.putfield 162, 3) := by decide +kernel
theorem dX7_next_30 : decode cX7_next 30 = .ok (.goto (-30), 3) := by decide +kernel
theorem dX7_next_33 : decode cX7_next 33 = .ok (.aload_n 0, 1) := by decide +kernel
theorem dX7_next_34 : decode cX7_next 34 = .ok (.aload_n 0, 1) := by decide +kernel
theorem dX7_next_35 : decode cX7_next 35 = .ok (.getfield 162, 3) := by decide +kernel
theorem dX7_next_38 : decode cX7_next 38 = .ok (.putfield 169, 3) := by decide +kernel
theorem dX7_next_41 : decode cX7_next 41 = .ok (.aload_n 0, 1) := by decide +kernel
theorem dX7_next_42 : decode cX7_next 42 = .ok (.iconst 1, 1) := by decide +kernel
theorem dX7_next_43 : decode cX7_next 43 = .ok (.putfield 172, 3) := by decide +kernel
theorem dX7_next_46 : decode cX7_next 46 = .ok (.aload_n 0, 1) := by decide +kernel
theorem dX7_next_47 : decode cX7_next 47 = .ok (.iconst 0, 1) := by decide +kernel
theorem dX7_next_48 : decode cX7_next 48 = .ok (.invokevirtual 165, 3) := by decide +kernel
theorem dX7_next_51 : decode cX7_next 51 = .ok (.istore_n 1, 1) := by decide +kernel
theorem dX7_next_52 : decode cX7_next 52 = .ok (.iload_n 1, 1) := by decide +kernel
theorem dX7_next_53 : decode cX7_next 53 = .ok (.iconst (-1), 1) := by decide +kernel
theorem dX7_next_54 : decode cX7_next 54 = .ok (.if_icmp .ne 11, 3) := by decide +kernel
theorem dX7_next_57 : decode cX7_next 57 = .ok (.aload_n 0, 1) := by decide +kernel
theorem dX7_next_58 : decode cX7_next 58 = .ok (.iconst 0, 1) := by decide +kernel
theorem dX7_next_59 : decode cX7_next 59 = .ok (.putfield 172, 3) := by decide +kernel
theorem dX7_next_62 : decode cX7_next 62 = .ok (.goto 317, 3) := by decide +kernel
theorem dX7_next_65 : decode cX7_next 65 = .ok (.aload_n 0, 1) := by decide +kernel
theorem dX7_next_66 : decode cX7_next 66 = .ok (.iload_n 1, 1) := by decide +kernel
theorem dX7_next_67 : decode cX7_next 67 = .ok (.invokevirtual 175, 3) := by decide +kernel
theorem dX7_next_70 : decode cX7_next 70 = .ok (.ifCond .eq 204, 3) := by decide +kernel
theorem dX7_next_73 : decode cX7_next 73 = .ok (.iconst 0, 1) := by decide +kernel
theorem dX7_next_74 : decode cX7_next 74 = .ok (.istore_n 2, 1) := by decide +kernel
theorem dX7_next_75 : decode cX7_next 75 = .ok (.aload_n 0, 1) := by decide +kernel
theorem dX7_next_76 : decode cX7_next 76 = .ok (.aload_n 0, 1) := by decide +kernel
theorem dX7_next_77 : decode cX7_next 77 = .ok (.iload_n 2, 1) := by decide +kernel
theorem dX7_next_78 : decode cX7_next 78 = .ok (.invokevirtual 165, 3) := by decide +kernel
theorem dX7_next_81 : decode cX7_next 81 = .ok (.invokevirtual 175, 3) := by decide +kernel
theorem dX7_next_84 : decode cX7_next 84 = .ok (.ifCond .eq 10, 3) := by decide +kernel
theorem dX7_next_87 : decode cX7_next 87 = .ok (.iload_n 2, 1) := by decide +kernel
theorem dX7_next_88 : decode cX7_next 88 = .ok (.iconst 1, 1) := by decide +kernel
theorem dX7_next_89 : decode cX7_next 89 = .ok (.iadd, 1) := by decide +kernel
theorem dX7_next_90 : decode cX7_next 90 = .ok (.istore_n 2, 1) := by decide +kernel
theorem dX7_next_91 : decode cX7_next 91 = .ok (.goto (-16), 3) := by decide +kernel
theorem dX7_next_94 : decode cX7_next 94 = .ok (.iload_n 2, 1) := by decide +kernel
theorem dX7_next_95 : decode cX7_next 95 = .ok (.iconst 5, 1) := by decide +kernel
theorem dX7_next_96 : decode cX7_next 96 = .ok (.if_icmp .ne 26, 3) := by decide +kernel
theorem dX7_next_99 : decode cX7_next 99 = .ok (.aload_n 0, 1) := by decide +kernel
theorem dX7_next_100 : decode cX7_next 100 = .ok (.iconst 5, 1) := by decide +kernel
theorem dX7_next_101 : decode cX7_next 101 = .ok (.bipush 115, 2) := by decide +kernel
theorem dX7_next_103 : decode cX7_next 103 = .ok (.bipush 116, 2) := by decide +kernel
theorem dX7_next_105 : decode cX7_next 105 = .ok (.bipush 101, 2) := by decide +kernel
theorem dX7_next_107 : decode cX7_next 107 = .ok (.bipush 101, 2) := by decide +kernel
theorem dX7_next_109 : decode cX7_next 109 = .ok (.bipush 114, 2) := by decide +kernel
theorem dX7_next_111 : decode cX7_next 111 = .ok (.invokevirtual 178, 3) := by decide +kernel
theorem dX7_next_114 : decode cX7_next 114 = .ok (.ifCond .eq 8, 3) := by decide +kernel
theorem dX7_next_117 : decode cX7_next 117 = .ok (.aload_n 0, 1) := by decide +kernel
theorem dX7_next_118 : decode cX7_next 118 = .ok (.iconst 2, 1) := by decide +kernel
theorem dX7_next_119 : decode cX7_next 119 = .ok (.putfield 172, 3) := by decide +kernel
theorem dX7_next_122 : decode cX7_next 122 = .ok (.iload_n 2, 1) := by decide +kernel
theorem dX7_next_123 : decode cX7_next 123 = .ok (.iconst 5, 1) := by decide +kernel
theorem dX7_next_124 : decode cX7_next 124 = .ok (.if_icmp .ne 26, 3) := by decide +kernel
theorem dX7_next_127 : decode cX7_next 127 = .ok (.aload_n 0, 1) := by decide +kernel
theorem dX7_next_128 : decode cX7_next 128 = .ok (.iconst 5, 1) := by decide +kernel
theorem dX7_next_129 : decode cX7_next 129 = .ok (.bipush 117, 2) := by decide +kernel
theorem dX7_next_131 : decode cX7_next 131 = .ok (.bipush 110, 2) := by decide +kernel
theorem dX7_next_133 : decode cX7_next 133 = .ok (.bipush 116, 2) := by decide +kernel
theorem dX7_next_135 : decode cX7_next 135 = .ok (.bipush 105, 2) := by decide +kernel
theorem dX7_next_137 : decode cX7_next 137 = .ok (.bipush 108, 2) := by decide +kernel
theorem dX7_next_139 : decode cX7_next 139 = .ok (.invokevirtual 178, 3) := by decide +kernel
theorem dX7_next_142 : decode cX7_next 142 = .ok (.ifCond .eq 8, 3) := by decide +kernel
theorem dX7_next_145 : decode cX7_next 145 = .ok (.aload_n 0, 1) := by decide +kernel
theorem dX7_next_146 : decode cX7_next 146 = .ok (.iconst 3, 1) := by decide +kernel
theorem dX7_next_147 : decode cX7_next 147 = .ok (.putfield 172, 3) := by decide +kernel
theorem dX7_next_150 : decode cX7_next 150 = .ok (.iload_n 2, 1) := by decide +kernel
theorem dX7_next_151 : decode cX7_next 151 = .ok (.iconst 3, 1) := by decide +kernel
theorem dX7_next_152 : decode cX7_next 152 = .ok (.if_icmp .ne 24, 3) := by decide +kernel
theorem dX7_next_155 : decode cX7_next 155 = .ok (.aload_n 0, 1) := by decide +kernel
theorem dX7_next_156 : decode cX7_next 156 = .ok (.iconst 3, 1) := by decide +kernel
theorem dX7_next_157 : decode cX7_next 157 = .ok (.bipush 102, 2) := by decide +kernel
theorem dX7_next_159 : decode cX7_next 159 = .ok (.bipush 111, 2) := by decide +kernel
theorem dX7_next_161 : decode cX7_next 161 = .ok (.bipush 114, 2) := by decide +kernel
theorem dX7_next_163 : decode cX7_next 163 = .ok (.iconst 0, 1) := by decide +kernel
theorem dX7_next_164 : decode cX7_next 164 = .ok (.iconst 0, 1) := by decide +kernel
theorem dX7_next_165 : decode cX7_next 165 = .ok (.invokevirtual 178, 3) := by decide +kernel
theorem dX7_next_168 : decode cX7_next 168 = .ok (.ifCond .eq 8, 3) := by decide +kernel
theorem dX7_next_171 : decode cX7_next 171 = .ok (.aload_n 0, 1) := by decide +kernel
theorem dX7_next_172 : decode cX7_next 172 = .ok (.iconst 4, 1) := by decide +kernel
theorem dX7_next_173 : decode cX7_next 173 = .ok (.putfield 172, 3) := by decide +kernel
theorem dX7_next_176 : decode cX7_next 176 = .ok (.iload_n 2, 1) := by decide +kernel
theorem dX7_next_177 : decode cX7_next 177 = .ok (.iconst 5, 1) := by decide +kernel
theorem dX7_next_178 : decode cX7_next 178 = .ok (.if_icmp .ne 26, 3) := by decide +kernel
theorem dX7_next_181 : decode cX7_next 181 = .ok (.aload_n 0, 1) := by decide +kernel
theorem dX7_next_182 : decode cX7_next 182 = .ok (.iconst 5, 1) := by decide +kernel
theorem dX7_next_183 : decode cX7_next 183 = .ok (.bipush 98, 2) := by decide +kernel
theorem dX7_next_185 : decode cX7_next 185 = .ok (.bipush 105, 2) := by decide +kernel
theorem dX7_next_187 : decode cX7_next 187 = .ok (.bipush 114, 2) := by decide +kernel
theorem dX7_next_189 : decode cX7_next 189 = .ok (.bipush 100, 2) := by decide +kernel
theorem dX7_next_191 : decode cX7_next 191 = .ok (.bipush 115, 2) := by decide +kernel
theorem dX7_next_193 : decode cX7_next 193 = .ok (.invokevirtual 178, 3) := by decide +kernel
theorem dX7_next_196 : decode cX7_next 196 = .ok (.ifCond .eq 8, 3) := by decide +kernel
theorem dX7_next_199 : decode cX7_next 199 = .ok (.aload_n 0, 1) := by decide +kernel
theorem dX7_next_200 : decode cX7_next 200 = .ok (.iconst 5, 1) := by decide +kernel
theorem dX7_next_201 : decode cX7_next 201 = .ok (.putfield 172, 3) := by decide +kernel
theorem dX7_next_204 : decode cX7_next 204 = .ok (.iload_n 2, 1) := by decide +kernel
theorem dX7_next_205 : decode cX7_next 205 = .ok (.iconst 5, 1) := by decide +kernel
theorem dX7_next_206 : decode cX7_next 206 = .ok (.if_icmp .ne 27, 3) := by decide +kernel
theorem dX7_next_209 : decode cX7_next 209 = .ok (.aload_n 0, 1) := by decide +kernel
theorem dX7_next_210 : decode cX7_next 210 = .ok (.iconst 5, 1) := by decide +kernel
theorem dX7_next_211 : decode cX7_next 211 = .ok (.bipush 115, 2) := by decide +kernel
theorem dX7_next_213 : decode cX7_next 213 = .ok (.bipush 119, 2) := by decide +kernel
theorem dX7_next_215 : decode cX7_next 215 = .ok (.bipush 101, 2) := by decide +kernel
theorem dX7_next_217 : decode cX7_next 217 = .ok (.bipush 108, 2) := by decide +kernel
theorem dX7_next_219 : decode cX7_next 219 = .ok (.bipush 108, 2) := by decide +kernel
theorem dX7_next_221 : decode cX7_next 221 = .ok (.invokevirtual 178, 3) := by decide +kernel
theorem dX7_next_224 : decode cX7_next 224 = .ok (.ifCond .eq 9, 3) := by decide +kernel
theorem dX7_next_227 : decode cX7_next 227 = .ok (.aload_n 0, 1) := by decide +kernel
theorem dX7_next_228 : decode cX7_next 228 = .ok (.bipush 6, 2) := by decide +kernel
theorem dX7_next_230 : decode cX7_next 230 = .ok (.putfield 172, 3) := by decide +kernel
theorem dX7_next_233 : decode cX7_next 233 = .ok (.iload_n 2, 1) := by decide +kernel
theorem dX7_next_234 : decode cX7_next 234 = .ok (.iconst 4, 1) := by decide +kernel
theorem dX7_next_235 : decode cX7_next 235 = .ok (.if_icmp .ne 26, 3) := by decide +kernel
theorem dX7_next_238 : decode cX7_next 238 = .ok (.aload_n 0, 1) := by decide +kernel
theorem dX7_next_239 : decode cX7_next 239 = .ok (.iconst 4, 1) := by decide +kernel
theorem dX7_next_240 : decode cX7_next 240 = .ok (.bipush 115, 2) := by decide +kernel
theorem dX7_next_242 : decode cX7_next 242 = .ok (.bipush 116, 2) := by decide +kernel
theorem dX7_next_244 : decode cX7_next 244 = .ok (.bipush 97, 2) := by decide +kernel
theorem dX7_next_246 : decode cX7_next 246 = .ok (.bipush 114, 2) := by decide +kernel
theorem dX7_next_248 : decode cX7_next 248 = .ok (.iconst 0, 1) := by decide +kernel
theorem dX7_next_249 : decode cX7_next 249 = .ok (.invokevirtual 178, 3) := by decide +kernel
theorem dX7_next_252 : decode cX7_next 252 = .ok (.ifCond .eq 9, 3) := by decide +kernel
theorem dX7_next_255 : decode cX7_next 255 = .ok (.aload_n 0, 1) := by decide +kernel
theorem dX7_next_256 : decode cX7_next 256 = .ok (.bipush 7, 2) := by decide +kernel
theorem dX7_next_258 : decode cX7_next 258 = .ok (.putfield 172, 3) := by decide +kernel
theorem dX7_next_261 : decode cX7_next 261 = .ok (.aload_n 0, 1) := by decide +kernel
theorem dX7_next_262 : decode cX7_next 262 = .ok (.aload_n 0, 1) := by decide +kernel
theorem dX7_next_263 : decode cX7_next 263 = .ok (.getfield 162, 3) := by decide +kernel
theorem dX7_next_266 : decode cX7_next 266 = .ok (.iload_n 2, 1) := by decide +kernel
theorem dX7_next_267 : decode cX7_next 267 = .ok (.iadd, 1) := by decide +kernel
theorem dX7_next_268 : decode cX7_next 268 = .ok (.putfield 162, 3) := by decide +kernel
theorem dX7_next_271 : decode cX7_next 271 = .ok (.goto 108, 3) := by decide +kernel
theorem dX7_next_274 : decode cX7_next 274 = .ok (.aload_n 0, 1) := by decide +kernel
theorem dX7_next_275 : decode cX7_next 275 = .ok (.iload_n 1, 1) := by decide +kernel
theorem dX7_next_276 : decode cX7_next 276 = .ok (.invokevirtual 182, 3) := by decide +kernel
theorem dX7_next_279 : decode cX7_next 279 = .ok (.ifCond .eq 78, 3) := by decide +kernel
theorem dX7_next_282 : decode cX7_next 282 = .ok (.iconst 0, 1) := by decide +kernel
theorem dX7_next_283 : decode cX7_next 283 = .ok (.istore_n 2, 1) := by decide +kernel
theorem dX7_next_284 : decode cX7_next 284 = .ok (.aload_n 0, 1) := by decide +kernel
theorem dX7_next_285 : decode cX7_next 285 = .ok (.iconst 0, 1) := by decide +kernel
theorem dX7_next_286 : decode cX7_next 286 = .ok (.putfield 185, 3) := by decide +kernel
theorem dX7_next_289 : decode cX7_next 289 = .ok (.aload_n 0, 1) := by decide +kernel
theorem dX7_next_290 : decode cX7_next 290 = .ok (.aload_n 0, 1) := by decide +kernel
theorem dX7_next_291 : decode cX7_next 291 = .ok (.iconst 0, 1) := by decide +kernel
theorem dX7_next_292 : decode cX7_next 292 = .ok (.invokevirtual 165, 3) := by decide +kernel
theorem dX7_next_295 : decode cX7_next 295 = .ok (.invokevirtual 182, 3) := by decide +kernel
theorem dX7_next_298 : decode cX7_next 298 = .ok (.ifCond .eq 45, 3) := by decide +kernel
theorem dX7_next_301 : decode cX7_next 301 = .ok (.iload_n 2, 1) := by decide +kernel
theorem dX7_next_302 : decode cX7_next 302 = .ok (.iconst 2, 1) := by decide +kernel
theorem dX7_next_303 : decode cX7_next 303 = .ok (.if_icmp .ge 23, 3) := by decide +kernel
theorem dX7_next_306 : decode cX7_next 306 = .ok (.aload_n 0, 1) := by decide +kernel
theorem dX7_next_307 : decode cX7_next 307 = .ok (.bipush 10, 2) := by decide +kernel
theorem dX7_next_309 : decode cX7_next 309 = .ok (.aload_n 0, 1) := by decide +kernel
theorem dX7_next_310 : decode cX7_next 310 = .ok (.getfield 185, 3) := by decide +kernel
theorem dX7_next_313 : decode cX7_next 313 = .ok (.imul, 1) := by decide +kernel
theorem dX7_next_314 : decode cX7_next 314 = .ok (.aload_n 0, 1) := by decide +kernel
theorem dX7_next_315 : decode cX7_next 315 = .ok (.iconst 0, 1) := by decide +kernel
theorem dX7_next_316 : decode cX7_next 316 = .ok (.invokevirtual 165, 3) := by decide +kernel
theorem dX7_next_319 : decode cX7_next 319 = .ok (.iadd, 1) := by decide +kernel
theorem dX7_next_320 : decode cX7_next 320 = .ok (.bipush 48, 2) := by decide +kernel
theorem dX7_next_322 : decode cX7_next 322 = .ok (.isub, 1) := by decide +kernel
theorem dX7_next_323 : decode cX7_next 323 = .ok (.putfield 185, 3) := by decide +kernel
theorem dX7_next_326 : decode cX7_next 326 = .ok (.iload_n 2, 1) := by decide +kernel
theorem dX7_next_327 : decode cX7_next 327 = .ok (.iconst 1, 1) := by decide +kernel
theorem dX7_next_328 : decode cX7_next 328 = .ok (.iadd, 1) := by decide +kernel
theorem dX7_next_329 : decode cX7_next 329 = .ok (.istore_n 2, 1) := by decide +kernel
theorem dX7_next_330 : decode cX7_next 330 = .ok (.aload_n 0, 1) := by decide +kernel
theorem dX7_next_331 : decode cX7_next 331 = .ok (.aload_n 0, 1) := by decide +kernel
theorem dX7_next_332 : decode cX7_next 332 = .ok (.getfield 162, 3) := by decide +kernel
theorem dX7_next_335 : decode cX7_next 335 = .ok (.iconst 1, 1) := by decide +kernel
theorem dX7_next_336 : decode cX7_next 336 = .ok (.iadd, 1) := by decide +kernel
theorem dX7_next_337 : decode cX7_next 337 = .ok (.putfield 162, 3) := by decide +kernel
theorem dX7_next_340 : decode cX7_next 340 = .ok (.goto (-51), 3) := by decide +kernel
theorem dX7_next_343 : decode cX7_next 343 = .ok (.iload_n 2, 1) := by decide +kernel
theorem dX7_next_344 : decode cX7_next 344 = .ok (.iconst 3, 1) := by decide +kernel
theorem dX7_next_345 : decode cX7_next 345 = .ok (.if_icmp .ge 9, 3) := by decide +kernel
theorem dX7_next_348 : decode cX7_next 348 = .ok (.aload_n 0, 1) := by decide +kernel
theorem dX7_next_349 : decode cX7_next 349 = .ok (.bipush 8, 2) := by decide +kernel
theorem dX7_next_351 : decode cX7_next 351 = .ok (.putfield 172, 3) := by decide +kernel
theorem dX7_next_354 : decode cX7_next 354 = .ok (.goto 25, 3) := by decide +kernel
theorem dX7_next_357 : decode cX7_next 357 = .ok (.iload_n 1, 1) := by decide +kernel
theorem dX7_next_358 : decode cX7_next 358 = .ok (.bipush 59, 2) := by decide +kernel
theorem dX7_next_360 : decode cX7_next 360 = .ok (.if_icmp .ne 9, 3) := by decide +kernel
theorem dX7_next_363 : decode cX7_next 363 = .ok (.aload_n 0, 1) := by decide +kernel
theorem dX7_next_364 : decode cX7_next 364 = .ok (.bipush 9, 2) := by decide +kernel
theorem dX7_next_366 : decode cX7_next 366 = .ok (.putfield 172, 3) := by decide +kernel
theorem dX7_next_369 : decode cX7_next 369 = .ok (.aload_n 0, 1) := by decide +kernel
theorem dX7_next_370 : decode cX7_next 370 = .ok (.aload_n 0, 1) := by decide +kernel
theorem dX7_next_371 : decode cX7_next 371 = .ok (.getfield 162, 3) := by decide +kernel
theorem dX7_next_374 : decode cX7_next 374 = .ok (.iconst 1, 1) := by decide +kernel
theorem dX7_next_375 : decode cX7_next 375 = .ok (.iadd, 1) := by decide +kernel
theorem dX7_next_376 : decode cX7_next 376 = .ok (.putfield 162, 3) := by decide +kernel
theorem dX7_next_379 : decode cX7_next 379 = .ok (.return_, 1) := by decide +kernel
theorem dX7_fails_0 : decode cX7_fails 0 = .ok (.aload_n 0, 1) := by decide +kernel
theorem dX7_fails_1 : decode cX7_fails 1 = .ok (.iload_n 1, 1) := by decide +kernel
theorem dX7_fails_2 : decode cX7_fails 2 = .ok (.putfield 159, 3) := by decide +kernel
theorem dX7_fails_5 : decode cX7_fails 5 = .ok (.aload_n 0, 1) := by decide +kernel
theorem dX7_fails_6 : decode cX7_fails 6 = .ok (.aload_n 0, 1) := by decide +kernel
theorem dX7_fails_7 : decode cX7_fails 7 = .ok (.getfield 169, 3) := by decide +kernel
theorem dX7_fails_10 : decode cX7_fails 10 = .ok (.putfield 62, 3) := by decide +kernel
theorem dX7_fails_13 : decode cX7_fails 13 = .ok (.iconst 0, 1) := by decide +kernel
theorem dX7_fails_14 : decode cX7_fails 14 = .ok (.ireturn, 1) := by decide +kernel
theorem dX7_takes_0 : decode cX7_takes 0 = .ok (.aload_n 0, 1) := by decide +kernel
theorem dX7_takes_1 : decode cX7_takes 1 = .ok (.getfield 172, 3) := by decide +kernel
theorem dX7_takes_4 : decode cX7_takes 4 = .ok (.bipush 8, 2) := by decide +kernel
theorem dX7_takes_6 : decode cX7_takes 6 = .ok (.if_icmp .eq 9, 3) := by decide +kernel
theorem dX7_takes_9 : decode cX7_takes 9 = .ok (.aload_n 0, 1) := by decide +kernel
theorem dX7_takes_10 : decode cX7_takes 10 = .ok (.iconst 1, 1) := by decide +kernel
theorem dX7_takes_11 : decode cX7_takes 11 = .ok (.invokevirtual 188, 3) := by decide +kernel
theorem dX7_takes_14 : decode cX7_takes 14 = .ok (.ireturn, 1) := by decide +kernel
theorem dX7_takes_15 : decode cX7_takes 15 = .ok (.aload_n 0, 1) := by decide +kernel
theorem dX7_takes_16 : decode cX7_takes 16 = .ok (.getfield 185, 3) := by decide +kernel
theorem dX7_takes_19 : decode cX7_takes 19 = .ok (.iload_n 1, 1) := by decide +kernel
theorem dX7_takes_20 : decode cX7_takes 20 = .ok (.if_icmp .lt 11, 3) := by decide +kernel
theorem dX7_takes_23 : decode cX7_takes 23 = .ok (.aload_n 0, 1) := by decide +kernel
theorem dX7_takes_24 : decode cX7_takes 24 = .ok (.getfield 185, 3) := by decide +kernel
theorem dX7_takes_27 : decode cX7_takes 27 = .ok (.iload_n 2, 1) := by decide +kernel
theorem dX7_takes_28 : decode cX7_takes 28 = .ok (.if_icmp .le 9, 3) := by decide +kernel
theorem dX7_takes_31 : decode cX7_takes 31 = .ok (.aload_n 0, 1) := by decide +kernel
theorem dX7_takes_32 : decode cX7_takes 32 = .ok (.iconst 2, 1) := by decide +kernel
theorem dX7_takes_33 : decode cX7_takes 33 = .ok (.invokevirtual 188, 3) := by decide +kernel
theorem dX7_takes_36 : decode cX7_takes 36 = .ok (.ireturn, 1) := by decide +kernel
theorem dX7_takes_37 : decode cX7_takes 37 = .ok (.iconst 1, 1) := by decide +kernel
theorem dX7_takes_38 : decode cX7_takes 38 = .ok (.ireturn, 1) := by decide +kernel
theorem dX7_readLine_0 : decode cX7_readLine 0 = .ok (.aload_n 0, 1) := by decide +kernel
theorem dX7_readLine_1 : decode cX7_readLine 1 = .ok (.getfield 191, 3) := by decide +kernel
theorem dX7_readLine_4 : decode cX7_readLine 4 = .ok (.bipush 12, 2) := by decide +kernel
theorem dX7_readLine_6 : decode cX7_readLine 6 = .ok (.if_icmp .ne 9, 3) := by decide +kernel
theorem dX7_readLine_9 : decode cX7_readLine 9 = .ok (.aload_n 0, 1) := by decide +kernel
theorem dX7_readLine_10 : decode cX7_readLine 10 = .ok (.iconst 3, 1) := by decide +kernel
theorem dX7_readLine_11 : decode cX7_readLine 11 = .ok (.invokevirtual 188, 3) := by decide +kernel
theorem dX7_readLine_14 : decode cX7_readLine 14 = .ok (.ireturn, 1) := by decide +kernel
theorem dX7_readLine_15 : decode cX7_readLine 15 = .ok (.aload_n 0, 1) := by decide +kernel
theorem dX7_readLine_16 : decode cX7_readLine 16 = .ok (.invokevirtual 194, 3) := by decide +kernel
theorem dX7_readLine_19 : decode cX7_readLine 19 = .ok (.aload_n 0, 1) := by decide +kernel
theorem dX7_readLine_20 : decode cX7_readLine 20 = .ok (.iconst 0, 1) := by decide +kernel
theorem dX7_readLine_21 : decode cX7_readLine 21 = .ok (.bipush 8, 2) := by decide +kernel
theorem dX7_readLine_23 : decode cX7_readLine 23 = .ok (.invokevirtual 197, 3) := by decide +kernel
theorem dX7_readLine_26 : decode cX7_readLine 26 = .ok (.ifCond .ne 5, 3) := by decide +kernel
theorem dX7_readLine_29 : decode cX7_readLine 29 = .ok (.iconst 0, 1) := by decide +kernel
theorem dX7_readLine_30 : decode cX7_readLine 30 = .ok (.ireturn, 1) := by decide +kernel
theorem dX7_readLine_31 : decode cX7_readLine 31 = .ok (.aload_n 0, 1) := by decide +kernel
theorem dX7_readLine_32 : decode cX7_readLine 32 = .ok (.getfield 47, 3) := by decide +kernel
theorem dX7_readLine_35 : decode cX7_readLine 35 = .ok (.aload_n 0, 1) := by decide +kernel
theorem dX7_readLine_36 : decode cX7_readLine 36 = .ok (.getfield 191, 3) := by decide +kernel
theorem dX7_readLine_39 : decode cX7_readLine 39 = .ok (.aload_n 0, 1) := by decide +kernel
theorem dX7_readLine_40 : decode cX7_readLine 40 = .ok (.getfield 185, 3) := by decide +kernel
theorem dX7_readLine_43 : decode cX7_readLine 43 = .ok (.iastore, 1) := by decide +kernel
theorem dX7_readLine_44 : decode cX7_readLine 44 = .ok (.aload_n 0, 1) := by decide +kernel
theorem dX7_readLine_45 : decode cX7_readLine 45 = .ok (.getfield 50, 3) := by decide +kernel
theorem dX7_readLine_48 : decode cX7_readLine 48 = .ok (.aload_n 0, 1) := by decide +kernel
theorem dX7_readLine_49 : decode cX7_readLine 49 = .ok (.getfield 191, 3) := by decide +kernel
theorem dX7_readLine_52 : decode cX7_readLine 52 = .ok (.iconst 0, 1) := by decide +kernel
theorem dX7_readLine_53 : decode cX7_readLine 53 = .ok (.iastore, 1) := by decide +kernel
theorem dX7_readLine_54 : decode cX7_readLine 54 = .ok (.aload_n 0, 1) := by decide +kernel
theorem dX7_readLine_55 : decode cX7_readLine 55 = .ok (.getfield 53, 3) := by decide +kernel
theorem dX7_readLine_58 : decode cX7_readLine 58 = .ok (.aload_n 0, 1) := by decide +kernel
theorem dX7_readLine_59 : decode cX7_readLine 59 = .ok (.getfield 191, 3) := by decide +kernel
theorem dX7_readLine_62 : decode cX7_readLine 62 = .ok (.iconst 0, 1) := by decide +kernel
theorem dX7_readLine_63 : decode cX7_readLine 63 = .ok (.iastore, 1) := by decide +kernel
theorem dX7_readLine_64 : decode cX7_readLine 64 = .ok (.aload_n 0, 1) := by decide +kernel
theorem dX7_readLine_65 : decode cX7_readLine 65 = .ok (.invokevirtual 194, 3) := by decide +kernel
theorem dX7_readLine_68 : decode cX7_readLine 68 = .ok (.aload_n 0, 1) := by decide +kernel
theorem dX7_readLine_69 : decode cX7_readLine 69 = .ok (.getfield 172, 3) := by decide +kernel
theorem dX7_readLine_72 : decode cX7_readLine 72 = .ok (.iconst 3, 1) := by decide +kernel
theorem dX7_readLine_73 : decode cX7_readLine 73 = .ok (.if_icmp .ne 91, 3) := by decide +kernel
theorem dX7_readLine_76 : decode cX7_readLine 76 = .ok (.aload_n 0, 1) := by decide +kernel
theorem dX7_readLine_77 : decode cX7_readLine 77 = .ok (.invokevirtual 194, 3) := by decide +kernel
theorem dX7_readLine_80 : decode cX7_readLine 80 = .ok (.aload_n 0, 1) := by decide +kernel
theorem dX7_readLine_81 : decode cX7_readLine 81 = .ok (.getfield 172, 3) := by decide +kernel
theorem dX7_readLine_84 : decode cX7_readLine 84 = .ok (.iconst 5, 1) := by decide +kernel
theorem dX7_readLine_85 : decode cX7_readLine 85 = .ok (.if_icmp .eq 27, 3) := by decide +kernel
theorem dX7_readLine_88 : decode cX7_readLine 88 = .ok (.aload_n 0, 1) := by decide +kernel
theorem dX7_readLine_89 : decode cX7_readLine 89 = .ok (.getfield 172, 3) := by decide +kernel
theorem dX7_readLine_92 : decode cX7_readLine 92 = .ok (.bipush 6, 2) := by decide +kernel
theorem dX7_readLine_94 : decode cX7_readLine 94 = .ok (.if_icmp .eq 18, 3) := by decide +kernel
theorem dX7_readLine_97 : decode cX7_readLine 97 = .ok (.aload_n 0, 1) := by decide +kernel
theorem dX7_readLine_98 : decode cX7_readLine 98 = .ok (.getfield 172, 3) := by decide +kernel
theorem dX7_readLine_101 : decode cX7_readLine 101 = .ok (.bipush 7, 2) := by decide +kernel
theorem dX7_readLine_103 : decode cX7_readLine 103 = .ok (.if_icmp .eq 9, 3) := by decide +kernel
theorem dX7_readLine_106 : decode cX7_readLine 106 = .ok (.aload_n 0, 1) := by decide +kernel
theorem dX7_readLine_107 : decode cX7_readLine 107 = .ok (.iconst 1, 1) := by decide +kernel
theorem dX7_readLine_108 : decode cX7_readLine 108 = .ok (.invokevirtual 188, 3) := by decide +kernel
theorem dX7_readLine_111 : decode cX7_readLine 111 = .ok (.ireturn, 1) := by decide +kernel
theorem dX7_readLine_112 : decode cX7_readLine 112 = .ok (.aload_n 0, 1) := by decide +kernel
theorem dX7_readLine_113 : decode cX7_readLine 113 = .ok (.getfield 172, 3) := by decide +kernel
theorem dX7_readLine_116 : decode cX7_readLine 116 = .ok (.istore_n 1, 1) := by decide +kernel
theorem dX7_readLine_117 : decode cX7_readLine 117 = .ok (.aload_n 0, 1) := by decide +kernel
theorem dX7_readLine_118 : decode cX7_readLine 118 = .ok (.getfield 50, 3) := by decide +kernel
theorem dX7_readLine_121 : decode cX7_readLine 121 = .ok (.aload_n 0, 1) := by decide +kernel
theorem dX7_readLine_122 : decode cX7_readLine 122 = .ok (.getfield 191, 3) := by decide +kernel
theorem dX7_readLine_125 : decode cX7_readLine 125 = .ok (.iload_n 1, 1) := by decide +kernel
theorem dX7_readLine_126 : decode cX7_readLine 126 = .ok (.iastore, 1) := by decide +kernel
theorem dX7_readLine_127 : decode cX7_readLine 127 = .ok (.aload_n 0, 1) := by decide +kernel
theorem dX7_readLine_128 : decode cX7_readLine 128 = .ok (.invokevirtual 194, 3) := by decide +kernel
theorem dX7_readLine_131 : decode cX7_readLine 131 = .ok (.iload_n 1, 1) := by decide +kernel
theorem dX7_readLine_132 : decode cX7_readLine 132 = .ok (.iconst 5, 1) := by decide +kernel
theorem dX7_readLine_133 : decode cX7_readLine 133 = .ok (.if_icmp .eq 31, 3) := by decide +kernel
theorem dX7_readLine_136 : decode cX7_readLine 136 = .ok (.aload_n 0, 1) := by decide +kernel
theorem dX7_readLine_137 : decode cX7_readLine 137 = .ok (.iconst 0, 1) := by decide +kernel
theorem dX7_readLine_138 : decode cX7_readLine 138 = .ok (.iconst 3, 1) := by decide +kernel
theorem dX7_readLine_139 : decode cX7_readLine 139 = .ok (.invokevirtual 197, 3) := by decide +kernel
theorem dX7_readLine_142 : decode cX7_readLine 142 = .ok (.ifCond .ne 5, 3) := by decide +kernel
theorem dX7_readLine_145 : decode cX7_readLine 145 = .ok (.iconst 0, 1) := by decide +kernel
theorem dX7_readLine_146 : decode cX7_readLine 146 = .ok (.ireturn, 1) := by decide +kernel
theorem dX7_readLine_147 : decode cX7_readLine 147 = .ok (.aload_n 0, 1) := by decide +kernel
theorem dX7_readLine_148 : decode cX7_readLine 148 = .ok (.getfield 53, 3) := by decide +kernel
theorem dX7_readLine_151 : decode cX7_readLine 151 = .ok (.aload_n 0, 1) := by decide +kernel
theorem dX7_readLine_152 : decode cX7_readLine 152 = .ok (.getfield 191, 3) := by decide +kernel
theorem dX7_readLine_155 : decode cX7_readLine 155 = .ok (.aload_n 0, 1) := by decide +kernel
theorem dX7_readLine_156 : decode cX7_readLine 156 = .ok (.getfield 185, 3) := by decide +kernel
theorem dX7_readLine_159 : decode cX7_readLine 159 = .ok (.iastore, 1) := by decide +kernel
theorem dX7_readLine_160 : decode cX7_readLine 160 = .ok (.aload_n 0, 1) := by decide +kernel
theorem dX7_readLine_161 : decode cX7_readLine 161 = .ok (.invokevirtual 194, 3) := by decide +kernel
theorem dX7_readLine_164 : decode cX7_readLine 164 = .ok (.aload_n 0, 1) := by decide +kernel
theorem dX7_readLine_165 : decode cX7_readLine 165 = .ok (.getfield 172, 3) := by decide +kernel
theorem dX7_readLine_168 : decode cX7_readLine 168 = .ok (.iconst 4, 1) := by decide +kernel
theorem dX7_readLine_169 : decode cX7_readLine 169 = .ok (.if_icmp .eq 9, 3) := by decide +kernel
theorem dX7_readLine_172 : decode cX7_readLine 172 = .ok (.aload_n 0, 1) := by decide +kernel
theorem dX7_readLine_173 : decode cX7_readLine 173 = .ok (.iconst 1, 1) := by decide +kernel
theorem dX7_readLine_174 : decode cX7_readLine 174 = .ok (.invokevirtual 188, 3) := by decide +kernel
theorem dX7_readLine_177 : decode cX7_readLine 177 = .ok (.ireturn, 1) := by decide +kernel
theorem dX7_readLine_178 : decode cX7_readLine 178 = .ok (.aload_n 0, 1) := by decide +kernel
theorem dX7_readLine_179 : decode cX7_readLine 179 = .ok (.invokevirtual 194, 3) := by decide +kernel
theorem dX7_readLine_182 : decode cX7_readLine 182 = .ok (.aload_n 0, 1) := by decide +kernel
theorem dX7_readLine_183 : decode cX7_readLine 183 = .ok (.iconst 1, 1) := by decide +kernel
theorem dX7_readLine_184 : decode cX7_readLine 184 = .ok (.bipush 20, 2) := by decide +kernel
theorem dX7_readLine_186 : decode cX7_readLine 186 = .ok (.invokevirtual 197, 3) := by decide +kernel
theorem dX7_readLine_189 : decode cX7_readLine 189 = .ok (.ifCond .ne 5, 3) := by decide +kernel
theorem dX7_readLine_192 : decode cX7_readLine 192 = .ok (.iconst 0, 1) := by decide +kernel
theorem dX7_readLine_193 : decode cX7_readLine 193 = .ok (.ireturn, 1) := by decide +kernel
theorem dX7_readLine_194 : decode cX7_readLine 194 = .ok (.aload_n 0, 1) := by decide +kernel
theorem dX7_readLine_195 : decode cX7_readLine 195 = .ok (.getfield 56, 3) := by decide +kernel
theorem dX7_readLine_198 : decode cX7_readLine 198 = .ok (.aload_n 0, 1) := by decide +kernel
theorem dX7_readLine_199 : decode cX7_readLine 199 = .ok (.getfield 191, 3) := by decide +kernel
theorem dX7_readLine_202 : decode cX7_readLine 202 = .ok (.aload_n 0, 1) := by decide +kernel
theorem dX7_readLine_203 : decode cX7_readLine 203 = .ok (.getfield 185, 3) := by decide +kernel
theorem dX7_readLine_206 : decode cX7_readLine 206 = .ok (.iastore, 1) := by decide +kernel
theorem dX7_readLine_207 : decode cX7_readLine 207 = .ok (.aload_n 0, 1) := by decide +kernel
theorem dX7_readLine_208 : decode cX7_readLine 208 = .ok (.invokevirtual 194, 3) := by decide +kernel
theorem dX7_readLine_211 : decode cX7_readLine 211 = .ok (.aload_n 0, 1) := by decide +kernel
theorem dX7_readLine_212 : decode cX7_readLine 212 = .ok (.getfield 172, 3) := by decide +kernel
theorem dX7_readLine_215 : decode cX7_readLine 215 = .ok (.bipush 9, 2) := by decide +kernel
theorem dX7_readLine_217 : decode cX7_readLine 217 = .ok (.if_icmp .eq 9, 3) := by decide +kernel
theorem dX7_readLine_220 : decode cX7_readLine 220 = .ok (.aload_n 0, 1) := by decide +kernel
theorem dX7_readLine_221 : decode cX7_readLine 221 = .ok (.iconst 1, 1) := by decide +kernel
theorem dX7_readLine_222 : decode cX7_readLine 222 = .ok (.invokevirtual 188, 3) := by decide +kernel
theorem dX7_readLine_225 : decode cX7_readLine 225 = .ok (.ireturn, 1) := by decide +kernel
theorem dX7_readLine_226 : decode cX7_readLine 226 = .ok (.aload_n 0, 1) := by decide +kernel
theorem dX7_readLine_227 : decode cX7_readLine 227 = .ok (.aload_n 0, 1) := by decide +kernel
theorem dX7_readLine_228 : decode cX7_readLine 228 = .ok (.getfield 191, 3) := by decide +kernel
theorem dX7_readLine_231 : decode cX7_readLine 231 = .ok (.iconst 1, 1) := by decide +kernel
theorem dX7_readLine_232 : decode cX7_readLine 232 = .ok (.iadd, 1) := by decide +kernel
theorem dX7_readLine_233 : decode cX7_readLine 233 = .ok (.putfield 191, 3) := by decide +kernel
theorem dX7_readLine_236 : decode cX7_readLine 236 = .ok (.aload_n 0, 1) := by decide +kernel
theorem dX7_readLine_237 : decode cX7_readLine 237 = .ok (.invokevirtual 194, 3) := by decide +kernel
theorem dX7_readLine_240 : decode cX7_readLine 240 = .ok (.iconst 1, 1) := by decide +kernel
theorem dX7_readLine_241 : decode cX7_readLine 241 = .ok (.ireturn, 1) := by decide +kernel
theorem dX7_readText_0 : decode cX7_readText 0 = .ok (.aload_n 0, 1) := by decide +kernel
theorem dX7_readText_1 : decode cX7_readText 1 = .ok (.iconst 0, 1) := by decide +kernel
theorem dX7_readText_2 : decode cX7_readText 2 = .ok (.putfield 162, 3) := by decide +kernel
theorem dX7_readText_5 : decode cX7_readText 5 = .ok (.aload_n 0, 1) := by decide +kernel
theorem dX7_readText_6 : decode cX7_readText 6 = .ok (.iconst 0, 1) := by decide +kernel
theorem dX7_readText_7 : decode cX7_readText 7 = .ok (.putfield 191, 3) := by decide +kernel
theorem dX7_readText_10 : decode cX7_readText 10 = .ok (.aload_n 0, 1) := by decide +kernel
theorem dX7_readText_11 : decode cX7_readText 11 = .ok (.invokevirtual 194, 3) := by decide +kernel
theorem dX7_readText_14 : decode cX7_readText 14 = .ok (.aload_n 0, 1) := by decide +kernel
theorem dX7_readText_15 : decode cX7_readText 15 = .ok (.getfield 172, 3) := by decide +kernel
theorem dX7_readText_18 : decode cX7_readText 18 = .ok (.iconst 2, 1) := by decide +kernel
theorem dX7_readText_19 : decode cX7_readText 19 = .ok (.if_icmp .ne 12, 3) := by decide +kernel
theorem dX7_readText_22 : decode cX7_readText 22 = .ok (.aload_n 0, 1) := by decide +kernel
theorem dX7_readText_23 : decode cX7_readText 23 = .ok (.invokevirtual 201, 3) := by decide +kernel
theorem dX7_readText_26 : decode cX7_readText 26 = .ok (.ifCond .ne (-12), 3) := by decide +kernel
theorem dX7_readText_29 : decode cX7_readText 29 = .ok (.iconst 0, 1) := by decide +kernel
theorem dX7_readText_30 : decode cX7_readText 30 = .ok (.ireturn, 1) := by decide +kernel
theorem dX7_readText_31 : decode cX7_readText 31 = .ok (.aload_n 0, 1) := by decide +kernel
theorem dX7_readText_32 : decode cX7_readText 32 = .ok (.getfield 172, 3) := by decide +kernel
theorem dX7_readText_35 : decode cX7_readText 35 = .ok (.ifCond .eq 11, 3) := by decide +kernel
end
section
theorem dX7_readText_38 : decode cX7_readText 38 = .ok (.aload_n 0, 1) := by decide +kernel
theorem dX7_readText_39 : decode cX7_readText 39 = .ok (.iconst 1, 1) := by decide +kernel
theorem dX7_readText_40 : decode cX7_readText 40 = .ok (.invokevirtual 188, 3) := by decide +kernel
theorem dX7_readText_43 : decode cX7_readText 43 = .ok (.ifCond .eq 7, 3) := by decide +kernel
theorem dX7_readText_46 : decode cX7_readText 46 = .ok (.iconst 1, 1) := by decide +kernel
theorem dX7_readText_47 : decode cX7_readText 47 = .ok (.goto 4, 3) := by decide +kernel
theorem dX7_readText_50 : decode cX7_readText 50 = .ok (.iconst 0, 1) := by decide +kernel
theorem dX7_readText_51 : decode cX7_readText 51 = .ok (.ireturn, 1) := by decide +kernel
theorem dX7_chant_0 : decode cX7_chant 0 = .ok (.aload_n 0, 1) := by decide +kernel
theorem dX7_chant_1 : decode cX7_chant 1 = .ok (.iconst 0, 1) := by decide +kernel
theorem dX7_chant_2 : decode cX7_chant 2 = .ok (.putfield 87, 3) := by decide +kernel
theorem dX7_chant_5 : decode cX7_chant 5 = .ok (.aload_n 0, 1) := by decide +kernel
theorem dX7_chant_6 : decode cX7_chant 6 = .ok (.invokevirtual 205, 3) := by decide +kernel
theorem dX7_chant_9 : decode cX7_chant 9 = .ok (.istore_n 1, 1) := by decide +kernel
theorem dX7_chant_10 : decode cX7_chant 10 = .ok (.aload_n 0, 1) := by decide +kernel
theorem dX7_chant_11 : decode cX7_chant 11 = .ok (.iconst 0, 1) := by decide +kernel
theorem dX7_chant_12 : decode cX7_chant 12 = .ok (.putfield 152, 3) := by decide +kernel
theorem dX7_chant_15 : decode cX7_chant 15 = .ok (.iload_n 1, 1) := by decide +kernel
theorem dX7_chant_16 : decode cX7_chant 16 = .ok (.ifCond .ne 5, 3) := by decide +kernel
theorem dX7_chant_19 : decode cX7_chant 19 = .ok (.iconst (-1), 1) := by decide +kernel
theorem dX7_chant_20 : decode cX7_chant 20 = .ok (.ireturn, 1) := by decide +kernel
theorem dX7_chant_21 : decode cX7_chant 21 = .ok (.aload_n 0, 1) := by decide +kernel
theorem dX7_chant_22 : decode cX7_chant 22 = .ok (.iconst 0, 1) := by decide +kernel
theorem dX7_chant_23 : decode cX7_chant 23 = .ok (.putfield 159, 3) := by decide +kernel
theorem dX7_chant_26 : decode cX7_chant 26 = .ok (.aload_n 0, 1) := by decide +kernel
theorem dX7_chant_27 : decode cX7_chant 27 = .ok (.iconst (-1), 1) := by decide +kernel
theorem dX7_chant_28 : decode cX7_chant 28 = .ok (.putfield 62, 3) := by decide +kernel
theorem dX7_chant_31 : decode cX7_chant 31 = .ok (.aload_n 0, 1) := by decide +kernel
theorem dX7_chant_32 : decode cX7_chant 32 = .ok (.aload_n 0, 1) := by decide +kernel
theorem dX7_chant_33 : decode cX7_chant 33 = .ok (.getfield 191, 3) := by decide +kernel
theorem dX7_chant_36 : decode cX7_chant 36 = .ok (.putfield 127, 3) := by decide +kernel
theorem dX7_chant_39 : decode cX7_chant 39 = .ok (.iconst 0, 1) := by decide +kernel
theorem dX7_chant_40 : decode cX7_chant 40 = .ok (.istore_n 2, 1) := by decide +kernel
theorem dX7_chant_41 : decode cX7_chant 41 = .ok (.iload_n 2, 1) := by decide +kernel
theorem dX7_chant_42 : decode cX7_chant 42 = .ok (.aload_n 0, 1) := by decide +kernel
theorem dX7_chant_43 : decode cX7_chant 43 = .ok (.getfield 127, 3) := by decide +kernel
theorem dX7_chant_46 : decode cX7_chant 46 = .ok (.if_icmp .ge 57, 3) := by decide +kernel
theorem dX7_chant_49 : decode cX7_chant 49 = .ok (.aload_n 0, 1) := by decide +kernel
theorem dX7_chant_50 : decode cX7_chant 50 = .ok (.getfield 35, 3) := by decide +kernel
theorem dX7_chant_53 : decode cX7_chant 53 = .ok (.iload_n 2, 1) := by decide +kernel
theorem dX7_chant_54 : decode cX7_chant 54 = .ok (.aload_n 0, 1) := by decide +kernel
theorem dX7_chant_55 : decode cX7_chant 55 = .ok (.getfield 47, 3) := by decide +kernel
theorem dX7_chant_58 : decode cX7_chant 58 = .ok (.iload_n 2, 1) := by decide +kernel
theorem dX7_chant_59 : decode cX7_chant 59 = .ok (.iaload, 1) := by decide +kernel
theorem dX7_chant_60 : decode cX7_chant 60 = .ok (.iastore, 1) := by decide +kernel
theorem dX7_chant_61 : decode cX7_chant 61 = .ok (.aload_n 0, 1) := by decide +kernel
theorem dX7_chant_62 : decode cX7_chant 62 = .ok (.getfield 38, 3) := by decide +kernel
theorem dX7_chant_65 : decode cX7_chant 65 = .ok (.iload_n 2, 1) := by decide +kernel
theorem dX7_chant_66 : decode cX7_chant 66 = .ok (.aload_n 0, 1) := by decide +kernel
theorem dX7_chant_67 : decode cX7_chant 67 = .ok (.getfield 50, 3) := by decide +kernel
theorem dX7_chant_70 : decode cX7_chant 70 = .ok (.iload_n 2, 1) := by decide +kernel
theorem dX7_chant_71 : decode cX7_chant 71 = .ok (.iaload, 1) := by decide +kernel
theorem dX7_chant_72 : decode cX7_chant 72 = .ok (.iastore, 1) := by decide +kernel
theorem dX7_chant_73 : decode cX7_chant 73 = .ok (.aload_n 0, 1) := by decide +kernel
theorem dX7_chant_74 : decode cX7_chant 74 = .ok (.getfield 41, 3) := by decide +kernel
theorem dX7_chant_77 : decode cX7_chant 77 = .ok (.iload_n 2, 1) := by decide +kernel
theorem dX7_chant_78 : decode cX7_chant 78 = .ok (.aload_n 0, 1) := by decide +kernel
theorem dX7_chant_79 : decode cX7_chant 79 = .ok (.getfield 53, 3) := by decide +kernel
theorem dX7_chant_82 : decode cX7_chant 82 = .ok (.iload_n 2, 1) := by decide +kernel
theorem dX7_chant_83 : decode cX7_chant 83 = .ok (.iaload, 1) := by decide +kernel
theorem dX7_chant_84 : decode cX7_chant 84 = .ok (.iastore, 1) := by decide +kernel
theorem dX7_chant_85 : decode cX7_chant 85 = .ok (.aload_n 0, 1) := by decide +kernel
theorem dX7_chant_86 : decode cX7_chant 86 = .ok (.getfield 44, 3) := by decide +kernel
theorem dX7_chant_89 : decode cX7_chant 89 = .ok (.iload_n 2, 1) := by decide +kernel
theorem dX7_chant_90 : decode cX7_chant 90 = .ok (.aload_n 0, 1) := by decide +kernel
theorem dX7_chant_91 : decode cX7_chant 91 = .ok (.getfield 56, 3) := by decide +kernel
theorem dX7_chant_94 : decode cX7_chant 94 = .ok (.iload_n 2, 1) := by decide +kernel
theorem dX7_chant_95 : decode cX7_chant 95 = .ok (.iaload, 1) := by decide +kernel
theorem dX7_chant_96 : decode cX7_chant 96 = .ok (.iastore, 1) := by decide +kernel
theorem dX7_chant_97 : decode cX7_chant 97 = .ok (.iinc 2 1, 3) := by decide +kernel
theorem dX7_chant_100 : decode cX7_chant 100 = .ok (.goto (-59), 3) := by decide +kernel
theorem dX7_chant_103 : decode cX7_chant 103 = .ok (.aload_n 0, 1) := by decide +kernel
theorem dX7_chant_104 : decode cX7_chant 104 = .ok (.getfield 127, 3) := by decide +kernel
theorem dX7_chant_107 : decode cX7_chant 107 = .ok (.ireturn, 1) := by decide +kernel
theorem dX7_isThere_0 : decode cX7_isThere 0 = .ok (.aload_n 0, 1) := by decide +kernel
theorem dX7_isThere_1 : decode cX7_isThere 1 = .ok (.getfield 38, 3) := by decide +kernel
theorem dX7_isThere_4 : decode cX7_isThere 4 = .ok (.iload_n 1, 1) := by decide +kernel
theorem dX7_isThere_5 : decode cX7_isThere 5 = .ok (.iaload, 1) := by decide +kernel
theorem dX7_isThere_6 : decode cX7_isThere 6 = .ok (.iconst 5, 1) := by decide +kernel
theorem dX7_isThere_7 : decode cX7_isThere 7 = .ok (.if_icmp .ne 20, 3) := by decide +kernel
theorem dX7_isThere_10 : decode cX7_isThere 10 = .ok (.aload_n 0, 1) := by decide +kernel
theorem dX7_isThere_11 : decode cX7_isThere 11 = .ok (.iload_n 2, 1) := by decide +kernel
theorem dX7_isThere_12 : decode cX7_isThere 12 = .ok (.iload_n 3, 1) := by decide +kernel
theorem dX7_isThere_13 : decode cX7_isThere 13 = .ok (.iconst 2, 1) := by decide +kernel
theorem dX7_isThere_14 : decode cX7_isThere 14 = .ok (.invokevirtual 145, 3) := by decide +kernel
theorem dX7_isThere_17 : decode cX7_isThere 17 = .ok (.iconst 1, 1) := by decide +kernel
theorem dX7_isThere_18 : decode cX7_isThere 18 = .ok (.if_icmp .ne 7, 3) := by decide +kernel
theorem dX7_isThere_21 : decode cX7_isThere 21 = .ok (.iconst 1, 1) := by decide +kernel
theorem dX7_isThere_22 : decode cX7_isThere 22 = .ok (.goto 4, 3) := by decide +kernel
theorem dX7_isThere_25 : decode cX7_isThere 25 = .ok (.iconst 0, 1) := by decide +kernel
theorem dX7_isThere_26 : decode cX7_isThere 26 = .ok (.ireturn, 1) := by decide +kernel
theorem dX7_isThere_27 : decode cX7_isThere 27 = .ok (.aload_n 0, 1) := by decide +kernel
theorem dX7_isThere_28 : decode cX7_isThere 28 = .ok (.getfield 38, 3) := by decide +kernel
theorem dX7_isThere_31 : decode cX7_isThere 31 = .ok (.iload_n 1, 1) := by decide +kernel
theorem dX7_isThere_32 : decode cX7_isThere 32 = .ok (.iaload, 1) := by decide +kernel
theorem dX7_isThere_33 : decode cX7_isThere 33 = .ok (.bipush 6, 2) := by decide +kernel
theorem dX7_isThere_35 : decode cX7_isThere 35 = .ok (.if_icmp .ne 25, 3) := by decide +kernel
theorem dX7_isThere_38 : decode cX7_isThere 38 = .ok (.aload_n 0, 1) := by decide +kernel
theorem dX7_isThere_39 : decode cX7_isThere 39 = .ok (.iload_n 2, 1) := by decide +kernel
theorem dX7_isThere_40 : decode cX7_isThere 40 = .ok (.iload_n 3, 1) := by decide +kernel
theorem dX7_isThere_41 : decode cX7_isThere 41 = .ok (.iconst 0, 1) := by decide +kernel
theorem dX7_isThere_42 : decode cX7_isThere 42 = .ok (.invokevirtual 145, 3) := by decide +kernel
theorem dX7_isThere_45 : decode cX7_isThere 45 = .ok (.aload_n 0, 1) := by decide +kernel
theorem dX7_isThere_46 : decode cX7_isThere 46 = .ok (.getfield 41, 3) := by decide +kernel
theorem dX7_isThere_49 : decode cX7_isThere 49 = .ok (.iload_n 1, 1) := by decide +kernel
theorem dX7_isThere_50 : decode cX7_isThere 50 = .ok (.iaload, 1) := by decide +kernel
theorem dX7_isThere_51 : decode cX7_isThere 51 = .ok (.if_icmp .ne 7, 3) := by decide +kernel
theorem dX7_isThere_54 : decode cX7_isThere 54 = .ok (.iconst 1, 1) := by decide +kernel
theorem dX7_isThere_55 : decode cX7_isThere 55 = .ok (.goto 4, 3) := by decide +kernel
theorem dX7_isThere_58 : decode cX7_isThere 58 = .ok (.iconst 0, 1) := by decide +kernel
theorem dX7_isThere_59 : decode cX7_isThere 59 = .ok (.ireturn, 1) := by decide +kernel
theorem dX7_isThere_60 : decode cX7_isThere 60 = .ok (.aload_n 0, 1) := by decide +kernel
theorem dX7_isThere_61 : decode cX7_isThere 61 = .ok (.getfield 38, 3) := by decide +kernel
theorem dX7_isThere_64 : decode cX7_isThere 64 = .ok (.iload_n 1, 1) := by decide +kernel
theorem dX7_isThere_65 : decode cX7_isThere 65 = .ok (.iaload, 1) := by decide +kernel
theorem dX7_isThere_66 : decode cX7_isThere 66 = .ok (.bipush 7, 2) := by decide +kernel
theorem dX7_isThere_68 : decode cX7_isThere 68 = .ok (.if_icmp .ne 23, 3) := by decide +kernel
theorem dX7_isThere_71 : decode cX7_isThere 71 = .ok (.aload_n 0, 1) := by decide +kernel
theorem dX7_isThere_72 : decode cX7_isThere 72 = .ok (.iload_n 2, 1) := by decide +kernel
theorem dX7_isThere_73 : decode cX7_isThere 73 = .ok (.iload_n 3, 1) := by decide +kernel
theorem dX7_isThere_74 : decode cX7_isThere 74 = .ok (.iconst 1, 1) := by decide +kernel
theorem dX7_isThere_75 : decode cX7_isThere 75 = .ok (.invokevirtual 145, 3) := by decide +kernel
theorem dX7_isThere_78 : decode cX7_isThere 78 = .ok (.aload_n 0, 1) := by decide +kernel
theorem dX7_isThere_79 : decode cX7_isThere 79 = .ok (.getfield 41, 3) := by decide +kernel
theorem dX7_isThere_82 : decode cX7_isThere 82 = .ok (.iload_n 1, 1) := by decide +kernel
theorem dX7_isThere_83 : decode cX7_isThere 83 = .ok (.iaload, 1) := by decide +kernel
theorem dX7_isThere_84 : decode cX7_isThere 84 = .ok (.if_icmp .ne 7, 3) := by decide +kernel
theorem dX7_isThere_87 : decode cX7_isThere 87 = .ok (.iconst 1, 1) := by decide +kernel
theorem dX7_isThere_88 : decode cX7_isThere 88 = .ok (.goto 4, 3) := by decide +kernel
theorem dX7_isThere_91 : decode cX7_isThere 91 = .ok (.iconst 0, 1) := by decide +kernel
theorem dX7_isThere_92 : decode cX7_isThere 92 = .ok (.ireturn, 1) := by decide +kernel
theorem dX7_at_0 : decode cX7_at 0 = .ok (.sipush 384, 3) := by decide +kernel
theorem dX7_at_3 : decode cX7_at 3 = .ok (.iload_n 1, 1) := by decide +kernel
theorem dX7_at_4 : decode cX7_at 4 = .ok (.imul, 1) := by decide +kernel
theorem dX7_at_5 : decode cX7_at 5 = .ok (.bipush 6, 2) := by decide +kernel
theorem dX7_at_7 : decode cX7_at 7 = .ok (.iload_n 2, 1) := by decide +kernel
theorem dX7_at_8 : decode cX7_at 8 = .ok (.imul, 1) := by decide +kernel
theorem dX7_at_9 : decode cX7_at 9 = .ok (.iadd, 1) := by decide +kernel
theorem dX7_at_10 : decode cX7_at 10 = .ok (.iload_n 3, 1) := by decide +kernel
theorem dX7_at_11 : decode cX7_at 11 = .ok (.iadd, 1) := by decide +kernel
theorem dX7_at_12 : decode cX7_at 12 = .ok (.ireturn, 1) := by decide +kernel
theorem dX7_sing_0 : decode cX7_sing 0 = .ok (.iconst 0, 1) := by decide +kernel
theorem dX7_sing_1 : decode cX7_sing 1 = .ok (.istore_n 1, 1) := by decide +kernel
theorem dX7_sing_2 : decode cX7_sing 2 = .ok (.iload_n 1, 1) := by decide +kernel
theorem dX7_sing_3 : decode cX7_sing 3 = .ok (.aload_n 0, 1) := by decide +kernel
theorem dX7_sing_4 : decode cX7_sing 4 = .ok (.invokevirtual 90, 3) := by decide +kernel
theorem dX7_sing_7 : decode cX7_sing 7 = .ok (.if_icmp .ge 75, 3) := by decide +kernel
theorem dX7_sing_10 : decode cX7_sing 10 = .ok (.iconst 0, 1) := by decide +kernel
theorem dX7_sing_11 : decode cX7_sing 11 = .ok (.istore_n 2, 1) := by decide +kernel
theorem dX7_sing_12 : decode cX7_sing 12 = .ok (.iload_n 2, 1) := by decide +kernel
theorem dX7_sing_13 : decode cX7_sing 13 = .ok (.bipush 6, 2) := by decide +kernel
theorem dX7_sing_15 : decode cX7_sing 15 = .ok (.if_icmp .ge 61, 3) := by decide +kernel
theorem dX7_sing_18 : decode cX7_sing 18 = .ok (.aload_n 0, 1) := by decide +kernel
theorem dX7_sing_19 : decode cX7_sing 19 = .ok (.getfield 65, 3) := by decide +kernel
theorem dX7_sing_22 : decode cX7_sing 22 = .ok (.aload_n 0, 1) := by decide +kernel
theorem dX7_sing_23 : decode cX7_sing 23 = .ok (.iconst 0, 1) := by decide +kernel
theorem dX7_sing_24 : decode cX7_sing 24 = .ok (.iload_n 1, 1) := by decide +kernel
theorem dX7_sing_25 : decode cX7_sing 25 = .ok (.iload_n 2, 1) := by decide +kernel
theorem dX7_sing_26 : decode cX7_sing 26 = .ok (.invokevirtual 208, 3) := by decide +kernel
theorem dX7_sing_29 : decode cX7_sing 29 = .ok (.aload_n 0, 1) := by decide +kernel
theorem dX7_sing_30 : decode cX7_sing 30 = .ok (.iload_n 1, 1) := by decide +kernel
theorem dX7_sing_31 : decode cX7_sing 31 = .ok (.invokevirtual 117, 3) := by decide +kernel
theorem dX7_sing_34 : decode cX7_sing 34 = .ok (.ifCond .eq 7, 3) := by decide +kernel
theorem dX7_sing_37 : decode cX7_sing 37 = .ok (.iconst 0, 1) := by decide +kernel
theorem dX7_sing_38 : decode cX7_sing 38 = .ok (.goto 5, 3) := by decide +kernel
theorem dX7_sing_41 : decode cX7_sing 41 = .ok (.ldc 211, 2) := by decide +kernel
theorem dX7_sing_43 : decode cX7_sing 43 = .ok (.iastore, 1) := by decide +kernel
theorem dX7_sing_44 : decode cX7_sing 44 = .ok (.aload_n 0, 1) := by decide +kernel
theorem dX7_sing_45 : decode cX7_sing 45 = .ok (.getfield 68, 3) := by decide +kernel
theorem dX7_sing_48 : decode cX7_sing 48 = .ok (.aload_n 0, 1) := by decide +kernel
theorem dX7_sing_49 : decode cX7_sing 49 = .ok (.iconst 0, 1) := by decide +kernel
theorem dX7_sing_50 : decode cX7_sing 50 = .ok (.iload_n 1, 1) := by decide +kernel
theorem dX7_sing_51 : decode cX7_sing 51 = .ok (.iload_n 2, 1) := by decide +kernel
theorem dX7_sing_52 : decode cX7_sing 52 = .ok (.invokevirtual 208, 3) := by decide +kernel
theorem dX7_sing_55 : decode cX7_sing 55 = .ok (.aload_n 0, 1) := by decide +kernel
theorem dX7_sing_56 : decode cX7_sing 56 = .ok (.iload_n 1, 1) := by decide +kernel
theorem dX7_sing_57 : decode cX7_sing 57 = .ok (.invokevirtual 117, 3) := by decide +kernel
theorem dX7_sing_60 : decode cX7_sing 60 = .ok (.ifCond .eq 7, 3) := by decide +kernel
theorem dX7_sing_63 : decode cX7_sing 63 = .ok (.iconst 0, 1) := by decide +kernel
theorem dX7_sing_64 : decode cX7_sing 64 = .ok (.goto 5, 3) := by decide +kernel
theorem dX7_sing_67 : decode cX7_sing 67 = .ok (.ldc 211, 2) := by decide +kernel
theorem dX7_sing_69 : decode cX7_sing 69 = .ok (.iastore, 1) := by decide +kernel
theorem dX7_sing_70 : decode cX7_sing 70 = .ok (.iinc 2 1, 3) := by decide +kernel
theorem dX7_sing_73 : decode cX7_sing 73 = .ok (.goto (-61), 3) := by decide +kernel
theorem dX7_sing_76 : decode cX7_sing 76 = .ok (.iinc 1 1, 3) := by decide +kernel
theorem dX7_sing_79 : decode cX7_sing 79 = .ok (.goto (-77), 3) := by decide +kernel
theorem dX7_sing_82 : decode cX7_sing 82 = .ok (.aload_n 0, 1) := by decide +kernel
theorem dX7_sing_83 : decode cX7_sing 83 = .ok (.getfield 127, 3) := by decide +kernel
theorem dX7_sing_86 : decode cX7_sing 86 = .ok (.iconst 1, 1) := by decide +kernel
theorem dX7_sing_87 : decode cX7_sing 87 = .ok (.isub, 1) := by decide +kernel
theorem dX7_sing_88 : decode cX7_sing 88 = .ok (.istore_n 1, 1) := by decide +kernel
theorem dX7_sing_89 : decode cX7_sing 89 = .ok (.iload_n 1, 1) := by decide +kernel
theorem dX7_sing_90 : decode cX7_sing 90 = .ok (.ifCond .lt 114, 3) := by decide +kernel
theorem dX7_sing_93 : decode cX7_sing 93 = .ok (.aload_n 0, 1) := by decide +kernel
theorem dX7_sing_94 : decode cX7_sing 94 = .ok (.getfield 44, 3) := by decide +kernel
theorem dX7_sing_97 : decode cX7_sing 97 = .ok (.iload_n 1, 1) := by decide +kernel
theorem dX7_sing_98 : decode cX7_sing 98 = .ok (.iaload, 1) := by decide +kernel
theorem dX7_sing_99 : decode cX7_sing 99 = .ok (.istore_n 2, 1) := by decide +kernel
theorem dX7_sing_100 : decode cX7_sing 100 = .ok (.iload_n 2, 1) := by decide +kernel
theorem dX7_sing_101 : decode cX7_sing 101 = .ok (.ifCond .lt 50, 3) := by decide +kernel
theorem dX7_sing_104 : decode cX7_sing 104 = .ok (.iconst 0, 1) := by decide +kernel
theorem dX7_sing_105 : decode cX7_sing 105 = .ok (.istore_n 3, 1) := by decide +kernel
theorem dX7_sing_106 : decode cX7_sing 106 = .ok (.iload_n 3, 1) := by decide +kernel
theorem dX7_sing_107 : decode cX7_sing 107 = .ok (.aload_n 0, 1) := by decide +kernel
theorem dX7_sing_108 : decode cX7_sing 108 = .ok (.invokevirtual 90, 3) := by decide +kernel
theorem dX7_sing_111 : decode cX7_sing 111 = .ok (.if_icmp .ge 34, 3) := by decide +kernel
theorem dX7_sing_114 : decode cX7_sing 114 = .ok (.iconst 0, 1) := by decide +kernel
theorem dX7_sing_115 : decode cX7_sing 115 = .ok (.istore 4, 2) := by decide +kernel
theorem dX7_sing_117 : decode cX7_sing 117 = .ok (.iload 4, 2) := by decide +kernel
theorem dX7_sing_119 : decode cX7_sing 119 = .ok (.bipush 6, 2) := by decide +kernel
theorem dX7_sing_121 : decode cX7_sing 121 = .ok (.if_icmp .ge 18, 3) := by decide +kernel
theorem dX7_sing_124 : decode cX7_sing 124 = .ok (.aload_n 0, 1) := by decide +kernel
theorem dX7_sing_125 : decode cX7_sing 125 = .ok (.iload_n 1, 1) := by decide +kernel
theorem dX7_sing_126 : decode cX7_sing 126 = .ok (.iload_n 2, 1) := by decide +kernel
theorem dX7_sing_127 : decode cX7_sing 127 = .ok (.iload_n 3, 1) := by decide +kernel
theorem dX7_sing_128 : decode cX7_sing 128 = .ok (.iload 4, 2) := by decide +kernel
theorem dX7_sing_130 : decode cX7_sing 130 = .ok (.invokevirtual 212, 3) := by decide +kernel
theorem dX7_sing_133 : decode cX7_sing 133 = .ok (.iinc 4 1, 3) := by decide +kernel
theorem dX7_sing_136 : decode cX7_sing 136 = .ok (.goto (-19), 3) := by decide +kernel
theorem dX7_sing_139 : decode cX7_sing 139 = .ok (.iinc 3 1, 3) := by decide +kernel
theorem dX7_sing_142 : decode cX7_sing 142 = .ok (.goto (-36), 3) := by decide +kernel
theorem dX7_sing_145 : decode cX7_sing 145 = .ok (.iinc 2 (-1), 3) := by decide +kernel
theorem dX7_sing_148 : decode cX7_sing 148 = .ok (.goto (-48), 3) := by decide +kernel
theorem dX7_sing_151 : decode cX7_sing 151 = .ok (.iconst 0, 1) := by decide +kernel
theorem dX7_sing_152 : decode cX7_sing 152 = .ok (.istore_n 2, 1) := by decide +kernel
theorem dX7_sing_153 : decode cX7_sing 153 = .ok (.iload_n 2, 1) := by decide +kernel
theorem dX7_sing_154 : decode cX7_sing 154 = .ok (.sipush 384, 3) := by decide +kernel
theorem dX7_sing_157 : decode cX7_sing 157 = .ok (.if_icmp .ge 41, 3) := by decide +kernel
theorem dX7_sing_160 : decode cX7_sing 160 = .ok (.aload_n 0, 1) := by decide +kernel
theorem dX7_sing_161 : decode cX7_sing 161 = .ok (.getfield 65, 3) := by decide +kernel
theorem dX7_sing_164 : decode cX7_sing 164 = .ok (.iload_n 2, 1) := by decide +kernel
theorem dX7_sing_165 : decode cX7_sing 165 = .ok (.aload_n 0, 1) := by decide +kernel
theorem dX7_sing_166 : decode cX7_sing 166 = .ok (.getfield 65, 3) := by decide +kernel
theorem dX7_sing_169 : decode cX7_sing 169 = .ok (.sipush 384, 3) := by decide +kernel
theorem dX7_sing_172 : decode cX7_sing 172 = .ok (.iload_n 2, 1) := by decide +kernel
theorem dX7_sing_173 : decode cX7_sing 173 = .ok (.iadd, 1) := by decide +kernel
theorem dX7_sing_174 : decode cX7_sing 174 = .ok (.iaload, 1) := by decide +kernel
theorem dX7_sing_175 : decode cX7_sing 175 = .ok (.iastore, 1) := by decide +kernel
theorem dX7_sing_176 : decode cX7_sing 176 = .ok (.aload_n 0, 1) := by decide +kernel
theorem dX7_sing_177 : decode cX7_sing 177 = .ok (.getfield 68, 3) := by decide +kernel
theorem dX7_sing_180 : decode cX7_sing 180 = .ok (.iload_n 2, 1) := by decide +kernel
theorem dX7_sing_181 : decode cX7_sing 181 = .ok (.aload_n 0, 1) := by decide +kernel
theorem dX7_sing_182 : decode cX7_sing 182 = .ok (.getfield 68, 3) := by decide +kernel
theorem dX7_sing_185 : decode cX7_sing 185 = .ok (.sipush 384, 3) := by decide +kernel
theorem dX7_sing_188 : decode cX7_sing 188 = .ok (.iload_n 2, 1) := by decide +kernel
theorem dX7_sing_189 : decode cX7_sing 189 = .ok (.iadd, 1) := by decide +kernel
theorem dX7_sing_190 : decode cX7_sing 190 = .ok (.iaload, 1) := by decide +kernel
theorem dX7_sing_191 : decode cX7_sing 191 = .ok (.iastore, 1) := by decide +kernel
theorem dX7_sing_192 : decode cX7_sing 192 = .ok (.iinc 2 1, 3) := by decide +kernel
theorem dX7_sing_195 : decode cX7_sing 195 = .ok (.goto (-42), 3) := by decide +kernel
theorem dX7_sing_198 : decode cX7_sing 198 = .ok (.iinc 1 (-1), 3) := by decide +kernel
theorem dX7_sing_201 : decode cX7_sing 201 = .ok (.goto (-112), 3) := by decide +kernel
theorem dX7_sing_204 : decode cX7_sing 204 = .ok (.return_, 1) := by decide +kernel
theorem dX7_step_0 : decode cX7_step 0 = .ok (.aload_n 0, 1) := by decide +kernel
theorem dX7_step_1 : decode cX7_step 1 = .ok (.iload_n 2, 1) := by decide +kernel
theorem dX7_step_2 : decode cX7_step 2 = .ok (.iconst 1, 1) := by decide +kernel
theorem dX7_step_3 : decode cX7_step 3 = .ok (.iadd, 1) := by decide +kernel
theorem dX7_step_4 : decode cX7_step 4 = .ok (.iload_n 3, 1) := by decide +kernel
theorem dX7_step_5 : decode cX7_step 5 = .ok (.iload 4, 2) := by decide +kernel
theorem dX7_step_7 : decode cX7_step 7 = .ok (.invokevirtual 208, 3) := by decide +kernel
theorem dX7_step_10 : decode cX7_step 10 = .ok (.istore 5, 2) := by decide +kernel
theorem dX7_step_12 : decode cX7_step 12 = .ok (.aload_n 0, 1) := by decide +kernel
theorem dX7_step_13 : decode cX7_step 13 = .ok (.iload_n 3, 1) := by decide +kernel
theorem dX7_step_14 : decode cX7_step 14 = .ok (.invokevirtual 117, 3) := by decide +kernel
theorem dX7_step_17 : decode cX7_step 17 = .ok (.ifCond .eq 20, 3) := by decide +kernel
theorem dX7_step_20 : decode cX7_step 20 = .ok (.aload_n 0, 1) := by decide +kernel
theorem dX7_step_21 : decode cX7_step 21 = .ok (.getfield 65, 3) := by decide +kernel
theorem dX7_step_24 : decode cX7_step 24 = .ok (.iload 5, 2) := by decide +kernel
theorem dX7_step_26 : decode cX7_step 26 = .ok (.iconst 0, 1) := by decide +kernel
theorem dX7_step_27 : decode cX7_step 27 = .ok (.iastore, 1) := by decide +kernel
theorem dX7_step_28 : decode cX7_step 28 = .ok (.aload_n 0, 1) := by decide +kernel
theorem dX7_step_29 : decode cX7_step 29 = .ok (.getfield 68, 3) := by decide +kernel
theorem dX7_step_32 : decode cX7_step 32 = .ok (.iload 5, 2) := by decide +kernel
theorem dX7_step_34 : decode cX7_step 34 = .ok (.iconst 0, 1) := by decide +kernel
theorem dX7_step_35 : decode cX7_step 35 = .ok (.iastore, 1) := by decide +kernel
theorem dX7_step_36 : decode cX7_step 36 = .ok (.return_, 1) := by decide +kernel
theorem dX7_step_37 : decode cX7_step 37 = .ok (.iload_n 2, 1) := by decide +kernel
theorem dX7_step_38 : decode cX7_step 38 = .ok (.aload_n 0, 1) := by decide +kernel
theorem dX7_step_39 : decode cX7_step 39 = .ok (.getfield 44, 3) := by decide +kernel
theorem dX7_step_42 : decode cX7_step 42 = .ok (.iload_n 1, 1) := by decide +kernel
theorem dX7_step_43 : decode cX7_step 43 = .ok (.iaload, 1) := by decide +kernel
theorem dX7_step_44 : decode cX7_step 44 = .ok (.if_icmp .eq 14, 3) := by decide +kernel
theorem dX7_step_47 : decode cX7_step 47 = .ok (.aload_n 0, 1) := by decide +kernel
theorem dX7_step_48 : decode cX7_step 48 = .ok (.iload_n 1, 1) := by decide +kernel
theorem dX7_step_49 : decode cX7_step 49 = .ok (.iload_n 3, 1) := by decide +kernel
theorem dX7_step_50 : decode cX7_step 50 = .ok (.iload 4, 2) := by decide +kernel
theorem dX7_step_52 : decode cX7_step 52 = .ok (.invokevirtual 216, 3) := by decide +kernel
theorem dX7_step_55 : decode cX7_step 55 = .ok (.ifCond .eq 44, 3) := by decide +kernel
theorem dX7_step_58 : decode cX7_step 58 = .ok (.aload_n 0, 1) := by decide +kernel
theorem dX7_step_59 : decode cX7_step 59 = .ok (.getfield 65, 3) := by decide +kernel
theorem dX7_step_62 : decode cX7_step 62 = .ok (.iload 5, 2) := by decide +kernel
theorem dX7_step_64 : decode cX7_step 64 = .ok (.aload_n 0, 1) := by decide +kernel
theorem dX7_step_65 : decode cX7_step 65 = .ok (.getfield 65, 3) := by decide +kernel
theorem dX7_step_68 : decode cX7_step 68 = .ok (.aload_n 0, 1) := by decide +kernel
theorem dX7_step_69 : decode cX7_step 69 = .ok (.iconst 0, 1) := by decide +kernel
theorem dX7_step_70 : decode cX7_step 70 = .ok (.iload_n 3, 1) := by decide +kernel
theorem dX7_step_71 : decode cX7_step 71 = .ok (.iload 4, 2) := by decide +kernel
theorem dX7_step_73 : decode cX7_step 73 = .ok (.invokevirtual 208, 3) := by decide +kernel
theorem dX7_step_76 : decode cX7_step 76 = .ok (.iaload, 1) := by decide +kernel
theorem dX7_step_77 : decode cX7_step 77 = .ok (.iastore, 1) := by decide +kernel
theorem dX7_step_78 : decode cX7_step 78 = .ok (.aload_n 0, 1) := by decide +kernel
theorem dX7_step_79 : decode cX7_step 79 = .ok (.getfield 68, 3) := by decide +kernel
theorem dX7_step_82 : decode cX7_step 82 = .ok (.iload 5, 2) := by decide +kernel
theorem dX7_step_84 : decode cX7_step 84 = .ok (.aload_n 0, 1) := by decide +kernel
theorem dX7_step_85 : decode cX7_step 85 = .ok (.getfield 68, 3) := by decide +kernel
theorem dX7_step_88 : decode cX7_step 88 = .ok (.aload_n 0, 1) := by decide +kernel
theorem dX7_step_89 : decode cX7_step 89 = .ok (.iconst 0, 1) := by decide +kernel
theorem dX7_step_90 : decode cX7_step 90 = .ok (.iload_n 3, 1) := by decide +kernel
theorem dX7_step_91 : decode cX7_step 91 = .ok (.iload 4, 2) := by decide +kernel
theorem dX7_step_93 : decode cX7_step 93 = .ok (.invokevirtual 208, 3) := by decide +kernel
theorem dX7_step_96 : decode cX7_step 96 = .ok (.iaload, 1) := by decide +kernel
theorem dX7_step_97 : decode cX7_step 97 = .ok (.iastore, 1) := by decide +kernel
theorem dX7_step_98 : decode cX7_step 98 = .ok (.return_, 1) := by decide +kernel
theorem dX7_step_99 : decode cX7_step 99 = .ok (.aload_n 0, 1) := by decide +kernel
theorem dX7_step_100 : decode cX7_step 100 = .ok (.getfield 65, 3) := by decide +kernel
theorem dX7_step_103 : decode cX7_step 103 = .ok (.iload 5, 2) := by decide +kernel
theorem dX7_step_105 : decode cX7_step 105 = .ok (.iconst 0, 1) := by decide +kernel
theorem dX7_step_106 : decode cX7_step 106 = .ok (.iastore, 1) := by decide +kernel
theorem dX7_step_107 : decode cX7_step 107 = .ok (.aload_n 0, 1) := by decide +kernel
theorem dX7_step_108 : decode cX7_step 108 = .ok (.getfield 68, 3) := by decide +kernel
theorem dX7_step_111 : decode cX7_step 111 = .ok (.iload 5, 2) := by decide +kernel
theorem dX7_step_113 : decode cX7_step 113 = .ok (.ldc 211, 2) := by decide +kernel
theorem dX7_step_115 : decode cX7_step 115 = .ok (.iastore, 1) := by decide +kernel
theorem dX7_step_116 : decode cX7_step 116 = .ok (.iconst 0, 1) := by decide +kernel
theorem dX7_step_117 : decode cX7_step 117 = .ok (.istore 6, 2) := by decide +kernel
theorem dX7_step_119 : decode cX7_step 119 = .ok (.iload 6, 2) := by decide +kernel
theorem dX7_step_121 : decode cX7_step 121 = .ok (.bipush 9, 2) := by decide +kernel
theorem dX7_step_123 : decode cX7_step 123 = .ok (.if_icmp .ge 126, 3) := by decide +kernel
theorem dX7_step_126 : decode cX7_step 126 = .ok (.aload_n 0, 1) := by decide +kernel
theorem dX7_step_127 : decode cX7_step 127 = .ok (.getfield 32, 3) := by decide +kernel
theorem dX7_step_130 : decode cX7_step 130 = .ok (.iload 4, 2) := by decide +kernel
theorem dX7_step_132 : decode cX7_step 132 = .ok (.iaload, 1) := by decide +kernel
theorem dX7_step_133 : decode cX7_step 133 = .ok (.iload 6, 2) := by decide +kernel
theorem dX7_step_135 : decode cX7_step 135 = .ok (.ishr, 1) := by decide +kernel
theorem dX7_step_136 : decode cX7_step 136 = .ok (.iconst 1, 1) := by decide +kernel
theorem dX7_step_137 : decode cX7_step 137 = .ok (.iand, 1) := by decide +kernel
theorem dX7_step_138 : decode cX7_step 138 = .ok (.ifCond .ne 6, 3) := by decide +kernel
theorem dX7_step_141 : decode cX7_step 141 = .ok (.goto 102, 3) := by decide +kernel
theorem dX7_step_144 : decode cX7_step 144 = .ok (.aload_n 0, 1) := by decide +kernel
theorem dX7_step_145 : decode cX7_step 145 = .ok (.iload_n 2, 1) := by decide +kernel
theorem dX7_step_146 : decode cX7_step 146 = .ok (.iconst 2, 1) := by decide +kernel
theorem dX7_step_147 : decode cX7_step 147 = .ok (.iadd, 1) := by decide +kernel
theorem dX7_step_148 : decode cX7_step 148 = .ok (.aload_n 0, 1) := by decide +kernel
theorem dX7_step_149 : decode cX7_step 149 = .ok (.iload_n 3, 1) := by decide +kernel
theorem dX7_step_150 : decode cX7_step 150 = .ok (.aload_n 0, 1) := by decide +kernel
theorem dX7_step_151 : decode cX7_step 151 = .ok (.getfield 35, 3) := by decide +kernel
theorem dX7_step_154 : decode cX7_step 154 = .ok (.iload_n 1, 1) := by decide +kernel
theorem dX7_step_155 : decode cX7_step 155 = .ok (.iaload, 1) := by decide +kernel
theorem dX7_step_156 : decode cX7_step 156 = .ok (.iload 6, 2) := by decide +kernel
theorem dX7_step_158 : decode cX7_step 158 = .ok (.invokevirtual 134, 3) := by decide +kernel
theorem dX7_step_161 : decode cX7_step 161 = .ok (.iload 4, 2) := by decide +kernel
theorem dX7_step_163 : decode cX7_step 163 = .ok (.iconst 1, 1) := by decide +kernel
theorem dX7_step_164 : decode cX7_step 164 = .ok (.iadd, 1) := by decide +kernel
theorem dX7_step_165 : decode cX7_step 165 = .ok (.bipush 6, 2) := by decide +kernel
theorem dX7_step_167 : decode cX7_step 167 = .ok (.irem, 1) := by decide +kernel
theorem dX7_step_168 : decode cX7_step 168 = .ok (.invokevirtual 208, 3) := by decide +kernel
theorem dX7_step_171 : decode cX7_step 171 = .ok (.istore 7, 2) := by decide +kernel
theorem dX7_step_173 : decode cX7_step 173 = .ok (.aload_n 0, 1) := by decide +kernel
theorem dX7_step_174 : decode cX7_step 174 = .ok (.getfield 65, 3) := by decide +kernel
theorem dX7_step_177 : decode cX7_step 177 = .ok (.iload 7, 2) := by decide +kernel
theorem dX7_step_179 : decode cX7_step 179 = .ok (.iaload, 1) := by decide +kernel
theorem dX7_step_180 : decode cX7_step 180 = .ok (.iconst 1, 1) := by decide +kernel
theorem dX7_step_181 : decode cX7_step 181 = .ok (.iadd, 1) := by decide +kernel
theorem dX7_step_182 : decode cX7_step 182 = .ok (.aload_n 0, 1) := by decide +kernel
theorem dX7_step_183 : decode cX7_step 183 = .ok (.getfield 65, 3) := by decide +kernel
theorem dX7_step_186 : decode cX7_step 186 = .ok (.iload 5, 2) := by decide +kernel
theorem dX7_step_188 : decode cX7_step 188 = .ok (.iaload, 1) := by decide +kernel
theorem dX7_step_189 : decode cX7_step 189 = .ok (.if_icmp .le 19, 3) := by decide +kernel
theorem dX7_step_192 : decode cX7_step 192 = .ok (.aload_n 0, 1) := by decide +kernel
theorem dX7_step_193 : decode cX7_step 193 = .ok (.getfield 65, 3) := by decide +kernel
theorem dX7_step_196 : decode cX7_step 196 = .ok (.iload 5, 2) := by decide +kernel
theorem dX7_step_198 : decode cX7_step 198 = .ok (.aload_n 0, 1) := by decide +kernel
theorem dX7_step_199 : decode cX7_step 199 = .ok (.getfield 65, 3) := by decide +kernel
theorem dX7_step_202 : decode cX7_step 202 = .ok (.iload 7, 2) := by decide +kernel
theorem dX7_step_204 : decode cX7_step 204 = .ok (.iaload, 1) := by decide +kernel
theorem dX7_step_205 : decode cX7_step 205 = .ok (.iconst 1, 1) := by decide +kernel
theorem dX7_step_206 : decode cX7_step 206 = .ok (.iadd, 1) := by decide +kernel
theorem dX7_step_207 : decode cX7_step 207 = .ok (.iastore, 1) := by decide +kernel
theorem dX7_step_208 : decode cX7_step 208 = .ok (.aload_n 0, 1) := by decide +kernel
theorem dX7_step_209 : decode cX7_step 209 = .ok (.getfield 68, 3) := by decide +kernel
theorem dX7_step_212 : decode cX7_step 212 = .ok (.iload 7, 2) := by decide +kernel
theorem dX7_step_214 : decode cX7_step 214 = .ok (.iaload, 1) := by decide +kernel
theorem dX7_step_215 : decode cX7_step 215 = .ok (.iconst 1, 1) := by decide +kernel
theorem dX7_step_216 : decode cX7_step 216 = .ok (.iadd, 1) := by decide +kernel
theorem dX7_step_217 : decode cX7_step 217 = .ok (.aload_n 0, 1) := by decide +kernel
theorem dX7_step_218 : decode cX7_step 218 = .ok (.getfield 68, 3) := by decide +kernel
theorem dX7_step_221 : decode cX7_step 221 = .ok (.iload 5, 2) := by decide +kernel
theorem dX7_step_223 : decode cX7_step 223 = .ok (.iaload, 1) := by decide +kernel
theorem dX7_step_224 : decode cX7_step 224 = .ok (.if_icmp .ge 19, 3) := by decide +kernel
theorem dX7_step_227 : decode cX7_step 227 = .ok (.aload_n 0, 1) := by decide +kernel
theorem dX7_step_228 : decode cX7_step 228 = .ok (.getfield 68, 3) := by decide +kernel
theorem dX7_step_231 : decode cX7_step 231 = .ok (.iload 5, 2) := by decide +kernel
theorem dX7_step_233 : decode cX7_step 233 = .ok (.aload_n 0, 1) := by decide +kernel
theorem dX7_step_234 : decode cX7_step 234 = .ok (.getfield 68, 3) := by decide +kernel
theorem dX7_step_237 : decode cX7_step 237 = .ok (.iload 7, 2) := by decide +kernel
theorem dX7_step_239 : decode cX7_step 239 = .ok (.iaload, 1) := by decide +kernel
theorem dX7_step_240 : decode cX7_step 240 = .ok (.iconst 1, 1) := by decide +kernel
theorem dX7_step_241 : decode cX7_step 241 = .ok (.iadd, 1) := by decide +kernel
theorem dX7_step_242 : decode cX7_step 242 = .ok (.iastore, 1) := by decide +kernel
theorem dX7_step_243 : decode cX7_step 243 = .ok (.iinc 6 1, 3) := by decide +kernel
theorem dX7_step_246 : decode cX7_step 246 = .ok (.goto (-127), 3) := by decide +kernel
theorem dX7_step_249 : decode cX7_step 249 = .ok (.aload_n 0, 1) := by decide +kernel
theorem dX7_step_250 : decode cX7_step 250 = .ok (.getfield 65, 3) := by decide +kernel
theorem dX7_step_253 : decode cX7_step 253 = .ok (.iload 5, 2) := by decide +kernel
theorem dX7_step_255 : decode cX7_step 255 = .ok (.iaload, 1) := by decide +kernel
theorem dX7_step_256 : decode cX7_step 256 = .ok (.ldc 211, 2) := by decide +kernel
theorem dX7_step_258 : decode cX7_step 258 = .ok (.if_icmp .le 12, 3) := by decide +kernel
theorem dX7_step_261 : decode cX7_step 261 = .ok (.aload_n 0, 1) := by decide +kernel
theorem dX7_step_262 : decode cX7_step 262 = .ok (.getfield 65, 3) := by decide +kernel
theorem dX7_step_265 : decode cX7_step 265 = .ok (.iload 5, 2) := by decide +kernel
theorem dX7_step_267 : decode cX7_step 267 = .ok (.ldc 211, 2) := by decide +kernel
theorem dX7_step_269 : decode cX7_step 269 = .ok (.iastore, 1) := by decide +kernel
theorem dX7_step_270 : decode cX7_step 270 = .ok (.return_, 1) := by decide +kernel
theorem dX7_sure_0 : decode cX7_sure 0 = .ok (.aload_n 0, 1) := by decide +kernel
theorem dX7_sure_1 : decode cX7_sure 1 = .ok (.iconst 0, 1) := by decide +kernel
theorem dX7_sure_2 : decode cX7_sure 2 = .ok (.putfield 87, 3) := by decide +kernel
theorem dX7_sure_5 : decode cX7_sure 5 = .ok (.iload_n 1, 1) := by decide +kernel
theorem dX7_sure_6 : decode cX7_sure 6 = .ok (.ifCond .lt 8, 3) := by decide +kernel
theorem dX7_sure_9 : decode cX7_sure 9 = .ok (.iload_n 1, 1) := by decide +kernel
theorem dX7_sure_10 : decode cX7_sure 10 = .ok (.iconst 2, 1) := by decide +kernel
theorem dX7_sure_11 : decode cX7_sure 11 = .ok (.if_icmp .le 6, 3) := by decide +kernel
theorem dX7_sure_14 : decode cX7_sure 14 = .ok (.bipush (-2), 2) := by decide +kernel
theorem dX7_sure_16 : decode cX7_sure 16 = .ok (.ireturn, 1) := by decide +kernel
theorem dX7_sure_17 : decode cX7_sure 17 = .ok (.aload_n 0, 1) := by decide +kernel
theorem dX7_sure_18 : decode cX7_sure 18 = .ok (.invokevirtual 220, 3) := by decide +kernel
theorem dX7_sure_21 : decode cX7_sure 21 = .ok (.iconst 0, 1) := by decide +kernel
theorem dX7_sure_22 : decode cX7_sure 22 = .ok (.istore_n 2, 1) := by decide +kernel
theorem dX7_sure_23 : decode cX7_sure 23 = .ok (.ldc 211, 2) := by decide +kernel
theorem dX7_sure_25 : decode cX7_sure 25 = .ok (.istore_n 3, 1) := by decide +kernel
theorem dX7_sure_26 : decode cX7_sure 26 = .ok (.iconst 0, 1) := by decide +kernel
theorem dX7_sure_27 : decode cX7_sure 27 = .ok (.istore 4, 2) := by decide +kernel
theorem dX7_sure_29 : decode cX7_sure 29 = .ok (.iconst 0, 1) := by decide +kernel
theorem dX7_sure_30 : decode cX7_sure 30 = .ok (.istore 5, 2) := by decide +kernel
theorem dX7_sure_32 : decode cX7_sure 32 = .ok (.iload 5, 2) := by decide +kernel
theorem dX7_sure_34 : decode cX7_sure 34 = .ok (.aload_n 0, 1) := by decide +kernel
theorem dX7_sure_35 : decode cX7_sure 35 = .ok (.invokevirtual 90, 3) := by decide +kernel
theorem dX7_sure_38 : decode cX7_sure 38 = .ok (.if_icmp .ge 97, 3) := by decide +kernel
theorem dX7_sure_41 : decode cX7_sure 41 = .ok (.aload_n 0, 1) := by decide +kernel
theorem dX7_sure_42 : decode cX7_sure 42 = .ok (.aload_n 0, 1) := by decide +kernel
theorem dX7_sure_43 : decode cX7_sure 43 = .ok (.getfield 18, 3) := by decide +kernel
theorem dX7_sure_46 : decode cX7_sure 46 = .ok (.iload 5, 2) := by decide +kernel
theorem dX7_sure_48 : decode cX7_sure 48 = .ok (.invokevirtual 96, 3) := by decide +kernel
theorem dX7_sure_51 : decode cX7_sure 51 = .ok (.ifCond .ne 6, 3) := by decide +kernel
theorem dX7_sure_54 : decode cX7_sure 54 = .ok (.goto 75, 3) := by decide +kernel
theorem dX7_sure_57 : decode cX7_sure 57 = .ok (.aload_n 0, 1) := by decide +kernel
theorem dX7_sure_58 : decode cX7_sure 58 = .ok (.iconst 0, 1) := by decide +kernel
theorem dX7_sure_59 : decode cX7_sure 59 = .ok (.iload 5, 2) := by decide +kernel
theorem dX7_sure_61 : decode cX7_sure 61 = .ok (.aload_n 0, 1) := by decide +kernel
theorem dX7_sure_62 : decode cX7_sure 62 = .ok (.getfield 100, 3) := by decide +kernel
theorem dX7_sure_65 : decode cX7_sure 65 = .ok (.bipush 6, 2) := by decide +kernel
theorem dX7_sure_67 : decode cX7_sure 67 = .ok (.irem, 1) := by decide +kernel
theorem dX7_sure_68 : decode cX7_sure 68 = .ok (.invokevirtual 208, 3) := by decide +kernel
theorem dX7_sure_71 : decode cX7_sure 71 = .ok (.istore 6, 2) := by decide +kernel
theorem dX7_sure_73 : decode cX7_sure 73 = .ok (.aload_n 0, 1) := by decide +kernel
theorem dX7_sure_74 : decode cX7_sure 74 = .ok (.getfield 65, 3) := by decide +kernel
theorem dX7_sure_77 : decode cX7_sure 77 = .ok (.iload 6, 2) := by decide +kernel
theorem dX7_sure_79 : decode cX7_sure 79 = .ok (.iaload, 1) := by decide +kernel
theorem dX7_sure_80 : decode cX7_sure 80 = .ok (.ldc 211, 2) := by decide +kernel
theorem dX7_sure_82 : decode cX7_sure 82 = .ok (.if_icmp .lt 9, 3) := by decide +kernel
theorem dX7_sure_85 : decode cX7_sure 85 = .ok (.iload 4, 2) := by decide +kernel
theorem dX7_sure_87 : decode cX7_sure 87 = .ok (.iconst 1, 1) := by decide +kernel
theorem dX7_sure_88 : decode cX7_sure 88 = .ok (.iadd, 1) := by decide +kernel
theorem dX7_sure_89 : decode cX7_sure 89 = .ok (.istore 4, 2) := by decide +kernel
theorem dX7_sure_91 : decode cX7_sure 91 = .ok (.aload_n 0, 1) := by decide +kernel
theorem dX7_sure_92 : decode cX7_sure 92 = .ok (.getfield 65, 3) := by decide +kernel
theorem dX7_sure_95 : decode cX7_sure 95 = .ok (.iload 6, 2) := by decide +kernel
theorem dX7_sure_97 : decode cX7_sure 97 = .ok (.iaload, 1) := by decide +kernel
theorem dX7_sure_98 : decode cX7_sure 98 = .ok (.iload_n 2, 1) := by decide +kernel
theorem dX7_sure_99 : decode cX7_sure 99 = .ok (.if_icmp .le 11, 3) := by decide +kernel
theorem dX7_sure_102 : decode cX7_sure 102 = .ok (.aload_n 0, 1) := by decide +kernel
theorem dX7_sure_103 : decode cX7_sure 103 = .ok (.getfield 65, 3) := by decide +kernel
theorem dX7_sure_106 : decode cX7_sure 106 = .ok (.iload 6, 2) := by decide +kernel
theorem dX7_sure_108 : decode cX7_sure 108 = .ok (.iaload, 1) := by decide +kernel
theorem dX7_sure_109 : decode cX7_sure 109 = .ok (.istore_n 2, 1) := by decide +kernel
theorem dX7_sure_110 : decode cX7_sure 110 = .ok (.aload_n 0, 1) := by decide +kernel
theorem dX7_sure_111 : decode cX7_sure 111 = .ok (.getfield 68, 3) := by decide +kernel
theorem dX7_sure_114 : decode cX7_sure 114 = .ok (.iload 6, 2) := by decide +kernel
theorem dX7_sure_116 : decode cX7_sure 116 = .ok (.iaload, 1) := by decide +kernel
theorem dX7_sure_117 : decode cX7_sure 117 = .ok (.iload_n 3, 1) := by decide +kernel
theorem dX7_sure_118 : decode cX7_sure 118 = .ok (.if_icmp .ge 11, 3) := by decide +kernel
theorem dX7_sure_121 : decode cX7_sure 121 = .ok (.aload_n 0, 1) := by decide +kernel
theorem dX7_sure_122 : decode cX7_sure 122 = .ok (.getfield 68, 3) := by decide +kernel
theorem dX7_sure_125 : decode cX7_sure 125 = .ok (.iload 6, 2) := by decide +kernel
theorem dX7_sure_127 : decode cX7_sure 127 = .ok (.iaload, 1) := by decide +kernel
theorem dX7_sure_128 : decode cX7_sure 128 = .ok (.istore_n 3, 1) := by decide +kernel
theorem dX7_sure_129 : decode cX7_sure 129 = .ok (.iinc 5 1, 3) := by decide +kernel
theorem dX7_sure_132 : decode cX7_sure 132 = .ok (.goto (-100), 3) := by decide +kernel
theorem dX7_sure_135 : decode cX7_sure 135 = .ok (.iload_n 1, 1) := by decide +kernel
theorem dX7_sure_136 : decode cX7_sure 136 = .ok (.ifCond .ne 15, 3) := by decide +kernel
theorem dX7_sure_139 : decode cX7_sure 139 = .ok (.iload_n 2, 1) := by decide +kernel
theorem dX7_sure_140 : decode cX7_sure 140 = .ok (.ldc 211, 2) := by decide +kernel
theorem dX7_sure_142 : decode cX7_sure 142 = .ok (.if_icmp .lt 7, 3) := by decide +kernel
theorem dX7_sure_145 : decode cX7_sure 145 = .ok (.iconst (-1), 1) := by decide +kernel
theorem dX7_sure_146 : decode cX7_sure 146 = .ok (.goto 4, 3) := by decide +kernel
theorem dX7_sure_149 : decode cX7_sure 149 = .ok (.iload_n 2, 1) := by decide +kernel
theorem dX7_sure_150 : decode cX7_sure 150 = .ok (.ireturn, 1) := by decide +kernel
theorem dX7_sure_151 : decode cX7_sure 151 = .ok (.iload_n 1, 1) := by decide +kernel
theorem dX7_sure_152 : decode cX7_sure 152 = .ok (.iconst 1, 1) := by decide +kernel
theorem dX7_sure_153 : decode cX7_sure 153 = .ok (.if_icmp .ne 15, 3) := by decide +kernel
theorem dX7_sure_156 : decode cX7_sure 156 = .ok (.iload_n 3, 1) := by decide +kernel
theorem dX7_sure_157 : decode cX7_sure 157 = .ok (.ldc 211, 2) := by decide +kernel
theorem dX7_sure_159 : decode cX7_sure 159 = .ok (.if_icmp .lt 7, 3) := by decide +kernel
theorem dX7_sure_162 : decode cX7_sure 162 = .ok (.iconst (-1), 1) := by decide +kernel
theorem dX7_sure_163 : decode cX7_sure 163 = .ok (.goto 4, 3) := by decide +kernel
theorem dX7_sure_166 : decode cX7_sure 166 = .ok (.iload_n 3, 1) := by decide +kernel
theorem dX7_sure_167 : decode cX7_sure 167 = .ok (.ireturn, 1) := by decide +kernel
theorem dX7_sure_168 : decode cX7_sure 168 = .ok (.iload 4, 2) := by decide +kernel
theorem dX7_sure_170 : decode cX7_sure 170 = .ok (.ireturn, 1) := by decide +kernel
theorem dX7_from_0 : decode cX7_from 0 = .ok (.aload_n 0, 1) := by decide +kernel
theorem dX7_from_1 : decode cX7_from 1 = .ok (.iconst 0, 1) := by decide +kernel
theorem dX7_from_2 : decode cX7_from 2 = .ok (.putfield 87, 3) := by decide +kernel
theorem dX7_from_5 : decode cX7_from 5 = .ok (.aload_n 0, 1) := by decide +kernel
theorem dX7_from_6 : decode cX7_from 6 = .ok (.iload_n 1, 1) := by decide +kernel
theorem dX7_from_7 : decode cX7_from 7 = .ok (.invokevirtual 113, 3) := by decide +kernel
theorem dX7_from_10 : decode cX7_from 10 = .ok (.ifCond .ne 6, 3) := by decide +kernel
theorem dX7_from_13 : decode cX7_from 13 = .ok (.bipush (-2), 2) := by decide +kernel
theorem dX7_from_15 : decode cX7_from 15 = .ok (.ireturn, 1) := by decide +kernel
theorem dX7_from_16 : decode cX7_from 16 = .ok (.aload_n 0, 1) := by decide +kernel
theorem dX7_from_17 : decode cX7_from 17 = .ok (.invokevirtual 220, 3) := by decide +kernel
theorem dX7_from_20 : decode cX7_from 20 = .ok (.aload_n 0, 1) := by decide +kernel
theorem dX7_from_21 : decode cX7_from 21 = .ok (.getfield 65, 3) := by decide +kernel
theorem dX7_from_24 : decode cX7_from 24 = .ok (.aload_n 0, 1) := by decide +kernel
theorem dX7_from_25 : decode cX7_from 25 = .ok (.iconst 0, 1) := by decide +kernel
theorem dX7_from_26 : decode cX7_from 26 = .ok (.iload_n 1, 1) := by decide +kernel
theorem dX7_from_27 : decode cX7_from 27 = .ok (.aload_n 0, 1) := by decide +kernel
theorem dX7_from_28 : decode cX7_from 28 = .ok (.getfield 100, 3) := by decide +kernel
theorem dX7_from_31 : decode cX7_from 31 = .ok (.bipush 6, 2) := by decide +kernel
theorem dX7_from_33 : decode cX7_from 33 = .ok (.irem, 1) := by decide +kernel
theorem dX7_from_34 : decode cX7_from 34 = .ok (.invokevirtual 208, 3) := by decide +kernel
theorem dX7_from_37 : decode cX7_from 37 = .ok (.iaload, 1) := by decide +kernel
theorem dX7_from_38 : decode cX7_from 38 = .ok (.istore_n 2, 1) := by decide +kernel
theorem dX7_from_39 : decode cX7_from 39 = .ok (.iload_n 2, 1) := by decide +kernel
theorem dX7_from_40 : decode cX7_from 40 = .ok (.ldc 211, 2) := by decide +kernel
theorem dX7_from_42 : decode cX7_from 42 = .ok (.if_icmp .lt 7, 3) := by decide +kernel
theorem dX7_from_45 : decode cX7_from 45 = .ok (.iconst (-1), 1) := by decide +kernel
theorem dX7_from_46 : decode cX7_from 46 = .ok (.goto 4, 3) := by decide +kernel
theorem dX7_from_49 : decode cX7_from 49 = .ok (.iload_n 2, 1) := by decide +kernel
theorem dX7_from_50 : decode cX7_from 50 = .ok (.ireturn, 1) := by decide +kernel
theorem dX7_sings_0 : decode cX7_sings 0 = .ok (.aload_n 0, 1) := by decide +kernel
theorem dX7_sings_1 : decode cX7_sings 1 = .ok (.iconst 0, 1) := by decide +kernel
theorem dX7_sings_2 : decode cX7_sings 2 = .ok (.putfield 87, 3) := by decide +kernel
theorem dX7_sings_5 : decode cX7_sings 5 = .ok (.aload_n 0, 1) := by decide +kernel
theorem dX7_sings_6 : decode cX7_sings 6 = .ok (.getfield 22, 3) := by decide +kernel
theorem dX7_sings_9 : decode cX7_sings 9 = .ok (.iconst (-1), 1) := by decide +kernel
theorem dX7_sings_10 : decode cX7_sings 10 = .ok (.if_icmp .eq 15, 3) := by decide +kernel
theorem dX7_sings_13 : decode cX7_sings 13 = .ok (.iload_n 1, 1) := by decide +kernel
theorem dX7_sings_14 : decode cX7_sings 14 = .ok (.ifCond .lt 11, 3) := by decide +kernel
theorem dX7_sings_17 : decode cX7_sings 17 = .ok (.iload_n 1, 1) := by decide +kernel
theorem dX7_sings_18 : decode cX7_sings 18 = .ok (.aload_n 0, 1) := by decide +kernel
theorem dX7_sings_19 : decode cX7_sings 19 = .ok (.getfield 127, 3) := by decide +kernel
theorem dX7_sings_22 : decode cX7_sings 22 = .ok (.if_icmp .lt 5, 3) := by decide +kernel
theorem dX7_sings_25 : decode cX7_sings 25 = .ok (.iconst (-1), 1) := by decide +kernel
theorem dX7_sings_26 : decode cX7_sings 26 = .ok (.ireturn, 1) := by decide +kernel
theorem dX7_sings_27 : decode cX7_sings 27 = .ok (.aload_n 0, 1) := by decide +kernel
theorem dX7_sings_28 : decode cX7_sings 28 = .ok (.aload_n 0, 1) := by decide +kernel
theorem dX7_sings_29 : decode cX7_sings 29 = .ok (.getfield 22, 3) := by decide +kernel
theorem dX7_sings_32 : decode cX7_sings 32 = .ok (.invokevirtual 117, 3) := by decide +kernel
theorem dX7_sings_35 : decode cX7_sings 35 = .ok (.ifCond .eq 6, 3) := by decide +kernel
theorem dX7_sings_38 : decode cX7_sings 38 = .ok (.bipush 9, 2) := by decide +kernel
theorem dX7_sings_40 : decode cX7_sings 40 = .ok (.ireturn, 1) := by decide +kernel
theorem dX7_sings_41 : decode cX7_sings 41 = .ok (.iload_n 1, 1) := by decide +kernel
theorem dX7_sings_42 : decode cX7_sings 42 = .ok (.istore_n 2, 1) := by decide +kernel
theorem dX7_sings_43 : decode cX7_sings 43 = .ok (.iload_n 2, 1) := by decide +kernel
theorem dX7_sings_44 : decode cX7_sings 44 = .ok (.aload_n 0, 1) := by decide +kernel
theorem dX7_sings_45 : decode cX7_sings 45 = .ok (.getfield 127, 3) := by decide +kernel
theorem dX7_sings_48 : decode cX7_sings 48 = .ok (.if_icmp .ge 29, 3) := by decide +kernel
theorem dX7_sings_51 : decode cX7_sings 51 = .ok (.aload_n 0, 1) := by decide +kernel
theorem dX7_sings_52 : decode cX7_sings 52 = .ok (.iload_n 2, 1) := by decide +kernel
theorem dX7_sings_53 : decode cX7_sings 53 = .ok (.aload_n 0, 1) := by decide +kernel
theorem dX7_sings_54 : decode cX7_sings 54 = .ok (.getfield 22, 3) := by decide +kernel
theorem dX7_sings_57 : decode cX7_sings 57 = .ok (.aload_n 0, 1) := by decide +kernel
theorem dX7_sings_58 : decode cX7_sings 58 = .ok (.getfield 100, 3) := by decide +kernel
theorem dX7_sings_61 : decode cX7_sings 61 = .ok (.bipush 6, 2) := by decide +kernel
theorem dX7_sings_63 : decode cX7_sings 63 = .ok (.irem, 1) := by decide +kernel
theorem dX7_sings_64 : decode cX7_sings 64 = .ok (.invokevirtual 216, 3) := by decide +kernel
theorem dX7_sings_67 : decode cX7_sings 67 = .ok (.ifCond .eq 10, 3) := by decide +kernel
theorem dX7_sings_70 : decode cX7_sings 70 = .ok (.iload_n 2, 1) := by decide +kernel
theorem dX7_sings_71 : decode cX7_sings 71 = .ok (.iconst 1, 1) := by decide +kernel
theorem dX7_sings_72 : decode cX7_sings 72 = .ok (.iadd, 1) := by decide +kernel
theorem dX7_sings_73 : decode cX7_sings 73 = .ok (.istore_n 2, 1) := by decide +kernel
theorem dX7_sings_74 : decode cX7_sings 74 = .ok (.goto (-31), 3) := by decide +kernel
theorem dX7_sings_77 : decode cX7_sings 77 = .ok (.iload_n 2, 1) := by decide +kernel
theorem dX7_sings_78 : decode cX7_sings 78 = .ok (.aload_n 0, 1) := by decide +kernel
theorem dX7_sings_79 : decode cX7_sings 79 = .ok (.getfield 127, 3) := by decide +kernel
theorem dX7_sings_82 : decode cX7_sings 82 = .ok (.if_icmp .ne 8, 3) := by decide +kernel
theorem dX7_sings_85 : decode cX7_sings 85 = .ok (.bipush 10, 2) := by decide +kernel
theorem dX7_sings_87 : decode cX7_sings 87 = .ok (.goto 9, 3) := by decide +kernel
theorem dX7_sings_90 : decode cX7_sings 90 = .ok (.aload_n 0, 1) := by decide +kernel
theorem dX7_sings_91 : decode cX7_sings 91 = .ok (.getfield 35, 3) := by decide +kernel
theorem dX7_sings_94 : decode cX7_sings 94 = .ok (.iload_n 2, 1) := by decide +kernel
theorem dX7_sings_95 : decode cX7_sings 95 = .ok (.iaload, 1) := by decide +kernel
theorem dX7_sings_96 : decode cX7_sings 96 = .ok (.ireturn, 1) := by decide +kernel
theorem dX7_isAllLand_0 : decode cX7_isAllLand 0 = .ok (.aload_n 0, 1) := by decide +kernel
theorem dX7_isAllLand_1 : decode cX7_isAllLand 1 = .ok (.lload_n 1, 1) := by decide +kernel
theorem dX7_isAllLand_2 : decode cX7_isAllLand 2 = .ok (.invokevirtual 124, 3) := by decide +kernel
theorem dX7_isAllLand_5 : decode cX7_isAllLand 5 = .ok (.aload_n 0, 1) := by decide +kernel
theorem dX7_isAllLand_6 : decode cX7_isAllLand 6 = .ok (.lload_n 1, 1) := by decide +kernel
theorem dX7_isAllLand_7 : decode cX7_isAllLand 7 = .ok (.invokevirtual 120, 3) := by decide +kernel
theorem dX7_isAllLand_10 : decode cX7_isAllLand 10 = .ok (.if_icmp .ne 7, 3) := by decide +kernel
theorem dX7_isAllLand_13 : decode cX7_isAllLand 13 = .ok (.iconst 1, 1) := by decide +kernel
theorem dX7_isAllLand_14 : decode cX7_isAllLand 14 = .ok (.goto 4, 3) := by decide +kernel
theorem dX7_isAllLand_17 : decode cX7_isAllLand 17 = .ok (.iconst 0, 1) := by decide +kernel
theorem dX7_isAllLand_18 : decode cX7_isAllLand 18 = .ok (.ireturn, 1) := by decide +kernel
theorem dX7_came_0 : decode cX7_came 0 = .ok (.iconst 0, 1) := by decide +kernel
theorem dX7_came_1 : decode cX7_came 1 = .ok (.istore 4, 2) := by decide +kernel
theorem dX7_came_3 : decode cX7_came 3 = .ok (.iload 4, 2) := by decide +kernel
theorem dX7_came_5 : decode cX7_came 5 = .ok (.aload_n 0, 1) := by decide +kernel
theorem dX7_came_6 : decode cX7_came 6 = .ok (.getfield 223, 3) := by decide +kernel
theorem dX7_came_9 : decode cX7_came 9 = .ok (.if_icmp .ge 38, 3) := by decide +kernel
theorem dX7_came_12 : decode cX7_came 12 = .ok (.aload_n 0, 1) := by decide +kernel
theorem dX7_came_13 : decode cX7_came 13 = .ok (.getfield 71, 3) := by decide +kernel
theorem dX7_came_16 : decode cX7_came 16 = .ok (.iload 4, 2) := by decide +kernel
theorem dX7_came_18 : decode cX7_came 18 = .ok (.laload, 1) := by decide +kernel
theorem dX7_came_19 : decode cX7_came 19 = .ok (.lload_n 1, 1) := by decide +kernel
theorem dX7_came_20 : decode cX7_came 20 = .ok (.lcmp, 1) := by decide +kernel
theorem dX7_came_21 : decode cX7_came 21 = .ok (.ifCond .ne 20, 3) := by decide +kernel
theorem dX7_came_24 : decode cX7_came 24 = .ok (.aload_n 0, 1) := by decide +kernel
theorem dX7_came_25 : decode cX7_came 25 = .ok (.getfield 75, 3) := by decide +kernel
theorem dX7_came_28 : decode cX7_came 28 = .ok (.iload 4, 2) := by decide +kernel
theorem dX7_came_30 : decode cX7_came 30 = .ok (.iaload, 1) := by decide +kernel
theorem dX7_came_31 : decode cX7_came 31 = .ok (.iload_n 3, 1) := by decide +kernel
theorem dX7_came_32 : decode cX7_came 32 = .ok (.isub, 1) := by decide +kernel
theorem dX7_came_33 : decode cX7_came 33 = .ok (.bipush 6, 2) := by decide +kernel
theorem dX7_came_35 : decode cX7_came 35 = .ok (.irem, 1) := by decide +kernel
theorem dX7_came_36 : decode cX7_came 36 = .ok (.ifCond .ne 5, 3) := by decide +kernel
theorem dX7_came_39 : decode cX7_came 39 = .ok (.iconst 1, 1) := by decide +kernel
theorem dX7_came_40 : decode cX7_came 40 = .ok (.ireturn, 1) := by decide +kernel
theorem dX7_came_41 : decode cX7_came 41 = .ok (.iinc 4 1, 3) := by decide +kernel
theorem dX7_came_44 : decode cX7_came 44 = .ok (.goto (-41), 3) := by decide +kernel
theorem dX7_came_47 : decode cX7_came 47 = .ok (.iconst 0, 1) := by decide +kernel
theorem dX7_came_48 : decode cX7_came 48 = .ok (.ireturn, 1) := by decide +kernel
theorem dX7_leads_0 : decode cX7_leads 0 = .ok (.aload_n 0, 1) := by decide +kernel
theorem dX7_leads_1 : decode cX7_leads 1 = .ok (.getfield 75, 3) := by decide +kernel
theorem dX7_leads_4 : decode cX7_leads 4 = .ok (.iload_n 1, 1) := by decide +kernel
theorem dX7_leads_5 : decode cX7_leads 5 = .ok (.iaload, 1) := by decide +kernel
theorem dX7_leads_6 : decode cX7_leads 6 = .ok (.istore_n 3, 1) := by decide +kernel
theorem dX7_leads_7 : decode cX7_leads 7 = .ok (.aload_n 0, 1) := by decide +kernel
theorem dX7_leads_8 : decode cX7_leads 8 = .ok (.iload_n 3, 1) := by decide +kernel
theorem dX7_leads_9 : decode cX7_leads 9 = .ok (.iconst 1, 1) := by decide +kernel
theorem dX7_leads_10 : decode cX7_leads 10 = .ok (.iadd, 1) := by decide +kernel
theorem dX7_leads_11 : decode cX7_leads 11 = .ok (.putfield 226, 3) := by decide +kernel
theorem dX7_leads_14 : decode cX7_leads 14 = .ok (.aload_n 0, 1) := by decide +kernel
theorem dX7_leads_15 : decode cX7_leads 15 = .ok (.getfield 84, 3) := by decide +kernel
theorem dX7_leads_18 : decode cX7_leads 18 = .ok (.iload_n 3, 1) := by decide +kernel
theorem dX7_leads_19 : decode cX7_leads 19 = .ok (.iload_n 2, 1) := by decide +kernel
theorem dX7_leads_20 : decode cX7_leads 20 = .ok (.iastore, 1) := by decide +kernel
theorem dX7_leads_21 : decode cX7_leads 21 = .ok (.iload_n 1, 1) := by decide +kernel
theorem dX7_leads_22 : decode cX7_leads 22 = .ok (.istore 4, 2) := by decide +kernel
theorem dX7_leads_24 : decode cX7_leads 24 = .ok (.iload_n 3, 1) := by decide +kernel
theorem dX7_leads_25 : decode cX7_leads 25 = .ok (.ifCond .le 32, 3) := by decide +kernel
theorem dX7_leads_28 : decode cX7_leads 28 = .ok (.iload_n 3, 1) := by decide +kernel
theorem dX7_leads_29 : decode cX7_leads 29 = .ok (.iconst 1, 1) := by decide +kernel
theorem dX7_leads_30 : decode cX7_leads 30 = .ok (.isub, 1) := by decide +kernel
theorem dX7_leads_31 : decode cX7_leads 31 = .ok (.istore_n 3, 1) := by decide +kernel
theorem dX7_leads_32 : decode cX7_leads 32 = .ok (.aload_n 0, 1) := by decide +kernel
theorem dX7_leads_33 : decode cX7_leads 33 = .ok (.getfield 84, 3) := by decide +kernel
theorem dX7_leads_36 : decode cX7_leads 36 = .ok (.iload_n 3, 1) := by decide +kernel
theorem dX7_leads_37 : decode cX7_leads 37 = .ok (.aload_n 0, 1) := by decide +kernel
theorem dX7_leads_38 : decode cX7_leads 38 = .ok (.getfield 81, 3) := by decide +kernel
theorem dX7_leads_41 : decode cX7_leads 41 = .ok (.iload 4, 2) := by decide +kernel
theorem dX7_leads_43 : decode cX7_leads 43 = .ok (.iaload, 1) := by decide +kernel
theorem dX7_leads_44 : decode cX7_leads 44 = .ok (.iastore, 1) := by decide +kernel
theorem dX7_leads_45 : decode cX7_leads 45 = .ok (.aload_n 0, 1) := by decide +kernel
theorem dX7_leads_46 : decode cX7_leads 46 = .ok (.getfield 78, 3) := by decide +kernel
theorem dX7_leads_49 : decode cX7_leads 49 = .ok (.iload 4, 2) := by decide +kernel
theorem dX7_leads_51 : decode cX7_leads 51 = .ok (.iaload, 1) := by decide +kernel
theorem dX7_leads_52 : decode cX7_leads 52 = .ok (.istore 4, 2) := by decide +kernel
theorem dX7_leads_54 : decode cX7_leads 54 = .ok (.goto (-30), 3) := by decide +kernel
theorem dX7_leads_57 : decode cX7_leads 57 = .ok (.return_, 1) := by decide +kernel
theorem dX7_findBlind_0 : decode cX7_findBlind 0 = .ok (.aload_n 0, 1) := by decide +kernel
theorem dX7_findBlind_1 : decode cX7_findBlind 1 = .ok (.iconst 0, 1) := by decide +kernel
theorem dX7_findBlind_2 : decode cX7_findBlind 2 = .ok (.putfield 226, 3) := by decide +kernel
theorem dX7_findBlind_5 : decode cX7_findBlind 5 = .ok (.aload_n 0, 1) := by decide +kernel
theorem dX7_findBlind_6 : decode cX7_findBlind 6 = .ok (.aload_n 0, 1) := by decide +kernel
theorem dX7_findBlind_7 : decode cX7_findBlind 7 = .ok (.getfield 18, 3) := by decide +kernel
theorem dX7_findBlind_10 : decode cX7_findBlind 10 = .ok (.invokevirtual 229, 3) := by decide +kernel
theorem dX7_findBlind_13 : decode cX7_findBlind 13 = .ok (.ifCond .eq 5, 3) := by decide +kernel
theorem dX7_findBlind_16 : decode cX7_findBlind 16 = .ok (.iconst 1, 1) := by decide +kernel
theorem dX7_findBlind_17 : decode cX7_findBlind 17 = .ok (.ireturn, 1) := by decide +kernel
theorem dX7_findBlind_18 : decode cX7_findBlind 18 = .ok (.aload_n 0, 1) := by decide +kernel
theorem dX7_findBlind_19 : decode cX7_findBlind 19 = .ok (.iconst 1, 1) := by decide +kernel
theorem dX7_findBlind_20 : decode cX7_findBlind 20 = .ok (.putfield 223, 3) := by decide +kernel
theorem dX7_findBlind_23 : decode cX7_findBlind 23 = .ok (.aload_n 0, 1) := by decide +kernel
theorem dX7_findBlind_24 : decode cX7_findBlind 24 = .ok (.getfield 71, 3) := by decide +kernel
theorem dX7_findBlind_27 : decode cX7_findBlind 27 = .ok (.iconst 0, 1) := by decide +kernel
theorem dX7_findBlind_28 : decode cX7_findBlind 28 = .ok (.aload_n 0, 1) := by decide +kernel
theorem dX7_findBlind_29 : decode cX7_findBlind 29 = .ok (.getfield 18, 3) := by decide +kernel
theorem dX7_findBlind_32 : decode cX7_findBlind 32 = .ok (.lastore, 1) := by decide +kernel
theorem dX7_findBlind_33 : decode cX7_findBlind 33 = .ok (.aload_n 0, 1) := by decide +kernel
theorem dX7_findBlind_34 : decode cX7_findBlind 34 = .ok (.getfield 75, 3) := by decide +kernel
theorem dX7_findBlind_37 : decode cX7_findBlind 37 = .ok (.iconst 0, 1) := by decide +kernel
theorem dX7_findBlind_38 : decode cX7_findBlind 38 = .ok (.iconst 0, 1) := by decide +kernel
theorem dX7_findBlind_39 : decode cX7_findBlind 39 = .ok (.iastore, 1) := by decide +kernel
theorem dX7_findBlind_40 : decode cX7_findBlind 40 = .ok (.iconst 0, 1) := by decide +kernel
theorem dX7_findBlind_41 : decode cX7_findBlind 41 = .ok (.istore_n 1, 1) := by decide +kernel
theorem dX7_findBlind_42 : decode cX7_findBlind 42 = .ok (.iload_n 1, 1) := by decide +kernel
theorem dX7_findBlind_43 : decode cX7_findBlind 43 = .ok (.aload_n 0, 1) := by decide +kernel
theorem dX7_findBlind_44 : decode cX7_findBlind 44 = .ok (.getfield 223, 3) := by decide +kernel
theorem dX7_findBlind_47 : decode cX7_findBlind 47 = .ok (.if_icmp .ge 178, 3) := by decide +kernel
theorem dX7_findBlind_50 : decode cX7_findBlind 50 = .ok (.aload_n 0, 1) := by decide +kernel
theorem dX7_findBlind_51 : decode cX7_findBlind 51 = .ok (.getfield 75, 3) := by decide +kernel
theorem dX7_findBlind_54 : decode cX7_findBlind 54 = .ok (.iload_n 1, 1) := by decide +kernel
theorem dX7_findBlind_55 : decode cX7_findBlind 55 = .ok (.iaload, 1) := by decide +kernel
theorem dX7_findBlind_56 : decode cX7_findBlind 56 = .ok (.bipush 12, 2) := by decide +kernel
theorem dX7_findBlind_58 : decode cX7_findBlind 58 = .ok (.if_icmp .ne 6, 3) := by decide +kernel
theorem dX7_findBlind_61 : decode cX7_findBlind 61 = .ok (.goto 158, 3) := by decide +kernel
theorem dX7_findBlind_64 : decode cX7_findBlind 64 = .ok (.iconst 0, 1) := by decide +kernel
theorem dX7_findBlind_65 : decode cX7_findBlind 65 = .ok (.istore_n 2, 1) := by decide +kernel
theorem dX7_findBlind_66 : decode cX7_findBlind 66 = .ok (.iload_n 2, 1) := by decide +kernel
theorem dX7_findBlind_67 : decode cX7_findBlind 67 = .ok (.bipush 9, 2) := by decide +kernel
theorem dX7_findBlind_69 : decode cX7_findBlind 69 = .ok (.if_icmp .ge 150, 3) := by decide +kernel
theorem dX7_findBlind_72 : decode cX7_findBlind 72 = .ok (.aload_n 0, 1) := by decide +kernel
theorem dX7_findBlind_73 : decode cX7_findBlind 73 = .ok (.aload_n 0, 1) := by decide +kernel
theorem dX7_findBlind_74 : decode cX7_findBlind 74 = .ok (.getfield 71, 3) := by decide +kernel
theorem dX7_findBlind_77 : decode cX7_findBlind 77 = .ok (.iload_n 1, 1) := by decide +kernel
theorem dX7_findBlind_78 : decode cX7_findBlind 78 = .ok (.laload, 1) := by decide +kernel
theorem dX7_findBlind_79 : decode cX7_findBlind 79 = .ok (.iload_n 2, 1) := by decide +kernel
theorem dX7_findBlind_80 : decode cX7_findBlind 80 = .ok (.aload_n 0, 1) := by decide +kernel
theorem dX7_findBlind_81 : decode cX7_findBlind 81 = .ok (.getfield 100, 3) := by decide +kernel
theorem dX7_findBlind_84 : decode cX7_findBlind 84 = .ok (.aload_n 0, 1) := by decide +kernel
theorem dX7_findBlind_85 : decode cX7_findBlind 85 = .ok (.getfield 75, 3) := by decide +kernel
theorem dX7_findBlind_88 : decode cX7_findBlind 88 = .ok (.iload_n 1, 1) := by decide +kernel
theorem dX7_findBlind_89 : decode cX7_findBlind 89 = .ok (.iaload, 1) := by decide +kernel
theorem dX7_findBlind_90 : decode cX7_findBlind 90 = .ok (.iadd, 1) := by decide +kernel
theorem dX7_findBlind_91 : decode cX7_findBlind 91 = .ok (.bipush 6, 2) := by decide +kernel
theorem dX7_findBlind_93 : decode cX7_findBlind 93 = .ok (.irem, 1) := by decide +kernel
theorem dX7_findBlind_94 : decode cX7_findBlind 94 = .ok (.invokevirtual 138, 3) := by decide +kernel
theorem dX7_findBlind_97 : decode cX7_findBlind 97 = .ok (.lstore_n 3, 1) := by decide +kernel
theorem dX7_findBlind_98 : decode cX7_findBlind 98 = .ok (.aload_n 0, 1) := by decide +kernel
theorem dX7_findBlind_99 : decode cX7_findBlind 99 = .ok (.lload_n 3, 1) := by decide +kernel
theorem dX7_findBlind_100 : decode cX7_findBlind 100 = .ok (.invokevirtual 229, 3) := by decide +kernel
theorem dX7_findBlind_103 : decode cX7_findBlind 103 = .ok (.ifCond .eq 11, 3) := by decide +kernel
theorem dX7_findBlind_106 : decode cX7_findBlind 106 = .ok (.aload_n 0, 1) := by decide +kernel
theorem dX7_findBlind_107 : decode cX7_findBlind 107 = .ok (.iload_n 1, 1) := by decide +kernel
theorem dX7_findBlind_108 : decode cX7_findBlind 108 = .ok (.iload_n 2, 1) := by decide +kernel
theorem dX7_findBlind_109 : decode cX7_findBlind 109 = .ok (.invokevirtual 233, 3) := by decide +kernel
theorem dX7_findBlind_112 : decode cX7_findBlind 112 = .ok (.iconst 1, 1) := by decide +kernel
theorem dX7_findBlind_113 : decode cX7_findBlind 113 = .ok (.ireturn, 1) := by decide +kernel
theorem dX7_findBlind_114 : decode cX7_findBlind 114 = .ok (.aload_n 0, 1) := by decide +kernel
theorem dX7_findBlind_115 : decode cX7_findBlind 115 = .ok (.getfield 75, 3) := by decide +kernel
theorem dX7_findBlind_118 : decode cX7_findBlind 118 = .ok (.iload_n 1, 1) := by decide +kernel
theorem dX7_findBlind_119 : decode cX7_findBlind 119 = .ok (.iaload, 1) := by decide +kernel
theorem dX7_findBlind_120 : decode cX7_findBlind 120 = .ok (.bipush 11, 2) := by decide +kernel
theorem dX7_findBlind_122 : decode cX7_findBlind 122 = .ok (.if_icmp .eq 91, 3) := by decide +kernel
theorem dX7_findBlind_125 : decode cX7_findBlind 125 = .ok (.aload_n 0, 1) := by decide +kernel
theorem dX7_findBlind_126 : decode cX7_findBlind 126 = .ok (.lload_n 3, 1) := by decide +kernel
theorem dX7_findBlind_127 : decode cX7_findBlind 127 = .ok (.aload_n 0, 1) := by decide +kernel
theorem dX7_findBlind_128 : decode cX7_findBlind 128 = .ok (.getfield 75, 3) := by decide +kernel
theorem dX7_findBlind_131 : decode cX7_findBlind 131 = .ok (.iload_n 1, 1) := by decide +kernel
theorem dX7_findBlind_132 : decode cX7_findBlind 132 = .ok (.iaload, 1) := by decide +kernel
theorem dX7_findBlind_133 : decode cX7_findBlind 133 = .ok (.iconst 1, 1) := by decide +kernel
theorem dX7_findBlind_134 : decode cX7_findBlind 134 = .ok (.iadd, 1) := by decide +kernel
theorem dX7_findBlind_135 : decode cX7_findBlind 135 = .ok (.invokevirtual 237, 3) := by decide +kernel
theorem dX7_findBlind_138 : decode cX7_findBlind 138 = .ok (.ifCond .eq 6, 3) := by decide +kernel
theorem dX7_findBlind_141 : decode cX7_findBlind 141 = .ok (.goto 72, 3) := by decide +kernel
theorem dX7_findBlind_144 : decode cX7_findBlind 144 = .ok (.aload_n 0, 1) := by decide +kernel
theorem dX7_findBlind_145 : decode cX7_findBlind 145 = .ok (.getfield 223, 3) := by decide +kernel
theorem dX7_findBlind_148 : decode cX7_findBlind 148 = .ok (.sipush 3000, 3) := by decide +kernel
theorem dX7_findBlind_151 : decode cX7_findBlind 151 = .ok (.if_icmp .ne 5, 3) := by decide +kernel
theorem dX7_findBlind_154 : decode cX7_findBlind 154 = .ok (.iconst (-1), 1) := by decide +kernel
theorem dX7_findBlind_155 : decode cX7_findBlind 155 = .ok (.ireturn, 1) := by decide +kernel
theorem dX7_findBlind_156 : decode cX7_findBlind 156 = .ok (.aload_n 0, 1) := by decide +kernel
theorem dX7_findBlind_157 : decode cX7_findBlind 157 = .ok (.getfield 71, 3) := by decide +kernel
theorem dX7_findBlind_160 : decode cX7_findBlind 160 = .ok (.aload_n 0, 1) := by decide +kernel
theorem dX7_findBlind_161 : decode cX7_findBlind 161 = .ok (.getfield 223, 3) := by decide +kernel
theorem dX7_findBlind_164 : decode cX7_findBlind 164 = .ok (.lload_n 3, 1) := by decide +kernel
theorem dX7_findBlind_165 : decode cX7_findBlind 165 = .ok (.lastore, 1) := by decide +kernel
theorem dX7_findBlind_166 : decode cX7_findBlind 166 = .ok (.aload_n 0, 1) := by decide +kernel
theorem dX7_findBlind_167 : decode cX7_findBlind 167 = .ok (.getfield 75, 3) := by decide +kernel
theorem dX7_findBlind_170 : decode cX7_findBlind 170 = .ok (.aload_n 0, 1) := by decide +kernel
theorem dX7_findBlind_171 : decode cX7_findBlind 171 = .ok (.getfield 223, 3) := by decide +kernel
theorem dX7_findBlind_174 : decode cX7_findBlind 174 = .ok (.aload_n 0, 1) := by decide +kernel
theorem dX7_findBlind_175 : decode cX7_findBlind 175 = .ok (.getfield 75, 3) := by decide +kernel
theorem dX7_findBlind_178 : decode cX7_findBlind 178 = .ok (.iload_n 1, 1) := by decide +kernel
theorem dX7_findBlind_179 : decode cX7_findBlind 179 = .ok (.iaload, 1) := by decide +kernel
theorem dX7_findBlind_180 : decode cX7_findBlind 180 = .ok (.iconst 1, 1) := by decide +kernel
theorem dX7_findBlind_181 : decode cX7_findBlind 181 = .ok (.iadd, 1) := by decide +kernel
theorem dX7_findBlind_182 : decode cX7_findBlind 182 = .ok (.iastore, 1) := by decide +kernel
theorem dX7_findBlind_183 : decode cX7_findBlind 183 = .ok (.aload_n 0, 1) := by decide +kernel
theorem dX7_findBlind_184 : decode cX7_findBlind 184 = .ok (.getfield 78, 3) := by decide +kernel
theorem dX7_findBlind_187 : decode cX7_findBlind 187 = .ok (.aload_n 0, 1) := by decide +kernel
theorem dX7_findBlind_188 : decode cX7_findBlind 188 = .ok (.getfield 223, 3) := by decide +kernel
theorem dX7_findBlind_191 : decode cX7_findBlind 191 = .ok (.iload_n 1, 1) := by decide +kernel
theorem dX7_findBlind_192 : decode cX7_findBlind 192 = .ok (.iastore, 1) := by decide +kernel
theorem dX7_findBlind_193 : decode cX7_findBlind 193 = .ok (.aload_n 0, 1) := by decide +kernel
theorem dX7_findBlind_194 : decode cX7_findBlind 194 = .ok (.getfield 81, 3) := by decide +kernel
theorem dX7_findBlind_197 : decode cX7_findBlind 197 = .ok (.aload_n 0, 1) := by decide +kernel
theorem dX7_findBlind_198 : decode cX7_findBlind 198 = .ok (.getfield 223, 3) := by decide +kernel
theorem dX7_findBlind_201 : decode cX7_findBlind 201 = .ok (.iload_n 2, 1) := by decide +kernel
theorem dX7_findBlind_202 : decode cX7_findBlind 202 = .ok (.iastore, 1) := by decide +kernel
theorem dX7_findBlind_203 : decode cX7_findBlind 203 = .ok (.aload_n 0, 1) := by decide +kernel
theorem dX7_findBlind_204 : decode cX7_findBlind 204 = .ok (.aload_n 0, 1) := by decide +kernel
theorem dX7_findBlind_205 : decode cX7_findBlind 205 = .ok (.getfield 223, 3) := by decide +kernel
theorem dX7_findBlind_208 : decode cX7_findBlind 208 = .ok (.iconst 1, 1) := by decide +kernel
theorem dX7_findBlind_209 : decode cX7_findBlind 209 = .ok (.iadd, 1) := by decide +kernel
theorem dX7_findBlind_210 : decode cX7_findBlind 210 = .ok (.putfield 223, 3) := by decide +kernel
theorem dX7_findBlind_213 : decode cX7_findBlind 213 = .ok (.iinc 2 1, 3) := by decide +kernel
theorem dX7_findBlind_216 : decode cX7_findBlind 216 = .ok (.goto (-150), 3) := by decide +kernel
theorem dX7_findBlind_219 : decode cX7_findBlind 219 = .ok (.iinc 1 1, 3) := by decide +kernel
theorem dX7_findBlind_222 : decode cX7_findBlind 222 = .ok (.goto (-180), 3) := by decide +kernel
theorem dX7_findBlind_225 : decode cX7_findBlind 225 = .ok (.iconst 0, 1) := by decide +kernel
theorem dX7_findBlind_226 : decode cX7_findBlind 226 = .ok (.ireturn, 1) := by decide +kernel
theorem dX7_blind_0 : decode cX7_blind 0 = .ok (.aload_n 0, 1) := by decide +kernel
theorem dX7_blind_1 : decode cX7_blind 1 = .ok (.iconst 0, 1) := by decide +kernel
theorem dX7_blind_2 : decode cX7_blind 2 = .ok (.putfield 87, 3) := by decide +kernel
theorem dX7_blind_5 : decode cX7_blind 5 = .ok (.iload_n 1, 1) := by decide +kernel
theorem dX7_blind_6 : decode cX7_blind 6 = .ok (.ifCond .eq 18, 3) := by decide +kernel
theorem dX7_blind_9 : decode cX7_blind 9 = .ok (.iload_n 1, 1) := by decide +kernel
theorem dX7_blind_10 : decode cX7_blind 10 = .ok (.bipush 10, 2) := by decide +kernel
theorem dX7_blind_12 : decode cX7_blind 12 = .ok (.if_icmp .lt 9, 3) := by decide +kernel
theorem dX7_blind_15 : decode cX7_blind 15 = .ok (.iload_n 1, 1) := by decide +kernel
theorem dX7_blind_16 : decode cX7_blind 16 = .ok (.bipush 21, 2) := by decide +kernel
theorem dX7_blind_18 : decode cX7_blind 18 = .ok (.if_icmp .le 6, 3) := by decide +kernel
theorem dX7_blind_21 : decode cX7_blind 21 = .ok (.bipush (-2), 2) := by decide +kernel
theorem dX7_blind_23 : decode cX7_blind 23 = .ok (.ireturn, 1) := by decide +kernel
theorem dX7_blind_24 : decode cX7_blind 24 = .ok (.aload_n 0, 1) := by decide +kernel
theorem dX7_blind_25 : decode cX7_blind 25 = .ok (.invokevirtual 240, 3) := by decide +kernel
theorem dX7_blind_28 : decode cX7_blind 28 = .ok (.istore_n 2, 1) := by decide +kernel
theorem dX7_blind_29 : decode cX7_blind 29 = .ok (.iload_n 2, 1) := by decide +kernel
theorem dX7_blind_30 : decode cX7_blind 30 = .ok (.ifCond .ne 5, 3) := by decide +kernel
theorem dX7_blind_33 : decode cX7_blind 33 = .ok (.iconst (-1), 1) := by decide +kernel
theorem dX7_blind_34 : decode cX7_blind 34 = .ok (.ireturn, 1) := by decide +kernel
theorem dX7_blind_35 : decode cX7_blind 35 = .ok (.iload_n 2, 1) := by decide +kernel
theorem dX7_blind_36 : decode cX7_blind 36 = .ok (.iconst (-1), 1) := by decide +kernel
theorem dX7_blind_37 : decode cX7_blind 37 = .ok (.if_icmp .ne 6, 3) := by decide +kernel
theorem dX7_blind_40 : decode cX7_blind 40 = .ok (.bipush (-2), 2) := by decide +kernel
theorem dX7_blind_42 : decode cX7_blind 42 = .ok (.ireturn, 1) := by decide +kernel
theorem dX7_blind_43 : decode cX7_blind 43 = .ok (.iload_n 1, 1) := by decide +kernel
theorem dX7_blind_44 : decode cX7_blind 44 = .ok (.ifCond .ne 8, 3) := by decide +kernel
theorem dX7_blind_47 : decode cX7_blind 47 = .ok (.aload_n 0, 1) := by decide +kernel
theorem dX7_blind_48 : decode cX7_blind 48 = .ok (.getfield 226, 3) := by decide +kernel
theorem dX7_blind_51 : decode cX7_blind 51 = .ok (.ireturn, 1) := by decide +kernel
theorem dX7_blind_52 : decode cX7_blind 52 = .ok (.iload_n 1, 1) := by decide +kernel
theorem dX7_blind_53 : decode cX7_blind 53 = .ok (.bipush 10, 2) := by decide +kernel
theorem dX7_blind_55 : decode cX7_blind 55 = .ok (.isub, 1) := by decide +kernel
theorem dX7_blind_56 : decode cX7_blind 56 = .ok (.aload_n 0, 1) := by decide +kernel
theorem dX7_blind_57 : decode cX7_blind 57 = .ok (.getfield 226, 3) := by decide +kernel
theorem dX7_blind_60 : decode cX7_blind 60 = .ok (.if_icmp .ge 15, 3) := by decide +kernel
theorem dX7_blind_63 : decode cX7_blind 63 = .ok (.aload_n 0, 1) := by decide +kernel
theorem dX7_blind_64 : decode cX7_blind 64 = .ok (.getfield 84, 3) := by decide +kernel
theorem dX7_blind_67 : decode cX7_blind 67 = .ok (.iload_n 1, 1) := by decide +kernel
theorem dX7_blind_68 : decode cX7_blind 68 = .ok (.bipush 10, 2) := by decide +kernel
theorem dX7_blind_70 : decode cX7_blind 70 = .ok (.isub, 1) := by decide +kernel
theorem dX7_blind_71 : decode cX7_blind 71 = .ok (.iaload, 1) := by decide +kernel
theorem dX7_blind_72 : decode cX7_blind 72 = .ok (.goto 5, 3) := by decide +kernel
theorem dX7_blind_75 : decode cX7_blind 75 = .ok (.bipush (-2), 2) := by decide +kernel
theorem dX7_blind_77 : decode cX7_blind 77 = .ok (.ireturn, 1) := by decide +kernel
theorem dL_law_0 : decode cL_law 0 = .ok (.new 7, 3) := by decide +kernel
theorem dL_law_3 : decode cL_law 3 = .ok (.dup, 1) := by decide +kernel
theorem dL_law_4 : decode cL_law 4 = .ok (.invokespecial 9, 3) := by decide +kernel
theorem dL_law_7 : decode cL_law 7 = .ok (.astore_n 1, 1) := by decide +kernel
theorem dL_law_8 : decode cL_law 8 = .ok (.new 10, 3) := by decide +kernel
theorem dL_law_11 : decode cL_law 11 = .ok (.dup, 1) := by decide +kernel
theorem dL_law_12 : decode cL_law 12 = .ok (.invokespecial 12, 3) := by decide +kernel
theorem dL_law_15 : decode cL_law 15 = .ok (.astore_n 2, 1) := by decide +kernel
theorem dL_law_16 : decode cL_law 16 = .ok (.iconst 0, 1) := by decide +kernel
theorem dL_law_17 : decode cL_law 17 = .ok (.istore_n 3, 1) := by decide +kernel
theorem dL_law_18 : decode cL_law 18 = .ok (.iload_n 3, 1) := by decide +kernel
theorem dL_law_19 : decode cL_law 19 = .ok (.aload_n 0, 1) := by decide +kernel
theorem dL_law_20 : decode cL_law 20 = .ok (.arraylength, 1) := by decide +kernel
theorem dL_law_21 : decode cL_law 21 = .ok (.bipush 6, 2) := by decide +kernel
theorem dL_law_23 : decode cL_law 23 = .ok (.isub, 1) := by decide +kernel
theorem dL_law_24 : decode cL_law 24 = .ok (.if_icmp .gt 728, 3) := by decide +kernel
theorem dL_law_27 : decode cL_law 27 = .ok (.aload_n 0, 1) := by decide +kernel
theorem dL_law_28 : decode cL_law 28 = .ok (.iload_n 3, 1) := by decide +kernel
theorem dL_law_29 : decode cL_law 29 = .ok (.iaload, 1) := by decide +kernel
theorem dL_law_30 : decode cL_law 30 = .ok (.bipush 31, 2) := by decide +kernel
theorem dL_law_32 : decode cL_law 32 = .ok (.iand, 1) := by decide +kernel
theorem dL_law_33 : decode cL_law 33 = .ok (.tableswitch 713 0 20 #[99, 132, 165, 198, 231, 264, 287, 301, 354, 377, 410, 453, 486, 499, 562, 585, 598, 621, 644, 667, 690], 99) := by decide +kernel
theorem dL_law_132 : decode cL_law 132 = .ok (.aload_n 1, 1) := by decide +kernel
theorem dL_law_133 : decode cL_law 133 = .ok (.aload_n 0, 1) := by decide +kernel
theorem dL_law_134 : decode cL_law 134 = .ok (.iload_n 3, 1) := by decide +kernel
theorem dL_law_135 : decode cL_law 135 = .ok (.iconst 1, 1) := by decide +kernel
theorem dL_law_136 : decode cL_law 136 = .ok (.iadd, 1) := by decide +kernel
theorem dL_law_137 : decode cL_law 137 = .ok (.iaload, 1) := by decide +kernel
theorem dL_law_138 : decode cL_law 138 = .ok (.aload_n 0, 1) := by decide +kernel
theorem dL_law_139 : decode cL_law 139 = .ok (.iload_n 3, 1) := by decide +kernel
theorem dL_law_140 : decode cL_law 140 = .ok (.iconst 2, 1) := by decide +kernel
theorem dL_law_141 : decode cL_law 141 = .ok (.iadd, 1) := by decide +kernel
theorem dL_law_142 : decode cL_law 142 = .ok (.iaload, 1) := by decide +kernel
theorem dL_law_143 : decode cL_law 143 = .ok (.invokevirtual 13, 3) := by decide +kernel
theorem dL_law_146 : decode cL_law 146 = .ok (.aload_n 2, 1) := by decide +kernel
theorem dL_law_147 : decode cL_law 147 = .ok (.aload_n 0, 1) := by decide +kernel
theorem dL_law_148 : decode cL_law 148 = .ok (.iload_n 3, 1) := by decide +kernel
theorem dL_law_149 : decode cL_law 149 = .ok (.iconst 1, 1) := by decide +kernel
theorem dL_law_150 : decode cL_law 150 = .ok (.iadd, 1) := by decide +kernel
theorem dL_law_151 : decode cL_law 151 = .ok (.iaload, 1) := by decide +kernel
theorem dL_law_152 : decode cL_law 152 = .ok (.aload_n 0, 1) := by decide +kernel
theorem dL_law_153 : decode cL_law 153 = .ok (.iload_n 3, 1) := by decide +kernel
theorem dL_law_154 : decode cL_law 154 = .ok (.iconst 2, 1) := by decide +kernel
theorem dL_law_155 : decode cL_law 155 = .ok (.iadd, 1) := by decide +kernel
theorem dL_law_156 : decode cL_law 156 = .ok (.iaload, 1) := by decide +kernel
theorem dL_law_157 : decode cL_law 157 = .ok (.invokevirtual 17, 3) := by decide +kernel
theorem dL_law_160 : decode cL_law 160 = .ok (.if_icmp .eq 586, 3) := by decide +kernel
theorem dL_law_163 : decode cL_law 163 = .ok (.iconst 0, 1) := by decide +kernel
theorem dL_law_164 : decode cL_law 164 = .ok (.ireturn, 1) := by decide +kernel
theorem dL_law_165 : decode cL_law 165 = .ok (.aload_n 1, 1) := by decide +kernel
theorem dL_law_166 : decode cL_law 166 = .ok (.aload_n 0, 1) := by decide +kernel
theorem dL_law_167 : decode cL_law 167 = .ok (.iload_n 3, 1) := by decide +kernel
theorem dL_law_168 : decode cL_law 168 = .ok (.iconst 1, 1) := by decide +kernel
theorem dL_law_169 : decode cL_law 169 = .ok (.iadd, 1) := by decide +kernel
theorem dL_law_170 : decode cL_law 170 = .ok (.iaload, 1) := by decide +kernel
theorem dL_law_171 : decode cL_law 171 = .ok (.aload_n 0, 1) := by decide +kernel
theorem dL_law_172 : decode cL_law 172 = .ok (.iload_n 3, 1) := by decide +kernel
theorem dL_law_173 : decode cL_law 173 = .ok (.iconst 2, 1) := by decide +kernel
theorem dL_law_174 : decode cL_law 174 = .ok (.iadd, 1) := by decide +kernel
theorem dL_law_175 : decode cL_law 175 = .ok (.iaload, 1) := by decide +kernel
theorem dL_law_176 : decode cL_law 176 = .ok (.invokevirtual 18, 3) := by decide +kernel
theorem dL_law_179 : decode cL_law 179 = .ok (.aload_n 2, 1) := by decide +kernel
theorem dL_law_180 : decode cL_law 180 = .ok (.aload_n 0, 1) := by decide +kernel
theorem dL_law_181 : decode cL_law 181 = .ok (.iload_n 3, 1) := by decide +kernel
theorem dL_law_182 : decode cL_law 182 = .ok (.iconst 1, 1) := by decide +kernel
theorem dL_law_183 : decode cL_law 183 = .ok (.iadd, 1) := by decide +kernel
theorem dL_law_184 : decode cL_law 184 = .ok (.iaload, 1) := by decide +kernel
theorem dL_law_185 : decode cL_law 185 = .ok (.aload_n 0, 1) := by decide +kernel
theorem dL_law_186 : decode cL_law 186 = .ok (.iload_n 3, 1) := by decide +kernel
theorem dL_law_187 : decode cL_law 187 = .ok (.iconst 2, 1) := by decide +kernel
theorem dL_law_188 : decode cL_law 188 = .ok (.iadd, 1) := by decide +kernel
theorem dL_law_189 : decode cL_law 189 = .ok (.iaload, 1) := by decide +kernel
theorem dL_law_190 : decode cL_law 190 = .ok (.invokevirtual 21, 3) := by decide +kernel
theorem dL_law_193 : decode cL_law 193 = .ok (.if_icmp .eq 553, 3) := by decide +kernel
theorem dL_law_196 : decode cL_law 196 = .ok (.iconst 0, 1) := by decide +kernel
theorem dL_law_197 : decode cL_law 197 = .ok (.ireturn, 1) := by decide +kernel
theorem dL_law_198 : decode cL_law 198 = .ok (.aload_n 1, 1) := by decide +kernel
theorem dL_law_199 : decode cL_law 199 = .ok (.aload_n 0, 1) := by decide +kernel
theorem dL_law_200 : decode cL_law 200 = .ok (.iload_n 3, 1) := by decide +kernel
theorem dL_law_201 : decode cL_law 201 = .ok (.iconst 1, 1) := by decide +kernel
theorem dL_law_202 : decode cL_law 202 = .ok (.iadd, 1) := by decide +kernel
theorem dL_law_203 : decode cL_law 203 = .ok (.iaload, 1) := by decide +kernel
theorem dL_law_204 : decode cL_law 204 = .ok (.aload_n 0, 1) := by decide +kernel
theorem dL_law_205 : decode cL_law 205 = .ok (.iload_n 3, 1) := by decide +kernel
theorem dL_law_206 : decode cL_law 206 = .ok (.iconst 2, 1) := by decide +kernel
theorem dL_law_207 : decode cL_law 207 = .ok (.iadd, 1) := by decide +kernel
theorem dL_law_208 : decode cL_law 208 = .ok (.iaload, 1) := by decide +kernel
theorem dL_law_209 : decode cL_law 209 = .ok (.invokevirtual 22, 3) := by decide +kernel
theorem dL_law_212 : decode cL_law 212 = .ok (.aload_n 2, 1) := by decide +kernel
theorem dL_law_213 : decode cL_law 213 = .ok (.aload_n 0, 1) := by decide +kernel
theorem dL_law_214 : decode cL_law 214 = .ok (.iload_n 3, 1) := by decide +kernel
theorem dL_law_215 : decode cL_law 215 = .ok (.iconst 1, 1) := by decide +kernel
theorem dL_law_216 : decode cL_law 216 = .ok (.iadd, 1) := by decide +kernel
theorem dL_law_217 : decode cL_law 217 = .ok (.iaload, 1) := by decide +kernel
theorem dL_law_218 : decode cL_law 218 = .ok (.aload_n 0, 1) := by decide +kernel
theorem dL_law_219 : decode cL_law 219 = .ok (.iload_n 3, 1) := by decide +kernel
theorem dL_law_220 : decode cL_law 220 = .ok (.iconst 2, 1) := by decide +kernel
theorem dL_law_221 : decode cL_law 221 = .ok (.iadd, 1) := by decide +kernel
theorem dL_law_222 : decode cL_law 222 = .ok (.iaload, 1) := by decide +kernel
theorem dL_law_223 : decode cL_law 223 = .ok (.invokevirtual 25, 3) := by decide +kernel
theorem dL_law_226 : decode cL_law 226 = .ok (.if_icmp .eq 520, 3) := by decide +kernel
theorem dL_law_229 : decode cL_law 229 = .ok (.iconst 0, 1) := by decide +kernel
theorem dL_law_230 : decode cL_law 230 = .ok (.ireturn, 1) := by decide +kernel
theorem dL_law_231 : decode cL_law 231 = .ok (.aload_n 1, 1) := by decide +kernel
theorem dL_law_232 : decode cL_law 232 = .ok (.aload_n 0, 1) := by decide +kernel
theorem dL_law_233 : decode cL_law 233 = .ok (.iload_n 3, 1) := by decide +kernel
theorem dL_law_234 : decode cL_law 234 = .ok (.iconst 1, 1) := by decide +kernel
theorem dL_law_235 : decode cL_law 235 = .ok (.iadd, 1) := by decide +kernel
theorem dL_law_236 : decode cL_law 236 = .ok (.iaload, 1) := by decide +kernel
theorem dL_law_237 : decode cL_law 237 = .ok (.aload_n 0, 1) := by decide +kernel
theorem dL_law_238 : decode cL_law 238 = .ok (.iload_n 3, 1) := by decide +kernel
theorem dL_law_239 : decode cL_law 239 = .ok (.iconst 2, 1) := by decide +kernel
theorem dL_law_240 : decode cL_law 240 = .ok (.iadd, 1) := by decide +kernel
theorem dL_law_241 : decode cL_law 241 = .ok (.iaload, 1) := by decide +kernel
theorem dL_law_242 : decode cL_law 242 = .ok (.invokevirtual 26, 3) := by decide +kernel
theorem dL_law_245 : decode cL_law 245 = .ok (.aload_n 2, 1) := by decide +kernel
theorem dL_law_246 : decode cL_law 246 = .ok (.aload_n 0, 1) := by decide +kernel
theorem dL_law_247 : decode cL_law 247 = .ok (.iload_n 3, 1) := by decide +kernel
theorem dL_law_248 : decode cL_law 248 = .ok (.iconst 1, 1) := by decide +kernel
theorem dL_law_249 : decode cL_law 249 = .ok (.iadd, 1) := by decide +kernel
theorem dL_law_250 : decode cL_law 250 = .ok (.iaload, 1) := by decide +kernel
theorem dL_law_251 : decode cL_law 251 = .ok (.aload_n 0, 1) := by decide +kernel
theorem dL_law_252 : decode cL_law 252 = .ok (.iload_n 3, 1) := by decide +kernel
theorem dL_law_253 : decode cL_law 253 = .ok (.iconst 2, 1) := by decide +kernel
theorem dL_law_254 : decode cL_law 254 = .ok (.iadd, 1) := by decide +kernel
theorem dL_law_255 : decode cL_law 255 = .ok (.iaload, 1) := by decide +kernel
theorem dL_law_256 : decode cL_law 256 = .ok (.invokevirtual 29, 3) := by decide +kernel
theorem dL_law_259 : decode cL_law 259 = .ok (.if_icmp .eq 487, 3) := by decide +kernel
theorem dL_law_262 : decode cL_law 262 = .ok (.iconst 0, 1) := by decide +kernel
theorem dL_law_263 : decode cL_law 263 = .ok (.ireturn, 1) := by decide +kernel
theorem dL_law_264 : decode cL_law 264 = .ok (.aload_n 1, 1) := by decide +kernel
theorem dL_law_265 : decode cL_law 265 = .ok (.aload_n 0, 1) := by decide +kernel
theorem dL_law_266 : decode cL_law 266 = .ok (.iload_n 3, 1) := by decide +kernel
theorem dL_law_267 : decode cL_law 267 = .ok (.iconst 1, 1) := by decide +kernel
theorem dL_law_268 : decode cL_law 268 = .ok (.iadd, 1) := by decide +kernel
theorem dL_law_269 : decode cL_law 269 = .ok (.iaload, 1) := by decide +kernel
theorem dL_law_270 : decode cL_law 270 = .ok (.aload_n 0, 1) := by decide +kernel
theorem dL_law_271 : decode cL_law 271 = .ok (.iload_n 3, 1) := by decide +kernel
theorem dL_law_272 : decode cL_law 272 = .ok (.iconst 2, 1) := by decide +kernel
theorem dL_law_273 : decode cL_law 273 = .ok (.iadd, 1) := by decide +kernel
theorem dL_law_274 : decode cL_law 274 = .ok (.iaload, 1) := by decide +kernel
theorem dL_law_275 : decode cL_law 275 = .ok (.invokevirtual 30, 3) := by decide +kernel
theorem dL_law_278 : decode cL_law 278 = .ok (.aload_n 2, 1) := by decide +kernel
theorem dL_law_279 : decode cL_law 279 = .ok (.aload_n 0, 1) := by decide +kernel
theorem dL_law_280 : decode cL_law 280 = .ok (.iload_n 3, 1) := by decide +kernel
theorem dL_law_281 : decode cL_law 281 = .ok (.iconst 1, 1) := by decide +kernel
theorem dL_law_282 : decode cL_law 282 = .ok (.iadd, 1) := by decide +kernel
theorem dL_law_283 : decode cL_law 283 = .ok (.iaload, 1) := by decide +kernel
theorem dL_law_284 : decode cL_law 284 = .ok (.aload_n 0, 1) := by decide +kernel
theorem dL_law_285 : decode cL_law 285 = .ok (.iload_n 3, 1) := by decide +kernel
theorem dL_law_286 : decode cL_law 286 = .ok (.iconst 2, 1) := by decide +kernel
theorem dL_law_287 : decode cL_law 287 = .ok (.iadd, 1) := by decide +kernel
theorem dL_law_288 : decode cL_law 288 = .ok (.iaload, 1) := by decide +kernel
theorem dL_law_289 : decode cL_law 289 = .ok (.invokevirtual 33, 3) := by decide +kernel
theorem dL_law_292 : decode cL_law 292 = .ok (.if_icmp .eq 454, 3) := by decide +kernel
theorem dL_law_295 : decode cL_law 295 = .ok (.iconst 0, 1) := by decide +kernel
theorem dL_law_296 : decode cL_law 296 = .ok (.ireturn, 1) := by decide +kernel
theorem dL_law_297 : decode cL_law 297 = .ok (.aload_n 1, 1) := by decide +kernel
theorem dL_law_298 : decode cL_law 298 = .ok (.aload_n 0, 1) := by decide +kernel
theorem dL_law_299 : decode cL_law 299 = .ok (.iload_n 3, 1) := by decide +kernel
theorem dL_law_300 : decode cL_law 300 = .ok (.iconst 1, 1) := by decide +kernel
theorem dL_law_301 : decode cL_law 301 = .ok (.iadd, 1) := by decide +kernel
theorem dL_law_302 : decode cL_law 302 = .ok (.iaload, 1) := by decide +kernel
theorem dL_law_303 : decode cL_law 303 = .ok (.invokevirtual 34, 3) := by decide +kernel
theorem dL_law_306 : decode cL_law 306 = .ok (.aload_n 2, 1) := by decide +kernel
theorem dL_law_307 : decode cL_law 307 = .ok (.aload_n 0, 1) := by decide +kernel
theorem dL_law_308 : decode cL_law 308 = .ok (.iload_n 3, 1) := by decide +kernel
theorem dL_law_309 : decode cL_law 309 = .ok (.iconst 1, 1) := by decide +kernel
theorem dL_law_310 : decode cL_law 310 = .ok (.iadd, 1) := by decide +kernel
theorem dL_law_311 : decode cL_law 311 = .ok (.iaload, 1) := by decide +kernel
theorem dL_law_312 : decode cL_law 312 = .ok (.invokevirtual 38, 3) := by decide +kernel
theorem dL_law_315 : decode cL_law 315 = .ok (.if_icmp .eq 431, 3) := by decide +kernel
theorem dL_law_318 : decode cL_law 318 = .ok (.iconst 0, 1) := by decide +kernel
theorem dL_law_319 : decode cL_law 319 = .ok (.ireturn, 1) := by decide +kernel
theorem dL_law_320 : decode cL_law 320 = .ok (.aload_n 1, 1) := by decide +kernel
theorem dL_law_321 : decode cL_law 321 = .ok (.invokevirtual 39, 3) := by decide +kernel
theorem dL_law_324 : decode cL_law 324 = .ok (.aload_n 2, 1) := by decide +kernel
theorem dL_law_325 : decode cL_law 325 = .ok (.invokevirtual 43, 3) := by decide +kernel
theorem dL_law_328 : decode cL_law 328 = .ok (.lcmp, 1) := by decide +kernel
theorem dL_law_329 : decode cL_law 329 = .ok (.ifCond .eq 417, 3) := by decide +kernel
theorem dL_law_332 : decode cL_law 332 = .ok (.iconst 0, 1) := by decide +kernel
theorem dL_law_333 : decode cL_law 333 = .ok (.ireturn, 1) := by decide +kernel
theorem dL_law_334 : decode cL_law 334 = .ok (.aload_n 1, 1) := by decide +kernel
theorem dL_law_335 : decode cL_law 335 = .ok (.aload_n 0, 1) := by decide +kernel
theorem dL_law_336 : decode cL_law 336 = .ok (.iload_n 3, 1) := by decide +kernel
theorem dL_law_337 : decode cL_law 337 = .ok (.iconst 1, 1) := by decide +kernel
theorem dL_law_338 : decode cL_law 338 = .ok (.iadd, 1) := by decide +kernel
theorem dL_law_339 : decode cL_law 339 = .ok (.iaload, 1) := by decide +kernel
theorem dL_law_340 : decode cL_law 340 = .ok (.i2l, 1) := by decide +kernel
theorem dL_law_341 : decode cL_law 341 = .ok (.bipush 32, 2) := by decide +kernel
theorem dL_law_343 : decode cL_law 343 = .ok (.lshl, 1) := by decide +kernel
theorem dL_law_344 : decode cL_law 344 = .ok (.aload_n 0, 1) := by decide +kernel
theorem dL_law_345 : decode cL_law 345 = .ok (.iload_n 3, 1) := by decide +kernel
theorem dL_law_346 : decode cL_law 346 = .ok (.iconst 2, 1) := by decide +kernel
theorem dL_law_347 : decode cL_law 347 = .ok (.iadd, 1) := by decide +kernel
theorem dL_law_348 : decode cL_law 348 = .ok (.iaload, 1) := by decide +kernel
theorem dL_law_349 : decode cL_law 349 = .ok (.i2l, 1) := by decide +kernel
theorem dL_law_350 : decode cL_law 350 = .ok (.ldc2_w 44, 3) := by decide +kernel
theorem dL_law_353 : decode cL_law 353 = .ok (.land, 1) := by decide +kernel
theorem dL_law_354 : decode cL_law 354 = .ok (.lor, 1) := by decide +kernel
theorem dL_law_355 : decode cL_law 355 = .ok (.invokevirtual 46, 3) := by decide +kernel
theorem dL_law_358 : decode cL_law 358 = .ok (.aload_n 2, 1) := by decide +kernel
theorem dL_law_359 : decode cL_law 359 = .ok (.aload_n 0, 1) := by decide +kernel
theorem dL_law_360 : decode cL_law 360 = .ok (.iload_n 3, 1) := by decide +kernel
theorem dL_law_361 : decode cL_law 361 = .ok (.iconst 1, 1) := by decide +kernel
theorem dL_law_362 : decode cL_law 362 = .ok (.iadd, 1) := by decide +kernel
theorem dL_law_363 : decode cL_law 363 = .ok (.iaload, 1) := by decide +kernel
theorem dL_law_364 : decode cL_law 364 = .ok (.i2l, 1) := by decide +kernel
theorem dL_law_365 : decode cL_law 365 = .ok (.bipush 32, 2) := by decide +kernel
theorem dL_law_367 : decode cL_law 367 = .ok (.lshl, 1) := by decide +kernel
theorem dL_law_368 : decode cL_law 368 = .ok (.aload_n 0, 1) := by decide +kernel
theorem dL_law_369 : decode cL_law 369 = .ok (.iload_n 3, 1) := by decide +kernel
theorem dL_law_370 : decode cL_law 370 = .ok (.iconst 2, 1) := by decide +kernel
theorem dL_law_371 : decode cL_law 371 = .ok (.iadd, 1) := by decide +kernel
theorem dL_law_372 : decode cL_law 372 = .ok (.iaload, 1) := by decide +kernel
theorem dL_law_373 : decode cL_law 373 = .ok (.i2l, 1) := by decide +kernel
theorem dL_law_374 : decode cL_law 374 = .ok (.ldc2_w 44, 3) := by decide +kernel
theorem dL_law_377 : decode cL_law 377 = .ok (.land, 1) := by decide +kernel
theorem dL_law_378 : decode cL_law 378 = .ok (.lor, 1) := by decide +kernel
theorem dL_law_379 : decode cL_law 379 = .ok (.invokevirtual 50, 3) := by decide +kernel
theorem dL_law_382 : decode cL_law 382 = .ok (.if_icmp .eq 364, 3) := by decide +kernel
theorem dL_law_385 : decode cL_law 385 = .ok (.iconst 0, 1) := by decide +kernel
theorem dL_law_386 : decode cL_law 386 = .ok (.ireturn, 1) := by decide +kernel
theorem dL_law_387 : decode cL_law 387 = .ok (.aload_n 1, 1) := by decide +kernel
theorem dL_law_388 : decode cL_law 388 = .ok (.aload_n 0, 1) := by decide +kernel
theorem dL_law_389 : decode cL_law 389 = .ok (.iload_n 3, 1) := by decide +kernel
theorem dL_law_390 : decode cL_law 390 = .ok (.iconst 1, 1) := by decide +kernel
theorem dL_law_391 : decode cL_law 391 = .ok (.iadd, 1) := by decide +kernel
theorem dL_law_392 : decode cL_law 392 = .ok (.iaload, 1) := by decide +kernel
theorem dL_law_393 : decode cL_law 393 = .ok (.invokevirtual 51, 3) := by decide +kernel
theorem dL_law_396 : decode cL_law 396 = .ok (.aload_n 2, 1) := by decide +kernel
theorem dL_law_397 : decode cL_law 397 = .ok (.aload_n 0, 1) := by decide +kernel
theorem dL_law_398 : decode cL_law 398 = .ok (.iload_n 3, 1) := by decide +kernel
theorem dL_law_399 : decode cL_law 399 = .ok (.iconst 1, 1) := by decide +kernel
theorem dL_law_400 : decode cL_law 400 = .ok (.iadd, 1) := by decide +kernel
theorem dL_law_401 : decode cL_law 401 = .ok (.iaload, 1) := by decide +kernel
theorem dL_law_402 : decode cL_law 402 = .ok (.invokevirtual 55, 3) := by decide +kernel
theorem dL_law_405 : decode cL_law 405 = .ok (.if_icmp .eq 341, 3) := by decide +kernel
theorem dL_law_408 : decode cL_law 408 = .ok (.iconst 0, 1) := by decide +kernel
theorem dL_law_409 : decode cL_law 409 = .ok (.ireturn, 1) := by decide +kernel
theorem dL_law_410 : decode cL_law 410 = .ok (.aload_n 1, 1) := by decide +kernel
theorem dL_law_411 : decode cL_law 411 = .ok (.aload_n 0, 1) := by decide +kernel
theorem dL_law_412 : decode cL_law 412 = .ok (.iload_n 3, 1) := by decide +kernel
theorem dL_law_413 : decode cL_law 413 = .ok (.iconst 1, 1) := by decide +kernel
theorem dL_law_414 : decode cL_law 414 = .ok (.iadd, 1) := by decide +kernel
theorem dL_law_415 : decode cL_law 415 = .ok (.iaload, 1) := by decide +kernel
theorem dL_law_416 : decode cL_law 416 = .ok (.aload_n 0, 1) := by decide +kernel
theorem dL_law_417 : decode cL_law 417 = .ok (.iload_n 3, 1) := by decide +kernel
theorem dL_law_418 : decode cL_law 418 = .ok (.iconst 2, 1) := by decide +kernel
theorem dL_law_419 : decode cL_law 419 = .ok (.iadd, 1) := by decide +kernel
theorem dL_law_420 : decode cL_law 420 = .ok (.iaload, 1) := by decide +kernel
theorem dL_law_421 : decode cL_law 421 = .ok (.invokevirtual 56, 3) := by decide +kernel
theorem dL_law_424 : decode cL_law 424 = .ok (.aload_n 2, 1) := by decide +kernel
theorem dL_law_425 : decode cL_law 425 = .ok (.aload_n 0, 1) := by decide +kernel
theorem dL_law_426 : decode cL_law 426 = .ok (.iload_n 3, 1) := by decide +kernel
theorem dL_law_427 : decode cL_law 427 = .ok (.iconst 1, 1) := by decide +kernel
theorem dL_law_428 : decode cL_law 428 = .ok (.iadd, 1) := by decide +kernel
theorem dL_law_429 : decode cL_law 429 = .ok (.iaload, 1) := by decide +kernel
theorem dL_law_430 : decode cL_law 430 = .ok (.aload_n 0, 1) := by decide +kernel
theorem dL_law_431 : decode cL_law 431 = .ok (.iload_n 3, 1) := by decide +kernel
theorem dL_law_432 : decode cL_law 432 = .ok (.iconst 2, 1) := by decide +kernel
theorem dL_law_433 : decode cL_law 433 = .ok (.iadd, 1) := by decide +kernel
theorem dL_law_434 : decode cL_law 434 = .ok (.iaload, 1) := by decide +kernel
theorem dL_law_435 : decode cL_law 435 = .ok (.invokevirtual 60, 3) := by decide +kernel
theorem dL_law_438 : decode cL_law 438 = .ok (.if_icmp .eq 308, 3) := by decide +kernel
theorem dL_law_441 : decode cL_law 441 = .ok (.iconst 0, 1) := by decide +kernel
theorem dL_law_442 : decode cL_law 442 = .ok (.ireturn, 1) := by decide +kernel
theorem dL_law_443 : decode cL_law 443 = .ok (.aload_n 1, 1) := by decide +kernel
theorem dL_law_444 : decode cL_law 444 = .ok (.aload_n 0, 1) := by decide +kernel
theorem dL_law_445 : decode cL_law 445 = .ok (.iload_n 3, 1) := by decide +kernel
theorem dL_law_446 : decode cL_law 446 = .ok (.iconst 1, 1) := by decide +kernel
theorem dL_law_447 : decode cL_law 447 = .ok (.iadd, 1) := by decide +kernel
theorem dL_law_448 : decode cL_law 448 = .ok (.iaload, 1) := by decide +kernel
theorem dL_law_449 : decode cL_law 449 = .ok (.aload_n 0, 1) := by decide +kernel
theorem dL_law_450 : decode cL_law 450 = .ok (.iload_n 3, 1) := by decide +kernel
theorem dL_law_451 : decode cL_law 451 = .ok (.iconst 2, 1) := by decide +kernel
theorem dL_law_452 : decode cL_law 452 = .ok (.iadd, 1) := by decide +kernel
theorem dL_law_453 : decode cL_law 453 = .ok (.iaload, 1) := by decide +kernel
theorem dL_law_454 : decode cL_law 454 = .ok (.aload_n 0, 1) := by decide +kernel
theorem dL_law_455 : decode cL_law 455 = .ok (.iload_n 3, 1) := by decide +kernel
theorem dL_law_456 : decode cL_law 456 = .ok (.iconst 3, 1) := by decide +kernel
theorem dL_law_457 : decode cL_law 457 = .ok (.iadd, 1) := by decide +kernel
theorem dL_law_458 : decode cL_law 458 = .ok (.iaload, 1) := by decide +kernel
theorem dL_law_459 : decode cL_law 459 = .ok (.invokevirtual 61, 3) := by decide +kernel
theorem dL_law_462 : decode cL_law 462 = .ok (.aload_n 2, 1) := by decide +kernel
theorem dL_law_463 : decode cL_law 463 = .ok (.aload_n 0, 1) := by decide +kernel
theorem dL_law_464 : decode cL_law 464 = .ok (.iload_n 3, 1) := by decide +kernel
theorem dL_law_465 : decode cL_law 465 = .ok (.iconst 1, 1) := by decide +kernel
theorem dL_law_466 : decode cL_law 466 = .ok (.iadd, 1) := by decide +kernel
theorem dL_law_467 : decode cL_law 467 = .ok (.iaload, 1) := by decide +kernel
theorem dL_law_468 : decode cL_law 468 = .ok (.aload_n 0, 1) := by decide +kernel
theorem dL_law_469 : decode cL_law 469 = .ok (.iload_n 3, 1) := by decide +kernel
theorem dL_law_470 : decode cL_law 470 = .ok (.iconst 2, 1) := by decide +kernel
theorem dL_law_471 : decode cL_law 471 = .ok (.iadd, 1) := by decide +kernel
theorem dL_law_472 : decode cL_law 472 = .ok (.iaload, 1) := by decide +kernel
theorem dL_law_473 : decode cL_law 473 = .ok (.aload_n 0, 1) := by decide +kernel
theorem dL_law_474 : decode cL_law 474 = .ok (.iload_n 3, 1) := by decide +kernel
theorem dL_law_475 : decode cL_law 475 = .ok (.iconst 3, 1) := by decide +kernel
theorem dL_law_476 : decode cL_law 476 = .ok (.iadd, 1) := by decide +kernel
theorem dL_law_477 : decode cL_law 477 = .ok (.iaload, 1) := by decide +kernel
theorem dL_law_478 : decode cL_law 478 = .ok (.invokevirtual 65, 3) := by decide +kernel
theorem dL_law_481 : decode cL_law 481 = .ok (.if_icmp .eq 265, 3) := by decide +kernel
theorem dL_law_484 : decode cL_law 484 = .ok (.iconst 0, 1) := by decide +kernel
theorem dL_law_485 : decode cL_law 485 = .ok (.ireturn, 1) := by decide +kernel
theorem dL_law_486 : decode cL_law 486 = .ok (.aload_n 1, 1) := by decide +kernel
theorem dL_law_487 : decode cL_law 487 = .ok (.aload_n 0, 1) := by decide +kernel
theorem dL_law_488 : decode cL_law 488 = .ok (.iload_n 3, 1) := by decide +kernel
theorem dL_law_489 : decode cL_law 489 = .ok (.iconst 1, 1) := by decide +kernel
theorem dL_law_490 : decode cL_law 490 = .ok (.iadd, 1) := by decide +kernel
theorem dL_law_491 : decode cL_law 491 = .ok (.iaload, 1) := by decide +kernel
theorem dL_law_492 : decode cL_law 492 = .ok (.aload_n 0, 1) := by decide +kernel
theorem dL_law_493 : decode cL_law 493 = .ok (.iload_n 3, 1) := by decide +kernel
theorem dL_law_494 : decode cL_law 494 = .ok (.iconst 2, 1) := by decide +kernel
theorem dL_law_495 : decode cL_law 495 = .ok (.iadd, 1) := by decide +kernel
theorem dL_law_496 : decode cL_law 496 = .ok (.iaload, 1) := by decide +kernel
theorem dL_law_497 : decode cL_law 497 = .ok (.invokevirtual 66, 3) := by decide +kernel
theorem dL_law_500 : decode cL_law 500 = .ok (.aload_n 2, 1) := by decide +kernel
theorem dL_law_501 : decode cL_law 501 = .ok (.aload_n 0, 1) := by decide +kernel
theorem dL_law_502 : decode cL_law 502 = .ok (.iload_n 3, 1) := by decide +kernel
theorem dL_law_503 : decode cL_law 503 = .ok (.iconst 1, 1) := by decide +kernel
theorem dL_law_504 : decode cL_law 504 = .ok (.iadd, 1) := by decide +kernel
theorem dL_law_505 : decode cL_law 505 = .ok (.iaload, 1) := by decide +kernel
theorem dL_law_506 : decode cL_law 506 = .ok (.aload_n 0, 1) := by decide +kernel
theorem dL_law_507 : decode cL_law 507 = .ok (.iload_n 3, 1) := by decide +kernel
theorem dL_law_508 : decode cL_law 508 = .ok (.iconst 2, 1) := by decide +kernel
theorem dL_law_509 : decode cL_law 509 = .ok (.iadd, 1) := by decide +kernel
theorem dL_law_510 : decode cL_law 510 = .ok (.iaload, 1) := by decide +kernel
theorem dL_law_511 : decode cL_law 511 = .ok (.invokevirtual 69, 3) := by decide +kernel
theorem dL_law_514 : decode cL_law 514 = .ok (.if_icmp .eq 232, 3) := by decide +kernel
theorem dL_law_517 : decode cL_law 517 = .ok (.iconst 0, 1) := by decide +kernel
theorem dL_law_518 : decode cL_law 518 = .ok (.ireturn, 1) := by decide +kernel
theorem dL_law_519 : decode cL_law 519 = .ok (.aload_n 1, 1) := by decide +kernel
theorem dL_law_520 : decode cL_law 520 = .ok (.invokevirtual 70, 3) := by decide +kernel
theorem dL_law_523 : decode cL_law 523 = .ok (.aload_n 2, 1) := by decide +kernel
theorem dL_law_524 : decode cL_law 524 = .ok (.invokevirtual 74, 3) := by decide +kernel
theorem dL_law_527 : decode cL_law 527 = .ok (.if_icmp .eq 219, 3) := by decide +kernel
theorem dL_law_530 : decode cL_law 530 = .ok (.iconst 0, 1) := by decide +kernel
theorem dL_law_531 : decode cL_law 531 = .ok (.ireturn, 1) := by decide +kernel
theorem dL_law_532 : decode cL_law 532 = .ok (.aload_n 1, 1) := by decide +kernel
theorem dL_law_533 : decode cL_law 533 = .ok (.aload_n 0, 1) := by decide +kernel
theorem dL_law_534 : decode cL_law 534 = .ok (.iload_n 3, 1) := by decide +kernel
theorem dL_law_535 : decode cL_law 535 = .ok (.iconst 1, 1) := by decide +kernel
theorem dL_law_536 : decode cL_law 536 = .ok (.iadd, 1) := by decide +kernel
theorem dL_law_537 : decode cL_law 537 = .ok (.iaload, 1) := by decide +kernel
theorem dL_law_538 : decode cL_law 538 = .ok (.aload_n 0, 1) := by decide +kernel
theorem dL_law_539 : decode cL_law 539 = .ok (.iload_n 3, 1) := by decide +kernel
theorem dL_law_540 : decode cL_law 540 = .ok (.iconst 2, 1) := by decide +kernel
theorem dL_law_541 : decode cL_law 541 = .ok (.iadd, 1) := by decide +kernel
theorem dL_law_542 : decode cL_law 542 = .ok (.iaload, 1) := by decide +kernel
theorem dL_law_543 : decode cL_law 543 = .ok (.aload_n 0, 1) := by decide +kernel
theorem dL_law_544 : decode cL_law 544 = .ok (.iload_n 3, 1) := by decide +kernel
theorem dL_law_545 : decode cL_law 545 = .ok (.iconst 3, 1) := by decide +kernel
theorem dL_law_546 : decode cL_law 546 = .ok (.iadd, 1) := by decide +kernel
theorem dL_law_547 : decode cL_law 547 = .ok (.iaload, 1) := by decide +kernel
theorem dL_law_548 : decode cL_law 548 = .ok (.aload_n 0, 1) := by decide +kernel
theorem dL_law_549 : decode cL_law 549 = .ok (.iload_n 3, 1) := by decide +kernel
theorem dL_law_550 : decode cL_law 550 = .ok (.iconst 4, 1) := by decide +kernel
theorem dL_law_551 : decode cL_law 551 = .ok (.iadd, 1) := by decide +kernel
theorem dL_law_552 : decode cL_law 552 = .ok (.iaload, 1) := by decide +kernel
theorem dL_law_553 : decode cL_law 553 = .ok (.aload_n 0, 1) := by decide +kernel
theorem dL_law_554 : decode cL_law 554 = .ok (.iload_n 3, 1) := by decide +kernel
theorem dL_law_555 : decode cL_law 555 = .ok (.iconst 5, 1) := by decide +kernel
theorem dL_law_556 : decode cL_law 556 = .ok (.iadd, 1) := by decide +kernel
theorem dL_law_557 : decode cL_law 557 = .ok (.iaload, 1) := by decide +kernel
theorem dL_law_558 : decode cL_law 558 = .ok (.invokevirtual 75, 3) := by decide +kernel
theorem dL_law_561 : decode cL_law 561 = .ok (.aload_n 2, 1) := by decide +kernel
theorem dL_law_562 : decode cL_law 562 = .ok (.aload_n 0, 1) := by decide +kernel
theorem dL_law_563 : decode cL_law 563 = .ok (.iload_n 3, 1) := by decide +kernel
theorem dL_law_564 : decode cL_law 564 = .ok (.iconst 1, 1) := by decide +kernel
theorem dL_law_565 : decode cL_law 565 = .ok (.iadd, 1) := by decide +kernel
theorem dL_law_566 : decode cL_law 566 = .ok (.iaload, 1) := by decide +kernel
theorem dL_law_567 : decode cL_law 567 = .ok (.aload_n 0, 1) := by decide +kernel
theorem dL_law_568 : decode cL_law 568 = .ok (.iload_n 3, 1) := by decide +kernel
theorem dL_law_569 : decode cL_law 569 = .ok (.iconst 2, 1) := by decide +kernel
theorem dL_law_570 : decode cL_law 570 = .ok (.iadd, 1) := by decide +kernel
theorem dL_law_571 : decode cL_law 571 = .ok (.iaload, 1) := by decide +kernel
theorem dL_law_572 : decode cL_law 572 = .ok (.aload_n 0, 1) := by decide +kernel
theorem dL_law_573 : decode cL_law 573 = .ok (.iload_n 3, 1) := by decide +kernel
theorem dL_law_574 : decode cL_law 574 = .ok (.iconst 3, 1) := by decide +kernel
theorem dL_law_575 : decode cL_law 575 = .ok (.iadd, 1) := by decide +kernel
theorem dL_law_576 : decode cL_law 576 = .ok (.iaload, 1) := by decide +kernel
theorem dL_law_577 : decode cL_law 577 = .ok (.aload_n 0, 1) := by decide +kernel
theorem dL_law_578 : decode cL_law 578 = .ok (.iload_n 3, 1) := by decide +kernel
theorem dL_law_579 : decode cL_law 579 = .ok (.iconst 4, 1) := by decide +kernel
theorem dL_law_580 : decode cL_law 580 = .ok (.iadd, 1) := by decide +kernel
theorem dL_law_581 : decode cL_law 581 = .ok (.iaload, 1) := by decide +kernel
theorem dL_law_582 : decode cL_law 582 = .ok (.aload_n 0, 1) := by decide +kernel
theorem dL_law_583 : decode cL_law 583 = .ok (.iload_n 3, 1) := by decide +kernel
theorem dL_law_584 : decode cL_law 584 = .ok (.iconst 5, 1) := by decide +kernel
theorem dL_law_585 : decode cL_law 585 = .ok (.iadd, 1) := by decide +kernel
theorem dL_law_586 : decode cL_law 586 = .ok (.iaload, 1) := by decide +kernel
theorem dL_law_587 : decode cL_law 587 = .ok (.invokevirtual 79, 3) := by decide +kernel
theorem dL_law_590 : decode cL_law 590 = .ok (.if_icmp .eq 156, 3) := by decide +kernel
theorem dL_law_593 : decode cL_law 593 = .ok (.iconst 0, 1) := by decide +kernel
theorem dL_law_594 : decode cL_law 594 = .ok (.ireturn, 1) := by decide +kernel
theorem dL_law_595 : decode cL_law 595 = .ok (.aload_n 1, 1) := by decide +kernel
theorem dL_law_596 : decode cL_law 596 = .ok (.aload_n 0, 1) := by decide +kernel
theorem dL_law_597 : decode cL_law 597 = .ok (.iload_n 3, 1) := by decide +kernel
theorem dL_law_598 : decode cL_law 598 = .ok (.iconst 1, 1) := by decide +kernel
theorem dL_law_599 : decode cL_law 599 = .ok (.iadd, 1) := by decide +kernel
theorem dL_law_600 : decode cL_law 600 = .ok (.iaload, 1) := by decide +kernel
theorem dL_law_601 : decode cL_law 601 = .ok (.invokevirtual 80, 3) := by decide +kernel
theorem dL_law_604 : decode cL_law 604 = .ok (.aload_n 2, 1) := by decide +kernel
theorem dL_law_605 : decode cL_law 605 = .ok (.aload_n 0, 1) := by decide +kernel
theorem dL_law_606 : decode cL_law 606 = .ok (.iload_n 3, 1) := by decide +kernel
theorem dL_law_607 : decode cL_law 607 = .ok (.iconst 1, 1) := by decide +kernel
theorem dL_law_608 : decode cL_law 608 = .ok (.iadd, 1) := by decide +kernel
theorem dL_law_609 : decode cL_law 609 = .ok (.iaload, 1) := by decide +kernel
theorem dL_law_610 : decode cL_law 610 = .ok (.invokevirtual 83, 3) := by decide +kernel
theorem dL_law_613 : decode cL_law 613 = .ok (.if_icmp .eq 133, 3) := by decide +kernel
theorem dL_law_616 : decode cL_law 616 = .ok (.iconst 0, 1) := by decide +kernel
theorem dL_law_617 : decode cL_law 617 = .ok (.ireturn, 1) := by decide +kernel
theorem dL_law_618 : decode cL_law 618 = .ok (.aload_n 1, 1) := by decide +kernel
theorem dL_law_619 : decode cL_law 619 = .ok (.invokevirtual 84, 3) := by decide +kernel
theorem dL_law_622 : decode cL_law 622 = .ok (.aload_n 2, 1) := by decide +kernel
theorem dL_law_623 : decode cL_law 623 = .ok (.invokevirtual 87, 3) := by decide +kernel
theorem dL_law_626 : decode cL_law 626 = .ok (.if_icmp .eq 120, 3) := by decide +kernel
theorem dL_law_629 : decode cL_law 629 = .ok (.iconst 0, 1) := by decide +kernel
theorem dL_law_630 : decode cL_law 630 = .ok (.ireturn, 1) := by decide +kernel
theorem dL_law_631 : decode cL_law 631 = .ok (.aload_n 1, 1) := by decide +kernel
theorem dL_law_632 : decode cL_law 632 = .ok (.aload_n 0, 1) := by decide +kernel
theorem dL_law_633 : decode cL_law 633 = .ok (.iload_n 3, 1) := by decide +kernel
theorem dL_law_634 : decode cL_law 634 = .ok (.iconst 1, 1) := by decide +kernel
theorem dL_law_635 : decode cL_law 635 = .ok (.iadd, 1) := by decide +kernel
theorem dL_law_636 : decode cL_law 636 = .ok (.iaload, 1) := by decide +kernel
theorem dL_law_637 : decode cL_law 637 = .ok (.invokevirtual 88, 3) := by decide +kernel
theorem dL_law_640 : decode cL_law 640 = .ok (.aload_n 2, 1) := by decide +kernel
theorem dL_law_641 : decode cL_law 641 = .ok (.aload_n 0, 1) := by decide +kernel
theorem dL_law_642 : decode cL_law 642 = .ok (.iload_n 3, 1) := by decide +kernel
theorem dL_law_643 : decode cL_law 643 = .ok (.iconst 1, 1) := by decide +kernel
theorem dL_law_644 : decode cL_law 644 = .ok (.iadd, 1) := by decide +kernel
theorem dL_law_645 : decode cL_law 645 = .ok (.iaload, 1) := by decide +kernel
theorem dL_law_646 : decode cL_law 646 = .ok (.invokevirtual 91, 3) := by decide +kernel
theorem dL_law_649 : decode cL_law 649 = .ok (.if_icmp .eq 97, 3) := by decide +kernel
theorem dL_law_652 : decode cL_law 652 = .ok (.iconst 0, 1) := by decide +kernel
theorem dL_law_653 : decode cL_law 653 = .ok (.ireturn, 1) := by decide +kernel
theorem dL_law_654 : decode cL_law 654 = .ok (.aload_n 1, 1) := by decide +kernel
theorem dL_law_655 : decode cL_law 655 = .ok (.aload_n 0, 1) := by decide +kernel
theorem dL_law_656 : decode cL_law 656 = .ok (.iload_n 3, 1) := by decide +kernel
theorem dL_law_657 : decode cL_law 657 = .ok (.iconst 1, 1) := by decide +kernel
theorem dL_law_658 : decode cL_law 658 = .ok (.iadd, 1) := by decide +kernel
theorem dL_law_659 : decode cL_law 659 = .ok (.iaload, 1) := by decide +kernel
theorem dL_law_660 : decode cL_law 660 = .ok (.invokevirtual 92, 3) := by decide +kernel
theorem dL_law_663 : decode cL_law 663 = .ok (.aload_n 2, 1) := by decide +kernel
theorem dL_law_664 : decode cL_law 664 = .ok (.aload_n 0, 1) := by decide +kernel
theorem dL_law_665 : decode cL_law 665 = .ok (.iload_n 3, 1) := by decide +kernel
theorem dL_law_666 : decode cL_law 666 = .ok (.iconst 1, 1) := by decide +kernel
theorem dL_law_667 : decode cL_law 667 = .ok (.iadd, 1) := by decide +kernel
theorem dL_law_668 : decode cL_law 668 = .ok (.iaload, 1) := by decide +kernel
theorem dL_law_669 : decode cL_law 669 = .ok (.invokevirtual 95, 3) := by decide +kernel
theorem dL_law_672 : decode cL_law 672 = .ok (.if_icmp .eq 74, 3) := by decide +kernel
theorem dL_law_675 : decode cL_law 675 = .ok (.iconst 0, 1) := by decide +kernel
theorem dL_law_676 : decode cL_law 676 = .ok (.ireturn, 1) := by decide +kernel
theorem dL_law_677 : decode cL_law 677 = .ok (.aload_n 1, 1) := by decide +kernel
theorem dL_law_678 : decode cL_law 678 = .ok (.aload_n 0, 1) := by decide +kernel
theorem dL_law_679 : decode cL_law 679 = .ok (.iload_n 3, 1) := by decide +kernel
theorem dL_law_680 : decode cL_law 680 = .ok (.iconst 1, 1) := by decide +kernel
theorem dL_law_681 : decode cL_law 681 = .ok (.iadd, 1) := by decide +kernel
theorem dL_law_682 : decode cL_law 682 = .ok (.iaload, 1) := by decide +kernel
theorem dL_law_683 : decode cL_law 683 = .ok (.invokevirtual 96, 3) := by decide +kernel
theorem dL_law_686 : decode cL_law 686 = .ok (.aload_n 2, 1) := by decide +kernel
theorem dL_law_687 : decode cL_law 687 = .ok (.aload_n 0, 1) := by decide +kernel
theorem dL_law_688 : decode cL_law 688 = .ok (.iload_n 3, 1) := by decide +kernel
theorem dL_law_689 : decode cL_law 689 = .ok (.iconst 1, 1) := by decide +kernel
theorem dL_law_690 : decode cL_law 690 = .ok (.iadd, 1) := by decide +kernel
theorem dL_law_691 : decode cL_law 691 = .ok (.iaload, 1) := by decide +kernel
theorem dL_law_692 : decode cL_law 692 = .ok (.invokevirtual 99, 3) := by decide +kernel
theorem dL_law_695 : decode cL_law 695 = .ok (.if_icmp .eq 51, 3) := by decide +kernel
theorem dL_law_698 : decode cL_law 698 = .ok (.iconst 0, 1) := by decide +kernel
theorem dL_law_699 : decode cL_law 699 = .ok (.ireturn, 1) := by decide +kernel
theorem dL_law_700 : decode cL_law 700 = .ok (.aload_n 1, 1) := by decide +kernel
theorem dL_law_701 : decode cL_law 701 = .ok (.aload_n 0, 1) := by decide +kernel
theorem dL_law_702 : decode cL_law 702 = .ok (.iload_n 3, 1) := by decide +kernel
theorem dL_law_703 : decode cL_law 703 = .ok (.iconst 1, 1) := by decide +kernel
theorem dL_law_704 : decode cL_law 704 = .ok (.iadd, 1) := by decide +kernel
theorem dL_law_705 : decode cL_law 705 = .ok (.iaload, 1) := by decide +kernel
theorem dL_law_706 : decode cL_law 706 = .ok (.invokevirtual 100, 3) := by decide +kernel
theorem dL_law_709 : decode cL_law 709 = .ok (.aload_n 2, 1) := by decide +kernel
theorem dL_law_710 : decode cL_law 710 = .ok (.aload_n 0, 1) := by decide +kernel
theorem dL_law_711 : decode cL_law 711 = .ok (.iload_n 3, 1) := by decide +kernel
theorem dL_law_712 : decode cL_law 712 = .ok (.iconst 1, 1) := by decide +kernel
theorem dL_law_713 : decode cL_law 713 = .ok (.iadd, 1) := by decide +kernel
theorem dL_law_714 : decode cL_law 714 = .ok (.iaload, 1) := by decide +kernel
theorem dL_law_715 : decode cL_law 715 = .ok (.invokevirtual 103, 3) := by decide +kernel
theorem dL_law_718 : decode cL_law 718 = .ok (.if_icmp .eq 28, 3) := by decide +kernel
theorem dL_law_721 : decode cL_law 721 = .ok (.iconst 0, 1) := by decide +kernel
theorem dL_law_722 : decode cL_law 722 = .ok (.ireturn, 1) := by decide +kernel
theorem dL_law_723 : decode cL_law 723 = .ok (.aload_n 1, 1) := by decide +kernel
theorem dL_law_724 : decode cL_law 724 = .ok (.aload_n 0, 1) := by decide +kernel
theorem dL_law_725 : decode cL_law 725 = .ok (.iload_n 3, 1) := by decide +kernel
theorem dL_law_726 : decode cL_law 726 = .ok (.iconst 1, 1) := by decide +kernel
theorem dL_law_727 : decode cL_law 727 = .ok (.iadd, 1) := by decide +kernel
theorem dL_law_728 : decode cL_law 728 = .ok (.iaload, 1) := by decide +kernel
theorem dL_law_729 : decode cL_law 729 = .ok (.invokevirtual 104, 3) := by decide +kernel
theorem dL_law_732 : decode cL_law 732 = .ok (.aload_n 2, 1) := by decide +kernel
theorem dL_law_733 : decode cL_law 733 = .ok (.aload_n 0, 1) := by decide +kernel
theorem dL_law_734 : decode cL_law 734 = .ok (.iload_n 3, 1) := by decide +kernel
theorem dL_law_735 : decode cL_law 735 = .ok (.iconst 1, 1) := by decide +kernel
theorem dL_law_736 : decode cL_law 736 = .ok (.iadd, 1) := by decide +kernel
theorem dL_law_737 : decode cL_law 737 = .ok (.iaload, 1) := by decide +kernel
theorem dL_law_738 : decode cL_law 738 = .ok (.invokevirtual 107, 3) := by decide +kernel
theorem dL_law_741 : decode cL_law 741 = .ok (.if_icmp .eq 5, 3) := by decide +kernel
theorem dL_law_744 : decode cL_law 744 = .ok (.iconst 0, 1) := by decide +kernel
theorem dL_law_745 : decode cL_law 745 = .ok (.ireturn, 1) := by decide +kernel
theorem dL_law_746 : decode cL_law 746 = .ok (.iinc 3 6, 3) := by decide +kernel
theorem dL_law_749 : decode cL_law 749 = .ok (.goto (-731), 3) := by decide +kernel
theorem dL_law_752 : decode cL_law 752 = .ok (.iconst 1, 1) := by decide +kernel
theorem dL_law_753 : decode cL_law 753 = .ok (.ireturn, 1) := by decide +kernel
end
section

/-! THE TYPED HEAP: every cell that the system makes, by its address: its kind (0..7 a class, 8 ints, 9 longs, 10 chars; 11 none), its length, ints, longs, references -/
def Hp : Type := Nat × (Nat → Nat) × (Nat → Nat) × (Nat → Nat → Int32) × (Nat → Nat → Int64) × (Nat → Nat → Option Nat)
def Hp.N (h : Hp) : Nat := h.1
def Hp.K (h : Hp) : Nat → Nat := h.2.1
def Hp.L (h : Hp) : Nat → Nat := h.2.2.1
def Hp.I (h : Hp) : Nat → Nat → Int32 := h.2.2.2.1
def Hp.J (h : Hp) : Nat → Nat → Int64 := h.2.2.2.2.1
def Hp.R (h : Hp) : Nat → Nat → Option Nat := h.2.2.2.2.2
def up2 {α : Type} (f : Nat → Nat → α) (a k : Nat) (v : α) : Nat → Nat → α := fun b j => if b = a then (if j = k then v else f b j) else f b j
def putI (h : Hp) (a k : Nat) (v : Int32) : Hp := ⟨h.N, h.K, h.L, up2 h.I a k v, h.J, h.R⟩
def putJ (h : Hp) (a k : Nat) (v : Int64) : Hp := ⟨h.N, h.K, h.L, h.I, up2 h.J a k v, h.R⟩
def putR (h : Hp) (a k : Nat) (v : Option Nat) : Hp := ⟨h.N, h.K, h.L, h.I, h.J, up2 h.R a k v⟩
def newC (h : Hp) (kd len : Nat) : Hp := ⟨h.N + 1, va_up h.K h.N kd, va_up h.L h.N len, va_up h.I h.N (fun _ => 0), va_up h.J h.N (fun _ => 0), va_up h.R h.N (fun _ => none)⟩
def cpyI (h : Hp) (a b : Nat) (sp dp n : Nat) : Hp := ⟨h.N, h.K, h.L, va_up h.I b (va_cpy (h.I a) (h.I b) sp dp n), h.J, h.R⟩
def nF (c : Nat) : Nat := match c with | 0 => 5 | 1 => 7 | 2 => 2 | 3 => 8 | 4 => 20 | 5 => 11 | 6 => 9 | _ => 38
def tyF (c : Nat) : Nat → FieldType := match c with | 0 => tyX0 | 1 => tyX1 | 2 => tyX2 | 3 => tyX3 | 4 => tyX4 | 5 => tyX5 | 6 => tyX6 | _ => tyX7
def TF (c : Nat) : u_T := match c with | 0 => TX0 | 1 => TX1 | 2 => TX2 | 3 => TX3 | 4 => TX4 | 5 => TX5 | 6 => TX6 | _ => TX7
def RF (c : Nat) : String := match c with | 0 => RX0 | 1 => RX1 | 2 => RX2 | 3 => RX3 | 4 => RX4 | 5 => RX5 | 6 => RX6 | _ => RX7
def hW (ty : FieldType) (i : Int32) (j : Int64) (r : Option Nat) : Value := match ty with
  | .long => .long j
  | .object _ => va_rf r
  | .array _ => va_rf r
  | _ => .int i
def hV (h : Hp) (a k : Nat) : Value := hW (tyF (h.K a) k) (h.I a k) (h.J a k) (h.R a k)
theorem lt8 {c : Nat} (h : c < 8) : c = 0 ∨ c = 1 ∨ c = 2 ∨ c = 3 ∨ c = 4 ∨ c = 5 ∨ c = 6 ∨ c = 7 := by omega
def TB : List Cond := lw_tbl.filter goodWord
theorem tb_in {w : Cond} (h : w ∈ lw_tbl) (g : goodWord w = true) : w ∈ TB := List.mem_filter.mpr ⟨h, g⟩
theorem tb_good : GoodIn TB TB := fun w h => ⟨h, good_of_word (List.mem_filter.mp h).2⟩
theorem gw_lay (C : String) (T : u_T) (k : Nat) : goodWord (u_lay C T k) = true := by unfold u_lay; split <;> rfl
theorem inTB {C : String} {T : u_T} {N : Nat} (h : ∀ w ∈ u_ws C T N, w ∈ lw_tbl) : ∀ w ∈ u_ws C T N, w ∈ TB := by
  intro w hw
  refine tb_in (h w hw) ?_
  obtain ⟨k, -, rfl⟩ := List.mem_map.mp hw
  exact gw_lay C T k
theorem fieldsTB {c : Nat} (hc : c < 8) : ∀ w ∈ u_ws (RF c) (TF c) (nF c), w ∈ TB := by
  rcases lt8 hc with rfl | rfl | rfl | rfl | rfl | rfl | rfl | rfl
  · exact inTB inX0
  · exact inTB inX1
  · exact inTB inX2
  · exact inTB inX3
  · exact inTB inX4
  · exact inTB inX5
  · exact inTB inX6
  · exact inTB inX7
theorem tyF_ok {c : Nat} (hc : c < 8) : ∀ k, k < nF c → parseFieldDescriptor (TF c k).2.2.1 = some (tyF c k) := by
  rcases lt8 hc with rfl | rfl | rfl | rfl | rfl | rfl | rfl | rfl
  · exact tyX0_ok
  · exact tyX1_ok
  · exact tyX2_ok
  · exact tyX3_ok
  · exact tyX4_ok
  · exact tyX5_ok
  · exact tyX6_ok
  · exact tyX7_ok
theorem nmF_ok {c : Nat} (hc : c < 8) : ∀ a, a < nF c → ∀ b, b < nF c → a ≠ b → (TF c a).2.1 ≠ (TF c b).2.1 := by
  rcases lt8 hc with rfl | rfl | rfl | rfl | rfl | rfl | rfl | rfl
  · exact nmX0
  · exact nmX1
  · exact nmX2
  · exact nmX3
  · exact nmX4
  · exact nmX5
  · exact nmX6
  · exact nmX7
/-! the strings, the nest links -/
def lenS : List Nat := [5, 5, 3, 5, 5, 4]
def bytS : List (List Int32) := [[115, 116, 101, 101, 114], [117, 110, 116, 105, 108], [102, 111, 114], [98, 105, 114, 100, 115], [115, 119, 101, 108, 108], [115, 116, 97, 114]]
def idxS (i : Nat) : Nat := [88, 94, 96, 98, 100, 102].getD i 0
def txS (i : Nat) : String := ["steer", "until", "for", "birds", "swell", "star"].getD i ""
def nestW : List Cond := [.methodLinkNest RX6 11 yX4_init "CanoeMaster", .methodLinkNest RX6 18 yX3_init "CanoeMaster", .methodLinkNest RX6 25 yX0_init "CanoeMaster", .methodLinkNest RX6 197 yX1_init "CanoeMaster", .methodLinkNest RX6 211 yX5_init "CanoeMaster", .methodLinkNest RX1 11 yX2_init "CanoeMaster", .methodLinkNest RX1 62 yX6_has "CanoeMaster", .methodLinkNest RX4 107 yX6_has "CanoeMaster"]
/-! what is known of the launch: class tables, the array classes of kinds 8, 9, 10, the lowest address of ours, the strings' addresses and their rows' -/
abbrev Dx : Type := va_G × (ClassId × ClassId × ClassId) × Nat × (Nat → Nat) × (Nat → Nat)
def Dx.lo (D : Dx) : Nat := D.2.2.1
def Dx.A (D : Dx) : Nat → Prop := fun q => D.2.2.1 ≤ q
def gA (D : Dx) (h : Hp) (a : Nat) (H : Heap) : Prop :=
  if h.K a = 8 then H[a]? = some (arrV D.2.1.1 (h.L a) (fun j => .int (h.I a j)))
  else if h.K a = 9 then H[a]? = some (arrV D.2.1.2.1 (h.L a) (fun j => .long (h.J a j)))
  else if h.K a = 10 then H[a]? = some (arrV D.2.1.2.2 (h.L a) (fun j => .int (h.I a j)))
  else t_OB a (D.1.1 (h.K a)) (nF (h.K a)) (D.1.2 (h.K a)) H (hV h a)
def gP (D : Dx) (h : Hp) (H : Heap) : Prop := H.size = h.N ∧ D.2.2.1 ≤ h.N ∧ ∀ a, h.K a < 11 → D.2.2.1 ≤ a ∧ a < h.N ∧ gA D h a H
def gK (D : Dx) (U : State) : Prop :=
  (∀ c, c < 8 → u_Kn U (RF c) (TF c) (nF c) (D.1.1 c) (D.1.2 c)) ∧
  (ArrOfT U D.2.1.1 .int ∧ U.vm.findClass ("[" ++ FieldType.int.toString) = some D.2.1.1) ∧ (ArrOfT U D.2.1.2.1 .long ∧ U.vm.findClass ("[" ++ FieldType.long.toString) = some D.2.1.2.1) ∧ (ArrOfT U D.2.1.2.2 .char ∧ U.vm.findClass ("[" ++ FieldType.char.toString) = some D.2.1.2.2) ∧
  (∀ w ∈ nestW, va_Nw w U) ∧ (∀ i, i < 6 → vk_R RX3 (idxS i) (txS i) (D.2.2.2.1 i) U)
def gS (D : Dx) (U : State) (H : Heap) : Prop := vk_S 6 lenS bytS D.2.2.2.1 D.2.2.2.2 D.A U H ∧ va_Z "java/lang/String" "COMPACT_STRINGS" "Z" (.int 1) D.A U H ∧ va_Zq "jdk/internal/util/Preconditions" "SIOOBE_FORMATTER" "Ljava/util/function/BiFunction;" D.A U H
theorem nest_warm {s U : State} (hW : s.WarmedH U.vm) {w : Cond} (hw : w ∈ nestW) (h : va_Nw w s) : va_Nw w U := by
  simp only [nestW, List.mem_cons, List.not_mem_nil, or_false] at hw
  rcases hw with rfl | rfl | rfl | rfl | rfl | rfl | rfl | rfl <;> exact va_Nw.warmM hW h
theorem gK.warm {D : Dx} {s U : State} (hW : s.WarmedH U.vm) (h : gK D s) : gK D U := by
  obtain ⟨h1, ⟨a1, a2⟩, ⟨b1, b2⟩, ⟨c1, c2⟩, h3, h4⟩ := h
  have hv := hW.alike
  exact ⟨fun c hc => u_Kn_moved hv (h1 c hc), ⟨arrOfT_moved hv a1, by rw [hv.findClass]; exact a2⟩, ⟨arrOfT_moved hv b1, by rw [hv.findClass]; exact b2⟩, ⟨arrOfT_moved hv c1, by rw [hv.findClass]; exact c2⟩, fun w hw => nest_warm hW hw (h3 w hw), fun i hi => (h4 i hi).warm hW⟩
theorem gK.same {D : Dx} {u U : State} (hv : U.vm = u.vm) (h : gK D u) : gK D U := by
  obtain ⟨h1, ⟨a1, a2⟩, ⟨b1, b2⟩, ⟨c1, c2⟩, h3, h4⟩ := h
  have hA : u.vm.Alike U.vm := by rw [hv]; exact Vm.Alike.refl u.vm
  refine ⟨fun c hc => u_Kn_moved hA (h1 c hc), ⟨arrOfT_moved hA a1, by rw [hv]; exact a2⟩, ⟨arrOfT_moved hA b1, by rw [hv]; exact b2⟩, ⟨arrOfT_moved hA c1, by rw [hv]; exact c2⟩, fun w hw => ?_, fun i hi => (h4 i hi).same hv⟩
  have hz := h3 w hw
  simp only [nestW, List.mem_cons, List.not_mem_nil, or_false] at hw
  rcases hw with rfl | rfl | rfl | rfl | rfl | rfl | rfl | rfl <;> exact va_Nw.same rfl hv.symm hz
theorem gS.moved {D : Dx} {u U : State} {H : Heap} (hvm : u.vm.Alike U.vm) (h : gS D u H) : gS D U H := ⟨h.1.moved hvm, h.2.1.moved hvm, h.2.2.moved hvm⟩
theorem gS.kept {D : Dx} {U : State} {H H1 : Heap} (h : gS D U H) (hq : ∀ a : Nat, a < H.size → ¬ D.A a → H1[a]? = H[a]?) : gS D U H1 := ⟨h.1.kept hq, h.2.1.kept hq, h.2.2.kept hq⟩
/-! locals by their places -/
def toA : Nat → List (Option Value) → List (Nat × Value)
  | _, [] => []
  | k, none :: l => toA (k + 1) l
  | k, some v :: l => (k, v) :: toA (k + 1) l
theorem toA_mem : ∀ (l : List (Option Value)) (k i : Nat) (v : Value), l[i]? = some (some v) → (k + i, v) ∈ toA k l
  | [], _, i, v, h => by simp at h
  | none :: l, k, 0, v, h => by simp at h
  | some w :: l, k, 0, v, h => by simp at h; subst h; exact List.mem_cons_self
  | none :: l, k, i + 1, v, h => by
    have := toA_mem l (k + 1) i v (by simpa using h)
    rw [show k + (i + 1) = k + 1 + i by omega]; exact this
  | some w :: l, k, i + 1, v, h => by
    have := toA_mem l (k + 1) i v (by simpa using h)
    rw [show k + (i + 1) = k + 1 + i by omega]; exact List.mem_cons_of_mem _ this
theorem toA_of : ∀ (l : List (Option Value)) (k j : Nat) (v : Value), (j, v) ∈ toA k l → k ≤ j ∧ l[j - k]? = some (some v)
  | [], _, _, _, h => by simp [toA] at h
  | none :: l, k, j, v, h => by
    obtain ⟨h1, h2⟩ := toA_of l (k + 1) j v h
    refine ⟨by omega, ?_⟩
    rw [show j - k = (j - (k + 1)) + 1 by omega]; simpa using h2
  | some w :: l, k, j, v, h => by
    rcases List.mem_cons.mp h with h | h
    · cases h; exact ⟨Nat.le_refl _, by simp⟩
    · obtain ⟨h1, h2⟩ := toA_of l (k + 1) j v h
      refine ⟨by omega, ?_⟩
      rw [show j - k = (j - (k + 1)) + 1 by omega]; simpa using h2
def vC2 (v : Option Value) : Bool := match v with
  | some (.long _) => true
  | some (.double _) => true
  | _ => false
/-- a store at place i: of one word (w = 1) or two -/
def lvS : List (Option Value) → Nat → Value → List (Option Value)
  | [], _, _ => []
  | _ :: l, 0, v => some v :: l
  | x :: l, 1, v => (if vC2 x then none else x) :: lvS l 0 v
  | x :: l, i + 2, v => x :: lvS l (i + 1) v
def lvD : List (Option Value) → Nat → Value → List (Option Value)
  | [], _, _ => []
  | _ :: _ :: l, 0, v => some v :: none :: l
  | _ :: [], 0, v => [some v]
  | x :: l, 1, v => (if vC2 x then none else x) :: lvD l 0 v
  | x :: l, i + 2, v => x :: lvD l (i + 1) v
theorem vC2_cat {v : Value} : vC2 (some v) = (v.category == 2) := by cases v <;> rfl
theorem lvS_get : ∀ (l : List (Option Value)) (i : Nat) (v : Value) (j : Nat) (w : Value), (lvS l i v)[j]? = some (some w) → (j = i ∧ w = v) ∨ (j ≠ i ∧ l[j]? = some (some w) ∧ (j + 1 = i → (w.category == 2) = false))
  | [], _, _, j, w, h => by simp [lvS] at h
  | x :: l, 0, v, 0, w, h => by simp [lvS] at h; exact Or.inl ⟨rfl, h.symm⟩
  | x :: l, 0, v, j + 1, w, h => by simp [lvS] at h; exact Or.inr ⟨by omega, by simpa using h, by omega⟩
  | x :: l, 1, v, 0, w, h => by
    simp only [lvS, List.getElem?_cons_zero, Option.some.injEq] at h
    refine Or.inr ⟨by omega, ?_, fun _ => ?_⟩
    · split at h
      · cases h
      · simp [h]
    · split at h
      · cases h
      · next hx => rw [h, vC2_cat] at hx; simpa using hx
  | x :: l, 1, v, j + 1, w, h => by
    simp only [lvS, List.getElem?_cons_succ] at h
    rcases lvS_get l 0 v j w h with ⟨h1, h2⟩ | ⟨h1, h2, h3⟩
    · exact Or.inl ⟨by omega, h2⟩
    · exact Or.inr ⟨by omega, by simpa using h2, by omega⟩
  | x :: l, i + 2, v, 0, w, h => by
    simp only [lvS, List.getElem?_cons_zero] at h
    exact Or.inr ⟨by omega, by simpa using h, by omega⟩
  | x :: l, i + 2, v, j + 1, w, h => by
    simp only [lvS, List.getElem?_cons_succ] at h
    rcases lvS_get l (i + 1) v j w h with ⟨h1, h2⟩ | ⟨h1, h2, h3⟩
    · exact Or.inl ⟨by omega, h2⟩
    · exact Or.inr ⟨by omega, by simpa using h2, fun q => h3 (by omega)⟩
theorem lvD_get : ∀ (l : List (Option Value)) (i : Nat) (v : Value) (j : Nat) (w : Value), (lvD l i v)[j]? = some (some w) → (j = i ∧ w = v) ∨ (j ≠ i ∧ j ≠ i + 1 ∧ l[j]? = some (some w) ∧ (j + 1 = i → (w.category == 2) = false))
  | [], _, _, j, w, h => by simp [lvD] at h
  | [x], 0, v, 0, w, h => by simp [lvD] at h; exact Or.inl ⟨rfl, h.symm⟩
  | [x], 0, v, j + 1, w, h => by simp [lvD] at h
  | x :: y :: l, 0, v, 0, w, h => by simp [lvD] at h; exact Or.inl ⟨rfl, h.symm⟩
  | x :: y :: l, 0, v, 1, w, h => by simp [lvD] at h
  | x :: y :: l, 0, v, j + 2, w, h => by simp [lvD] at h; exact Or.inr ⟨by omega, by omega, by simpa using h, by omega⟩
  | x :: l, 1, v, 0, w, h => by
    simp only [lvD, List.getElem?_cons_zero, Option.some.injEq] at h
    refine Or.inr ⟨by omega, by omega, ?_, fun _ => ?_⟩
    · split at h
      · cases h
      · simp [h]
    · split at h
      · cases h
      · next hx => rw [h, vC2_cat] at hx; simpa using hx
  | x :: l, 1, v, j + 1, w, h => by
    simp only [lvD, List.getElem?_cons_succ] at h
    rcases lvD_get l 0 v j w h with ⟨h1, h2⟩ | ⟨h1, h2, h3, h4⟩
    · exact Or.inl ⟨by omega, h2⟩
    · exact Or.inr ⟨by omega, by omega, by simpa using h3, by omega⟩
  | x :: l, i + 2, v, 0, w, h => by
    simp only [lvD, List.getElem?_cons_zero] at h
    exact Or.inr ⟨by omega, by omega, by simpa using h, by omega⟩
  | x :: l, i + 2, v, j + 1, w, h => by
    simp only [lvD, List.getElem?_cons_succ] at h
    rcases lvD_get l (i + 1) v j w h with ⟨h1, h2⟩ | ⟨h1, h2, h3, h4⟩
    · exact Or.inl ⟨by omega, h2⟩
    · exact Or.inr ⟨by omega, by omega, by simpa using h3, fun q => h4 (by omega)⟩
def lvh (ls : Array Slot) (nL : Nat) (lv : List (Option Value)) : Prop := lv_has ls nL (toA 0 lv)
theorem lvh.at {ls : Array Slot} {nL : Nat} {lv : List (Option Value)} (h : lvh ls nL lv) {i : Nat} {v : Value} (hi : lv[i]? = some (some v)) : ls[i]? = some (.val v) := by
  have := h.2.2 (0 + i, v) (toA_mem lv 0 i v hi)
  simpa using this
theorem lvh.store {ls : Array Slot} {nL : Nat} {lv : List (Option Value)} {i : Nat} {v : Value} (h : lv_has ls nL ((i, v) :: (toA 0 lv).filter (fun q => !(q.1 == i) && !(q.1 + 1 == i && q.2.category == 2)))) : lvh ls nL (lvS lv i v) := by
  refine ⟨h.1, h.2.1, fun q hq => ?_⟩
  obtain ⟨j, w⟩ := q
  obtain ⟨-, hj⟩ := toA_of _ _ _ _ hq
  rw [Nat.sub_zero] at hj
  rcases lvS_get lv i v j w hj with ⟨rfl, rfl⟩ | ⟨h1, h2, h3⟩
  · exact h.2.2 _ List.mem_cons_self
  · refine h.2.2 _ (List.mem_cons_of_mem _ (List.mem_filter.mpr ⟨by simpa using toA_mem lv 0 j w h2, ?_⟩))
    by_cases hji : j + 1 = i
    · simp [h1, hji, h3 hji]
    · simp [h1, hji]
theorem lvh.store2 {ls : Array Slot} {nL : Nat} {lv : List (Option Value)} {i : Nat} {v : Value} (h : lv_has ls nL ((i, v) :: (toA 0 lv).filter (fun q => !(q.1 == i) && (!(q.1 == i + 1) && !(q.1 + 1 == i && q.2.category == 2))))) : lvh ls nL (lvD lv i v) := by
  refine ⟨h.1, h.2.1, fun q hq => ?_⟩
  obtain ⟨j, w⟩ := q
  obtain ⟨-, hj⟩ := toA_of _ _ _ _ hq
  rw [Nat.sub_zero] at hj
  rcases lvD_get lv i v j w hj with ⟨rfl, rfl⟩ | ⟨h1, h1b, h2, h3⟩
  · exact h.2.2 _ List.mem_cons_self
  · refine h.2.2 _ (List.mem_cons_of_mem _ (List.mem_filter.mpr ⟨by simpa using toA_mem lv 0 j w h2, ?_⟩))
    by_cases hji : j + 1 = i
    · simp [h1, h1b, hji, h3 hji]
    · simp [h1, h1b, hji]
/-- the first list says less -/
def lvLe : List (Option Value) → List (Option Value) → Prop
  | [], _ => True
  | _ :: _, [] => False
  | none :: a, _ :: b => lvLe a b
  | some v :: a, w :: b => w = some v ∧ lvLe a b
theorem lvLe_get : ∀ (a b : List (Option Value)), lvLe a b → ∀ (i : Nat) (v : Value), a[i]? = some (some v) → b[i]? = some (some v)
  | [], _, _, i, v, h => by simp at h
  | _ :: _, [], hl, _, _, _ => hl.elim
  | none :: a, w :: b, hl, 0, v, h => by simp at h
  | none :: a, w :: b, hl, i + 1, v, h => by simpa using lvLe_get a b hl i v (by simpa using h)
  | some u :: a, w :: b, hl, 0, v, h => by simp at h; subst h; simp [hl.1]
  | some u :: a, w :: b, hl, i + 1, v, h => by simpa using lvLe_get a b hl.2 i v (by simpa using h)
theorem lvh.sub {ls : Array Slot} {nL : Nat} {a b : List (Option Value)} (h : lvh ls nL b) (hl : lvLe a b) : lvh ls nL a := by
  refine ⟨h.1, h.2.1, fun q hq => ?_⟩
  obtain ⟨j, w⟩ := q
  obtain ⟨-, hj⟩ := toA_of _ _ _ _ hq
  rw [Nat.sub_zero] at hj
  exact h.at (lvLe_get a b hl j w hj)
end
section

abbrev Cx : Type := Program × Launch × Env × Room × State × MethodId × Array Value × List Frame × Method × Code
def Cx.p (X : Cx) : Program := X.1
def Cx.l (X : Cx) : Launch := X.2.1
def Cx.e (X : Cx) : Env := X.2.2.1
def Cx.Rm (X : Cx) : Room := X.2.2.2.1
def Cx.s (X : Cx) : State := X.2.2.2.2.1
def Cx.m (X : Cx) : MethodId := X.2.2.2.2.2.1
def Cx.args (X : Cx) : Array Value := X.2.2.2.2.2.2.1
def Cx.below (X : Cx) : List Frame := X.2.2.2.2.2.2.2.1
def Cx.meth (X : Cx) : Method := X.2.2.2.2.2.2.2.2.1
def Cx.c (X : Cx) : Code := X.2.2.2.2.2.2.2.2.2
/-! machine arithmetic by name -/
def iush (x y : Int32) : Int32 := (x.toUInt32 >>> (y.toUInt32 &&& Int32.toUInt32 31)).toInt32
def lush (x : Int64) (y : Int32) : Int64 := (x.toUInt64 >>> (y.toInt64.toUInt64 &&& Int64.toUInt64 63)).toInt64
def lsh (x : Int64) (y : Int32) : Int64 := x <<< (y.toInt64 &&& 63)
def i2ch (x : Int32) : Int32 := (x.toUInt32 % 65536).toInt32
def rem (x y : Int32) : Int32 := x - x / y * y
/-- the environment of a method that runs -/
def En (X : Cx) (D : Dx) (cc : ByteArray) (nL : Nat) (own : String) (rt : Option FieldType) (rm : Room) : Prop :=
  X.p.tables.exec = Jvm.exec ∧ X.c.code = cc ∧ X.c.maxLocals = nL ∧ X.s.vm.findClass own = some X.m.cls ∧ (∀ w ∈ TB, w.before X.args X.s = true) ∧ gK D X.s ∧ D.2.2.1 ≤ X.s.heap.size ∧ X.meth.sig.returnType = rt ∧ X.meth.locks = false ∧ gS D X.s X.s.heap ∧ X.Rm = rm
/-- what a method's end says -/
def Qm (D : Dx) (r : Option Value) (h : Hp) : Array Value → State → Outcome → State → Prop := fun _ st oc t => oc = .returned r ∧ gP D h t.heap ∧ va_F D.A st t
/-- THE JUDGEMENT: where the picture o of the rest is some outcome, the machine comes to it -/
def Wo {ρ : Type} (X : Cx) (D : Dx) (nL : Nat) (Q : ρ × Hp → State → Prop) (cells slots : Nat) (o : Option (ρ × Hp)) (pc : Nat) (lv : List (Option Value)) (st : List Value) (h : Hp) : Prop :=
  ∀ out, o = some out → ∀ (H : Heap) (locs : List Loc) (ls : Array Slot), gP D h H → va_S D.A X.s.heap H locs → lvh ls nL lv →
    W X.p X.l X.e X.Rm X.s X.m X.args X.below X.meth X.c H locs cells slots (Q out) (F0 X.m pc ls st)
/-- a method's own end -/
def Qr {ρ : Type} (X : Cx) (D : Dx) (mc ms : Nat) (ev : ρ → Option Value) : ρ × Hp → State → Prop := fun out => MQ X.below (Qm D (ev out.1) out.2) X.args X.s mc ms D.A
section RULES
variable {ρ : Type} {X : Cx} {D : Dx} {cc : ByteArray} {nL : Nat} {own : String} {rt : Option FieldType} {rm : Room} {Q : ρ × Hp → State → Prop} {cells slots : Nat} {o o1 o2 : Option (ρ × Hp)} {pc : Nat} {lv : List (Option Value)} {st : List Value} {h : Hp}
theorem Wo_none : Wo X D nL Q cells slots (none : Option (ρ × Hp)) pc lv st h := fun _ ho => by cases ho
theorem Wo_sub {lv' : List (Option Value)} (hl : lvLe lv' lv) (k : Wo X D nL Q cells slots o pc lv' st h) : Wo X D nL Q cells slots o pc lv st h := fun out ho H locs ls hP hS hv => k out ho H locs ls hP hS (hv.sub hl)
theorem Wo_widen {c2 s2 : Nat} (h1 : cells ≤ c2) (h2 : slots ≤ s2) (k : Wo X D nL Q c2 s2 o pc lv st h) : Wo X D nL Q cells slots o pc lv st h := fun out ho H locs ls hP hS hv => W.widen h1 h2 (k out ho H locs ls hP hS hv)

theorem r_iconst (hE : En X D cc nL own rt rm) {n : Int} {v : Int32} (hd : decode cc pc = .ok (.iconst n, 1)) (hv : Int32.ofInt n = v) (k : Wo X D nL Q cells slots o (pc + 1) lv (.int v :: st) h) : Wo X D nL Q cells slots o pc lv (st) h := fun out ho H locs ls hP hS hl => lv_iconst hE.1 hE.2.1 hd hv (k out ho H locs ls hP hS hl)
theorem r_bipush (hE : En X D cc nL own rt rm) {n : Int} {v : Int32} (hd : decode cc pc = .ok (.bipush n, 2)) (hv : (Int8.ofInt n).toInt32 = v) (k : Wo X D nL Q cells slots o (pc + 2) lv (.int v :: st) h) : Wo X D nL Q cells slots o pc lv (st) h := fun out ho H locs ls hP hS hl => lv_bipush hE.1 hE.2.1 hd hv (k out ho H locs ls hP hS hl)
theorem r_sipush (hE : En X D cc nL own rt rm) {n : Int} {v : Int32} (hd : decode cc pc = .ok (.sipush n, 3)) (hv : (Int16.ofInt n).toInt32 = v) (k : Wo X D nL Q cells slots o (pc + 3) lv (.int v :: st) h) : Wo X D nL Q cells slots o pc lv (st) h := fun out ho H locs ls hP hS hl => lv_sipush hE.1 hE.2.1 hd hv (k out ho H locs ls hP hS hl)
theorem r_lconst (hE : En X D cc nL own rt rm) {n : Fin 2} {v : Int64} (hd : decode cc pc = .ok (.lconst n, 1)) (hv : Int64.ofNat (n : Nat) = v) (k : Wo X D nL Q cells slots o (pc + 1) lv (.long v :: st) h) : Wo X D nL Q cells slots o pc lv (st) h := fun out ho H locs ls hP hS hl => lv_lconst hE.1 hE.2.1 hd hv (k out ho H locs ls hP hS hl)
theorem r_iload_n (hE : En X D cc nL own rt rm) {k : Fin 4} {x : Int32} (hd : decode cc pc = .ok (.iload_n k, 1)) (hx : lv[(k : Nat)]? = some (some (.int x))) (kk : Wo X D nL Q cells slots o (pc + 1) lv (.int x :: st) h) : Wo X D nL Q cells slots o pc lv st h := fun out ho H locs ls hP hS hl => lv_iload_n hE.1 hE.2.1 hd rfl (hl.at hx) (kk out ho H locs ls hP hS hl)
theorem r_iload (hE : En X D cc nL own rt rm) {i : Nat} {x : Int32} (hd : decode cc pc = .ok (.iload i, 2)) (hx : lv[i]? = some (some (.int x))) (kk : Wo X D nL Q cells slots o (pc + 2) lv (.int x :: st) h) : Wo X D nL Q cells slots o pc lv st h := fun out ho H locs ls hP hS hl => lv_iload hE.1 hE.2.1 hd (hl.at hx) (kk out ho H locs ls hP hS hl)
theorem r_istore_n (hE : En X D cc nL own rt rm) {k : Fin 4} {x : Int32} (hd : decode cc pc = .ok (.istore_n k, 1)) (hn : (k : Nat) < nL) (kk : Wo X D nL Q cells slots o (pc + 1) (lvS lv (k : Nat) (.int x)) st h) : Wo X D nL Q cells slots o pc lv (.int x :: st) h := fun out ho H locs ls hP hS hl => lv_istore_n hE.1 hE.2.1 hd rfl hl hn rfl (fun ls' hl' => kk out ho H locs ls' hP hS (lvh.store hl'))
theorem r_istore (hE : En X D cc nL own rt rm) {i : Nat} {x : Int32} (hd : decode cc pc = .ok (.istore i, 2)) (hn : i < nL) (kk : Wo X D nL Q cells slots o (pc + 2) (lvS lv i (.int x)) st h) : Wo X D nL Q cells slots o pc lv (.int x :: st) h := fun out ho H locs ls hP hS hl => lv_istore hE.1 hE.2.1 hd hl hn rfl (fun ls' hl' => kk out ho H locs ls' hP hS (lvh.store hl'))
theorem r_lload_n (hE : En X D cc nL own rt rm) {k : Fin 4} {x : Int64} (hd : decode cc pc = .ok (.lload_n k, 1)) (hx : lv[(k : Nat)]? = some (some (.long x))) (kk : Wo X D nL Q cells slots o (pc + 1) lv (.long x :: st) h) : Wo X D nL Q cells slots o pc lv st h := fun out ho H locs ls hP hS hl => lv_lload_n hE.1 hE.2.1 hd rfl (hl.at hx) (kk out ho H locs ls hP hS hl)
theorem r_lload (hE : En X D cc nL own rt rm) {i : Nat} {x : Int64} (hd : decode cc pc = .ok (.lload i, 2)) (hx : lv[i]? = some (some (.long x))) (kk : Wo X D nL Q cells slots o (pc + 2) lv (.long x :: st) h) : Wo X D nL Q cells slots o pc lv st h := fun out ho H locs ls hP hS hl => lv_lload hE.1 hE.2.1 hd (hl.at hx) (kk out ho H locs ls hP hS hl)
theorem r_lstore_n (hE : En X D cc nL own rt rm) {k : Fin 4} {x : Int64} (hd : decode cc pc = .ok (.lstore_n k, 1)) (hn : (k : Nat) + 1 < nL) (kk : Wo X D nL Q cells slots o (pc + 1) (lvD lv (k : Nat) (.long x)) st h) : Wo X D nL Q cells slots o pc lv (.long x :: st) h := fun out ho H locs ls hP hS hl => lv_lstore_n hE.1 hE.2.1 hd rfl hl hn rfl (fun ls' hl' => kk out ho H locs ls' hP hS (lvh.store2 hl'))
theorem r_lstore (hE : En X D cc nL own rt rm) {i : Nat} {x : Int64} (hd : decode cc pc = .ok (.lstore i, 2)) (hn : i + 1 < nL) (kk : Wo X D nL Q cells slots o (pc + 2) (lvD lv i (.long x)) st h) : Wo X D nL Q cells slots o pc lv (.long x :: st) h := fun out ho H locs ls hP hS hl => lv_lstore hE.1 hE.2.1 hd hl hn rfl (fun ls' hl' => kk out ho H locs ls' hP hS (lvh.store2 hl'))
theorem r_aload_n (hE : En X D cc nL own rt rm) {k : Fin 4} {x : Nat} (hd : decode cc pc = .ok (.aload_n k, 1)) (hx : lv[(k : Nat)]? = some (some (.ref x))) (kk : Wo X D nL Q cells slots o (pc + 1) lv (.ref x :: st) h) : Wo X D nL Q cells slots o pc lv st h := fun out ho H locs ls hP hS hl => lv_aload_n hE.1 hE.2.1 hd rfl (hl.at hx) (kk out ho H locs ls hP hS hl)
theorem r_aload (hE : En X D cc nL own rt rm) {i : Nat} {x : Nat} (hd : decode cc pc = .ok (.aload i, 2)) (hx : lv[i]? = some (some (.ref x))) (kk : Wo X D nL Q cells slots o (pc + 2) lv (.ref x :: st) h) : Wo X D nL Q cells slots o pc lv st h := fun out ho H locs ls hP hS hl => lv_aload hE.1 hE.2.1 hd (hl.at hx) (kk out ho H locs ls hP hS hl)
theorem r_astore_n (hE : En X D cc nL own rt rm) {k : Fin 4} {x : Nat} (hd : decode cc pc = .ok (.astore_n k, 1)) (hn : (k : Nat) < nL) (kk : Wo X D nL Q cells slots o (pc + 1) (lvS lv (k : Nat) (.ref x)) st h) : Wo X D nL Q cells slots o pc lv (.ref x :: st) h := fun out ho H locs ls hP hS hl => lv_astore_n hE.1 hE.2.1 hd rfl hl hn rfl (fun ls' hl' => kk out ho H locs ls' hP hS (lvh.store hl'))
theorem r_astore (hE : En X D cc nL own rt rm) {i : Nat} {x : Nat} (hd : decode cc pc = .ok (.astore i, 2)) (hn : i < nL) (kk : Wo X D nL Q cells slots o (pc + 2) (lvS lv i (.ref x)) st h) : Wo X D nL Q cells slots o pc lv (.ref x :: st) h := fun out ho H locs ls hP hS hl => lv_astore hE.1 hE.2.1 hd hl hn rfl (fun ls' hl' => kk out ho H locs ls' hP hS (lvh.store hl'))
theorem r_iinc (hE : En X D cc nL own rt rm) {i : Nat} {n : Int} {x v : Int32} (hd : decode cc pc = .ok (.iinc i n, 3)) (hx : lv[i]? = some (some (.int x))) (hv : x + Int32.ofInt n = v) (hn : i < nL) (kk : Wo X D nL Q cells slots o (pc + 3) (lvS lv i (.int v)) st h) : Wo X D nL Q cells slots o pc lv st h := fun out ho H locs ls hP hS hl => by
  obtain ⟨q, hq⟩ := List.getElem?_of_mem (toA_mem lv 0 i (.int x) hx)
  rw [Nat.zero_add] at hq
  exact lv_iinc hE.1 hE.2.1 hd hl hq hv hn rfl (fun ls' hl' => kk out ho H locs ls' hP hS (lvh.store hl'))
theorem r_iadd (hE : En X D cc nL own rt rm) {x y : Int32} (hd : decode cc pc = .ok (.iadd, 1))  (k : Wo X D nL Q cells slots o (pc + 1) lv (.int (x + y) :: st) h) : Wo X D nL Q cells slots o pc lv (.int y :: .int x :: st) h := fun out ho H locs ls hP hS hl => lv_iadd hE.1 hE.2.1 hd  (k out ho H locs ls hP hS hl)
theorem r_isub (hE : En X D cc nL own rt rm) {x y : Int32} (hd : decode cc pc = .ok (.isub, 1))  (k : Wo X D nL Q cells slots o (pc + 1) lv (.int (x - y) :: st) h) : Wo X D nL Q cells slots o pc lv (.int y :: .int x :: st) h := fun out ho H locs ls hP hS hl => lv_isub hE.1 hE.2.1 hd  (k out ho H locs ls hP hS hl)
theorem r_imul (hE : En X D cc nL own rt rm) {x y : Int32} (hd : decode cc pc = .ok (.imul, 1))  (k : Wo X D nL Q cells slots o (pc + 1) lv (.int (x * y) :: st) h) : Wo X D nL Q cells slots o pc lv (.int y :: .int x :: st) h := fun out ho H locs ls hP hS hl => lv_imul hE.1 hE.2.1 hd  (k out ho H locs ls hP hS hl)
theorem r_iand (hE : En X D cc nL own rt rm) {x y : Int32} (hd : decode cc pc = .ok (.iand, 1))  (k : Wo X D nL Q cells slots o (pc + 1) lv (.int (x &&& y) :: st) h) : Wo X D nL Q cells slots o pc lv (.int y :: .int x :: st) h := fun out ho H locs ls hP hS hl => lv_iand hE.1 hE.2.1 hd  (k out ho H locs ls hP hS hl)
theorem r_ior (hE : En X D cc nL own rt rm) {x y : Int32} (hd : decode cc pc = .ok (.ior, 1))  (k : Wo X D nL Q cells slots o (pc + 1) lv (.int (x ||| y) :: st) h) : Wo X D nL Q cells slots o pc lv (.int y :: .int x :: st) h := fun out ho H locs ls hP hS hl => lv_ior hE.1 hE.2.1 hd  (k out ho H locs ls hP hS hl)
theorem r_ixor (hE : En X D cc nL own rt rm) {x y : Int32} (hd : decode cc pc = .ok (.ixor, 1))  (k : Wo X D nL Q cells slots o (pc + 1) lv (.int (x ^^^ y) :: st) h) : Wo X D nL Q cells slots o pc lv (.int y :: .int x :: st) h := fun out ho H locs ls hP hS hl => lv_ixor hE.1 hE.2.1 hd  (k out ho H locs ls hP hS hl)
theorem r_ishl (hE : En X D cc nL own rt rm) {x y : Int32} (hd : decode cc pc = .ok (.ishl, 1))  (k : Wo X D nL Q cells slots o (pc + 1) lv (.int (x <<< (y &&& 31)) :: st) h) : Wo X D nL Q cells slots o pc lv (.int y :: .int x :: st) h := fun out ho H locs ls hP hS hl => lv_ishl hE.1 hE.2.1 hd  (k out ho H locs ls hP hS hl)
theorem r_ishr (hE : En X D cc nL own rt rm) {x y : Int32} (hd : decode cc pc = .ok (.ishr, 1))  (k : Wo X D nL Q cells slots o (pc + 1) lv (.int (x >>> (y &&& 31)) :: st) h) : Wo X D nL Q cells slots o pc lv (.int y :: .int x :: st) h := fun out ho H locs ls hP hS hl => lv_ishr hE.1 hE.2.1 hd  (k out ho H locs ls hP hS hl)
theorem r_ladd (hE : En X D cc nL own rt rm) {x y : Int64} (hd : decode cc pc = .ok (.ladd, 1))  (k : Wo X D nL Q cells slots o (pc + 1) lv (.long (x + y) :: st) h) : Wo X D nL Q cells slots o pc lv (.long y :: .long x :: st) h := fun out ho H locs ls hP hS hl => lv_ladd hE.1 hE.2.1 hd  (k out ho H locs ls hP hS hl)
theorem r_lsub (hE : En X D cc nL own rt rm) {x y : Int64} (hd : decode cc pc = .ok (.lsub, 1))  (k : Wo X D nL Q cells slots o (pc + 1) lv (.long (x - y) :: st) h) : Wo X D nL Q cells slots o pc lv (.long y :: .long x :: st) h := fun out ho H locs ls hP hS hl => lv_lsub hE.1 hE.2.1 hd  (k out ho H locs ls hP hS hl)
theorem r_lmul (hE : En X D cc nL own rt rm) {x y : Int64} (hd : decode cc pc = .ok (.lmul, 1))  (k : Wo X D nL Q cells slots o (pc + 1) lv (.long (x * y) :: st) h) : Wo X D nL Q cells slots o pc lv (.long y :: .long x :: st) h := fun out ho H locs ls hP hS hl => lv_lmul hE.1 hE.2.1 hd  (k out ho H locs ls hP hS hl)
theorem r_land (hE : En X D cc nL own rt rm) {x y : Int64} (hd : decode cc pc = .ok (.land, 1))  (k : Wo X D nL Q cells slots o (pc + 1) lv (.long (x &&& y) :: st) h) : Wo X D nL Q cells slots o pc lv (.long y :: .long x :: st) h := fun out ho H locs ls hP hS hl => lv_land hE.1 hE.2.1 hd  (k out ho H locs ls hP hS hl)
theorem r_lor (hE : En X D cc nL own rt rm) {x y : Int64} (hd : decode cc pc = .ok (.lor, 1))  (k : Wo X D nL Q cells slots o (pc + 1) lv (.long (x ||| y) :: st) h) : Wo X D nL Q cells slots o pc lv (.long y :: .long x :: st) h := fun out ho H locs ls hP hS hl => lv_lor hE.1 hE.2.1 hd  (k out ho H locs ls hP hS hl)
theorem r_lxor (hE : En X D cc nL own rt rm) {x y : Int64} (hd : decode cc pc = .ok (.lxor, 1))  (k : Wo X D nL Q cells slots o (pc + 1) lv (.long (x ^^^ y) :: st) h) : Wo X D nL Q cells slots o pc lv (.long y :: .long x :: st) h := fun out ho H locs ls hP hS hl => lv_lxor hE.1 hE.2.1 hd  (k out ho H locs ls hP hS hl)
theorem r_iushr (hE : En X D cc nL own rt rm) {x y : Int32} (hd : decode cc pc = .ok (.iushr, 1))  (k : Wo X D nL Q cells slots o (pc + 1) lv (.int (iush x y) :: st) h) : Wo X D nL Q cells slots o pc lv (.int y :: .int x :: st) h := fun out ho H locs ls hP hS hl => lv_iushr hE.1 hE.2.1 hd rfl (k out ho H locs ls hP hS hl)
theorem r_lushr (hE : En X D cc nL own rt rm) {x : Int64} {y : Int32} (hd : decode cc pc = .ok (.lushr, 1))  (k : Wo X D nL Q cells slots o (pc + 1) lv (.long (lush x y) :: st) h) : Wo X D nL Q cells slots o pc lv (.int y :: .long x :: st) h := fun out ho H locs ls hP hS hl => lv_lushr hE.1 hE.2.1 hd rfl (k out ho H locs ls hP hS hl)
theorem r_lshl (hE : En X D cc nL own rt rm) {x : Int64} {y : Int32} (hd : decode cc pc = .ok (.lshl, 1))  (k : Wo X D nL Q cells slots o (pc + 1) lv (.long (lsh x y) :: st) h) : Wo X D nL Q cells slots o pc lv (.int y :: .long x :: st) h := fun out ho H locs ls hP hS hl => lv_lshl hE.1 hE.2.1 hd rfl (k out ho H locs ls hP hS hl)
theorem r_i2l (hE : En X D cc nL own rt rm) {x : Int32} (hd : decode cc pc = .ok (.i2l, 1))  (k : Wo X D nL Q cells slots o (pc + 1) lv (.long x.toInt64 :: st) h) : Wo X D nL Q cells slots o pc lv (.int x :: st) h := fun out ho H locs ls hP hS hl => lv_i2l hE.1 hE.2.1 hd rfl (k out ho H locs ls hP hS hl)
theorem r_l2i (hE : En X D cc nL own rt rm) {x : Int64} (hd : decode cc pc = .ok (.l2i, 1))  (k : Wo X D nL Q cells slots o (pc + 1) lv (.int x.toInt32 :: st) h) : Wo X D nL Q cells slots o pc lv (.long x :: st) h := fun out ho H locs ls hP hS hl => lv_l2i hE.1 hE.2.1 hd rfl (k out ho H locs ls hP hS hl)
theorem r_i2c (hE : En X D cc nL own rt rm) {x : Int32} (hd : decode cc pc = .ok (.i2c, 1))  (k : Wo X D nL Q cells slots o (pc + 1) lv (.int (i2ch x) :: st) h) : Wo X D nL Q cells slots o pc lv (.int x :: st) h := fun out ho H locs ls hP hS hl => lv_i2c hE.1 hE.2.1 hd rfl (k out ho H locs ls hP hS hl)
theorem r_lcmp (hE : En X D cc nL own rt rm) {x y : Int64} (hd : decode cc pc = .ok (.lcmp, 1))  (k : Wo X D nL Q cells slots o (pc + 1) lv (.int (lg_cmp x y) :: st) h) : Wo X D nL Q cells slots o pc lv (.long y :: .long x :: st) h := fun out ho H locs ls hP hS hl => W.lcmp hE.1 hE.2.1 hd  (k out ho H locs ls hP hS hl)
theorem r_dup (hE : En X D cc nL own rt rm) {v : Value} (hd : decode cc pc = .ok (.dup, 1)) (hc : v.category = 1) (k : Wo X D nL Q cells slots o (pc + 1) lv (v :: v :: st) h) : Wo X D nL Q cells slots o pc lv (v :: st) h := fun out ho H locs ls hP hS hl => lv_dup hE.1 hE.2.1 hd hc (k out ho H locs ls hP hS hl)
theorem r_pop (hE : En X D cc nL own rt rm) {v : Value} (hd : decode cc pc = .ok (.pop, 1)) (hc : v.category = 1) (k : Wo X D nL Q cells slots o (pc + 1) lv (st) h) : Wo X D nL Q cells slots o pc lv (v :: st) h := fun out ho H locs ls hP hS hl => lv_pop hE.1 hE.2.1 hd hc (k out ho H locs ls hP hS hl)
theorem r_null (hE : En X D cc nL own rt rm)  (hd : decode cc pc = .ok (.aconst_null, 1))  (k : Wo X D nL Q cells slots o (pc + 1) lv (va_rf none :: st) h) : Wo X D nL Q cells slots o pc lv (st) h := fun out ho H locs ls hP hS hl => lv_null hE.1 hE.2.1 hd  (k out ho H locs ls hP hS hl)
theorem r_idiv (hE : En X D cc nL own rt rm) {x y : Int32} (hd : decode cc pc = .ok (.idiv, 1)) (hy : ¬ y = 0) (k : Wo X D nL Q cells slots o (pc + 1) lv (.int (x / y) :: st) h) : Wo X D nL Q cells slots o pc lv (.int y :: .int x :: st) h := fun out ho H locs ls hP hS hl => lv_idiv hE.1 hE.2.1 hd hy (k out ho H locs ls hP hS hl)
theorem r_irem (hE : En X D cc nL own rt rm) {x y : Int32} (hd : decode cc pc = .ok (.irem, 1)) (hy : ¬ y = 0) (k : Wo X D nL Q cells slots o (pc + 1) lv (.int (rem x y) :: st) h) : Wo X D nL Q cells slots o pc lv (.int y :: .int x :: st) h := fun out ho H locs ls hP hS hl => lv_irem hE.1 hE.2.1 hd hy (k out ho H locs ls hP hS hl)
theorem r_if_eq (hE : En X D cc nL own rt rm) {x : Int32} {off : Int} {i : Decidable (x = 0)} (tgt : Nat) (hd : decode cc pc = .ok (.ifCond .eq off, 3)) (ht : (pc : Int) + off = (tgt : Int)) (kt : x = 0 → Wo X D nL Q cells slots o1 tgt lv st h) (kf : ¬ x = 0 → Wo X D nL Q cells slots o2 (pc + 3) lv st h) : Wo X D nL Q cells slots (@ite _ (x = 0) i o1 o2) pc lv (.int x :: st) h := fun out ho H locs ls hP hS hl =>
  lv_if_eq hE.1 hE.2.1 hd ht (fun hc => kt hc out (by rw [if_pos hc] at ho; exact ho) H locs ls hP hS hl) (fun hc => kf hc out (by rw [if_neg hc] at ho; exact ho) H locs ls hP hS hl)
theorem r_icmp_eq (hE : En X D cc nL own rt rm) {x y : Int32} {off : Int} {i : Decidable (x = y)} (tgt : Nat) (hd : decode cc pc = .ok (.if_icmp .eq off, 3)) (ht : (pc : Int) + off = (tgt : Int)) (kt : x = y → Wo X D nL Q cells slots o1 tgt lv st h) (kf : ¬ x = y → Wo X D nL Q cells slots o2 (pc + 3) lv st h) : Wo X D nL Q cells slots (@ite _ (x = y) i o1 o2) pc lv (.int y :: .int x :: st) h := fun out ho H locs ls hP hS hl =>
  lv_icmp_eq hE.1 hE.2.1 hd ht (fun hc => kt hc out (by rw [if_pos hc] at ho; exact ho) H locs ls hP hS hl) (fun hc => kf hc out (by rw [if_neg hc] at ho; exact ho) H locs ls hP hS hl)
theorem r_if_ne (hE : En X D cc nL own rt rm) {x : Int32} {off : Int} {i : Decidable (x = 0)} (tgt : Nat) (hd : decode cc pc = .ok (.ifCond .ne off, 3)) (ht : (pc : Int) + off = (tgt : Int)) (kt : ¬ x = 0 → Wo X D nL Q cells slots o2 tgt lv st h) (kf : x = 0 → Wo X D nL Q cells slots o1 (pc + 3) lv st h) : Wo X D nL Q cells slots (@ite _ (x = 0) i o1 o2) pc lv (.int x :: st) h := fun out ho H locs ls hP hS hl =>
  lv_if_ne hE.1 hE.2.1 hd ht (fun hc => kt hc out (by rw [if_neg hc] at ho; exact ho) H locs ls hP hS hl) (fun hc => kf hc out (by rw [if_pos hc] at ho; exact ho) H locs ls hP hS hl)
theorem r_icmp_ne (hE : En X D cc nL own rt rm) {x y : Int32} {off : Int} {i : Decidable (x = y)} (tgt : Nat) (hd : decode cc pc = .ok (.if_icmp .ne off, 3)) (ht : (pc : Int) + off = (tgt : Int)) (kt : ¬ x = y → Wo X D nL Q cells slots o2 tgt lv st h) (kf : x = y → Wo X D nL Q cells slots o1 (pc + 3) lv st h) : Wo X D nL Q cells slots (@ite _ (x = y) i o1 o2) pc lv (.int y :: .int x :: st) h := fun out ho H locs ls hP hS hl =>
  lv_icmp_ne hE.1 hE.2.1 hd ht (fun hc => kt hc out (by rw [if_neg hc] at ho; exact ho) H locs ls hP hS hl) (fun hc => kf hc out (by rw [if_pos hc] at ho; exact ho) H locs ls hP hS hl)
theorem r_if_lt (hE : En X D cc nL own rt rm) {x : Int32} {off : Int} {i : Decidable (x < 0)} (tgt : Nat) (hd : decode cc pc = .ok (.ifCond .lt off, 3)) (ht : (pc : Int) + off = (tgt : Int)) (kt : x < 0 → Wo X D nL Q cells slots o1 tgt lv st h) (kf : ¬ x < 0 → Wo X D nL Q cells slots o2 (pc + 3) lv st h) : Wo X D nL Q cells slots (@ite _ (x < 0) i o1 o2) pc lv (.int x :: st) h := fun out ho H locs ls hP hS hl =>
  lv_if_lt hE.1 hE.2.1 hd ht (fun hc => kt hc out (by rw [if_pos hc] at ho; exact ho) H locs ls hP hS hl) (fun hc => kf hc out (by rw [if_neg hc] at ho; exact ho) H locs ls hP hS hl)
theorem r_icmp_lt (hE : En X D cc nL own rt rm) {x y : Int32} {off : Int} {i : Decidable (x < y)} (tgt : Nat) (hd : decode cc pc = .ok (.if_icmp .lt off, 3)) (ht : (pc : Int) + off = (tgt : Int)) (kt : x < y → Wo X D nL Q cells slots o1 tgt lv st h) (kf : ¬ x < y → Wo X D nL Q cells slots o2 (pc + 3) lv st h) : Wo X D nL Q cells slots (@ite _ (x < y) i o1 o2) pc lv (.int y :: .int x :: st) h := fun out ho H locs ls hP hS hl =>
  lv_icmp_lt hE.1 hE.2.1 hd ht (fun hc => kt hc out (by rw [if_pos hc] at ho; exact ho) H locs ls hP hS hl) (fun hc => kf hc out (by rw [if_neg hc] at ho; exact ho) H locs ls hP hS hl)
theorem r_if_ge (hE : En X D cc nL own rt rm) {x : Int32} {off : Int} {i : Decidable (0 ≤ x)} (tgt : Nat) (hd : decode cc pc = .ok (.ifCond .ge off, 3)) (ht : (pc : Int) + off = (tgt : Int)) (kt : 0 ≤ x → Wo X D nL Q cells slots o1 tgt lv st h) (kf : ¬ 0 ≤ x → Wo X D nL Q cells slots o2 (pc + 3) lv st h) : Wo X D nL Q cells slots (@ite _ (0 ≤ x) i o1 o2) pc lv (.int x :: st) h := fun out ho H locs ls hP hS hl =>
  lv_if_ge hE.1 hE.2.1 hd ht (fun hc => kt hc out (by rw [if_pos hc] at ho; exact ho) H locs ls hP hS hl) (fun hc => kf hc out (by rw [if_neg hc] at ho; exact ho) H locs ls hP hS hl)
theorem r_icmp_ge (hE : En X D cc nL own rt rm) {x y : Int32} {off : Int} {i : Decidable (y ≤ x)} (tgt : Nat) (hd : decode cc pc = .ok (.if_icmp .ge off, 3)) (ht : (pc : Int) + off = (tgt : Int)) (kt : y ≤ x → Wo X D nL Q cells slots o1 tgt lv st h) (kf : ¬ y ≤ x → Wo X D nL Q cells slots o2 (pc + 3) lv st h) : Wo X D nL Q cells slots (@ite _ (y ≤ x) i o1 o2) pc lv (.int y :: .int x :: st) h := fun out ho H locs ls hP hS hl =>
  lv_icmp_ge hE.1 hE.2.1 hd ht (fun hc => kt hc out (by rw [if_pos hc] at ho; exact ho) H locs ls hP hS hl) (fun hc => kf hc out (by rw [if_neg hc] at ho; exact ho) H locs ls hP hS hl)
theorem r_if_gt (hE : En X D cc nL own rt rm) {x : Int32} {off : Int} {i : Decidable (0 < x)} (tgt : Nat) (hd : decode cc pc = .ok (.ifCond .gt off, 3)) (ht : (pc : Int) + off = (tgt : Int)) (kt : 0 < x → Wo X D nL Q cells slots o1 tgt lv st h) (kf : ¬ 0 < x → Wo X D nL Q cells slots o2 (pc + 3) lv st h) : Wo X D nL Q cells slots (@ite _ (0 < x) i o1 o2) pc lv (.int x :: st) h := fun out ho H locs ls hP hS hl =>
  lv_if_gt hE.1 hE.2.1 hd ht (fun hc => kt hc out (by rw [if_pos hc] at ho; exact ho) H locs ls hP hS hl) (fun hc => kf hc out (by rw [if_neg hc] at ho; exact ho) H locs ls hP hS hl)
theorem r_icmp_gt (hE : En X D cc nL own rt rm) {x y : Int32} {off : Int} {i : Decidable (y < x)} (tgt : Nat) (hd : decode cc pc = .ok (.if_icmp .gt off, 3)) (ht : (pc : Int) + off = (tgt : Int)) (kt : y < x → Wo X D nL Q cells slots o1 tgt lv st h) (kf : ¬ y < x → Wo X D nL Q cells slots o2 (pc + 3) lv st h) : Wo X D nL Q cells slots (@ite _ (y < x) i o1 o2) pc lv (.int y :: .int x :: st) h := fun out ho H locs ls hP hS hl =>
  lv_icmp_gt hE.1 hE.2.1 hd ht (fun hc => kt hc out (by rw [if_pos hc] at ho; exact ho) H locs ls hP hS hl) (fun hc => kf hc out (by rw [if_neg hc] at ho; exact ho) H locs ls hP hS hl)
theorem r_if_le (hE : En X D cc nL own rt rm) {x : Int32} {off : Int} {i : Decidable (x ≤ 0)} (tgt : Nat) (hd : decode cc pc = .ok (.ifCond .le off, 3)) (ht : (pc : Int) + off = (tgt : Int)) (kt : x ≤ 0 → Wo X D nL Q cells slots o1 tgt lv st h) (kf : ¬ x ≤ 0 → Wo X D nL Q cells slots o2 (pc + 3) lv st h) : Wo X D nL Q cells slots (@ite _ (x ≤ 0) i o1 o2) pc lv (.int x :: st) h := fun out ho H locs ls hP hS hl =>
  lv_if_le hE.1 hE.2.1 hd ht (fun hc => kt hc out (by rw [if_pos hc] at ho; exact ho) H locs ls hP hS hl) (fun hc => kf hc out (by rw [if_neg hc] at ho; exact ho) H locs ls hP hS hl)
theorem r_icmp_le (hE : En X D cc nL own rt rm) {x y : Int32} {off : Int} {i : Decidable (x ≤ y)} (tgt : Nat) (hd : decode cc pc = .ok (.if_icmp .le off, 3)) (ht : (pc : Int) + off = (tgt : Int)) (kt : x ≤ y → Wo X D nL Q cells slots o1 tgt lv st h) (kf : ¬ x ≤ y → Wo X D nL Q cells slots o2 (pc + 3) lv st h) : Wo X D nL Q cells slots (@ite _ (x ≤ y) i o1 o2) pc lv (.int y :: .int x :: st) h := fun out ho H locs ls hP hS hl =>
  lv_icmp_le hE.1 hE.2.1 hd ht (fun hc => kt hc out (by rw [if_pos hc] at ho; exact ho) H locs ls hP hS hl) (fun hc => kf hc out (by rw [if_neg hc] at ho; exact ho) H locs ls hP hS hl)
theorem r_goto (hE : En X D cc nL own rt rm) {off : Int} (tgt : Nat) (hd : decode cc pc = .ok (.goto off, 3)) (ht : (pc : Int) + off = (tgt : Int)) (k : Wo X D nL Q cells slots o tgt lv st h) : Wo X D nL Q cells slots o pc lv st h := fun out ho H locs ls hP hS hl => lv_goto hE.1 hE.2.1 hd ht (k out ho H locs ls hP hS hl)
theorem r_ifnull (hE : En X D cc nL own rt rm) {r : Option Nat} {off : Int} {f : Nat → Option (ρ × Hp)} (tgt : Nat) (hd : decode cc pc = .ok (.ifnull off, 3)) (ht : (pc : Int) + off = (tgt : Int)) (kt : r = none → Wo X D nL Q cells slots o1 tgt lv st h) (kf : ∀ b, r = some b → Wo X D nL Q cells slots (f b) (pc + 3) lv st h) : Wo X D nL Q cells slots (r.elim o1 f) pc lv (va_rf r :: st) h := fun out ho H locs ls hP hS hl => by
  cases r with
  | none => exact lv_ifnullN hE.1 hE.2.1 hd ht (kt rfl out ho H locs ls hP hS hl)
  | some b => exact lv_ifnull hE.1 hE.2.1 hd (kf b rfl out ho H locs ls hP hS hl)
theorem r_ifnonnull (hE : En X D cc nL own rt rm) {r : Option Nat} {off : Int} {f : Nat → Option (ρ × Hp)} (tgt : Nat) (hd : decode cc pc = .ok (.ifnonnull off, 3)) (ht : (pc : Int) + off = (tgt : Int)) (kf : r = none → Wo X D nL Q cells slots o1 (pc + 3) lv st h) (kt : ∀ b, r = some b → Wo X D nL Q cells slots (f b) tgt lv st h) : Wo X D nL Q cells slots (r.elim o1 f) pc lv (va_rf r :: st) h := fun out ho H locs ls hP hS hl => by
  cases r with
  | none => exact lv_ifnonnullN hE.1 hE.2.1 hd (kf rfl out ho H locs ls hP hS hl)
  | some b => exact lv_ifnonnull hE.1 hE.2.1 hd ht (kt b rfl out ho H locs ls hP hS hl)
theorem r_idivQ (hE : En X D cc nL own rt rm) {x y : Int32} {i : Decidable (y = 0)} (hd : decode cc pc = .ok (.idiv, 1)) (k : ¬ y = 0 → Wo X D nL Q cells slots o (pc + 1) lv (.int (x / y) :: st) h) : Wo X D nL Q cells slots (@ite _ (y = 0) i none o) pc lv (.int y :: .int x :: st) h := fun out ho H locs ls hP hS hl => by
  by_cases hy : y = 0
  · rw [if_pos hy] at ho; cases ho
  · rw [if_neg hy] at ho; exact lv_idiv hE.1 hE.2.1 hd hy (k hy out ho H locs ls hP hS hl)
theorem r_iremQ (hE : En X D cc nL own rt rm) {x y : Int32} {i : Decidable (y = 0)} (hd : decode cc pc = .ok (.irem, 1)) (k : ¬ y = 0 → Wo X D nL Q cells slots o (pc + 1) lv (.int (rem x y) :: st) h) : Wo X D nL Q cells slots (@ite _ (y = 0) i none o) pc lv (.int y :: .int x :: st) h := fun out ho H locs ls hP hS hl => by
  by_cases hy : y = 0
  · rw [if_pos hy] at ho; cases ho
  · rw [if_neg hy] at ho; exact lv_irem hE.1 hE.2.1 hd hy (k hy out ho H locs ls hP hS hl)
theorem Wo_grd {c : Prop} {i : Decidable c} (k : c → Wo X D nL Q cells slots o pc lv st h) : Wo X D nL Q cells slots (@ite _ c i o none) pc lv st h := fun out ho => by
  by_cases hc : c
  · rw [if_pos hc] at ho; exact k hc out ho
  · rw [if_neg hc] at ho; cases ho
end RULES
theorem gi_k {α : Type} {c : Prop} {i : Decidable c} {o : Option α} {x : α} (h : @ite _ c i o none = some x) : c ∧ o = some x := by
  by_cases hc : c
  · rw [if_pos hc] at h; exact ⟨hc, h⟩
  · rw [if_neg hc] at h; cases h
theorem ob_k {α β : Type} {o : Option α} {f : α → Option β} {x : β} (h : o.bind f = some x) : ∃ v, o = some v ∧ f v = some x := by
  cases o with
  | none => cases h
  | some v => exact ⟨v, rfl, h⟩
/-! the heap's own reads and writes, none where the machine throws -/
def gI (h : Hp) (c a k : Nat) : Option Int32 := if h.K a = c then some (h.I a k) else none
def gJ (h : Hp) (c a k : Nat) : Option Int64 := if h.K a = c then some (h.J a k) else none
def gR (h : Hp) (c a k : Nat) : Option Nat := if h.K a = c then h.R a k else none
def gQ (h : Hp) (c a k : Nat) : Option (Option Nat) := if h.K a = c then some (h.R a k) else none
def pI (h : Hp) (c a k : Nat) (v : Int32) : Option Hp := if h.K a = c then some (putI h a k v) else none
def pJ (h : Hp) (c a k : Nat) (v : Int64) : Option Hp := if h.K a = c then some (putJ h a k v) else none
def pR (h : Hp) (c a k : Nat) (v : Option Nat) : Option Hp := if h.K a = c then some (putR h a k v) else none
def aI (h : Hp) (c a : Nat) (i : Int32) : Option Int32 := if h.K a = c ∧ 0 ≤ i.toInt ∧ i.toInt < (h.L a : Int) then some (h.I a i.toNatClampNeg) else none
def aJ (h : Hp) (c a : Nat) (i : Int32) : Option Int64 := if h.K a = c ∧ 0 ≤ i.toInt ∧ i.toInt < (h.L a : Int) then some (h.J a i.toNatClampNeg) else none
def sI (h : Hp) (c a : Nat) (i v : Int32) : Option Hp := if h.K a = c ∧ 0 ≤ i.toInt ∧ i.toInt < (h.L a : Int) then some (putI h a i.toNatClampNeg v) else none
def sJ (h : Hp) (c a : Nat) (i : Int32) (v : Int64) : Option Hp := if h.K a = c ∧ 0 ≤ i.toInt ∧ i.toInt < (h.L a : Int) then some (putJ h a i.toNatClampNeg v) else none
def aN (h : Hp) (a : Nat) : Option Int32 := if 8 ≤ h.K a ∧ h.K a < 11 then some (Int32.ofNat (h.L a)) else none
def cpI (h : Hp) (a : Nat) (sp : Int32) (b : Nat) (dp n : Int32) : Option Hp := if h.K a = 8 ∧ h.K b = 8 ∧ 0 ≤ sp.toInt ∧ 0 ≤ dp.toInt ∧ 0 ≤ n.toInt ∧ sp.toInt + n.toInt ≤ (h.L a : Int) ∧ dp.toInt + n.toInt ≤ (h.L b : Int) then some (cpyI h a b sp.toNatClampNeg dp.toNatClampNeg n.toNatClampNeg) else none
end
section

/-! HEAP RULES -/
theorem gA_congr {D : Dx} {h h' : Hp} {a : Nat} {H H' : Heap} (hK : h'.K a = h.K a) (hL : h'.L a = h.L a) (hI : h'.I a = h.I a) (hJ : h'.J a = h.J a) (hR : h'.R a = h.R a) (hH : H'[a]? = H[a]?) (g : gA D h a H) : gA D h' a H' := by
  unfold gA at g ⊢
  rw [hK, hL, hI, hJ, hH]
  by_cases h8 : h.K a = 8
  · rw [if_pos h8] at g ⊢; exact g
  · rw [if_neg h8] at g ⊢
    by_cases h9 : h.K a = 9
    · rw [if_pos h9] at g ⊢; exact g
    · rw [if_neg h9] at g ⊢
      by_cases h10 : h.K a = 10
      · rw [if_pos h10] at g ⊢; exact g
      · rw [if_neg h10] at g ⊢
        have hv : hV h' a = hV h a := by funext k; unfold hV; rw [hK, hI, hJ, hR]
        rw [hv]
        exact g.kept hH
theorem up2_ne {α : Type} (f : Nat → Nat → α) {a b k : Nat} {v : α} (h : b ≠ a) : up2 f a k v b = f b := by funext j; simp [up2, h]
theorem up2_eq {α : Type} (f : Nat → Nat → α) {a k : Nat} {v : α} (j : Nat) : up2 f a k v a j = if j = k then v else f a j := by simp [up2]
theorem gA_obj {D : Dx} {h : Hp} {a c : Nat} {H : Heap} (hK : h.K a = c) (hc : c < 8) (g : gA D h a H) : t_OB a (D.1.1 c) (nF c) (D.1.2 c) H (hV h a) := by
  unfold gA at g
  rw [if_neg (by omega), if_neg (by omega), if_neg (by omega), hK] at g
  exact g
theorem gA_of_obj {D : Dx} {h : Hp} {a c : Nat} {H : Heap} (hK : h.K a = c) (hc : c < 8) (g : t_OB a (D.1.1 c) (nF c) (D.1.2 c) H (hV h a)) : gA D h a H := by
  unfold gA
  rw [if_neg (by omega), if_neg (by omega), if_neg (by omega), hK]
  exact g
theorem gA_8 {D : Dx} {h : Hp} {a : Nat} {H : Heap} (hK : h.K a = 8) : gA D h a H ↔ H[a]? = some (arrV D.2.1.1 (h.L a) (fun j => .int (h.I a j))) := by unfold gA; rw [if_pos hK]
theorem gA_9 {D : Dx} {h : Hp} {a : Nat} {H : Heap} (hK : h.K a = 9) : gA D h a H ↔ H[a]? = some (arrV D.2.1.2.1 (h.L a) (fun j => .long (h.J a j))) := by unfold gA; rw [if_neg (by omega), if_pos hK]
theorem gA_10 {D : Dx} {h : Hp} {a : Nat} {H : Heap} (hK : h.K a = 10) : gA D h a H ↔ H[a]? = some (arrV D.2.1.2.2 (h.L a) (fun j => .int (h.I a j))) := by unfold gA; rw [if_neg (by omega), if_neg (by omega), if_pos hK]
/-- a write to one cell -/
theorem gP_write {D : Dx} {h h' : Hp} {a : Nat} {H H' : Heap} (hP : gP D h H) (hN : h'.N = h.N) (hK : h'.K = h.K) (hL : h'.L = h.L) (hI : ∀ b, b ≠ a → h'.I b = h.I b) (hJ : ∀ b, b ≠ a → h'.J b = h.J b) (hR : ∀ b, b ≠ a → h'.R b = h.R b) (hz : H'.size = H.size) (oq : ∀ q : Nat, q ≠ a → H'[q]? = H[q]?) (ha : gA D h' a H') : gP D h' H' := by
  refine ⟨by rw [hz, hP.1, hN], by rw [hN]; exact hP.2.1, fun b hb => ?_⟩
  rw [hK] at hb
  obtain ⟨g1, g2, g3⟩ := hP.2.2 b hb
  refine ⟨g1, by rw [hN]; exact g2, ?_⟩
  by_cases hab : b = a
  · subst hab; exact ha
  · exact gA_congr (by rw [hK]) (by rw [hL]) (hI b hab) (hJ b hab) (hR b hab) (oq b hab) g3
theorem hV_int {h : Hp} {a k c : Nat} (hK : h.K a = c) (hty : ∀ i j r, hW (tyF c k) i j r = .int i) : hV h a k = .int (h.I a k) := by unfold hV; rw [hK]; exact hty _ _ _
theorem hV_long {h : Hp} {a k c : Nat} (hK : h.K a = c) (hty : ∀ i j r, hW (tyF c k) i j r = .long j) : hV h a k = .long (h.J a k) := by unfold hV; rw [hK]; exact hty _ _ _
theorem hV_ref {h : Hp} {a k c : Nat} (hK : h.K a = c) (hty : ∀ i j r, hW (tyF c k) i j r = va_rf r) : hV h a k = va_rf (h.R a k) := by unfold hV; rw [hK]; exact hty _ _ _
theorem hV_putI {h : Hp} {a k c : Nat} {v : Int32} (hK : h.K a = c) (hty : ∀ i j r, hW (tyF c k) i j r = .int i) (j : Nat) : updV (hV h a) k (.int v) j = hV (putI h a k v) a j := by
  by_cases hj : j = k
  · subst hj
    rw [hV_int (h := putI h a j v) hK hty]
    simp [updV, putI, Hp.I, up2]
  · simp [updV, hj, hV, putI, Hp.I, Hp.K, Hp.J, Hp.R, up2]
theorem hV_putJ {h : Hp} {a k c : Nat} {v : Int64} (hK : h.K a = c) (hty : ∀ i j r, hW (tyF c k) i j r = .long j) (j : Nat) : updV (hV h a) k (.long v) j = hV (putJ h a k v) a j := by
  by_cases hj : j = k
  · subst hj
    rw [hV_long (h := putJ h a j v) hK hty]
    simp [updV, putJ, Hp.J, up2]
  · simp [updV, hj, hV, putJ, Hp.I, Hp.K, Hp.J, Hp.R, up2]
theorem hV_putR {h : Hp} {a k c : Nat} {v : Option Nat} (hK : h.K a = c) (hty : ∀ i j r, hW (tyF c k) i j r = va_rf r) (j : Nat) : updV (hV h a) k (va_rf v) j = hV (putR h a k v) a j := by
  by_cases hj : j = k
  · subst hj
    rw [hV_ref (h := putR h a j v) hK hty]
    simp [updV, putR, Hp.R, up2]
  · simp [updV, hj, hV, putR, Hp.I, Hp.K, Hp.J, Hp.R, up2]
section HEAP
variable {ρ : Type} {X : Cx} {D : Dx} {cc : ByteArray} {nL : Nat} {own : String} {rt : Option FieldType} {rm : Room} {Q : ρ × Hp → State → Prop} {cells slots : Nat} {o o1 o2 : Option (ρ × Hp)} {pc : Nat} {lv : List (Option Value)} {st : List Value} {h : Hp}
/-- a field is read -/
theorem w_get {Q : State → Prop} {H : Heap} {locs : List Loc} {ls : Array Slot} (hE : En X D cc nL own rt rm) {c k idx a : Nat} (hc : c < 8) (hk : k < nF c) (hlink : Cond.fieldLink own idx (TF c k).1 (TF c k).2.1 (TF c k).2.2.1 ∈ TB) (hd : decode cc pc = .ok (.getfield idx, 3)) (hP : gP D h H) (hK : h.K a = c)
    (kk : W X.p X.l X.e X.Rm X.s X.m X.args X.below X.meth X.c H locs cells slots Q (F0 X.m (pc + 3) ls (hV h a k :: st))) : W X.p X.l X.e X.Rm X.s X.m X.args X.below X.meth X.c H locs cells slots Q (F0 X.m pc ls (.ref a :: st)) := by
  obtain ⟨hx, hb, hml, hown, hts, hgK, -⟩ := hE
  obtain ⟨cell, q1, q2, q3, q4⟩ := gA_obj hK hc (hP.2.2 a (by omega)).2.2
  obtain ⟨hS, hfc, kC, hkC, hkind⟩ := hgK.1 c hc
  obtain ⟨cf, kf, fi, f, hi, hsl⟩ := hS k hk
  refine W.getf hx hb hown (hts _ hlink) hi (u_facts hfc hkC (u_lays hts (fieldsTB hc) hk) hi).1 q1 (by rw [q3]; exact fun h => by cases h) (v := hV h a k) ?_ rfl rfl hd kk
  rw [hsl, q4 k hk]
theorem w_apart (hE : En X D cc nL own rt rm) {c : Nat} (hc : c < 8) : ∀ x y, x < nF c → y < nF c → x ≠ y → (D.1.2 c) x ≠ (D.1.2 c) y := by
  obtain ⟨hx, hb, hml, hown, hts, hgK, -⟩ := hE
  intro x y hx hy hne
  obtain ⟨hS, -⟩ := hgK.1 c hc
  obtain ⟨_, _, _, fa, hia, ea⟩ := hS x hx
  obtain ⟨_, _, _, fb, hib, eb⟩ := hS y hy
  rw [← ea, ← eb]
  refine u_apart (u_lays hts (fieldsTB hc) hx) (u_lays hts (fieldsTB hc) hy) hia hib ?_
  rw [(State.fieldFound?_type hia (tyF_ok hc x hx)).1, (State.fieldFound?_type hib (tyF_ok hc y hy)).1]
  exact nmF_ok hc x hx y hy hne
/-- a field is written -/
theorem w_put {Q : State → Prop} {H : Heap} {locs : List Loc} {ls : Array Slot} (hE : En X D cc nL own rt rm) {c k idx a : Nat} {v : Value} (hc : c < 8) (hk : k < nF c) (hlink : Cond.fieldLink own idx (TF c k).1 (TF c k).2.1 (TF c k).2.2.1 ∈ TB) (hfin : (TF c k).2.2.2 = false) (hn : narrow (tyF c k) v = v) (hfit : fits (tyF c k) v = true) (hd : decode cc pc = .ok (.putfield idx, 3)) (hP : gP D h H) (hS0 : va_S D.A X.s.heap H locs) (hK : h.K a = c)
    (kk : ∀ (H1 : Heap) (locs1 : List Loc), t_OB a (D.1.1 c) (nF c) (D.1.2 c) H1 (updV (hV h a) k v) → H1.size = H.size → (∀ q : Nat, q ≠ a → H1[q]? = H[q]?) → va_S D.A X.s.heap H1 locs1 → W X.p X.l X.e X.Rm X.s X.m X.args X.below X.meth X.c H1 locs1 cells slots Q (F0 X.m (pc + 3) ls st)) : W X.p X.l X.e X.Rm X.s X.m X.args X.below X.meth X.c H locs cells slots Q (F0 X.m pc ls (v :: .ref a :: st)) := by
  have hap := w_apart hE hc
  obtain ⟨hx, hb, hml, hown, hts, hgK, -⟩ := hE
  obtain ⟨g1, g2, g3⟩ := hP.2.2 a (by omega)
  obtain ⟨cell, q1, q2, q3, q4⟩ := gA_obj hK hc g3
  obtain ⟨hS, hfc, kC, hkC, hkind⟩ := hgK.1 c hc
  obtain ⟨cf, kf, fi, f, hi, hsl⟩ := hS k hk
  have hlay := hts _ (fieldsTB hc _ (u_in_lay hk))
  unfold u_lay at hlay
  rw [if_neg (by rw [hfin]; decide)] at hlay
  have hst := (u_facts hfc hkC (u_lays hts (fieldsTB hc) hk) hi).1
  have h6 := u_store hfc hkC hkind hlay hi (tyF_ok hc k hk) hn hfit
  refine W.putK hx hb (f := f) ⟨hown, hts _ hlink, ⟨_, _, _, hi⟩, hst⟩ (by rw [q2]; exact h6) q1 q3 (by rw [hsl]; exact k2_hasslot (q4 k hk)) rfl rfl hd fun H' e1 e2 e3 => ?_
  rw [hsl] at e1 ⊢
  exact kk H' _ ⟨_, e1, q2, q3, t_set q4 hap hk v⟩ e2 e3 (hS0.put e2 e3 g1)
theorem r_getI (hE : En X D cc nL own rt rm) (c k : Nat) {idx a : Nat} {f : Int32 → Option (ρ × Hp)} (hc : c < 8) (hk : k < nF c) (hty : ∀ i j r, hW (tyF c k) i j r = .int i) (hlink : Cond.fieldLink own idx (TF c k).1 (TF c k).2.1 (TF c k).2.2.1 ∈ TB) (hd : decode cc pc = .ok (.getfield idx, 3)) (kk : ∀ v, gI h c a k = some v → Wo X D nL Q cells slots (f v) (pc + 3) lv (.int v :: st) h) : Wo X D nL Q cells slots ((gI h c a k).bind f) pc lv (.ref a :: st) h := fun out ho H locs ls hP hS hl => by
  obtain ⟨v, h1, h2⟩ := ob_k ho
  obtain ⟨hK, h3⟩ := gi_k h1
  refine w_get hE hc hk hlink hd hP hK ?_
  have hw := kk v h1 out h2 H locs ls hP hS hl
  rw [hV_int hK hty]
  cases h3; exact hw
theorem r_getJ (hE : En X D cc nL own rt rm) (c k : Nat) {idx a : Nat} {f : Int64 → Option (ρ × Hp)} (hc : c < 8) (hk : k < nF c) (hty : ∀ i j r, hW (tyF c k) i j r = .long j) (hlink : Cond.fieldLink own idx (TF c k).1 (TF c k).2.1 (TF c k).2.2.1 ∈ TB) (hd : decode cc pc = .ok (.getfield idx, 3)) (kk : ∀ v, gJ h c a k = some v → Wo X D nL Q cells slots (f v) (pc + 3) lv (.long v :: st) h) : Wo X D nL Q cells slots ((gJ h c a k).bind f) pc lv (.ref a :: st) h := fun out ho H locs ls hP hS hl => by
  obtain ⟨v, h1, h2⟩ := ob_k ho
  obtain ⟨hK, h3⟩ := gi_k h1
  refine w_get hE hc hk hlink hd hP hK ?_
  have hw := kk v h1 out h2 H locs ls hP hS hl
  rw [hV_long hK hty]
  cases h3; exact hw
theorem r_getR (hE : En X D cc nL own rt rm) (c k : Nat) {idx a : Nat} {f : Nat → Option (ρ × Hp)} (hc : c < 8) (hk : k < nF c) (hty : ∀ i j r, hW (tyF c k) i j r = va_rf r) (hlink : Cond.fieldLink own idx (TF c k).1 (TF c k).2.1 (TF c k).2.2.1 ∈ TB) (hd : decode cc pc = .ok (.getfield idx, 3)) (kk : ∀ v, gR h c a k = some v → Wo X D nL Q cells slots (f v) (pc + 3) lv (.ref v :: st) h) : Wo X D nL Q cells slots ((gR h c a k).bind f) pc lv (.ref a :: st) h := fun out ho H locs ls hP hS hl => by
  obtain ⟨v, h1, h2⟩ := ob_k ho
  obtain ⟨hK, h3⟩ := gi_k h1
  refine w_get hE hc hk hlink hd hP hK ?_
  have hw := kk v h1 out h2 H locs ls hP hS hl
  rw [hV_ref hK hty]
  rw [h3]; exact hw
theorem r_getQ (hE : En X D cc nL own rt rm) (c k : Nat) {idx a : Nat} {f : Option Nat → Option (ρ × Hp)} (hc : c < 8) (hk : k < nF c) (hty : ∀ i j r, hW (tyF c k) i j r = va_rf r) (hlink : Cond.fieldLink own idx (TF c k).1 (TF c k).2.1 (TF c k).2.2.1 ∈ TB) (hd : decode cc pc = .ok (.getfield idx, 3)) (kk : ∀ v, gQ h c a k = some v → Wo X D nL Q cells slots (f v) (pc + 3) lv (va_rf v :: st) h) : Wo X D nL Q cells slots ((gQ h c a k).bind f) pc lv (.ref a :: st) h := fun out ho H locs ls hP hS hl => by
  obtain ⟨v, h1, h2⟩ := ob_k ho
  obtain ⟨hK, h3⟩ := gi_k h1
  refine w_get hE hc hk hlink hd hP hK ?_
  have hw := kk v h1 out h2 H locs ls hP hS hl
  rw [hV_ref hK hty]
  cases h3; exact hw
theorem r_putI (hE : En X D cc nL own rt rm) (c k : Nat) {idx a : Nat} {v : Int32} {f : Hp → Option (ρ × Hp)} (hc : c < 8) (hk : k < nF c) (hty : ∀ i j r, hW (tyF c k) i j r = .int i) (hlink : Cond.fieldLink own idx (TF c k).1 (TF c k).2.1 (TF c k).2.2.1 ∈ TB) (hfin : (TF c k).2.2.2 = false) (hn : narrow (tyF c k) (.int v) = .int v) (hfit : fits (tyF c k) (.int v) = true) (hd : decode cc pc = .ok (.putfield idx, 3)) (kk : ∀ h', pI h c a k (v) = some h' → Wo X D nL Q cells slots (f h') (pc + 3) lv st h') : Wo X D nL Q cells slots ((pI h c a k (v)).bind f) pc lv (.int v :: .ref a :: st) h := fun out ho H locs ls hP hS hl => by
  obtain ⟨h', h1, h2⟩ := ob_k ho
  obtain ⟨hK, h3⟩ := gi_k h1
  refine w_put hE hc hk hlink hfin hn hfit hd hP hS hK fun H1 locs1 hO hz oq hS1 => ?_
  have hw := kk h' h1 out h2 H1 locs1 ls
  cases h3
  exact hw (gP_write hP rfl rfl rfl (fun b hb => up2_ne _ hb) (fun _ _ => rfl) (fun _ _ => rfl) hz oq (gA_of_obj hK hc (hO.to (fun j _ => hV_putI hK hty j)))) hS1 hl
theorem r_putJ (hE : En X D cc nL own rt rm) (c k : Nat) {idx a : Nat} {v : Int64} {f : Hp → Option (ρ × Hp)} (hc : c < 8) (hk : k < nF c) (hty : ∀ i j r, hW (tyF c k) i j r = .long j) (hlink : Cond.fieldLink own idx (TF c k).1 (TF c k).2.1 (TF c k).2.2.1 ∈ TB) (hfin : (TF c k).2.2.2 = false) (hn : narrow (tyF c k) (.long v) = .long v) (hfit : fits (tyF c k) (.long v) = true) (hd : decode cc pc = .ok (.putfield idx, 3)) (kk : ∀ h', pJ h c a k (v) = some h' → Wo X D nL Q cells slots (f h') (pc + 3) lv st h') : Wo X D nL Q cells slots ((pJ h c a k (v)).bind f) pc lv (.long v :: .ref a :: st) h := fun out ho H locs ls hP hS hl => by
  obtain ⟨h', h1, h2⟩ := ob_k ho
  obtain ⟨hK, h3⟩ := gi_k h1
  refine w_put hE hc hk hlink hfin hn hfit hd hP hS hK fun H1 locs1 hO hz oq hS1 => ?_
  have hw := kk h' h1 out h2 H1 locs1 ls
  cases h3
  exact hw (gP_write hP rfl rfl rfl (fun _ _ => rfl) (fun b hb => up2_ne _ hb) (fun _ _ => rfl) hz oq (gA_of_obj hK hc (hO.to (fun j _ => hV_putJ hK hty j)))) hS1 hl
theorem r_putR (hE : En X D cc nL own rt rm) (c k : Nat) {idx a : Nat} {v : Nat} {f : Hp → Option (ρ × Hp)} (hc : c < 8) (hk : k < nF c) (hty : ∀ i j r, hW (tyF c k) i j r = va_rf r) (hlink : Cond.fieldLink own idx (TF c k).1 (TF c k).2.1 (TF c k).2.2.1 ∈ TB) (hfin : (TF c k).2.2.2 = false) (hn : narrow (tyF c k) (.ref v) = .ref v) (hfit : fits (tyF c k) (.ref v) = true) (hd : decode cc pc = .ok (.putfield idx, 3)) (kk : ∀ h', pR h c a k (some v) = some h' → Wo X D nL Q cells slots (f h') (pc + 3) lv st h') : Wo X D nL Q cells slots ((pR h c a k (some v)).bind f) pc lv (.ref v :: .ref a :: st) h := fun out ho H locs ls hP hS hl => by
  obtain ⟨h', h1, h2⟩ := ob_k ho
  obtain ⟨hK, h3⟩ := gi_k h1
  refine w_put hE hc hk hlink hfin hn hfit hd hP hS hK fun H1 locs1 hO hz oq hS1 => ?_
  have hw := kk h' h1 out h2 H1 locs1 ls
  cases h3
  exact hw (gP_write hP rfl rfl rfl (fun _ _ => rfl) (fun _ _ => rfl) (fun b hb => up2_ne _ hb) hz oq (gA_of_obj hK hc (hO.to (fun j _ => (hV_putR (v := some v)) hK hty j)))) hS1 hl
theorem r_putN (hE : En X D cc nL own rt rm) (c k : Nat) {idx a : Nat}  {f : Hp → Option (ρ × Hp)} (hc : c < 8) (hk : k < nF c) (hty : ∀ i j r, hW (tyF c k) i j r = va_rf r) (hlink : Cond.fieldLink own idx (TF c k).1 (TF c k).2.1 (TF c k).2.2.1 ∈ TB) (hfin : (TF c k).2.2.2 = false) (hn : narrow (tyF c k) (va_rf none) = va_rf none) (hfit : fits (tyF c k) (va_rf none) = true) (hd : decode cc pc = .ok (.putfield idx, 3)) (kk : ∀ h', pR h c a k (none) = some h' → Wo X D nL Q cells slots (f h') (pc + 3) lv st h') : Wo X D nL Q cells slots ((pR h c a k (none)).bind f) pc lv (va_rf none :: .ref a :: st) h := fun out ho H locs ls hP hS hl => by
  obtain ⟨h', h1, h2⟩ := ob_k ho
  obtain ⟨hK, h3⟩ := gi_k h1
  refine w_put hE hc hk hlink hfin hn hfit hd hP hS hK fun H1 locs1 hO hz oq hS1 => ?_
  have hw := kk h' h1 out h2 H1 locs1 ls
  cases h3
  exact hw (gP_write hP rfl rfl rfl (fun _ _ => rfl) (fun _ _ => rfl) (fun b hb => up2_ne _ hb) hz oq (gA_of_obj hK hc (hO.to (fun j _ => (hV_putR (v := none)) hK hty j)))) hS1 hl
theorem r_aldI (hE : En X D cc nL own rt rm) {a : Nat} {i : Int32} {f : Int32 → Option (ρ × Hp)} (hd : decode cc pc = .ok (.iaload, 1)) (kk : ∀ v, aI h 8 a i = some v → Wo X D nL Q cells slots (f v) (pc + 1) lv (.int v :: st) h) : Wo X D nL Q cells slots ((aI h 8 a i).bind f) pc lv (.int i :: .ref a :: st) h := fun out ho H locs ls hP hS hl => by
  obtain ⟨v, h1, h2⟩ := ob_k ho
  obtain ⟨⟨hK, hi⟩, h3⟩ := gi_k h1
  have hin : vp_in i (h.L a) := vp_in_iff.mpr hi
  have hlt : i.toNatClampNeg < h.L a := Nat.not_le.mp fun q => hin (Or.inr q)
  have g := (gA_8 hK).mp (hP.2.2 a (by omega)).2.2
  have hw := kk v h1 out h2 H locs ls hP hS hl
  cases h3
  exact W.iald (v := .int _) hE.1 hE.2.1 g (hE.2.2.2.2.2.1.2.1.1 _ _) (fun q => by cases q) (by rw [arrV_size]; exact hin) (arrV_read _ _ hlt) rfl rfl hd hw
theorem r_aldJ (hE : En X D cc nL own rt rm) {a : Nat} {i : Int32} {f : Int64 → Option (ρ × Hp)} (hd : decode cc pc = .ok (.laload, 1)) (kk : ∀ v, aJ h 9 a i = some v → Wo X D nL Q cells slots (f v) (pc + 1) lv (.long v :: st) h) : Wo X D nL Q cells slots ((aJ h 9 a i).bind f) pc lv (.int i :: .ref a :: st) h := fun out ho H locs ls hP hS hl => by
  obtain ⟨v, h1, h2⟩ := ob_k ho
  obtain ⟨⟨hK, hi⟩, h3⟩ := gi_k h1
  have hin : vp_in i (h.L a) := vp_in_iff.mpr hi
  have hlt : i.toNatClampNeg < h.L a := Nat.not_le.mp fun q => hin (Or.inr q)
  have g := (gA_9 hK).mp (hP.2.2 a (by omega)).2.2
  have hw := kk v h1 out h2 H locs ls hP hS hl
  cases h3
  exact W.lald (v := .long _) hE.1 hE.2.1 g (hE.2.2.2.2.2.1.2.2.1.1 _ _) (fun q => by cases q) (by rw [arrV_size]; exact hin) (arrV_read _ _ hlt) rfl rfl hd hw
theorem r_aldC (hE : En X D cc nL own rt rm) {a : Nat} {i : Int32} {f : Int32 → Option (ρ × Hp)} (hd : decode cc pc = .ok (.caload, 1)) (kk : ∀ v, aI h 10 a i = some v → Wo X D nL Q cells slots (f v) (pc + 1) lv (.int v :: st) h) : Wo X D nL Q cells slots ((aI h 10 a i).bind f) pc lv (.int i :: .ref a :: st) h := fun out ho H locs ls hP hS hl => by
  obtain ⟨v, h1, h2⟩ := ob_k ho
  obtain ⟨⟨hK, hi⟩, h3⟩ := gi_k h1
  have hin : vp_in i (h.L a) := vp_in_iff.mpr hi
  have hlt : i.toNatClampNeg < h.L a := Nat.not_le.mp fun q => hin (Or.inr q)
  have g := (gA_10 hK).mp (hP.2.2 a (by omega)).2.2
  have hw := kk v h1 out h2 H locs ls hP hS hl
  cases h3
  exact W.cald (v := .int _) hE.1 hE.2.1 g (hE.2.2.2.2.2.1.2.2.2.1.1 _ _) (fun q => by cases q) (by rw [arrV_size]; exact hin) (arrV_read _ _ hlt) rfl rfl hd hw
theorem r_astI (hE : En X D cc nL own rt rm) {a : Nat} {i : Int32} {x : Int32} {f : Hp → Option (ρ × Hp)} (hd : decode cc pc = .ok (.iastore, 1)) (kk : ∀ h', sI h 8 a i (x) = some h' → Wo X D nL Q cells slots (f h') (pc + 1) lv st h') : Wo X D nL Q cells slots ((sI h 8 a i (x)).bind f) pc lv (.int x :: .int i :: .ref a :: st) h := fun out ho H locs ls hP hS hl => by
  obtain ⟨h', h1, h2⟩ := ob_k ho
  obtain ⟨⟨hK, hi⟩, h3⟩ := gi_k h1
  have hin : vp_in i (h.L a) := vp_in_iff.mpr hi
  obtain ⟨g1, g2, g3⟩ := hP.2.2 a (by omega)
  have g := (gA_8 hK).mp g3
  cases h3
  refine W.iast hE.1 hE.2.1 g (hE.2.2.2.2.2.1.2.1.1 _ _) (fun q => by cases q) (by rw [arrV_size]; exact hin) rfl rfl hd fun H1 e z oq => ?_
  refine kk _ h1 out h2 H1 _ ls (gP_write hP rfl rfl rfl (fun b hb => up2_ne _ hb) (fun _ _ => rfl) (fun _ _ => rfl) z oq ((gA_8 (h := putI h a i.toNatClampNeg (x)) hK).mpr ?_)) (hS.put z oq g1) hl
  rw [e, arrV_store]
  refine congrArg (fun f => some (arrV _ _ f)) ?_
  funext q
  by_cases hq : q = i.toNatClampNeg
  · subst hq
    simp [updV, putI, Hp.I, up2]
    
  · simp [updV, putI, Hp.I, up2, hq]
theorem r_astJ (hE : En X D cc nL own rt rm) {a : Nat} {i : Int32} {x : Int64} {f : Hp → Option (ρ × Hp)} (hd : decode cc pc = .ok (.lastore, 1)) (kk : ∀ h', sJ h 9 a i (x) = some h' → Wo X D nL Q cells slots (f h') (pc + 1) lv st h') : Wo X D nL Q cells slots ((sJ h 9 a i (x)).bind f) pc lv (.long x :: .int i :: .ref a :: st) h := fun out ho H locs ls hP hS hl => by
  obtain ⟨h', h1, h2⟩ := ob_k ho
  obtain ⟨⟨hK, hi⟩, h3⟩ := gi_k h1
  have hin : vp_in i (h.L a) := vp_in_iff.mpr hi
  obtain ⟨g1, g2, g3⟩ := hP.2.2 a (by omega)
  have g := (gA_9 hK).mp g3
  cases h3
  refine W.last hE.1 hE.2.1 g (hE.2.2.2.2.2.1.2.2.1.1 _ _) (fun q => by cases q) (by rw [arrV_size]; exact hin) rfl rfl hd fun H1 e z oq => ?_
  refine kk _ h1 out h2 H1 _ ls (gP_write hP rfl rfl rfl (fun _ _ => rfl) (fun b hb => up2_ne _ hb) (fun _ _ => rfl) z oq ((gA_9 (h := putJ h a i.toNatClampNeg x) hK).mpr ?_)) (hS.put z oq g1) hl
  rw [e, arrV_store]
  refine congrArg (fun f => some (arrV _ _ f)) ?_
  funext q
  by_cases hq : q = i.toNatClampNeg
  · subst hq
    simp [updV, putJ, Hp.J, up2]
    
  · simp [updV, putJ, Hp.J, up2, hq]
theorem r_astC (hE : En X D cc nL own rt rm) {a : Nat} {i : Int32} {x : Int32} {f : Hp → Option (ρ × Hp)} (hd : decode cc pc = .ok (.castore, 1)) (kk : ∀ h', sI h 10 a i (vp_nar .char x) = some h' → Wo X D nL Q cells slots (f h') (pc + 1) lv st h') : Wo X D nL Q cells slots ((sI h 10 a i (vp_nar .char x)).bind f) pc lv (.int x :: .int i :: .ref a :: st) h := fun out ho H locs ls hP hS hl => by
  obtain ⟨h', h1, h2⟩ := ob_k ho
  obtain ⟨⟨hK, hi⟩, h3⟩ := gi_k h1
  have hin : vp_in i (h.L a) := vp_in_iff.mpr hi
  obtain ⟨g1, g2, g3⟩ := hP.2.2 a (by omega)
  have g := (gA_10 hK).mp g3
  cases h3
  refine W.cast hE.1 hE.2.1 g (hE.2.2.2.2.2.1.2.2.2.1.1 _ _) (fun q => by cases q) (by rw [arrV_size]; exact hin) rfl rfl hd fun H1 e z oq => ?_
  refine kk _ h1 out h2 H1 _ ls (gP_write hP rfl rfl rfl (fun b hb => up2_ne _ hb) (fun _ _ => rfl) (fun _ _ => rfl) z oq ((gA_10 (h := putI h a i.toNatClampNeg (vp_nar .char x)) hK).mpr ?_)) (hS.put z oq g1) hl
  rw [e, arrV_store]
  refine congrArg (fun f => some (arrV _ _ f)) ?_
  funext q
  by_cases hq : q = i.toNatClampNeg
  · subst hq
    simp [updV, putI, Hp.I, up2, vp_nar]
    try rfl
  · simp [updV, putI, Hp.I, up2, hq]
theorem r_alen (hE : En X D cc nL own rt rm) {a : Nat} {f : Int32 → Option (ρ × Hp)} (hd : decode cc pc = .ok (.arraylength, 1)) (kk : ∀ v, aN h a = some v → Wo X D nL Q cells slots (f v) (pc + 1) lv (.int v :: st) h) : Wo X D nL Q cells slots ((aN h a).bind f) pc lv (.ref a :: st) h := fun out ho H locs ls hP hS hl => by
  obtain ⟨v, h1, h2⟩ := ob_k ho
  obtain ⟨⟨k1, k2⟩, h3⟩ := gi_k h1
  have g3 := (hP.2.2 a k2).2.2
  have hw := kk v h1 out h2 H locs ls hP hS hl
  cases h3
  rcases (show h.K a = 8 ∨ h.K a = 9 ∨ h.K a = 10 by omega) with hK | hK | hK
  · exact W.alen hE.1 hE.2.1 ((gA_8 hK).mp g3) (hE.2.2.2.2.2.1.2.1.1 _ _) (by rw [arrV_size]) rfl rfl hd hw
  · exact W.alen hE.1 hE.2.1 ((gA_9 hK).mp g3) (hE.2.2.2.2.2.1.2.2.1.1 _ _) (by rw [arrV_size]) rfl rfl hd hw
  · exact W.alen hE.1 hE.2.1 ((gA_10 hK).mp g3) (hE.2.2.2.2.2.1.2.2.2.1.1 _ _) (by rw [arrV_size]) rfl rfl hd hw
end HEAP
end
section

section NEWS
variable {ρ : Type} {X : Cx} {D : Dx} {cc : ByteArray} {nL : Nat} {own : String} {rt : Option FieldType} {rm : Room} {Q : ρ × Hp → State → Prop} {cells slots : Nat} {o o1 o2 : Option (ρ × Hp)} {pc : Nat} {lv : List (Option Value)} {st : List Value} {h : Hp}
/-- a new cell -/
theorem gP_new {D : Dx} {h : Hp} {H H' : Heap} {kd len : Nat} (hP : gP D h H) (hz : H'.size = h.N + 1) (oq : ∀ q : Nat, q < h.N → H'[q]? = H[q]?) (ha : gA D (newC h kd len) h.N H') : gP D (newC h kd len) H' := by
  refine ⟨hz, Nat.le_succ_of_le hP.2.1, fun b hb => ?_⟩
  by_cases hbn : b = h.N
  · subst hbn; exact ⟨hP.2.1, Nat.lt_succ_self _, ha⟩
  · have hKb : (newC h kd len).K b = h.K b := by show va_up h.K h.N kd b = _; simp [va_up, hbn]
    rw [hKb] at hb
    obtain ⟨g1, g2, g3⟩ := hP.2.2 b hb
    refine ⟨g1, Nat.lt_succ_of_lt g2, gA_congr hKb ?_ ?_ ?_ ?_ (oq b g2) g3⟩
    · show va_up h.L h.N len b = _; simp [va_up, hbn]
    · show va_up h.I h.N _ b = _; simp [va_up, hbn]
    · show va_up h.J h.N _ b = _; simp [va_up, hbn]
    · show va_up h.R h.N _ b = _; simp [va_up, hbn]
theorem newC_K {h : Hp} {kd len : Nat} : (newC h kd len).K h.N = kd := by show va_up h.K h.N kd h.N = _; simp [va_up]
theorem newC_L {h : Hp} {kd len : Nat} : (newC h kd len).L h.N = len := by show va_up h.L h.N len h.N = _; simp [va_up]
theorem newC_I {h : Hp} {kd len : Nat} (j : Nat) : (newC h kd len).I h.N j = 0 := by show va_up h.I h.N _ h.N j = _; simp [va_up]
theorem newC_J {h : Hp} {kd len : Nat} (j : Nat) : (newC h kd len).J h.N j = 0 := by show va_up h.J h.N _ h.N j = _; simp [va_up]
theorem newC_R {h : Hp} {kd len : Nat} (j : Nat) : (newC h kd len).R h.N j = none := by show va_up h.R h.N _ h.N j = _; simp [va_up]
theorem dflt_hW (ty : FieldType) (hty : (match ty with | .int => true | .boolean => true | .long => true | .object _ => true | .array _ => true | _ => false) = true) : defaultValue ty = hW ty 0 0 none := by
  cases ty <;> first | rfl | (simp at hty)
theorem tyF_d {c : Nat} (hc : c < 8) : ∀ k, k < nF c → (match tyF c k with | .int => true | .boolean => true | .long => true | .object _ => true | .array _ => true | _ => false) = true := by
  rcases lt8 hc with rfl | rfl | rfl | rfl | rfl | rfl | rfl | rfl <;> decide
theorem va_S.grow {A : Nat → Prop} {H0 H H1 : Heap} {locs : List Loc} (hS : va_S A H0 H locs) (hz : H1.size = H.size + 1) (o1 : ∀ q, q < H.size → H1[q]? = H[q]?) : va_S A H0 H1 locs :=
  ⟨Nat.le_trans hS.1 (by omega), fun x h1 h2 => (o1 x (Nat.lt_of_lt_of_le h1 hS.1)).trans (hS.2.1 x h1 h2), hS.2.2⟩
theorem r_new (hE : En X D cc nL own rt rm) (c : Nat) {idx : Nat} (hc : c < 8) (hw : Cond.classLink own idx (RF c) ∈ TB ∧ Cond.instantiable (RF c) (nF c) ∈ TB ∧ Cond.initialized (RF c) ∈ TB) (hr : cells + 1 ≤ rm.cells ∧ slots + nF c ≤ rm.slots) (hd : decode cc pc = .ok (.new idx, 3)) (k : Wo X D nL Q (cells + 1) (slots + nF c) o (pc + 3) lv (.ref h.N :: st) (newC h c 0)) : Wo X D nL Q cells slots o pc lv st h := fun out ho H locs ls hP hS hl => by
  obtain ⟨hx, hb, hml, hown, hts, hgK, -, -, -, -, hRm⟩ := hE
  have hKn := hgK.1 c hc
  refine W.newcK hx hb hown (hts _ hw.1) (hts _ hw.2.1) (hts _ hw.2.2) rfl hd (by rw [hRm]; exact hr.1) (by rw [hRm]; exact hr.2) hKn.2.1 hP.1 fun H1 kC hkC e1 z1 o1 => ?_
  refine k out ho H1 locs ls (gP_new hP z1 o1 (gA_of_obj newC_K hc ?_)) (hS.grow (by rw [z1, hP.1]) (by rw [hP.1]; exact o1)) hl
  refine (u_born (tyF c) hts (fieldsTB hc) hKn hkC e1 (tyF_ok hc)).to fun j hj => ?_
  rw [dflt_hW _ (tyF_d hc j hj)]
  unfold hV
  rw [newC_K, newC_I, newC_J, newC_R]
theorem r_newI (hE : En X D cc nL own rt rm) {n : Int32} (N : Nat) (hn : ¬ n < 0) (hN : n.toNatClampNeg = N) (hbytes : N * componentBytes .int ≤ 536870912) (hw : Cond.arrayClass .int ∈ TB) (hr : cells + 1 ≤ rm.cells ∧ slots + N ≤ rm.slots) (hd : decode cc pc = .ok (.newarray .int, 2)) (k : Wo X D nL Q (cells + 1) (slots + N) o (pc + 2) lv (.ref h.N :: st) (newC h 8 N)) : Wo X D nL Q cells slots o pc lv (.int n :: st) h := fun out ho H locs ls hP hS hl => by
  obtain ⟨hx, hb, hml, hown, hts, hgK, -, -, -, -, hRm⟩ := hE
  refine va_newaK hx hb (atype := .int) (hts _ hw) rfl hd rfl hn hN hbytes (by rw [hRm]; exact hr.1) (by rw [hRm]; exact hr.2) hP.1 fun H1 cA e1 z1 o1 hAr hNm => ?_
  obtain rfl : D.2.1.1 = cA := Option.some.inj (hgK.2.1.2.symm.trans hNm)
  refine k out ho H1 locs ls (gP_new hP z1 o1 ((gA_8 newC_K).mpr ?_)) (hS.grow (by rw [z1, hP.1]) (by rw [hP.1]; exact o1)) hl
  rw [e1, newC_L]
  refine congrArg (fun f => some (arrV _ _ f)) ?_
  funext j
  rw [newC_I]; rfl
theorem r_newJ (hE : En X D cc nL own rt rm) {n : Int32} (N : Nat) (hn : ¬ n < 0) (hN : n.toNatClampNeg = N) (hbytes : N * componentBytes .long ≤ 536870912) (hw : Cond.arrayClass .long ∈ TB) (hr : cells + 1 ≤ rm.cells ∧ slots + N ≤ rm.slots) (hd : decode cc pc = .ok (.newarray .long, 2)) (k : Wo X D nL Q (cells + 1) (slots + N) o (pc + 2) lv (.ref h.N :: st) (newC h 9 N)) : Wo X D nL Q cells slots o pc lv (.int n :: st) h := fun out ho H locs ls hP hS hl => by
  obtain ⟨hx, hb, hml, hown, hts, hgK, -, -, -, -, hRm⟩ := hE
  refine va_newaK hx hb (atype := .long) (hts _ hw) rfl hd rfl hn hN hbytes (by rw [hRm]; exact hr.1) (by rw [hRm]; exact hr.2) hP.1 fun H1 cA e1 z1 o1 hAr hNm => ?_
  obtain rfl : D.2.1.2.1 = cA := Option.some.inj (hgK.2.2.1.2.symm.trans hNm)
  refine k out ho H1 locs ls (gP_new hP z1 o1 ((gA_9 newC_K).mpr ?_)) (hS.grow (by rw [z1, hP.1]) (by rw [hP.1]; exact o1)) hl
  rw [e1, newC_L]
  refine congrArg (fun f => some (arrV _ _ f)) ?_
  funext j
  rw [newC_J]; rfl
theorem r_newCh (hE : En X D cc nL own rt rm) {n : Int32} (N : Nat) (hn : ¬ n < 0) (hN : n.toNatClampNeg = N) (hbytes : N * componentBytes .char ≤ 536870912) (hw : Cond.arrayClass .char ∈ TB) (hr : cells + 1 ≤ rm.cells ∧ slots + N ≤ rm.slots) (hd : decode cc pc = .ok (.newarray .char, 2)) (k : Wo X D nL Q (cells + 1) (slots + N) o (pc + 2) lv (.ref h.N :: st) (newC h 10 N)) : Wo X D nL Q cells slots o pc lv (.int n :: st) h := fun out ho H locs ls hP hS hl => by
  obtain ⟨hx, hb, hml, hown, hts, hgK, -, -, -, -, hRm⟩ := hE
  refine va_newaK hx hb (atype := .char) (hts _ hw) rfl hd rfl hn hN hbytes (by rw [hRm]; exact hr.1) (by rw [hRm]; exact hr.2) hP.1 fun H1 cA e1 z1 o1 hAr hNm => ?_
  obtain rfl : D.2.1.2.2 = cA := Option.some.inj (hgK.2.2.2.1.2.symm.trans hNm)
  refine k out ho H1 locs ls (gP_new hP z1 o1 ((gA_10 newC_K).mpr ?_)) (hS.grow (by rw [z1, hP.1]) (by rw [hP.1]; exact o1)) hl
  rw [e1, newC_L]
  refine congrArg (fun f => some (arrV _ _ f)) ?_
  funext j
  rw [newC_I]; rfl
/-- a final field in a constructor: references alone -/
theorem r_putF (hE : En X D cc nL own rt rm) (hin : X.meth.name = "<init>") (c k : Nat) {idx a : Nat} {v : Nat} {f : Hp → Option (ρ × Hp)} (hc : c < 8) (hk : k < nF c) (hown2 : (TF c k).1 = own) (hty : ∀ i j r, hW (tyF c k) i j r = va_rf r) (hlink : Cond.fieldLink own idx (TF c k).1 (TF c k).2.1 (TF c k).2.2.1 ∈ TB) (hfin : (TF c k).2.2.2 = true) (hn : narrow (tyF c k) (.ref v) = .ref v) (hfit : fits (tyF c k) (.ref v) = true) (hd : decode cc pc = .ok (.putfield idx, 3)) (kk : ∀ h', pR h c a k (some v) = some h' → Wo X D nL Q cells slots (f h') (pc + 3) lv st h') : Wo X D nL Q cells slots ((pR h c a k (some v)).bind f) pc lv (.ref v :: .ref a :: st) h := fun out ho H locs ls hP hS0 hl => by
  obtain ⟨h', h1, h2⟩ := ob_k ho
  obtain ⟨hK, h3⟩ := gi_k h1
  have hap := w_apart hE hc
  obtain ⟨hx, hb, hml, hown, hts, hgK, -⟩ := hE
  obtain ⟨g1, g2, g3⟩ := hP.2.2 a (by omega)
  obtain ⟨cell, q1, q2, q3, q4⟩ := gA_obj hK hc g3
  obtain ⟨hS, hfc, kC, hkC, hkind⟩ := hgK.1 c hc
  obtain ⟨cf, kf, fi, f9, hi, hsl⟩ := hS k hk
  cases h3
  have hlay := hts _ (fieldsTB hc _ (u_in_lay hk))
  unfold u_lay at hlay
  rw [if_pos hfin] at hlay
  have hst := (u_facts hfc hkC (u_lays hts (fieldsTB hc) hk) hi).1
  have hcf : X.m.cls = cf := by
    obtain ⟨_, _, c', _, _, _, -, -, hf', -, -, -, hown3, -⟩ := Cond.laysFinal_spec hlay
    have e1 : c' = cf := by have := hi.symm.trans hf'; simp at this; exact this.1.symm
    rw [hown2] at hown3
    rw [← e1]; exact Option.some.inj (hown.symm.trans hown3)
  have h6 := u_fits hfc hkC hkind (Or.inr hlay) hi (tyF_ok hc k hk) hn hfit
  refine W.putFinK hx hb hown (hts _ hlink) hi hst hcf hin (by rw [q2]; exact h6) q1 q3 (by rw [hsl]; exact k2_hasslot (q4 k hk)) rfl rfl hd fun H' e1 e2 e3 => ?_
  rw [hsl] at e1 ⊢
  refine kk _ h1 out h2 H' _ ls (gP_write hP rfl rfl rfl (fun _ _ => rfl) (fun _ _ => rfl) (fun b hb => up2_ne _ hb) e2 e3 (gA_of_obj hK hc ?_)) (hS0.put e2 e3 g1) hl
  exact t_OB.to (V := updV (hV h a) k (.ref v)) ⟨_, e1, q2, q3, t_set q4 hap hk (.ref v)⟩ (fun j _ => hV_putR (v := some v) hK hty j)
/-- Object.<init> -/
theorem r_objInit (hE : En X D cc nL own rt rm) {idx a : Nat} (hw : Cond.methodLink own idx objectInit ∈ TB ∧ Cond.instanceMethod objectInit ∈ TB ∧ Cond.code objectInit ⟨#[0xb1]⟩ 1 none ∈ TB) (hr : 1 ≤ rm.frames ∧ (st.map fun v => v.category).sum + 12 ≤ rm.locals) (hd : decode cc pc = .ok (.invokespecial idx, 3)) (k : Wo X D nL Q cells slots o (pc + 3) lv st h) : Wo X D nL Q cells slots o pc lv (.ref a :: st) h := fun out ho H locs ls hP hS hl => by
  obtain ⟨hx, hb, hml, hown, hts, hgK, -, -, -, -, hRm⟩ := hE
  refine W.objInit hx hb hown (hts _ hw.1) (hts _ hw.2.1) (hts _ hw.2.2) rfl (by rw [hml]; exact hl.1) rfl hd (by rw [hRm]; exact hr.1) (by rw [hRm]; show 2 * 0 + _ + 12 ≤ _; have := hr.2; omega) ?_
  exact k out ho H locs ls hP hS hl
/-! constants -/
theorem r_ldc (hE : En X D cc nL own rt rm) {idx : Nat} {v : Int32} (hc : Cond.constant own idx v ∈ TB) (hd : decode cc pc = .ok (.ldc idx, 2)) (k : Wo X D nL Q cells slots o (pc + 2) lv (.int v :: st) h) : Wo X D nL Q cells slots o pc lv st h := fun out ho H locs ls hP hS hl => lv_ldc hE.1 hE.2.1 hE.2.2.2.1 (hE.2.2.2.2.1 _ hc) hd (k out ho H locs ls hP hS hl)
theorem r_ldc2 (hE : En X D cc nL own rt rm) {idx : Nat} {v : Int64} (hc : Cond.constantLong own idx v ∈ TB) (hd : decode cc pc = .ok (.ldc2_w idx, 3)) (k : Wo X D nL Q cells slots o (pc + 3) lv (.long v :: st) h) : Wo X D nL Q cells slots o pc lv st h := fun out ho H locs ls hP hS hl => lv_ldc2 hE.1 hE.2.1 hE.2.2.2.1 (hE.2.2.2.2.1 _ hc) hd (k out ho H locs ls hP hS hl)
/-! a table -/
def swt {α : Type} (x : Int32) (lo : Int) (os : List α) (d : α) : α := if x.toInt < lo then d else (os[(x.toInt - lo).toNat]?).getD d
def swP (X : Cx) (D : Dx) (nL : Nat) (Q : ρ × Hp → State → Prop) (cells slots : Nat) (pc : Nat) (lv : List (Option Value)) (st : List Value) (h : Hp) : List (Option (ρ × Hp)) → List Int → Prop
  | [], [] => True
  | o :: os, f :: fs => (∃ tgt : Nat, (pc : Int) + f = (tgt : Int) ∧ Wo X D nL Q cells slots o tgt lv st h) ∧ swP X D nL Q cells slots pc lv st h os fs
  | _, _ => False
theorem swP_get : ∀ (os : List (Option (ρ × Hp))) (fs : List Int), swP X D nL Q cells slots pc lv st h os fs → os.length = fs.length ∧ ∀ (j : Nat) (o : Option (ρ × Hp)), os[j]? = some o → ∃ (f : Int) (tgt : Nat), fs[j]? = some f ∧ (pc : Int) + f = (tgt : Int) ∧ Wo X D nL Q cells slots o tgt lv st h
  | [], [], _ => ⟨rfl, fun j o h => by simp at h⟩
  | [], _ :: _, q => q.elim
  | _ :: _, [], q => q.elim
  | o :: os, f :: fs, q => by
    obtain ⟨⟨tgt, h1, h2⟩, q2⟩ := q
    obtain ⟨e1, e2⟩ := swP_get os fs q2
    refine ⟨by simp [e1], fun j o' hj => ?_⟩
    cases j with
    | zero => simp at hj; subst hj; exact ⟨f, tgt, rfl, h1, h2⟩
    | succ j => simpa using e2 j o' (by simpa using hj)
theorem r_tsw (hE : En X D cc nL own rt rm) {x : Int32} {dflt lo hi : Int} {offs : Array Int} {len : Nat} {os : List (Option (ρ × Hp))} (tgt : Nat) (hd : decode cc pc = .ok (.tableswitch dflt lo hi offs, len)) (hh : hi - lo + 1 = (offs.size : Int)) (ht : (pc : Int) + dflt = (tgt : Int)) (hs : swP X D nL Q cells slots pc lv st h os offs.toList) (kd : Wo X D nL Q cells slots o tgt lv st h) : Wo X D nL Q cells slots (swt x lo os o) pc lv (.int x :: st) h := fun out ho H locs ls hP hS hl => by
  obtain ⟨e1, e2⟩ := swP_get _ _ hs
  have e3 : offs.toList.length = offs.size := Array.length_toList
  have e4 : os.length = offs.size := e1.trans e3
  unfold swt at ho
  by_cases hlo : x.toInt < lo
  · rw [if_pos hlo] at ho
    exact lv_tableOut hE.1 hE.2.1 hd (Or.inl hlo) ht (kd out ho H locs ls hP hS hl)
  · rw [if_neg hlo] at ho
    cases hq : os[(x.toInt - lo).toNat]? with
    | none =>
      rw [hq] at ho
      have := List.getElem?_eq_none_iff.mp hq
      exact lv_tableOut hE.1 hE.2.1 hd (Or.inr (by omega)) ht (kd out ho H locs ls hP hS hl)
    | some o' =>
      rw [hq] at ho
      obtain ⟨f, tg, h1, h2, h3⟩ := e2 _ _ hq
      have hlt := (List.getElem?_eq_some_iff.mp hq).1
      exact lv_tableIn hE.1 hE.2.1 hd hlo (by omega) (by rw [← Array.getElem?_toList]; exact h1) h2 (h3 out ho H locs ls hP hS hl)
/-! returns -/
def evI (x : Int32) : Option Value := some (.int x)
def evJ (x : Int64) : Option Value := some (.long x)
def evR (x : Nat) : Option Value := some (.ref x)
def evU (_ : Unit) : Option Value := none
theorem r_iret (hE : En X D cc nL own (some .int) rm) {x : Int32} (hd : decode cc pc = .ok (.ireturn, 1)) : Wo X D nL (Qr X D cells slots evI) cells slots (some (x, h)) pc lv [.int x] h := fun out ho H locs ls hP hS hl => by
  cases ho
  exact W.iret hE.1 hE.2.1 hE.2.2.2.2.2.2.2.1 (fun t ht hW => ⟨rfl, by rw [ht]; exact hP, hS.F ht⟩) hS.2.2 hd hE.2.2.2.2.2.2.2.2.1
theorem r_zret (hE : En X D cc nL own (some .boolean) rm) {x : Int32} (hx : x = 0 ∨ x = 1) (hd : decode cc pc = .ok (.ireturn, 1)) : Wo X D nL (Qr X D cells slots evI) cells slots (some (x, h)) pc lv [.int x] h := fun out ho H locs ls hP hS hl => by
  cases ho
  exact W.zret hE.1 hE.2.1 hE.2.2.2.2.2.2.2.1 (by rcases hx with rfl | rfl <;> rfl) (fun t ht hW => ⟨rfl, by rw [ht]; exact hP, hS.F ht⟩) hS.2.2 hd hE.2.2.2.2.2.2.2.2.1
theorem r_zretQ (hE : En X D cc nL own (some .boolean) rm) {x : Int32} {i : Decidable (x = 0 ∨ x = 1)} (hd : decode cc pc = .ok (.ireturn, 1)) : Wo X D nL (Qr X D cells slots evI) cells slots (@ite _ (x = 0 ∨ x = 1) i (some (x, h)) none) pc lv [.int x] h := Wo_grd (fun hx => r_zret hE hx hd)
theorem r_vret (hE : En X D cc nL own none rm) {x : Unit} (hd : decode cc pc = .ok (.return_, 1)) : Wo X D nL (Qr X D cells slots evU) cells slots (some (x, h)) pc lv [] h := fun out ho H locs ls hP hS hl => by
  cases ho
  exact W.vret hE.1 hE.2.1 hE.2.2.2.2.2.2.2.1 (fun t ht hW => ⟨rfl, by rw [ht]; exact hP, hS.F ht⟩) hS.2.2 hd hE.2.2.2.2.2.2.2.2.1
theorem r_lret (hE : En X D cc nL own (some .long) rm) {x : Int64} (hd : decode cc pc = .ok (.lreturn, 1)) : Wo X D nL (Qr X D cells slots evJ) cells slots (some (x, h)) pc lv [.long x] h := fun out ho H locs ls hP hS hl => by
  cases ho
  exact W.lret hE.1 hE.2.1 hE.2.2.2.2.2.2.2.1 (fun t ht hW => ⟨rfl, by rw [ht]; exact hP, hS.F ht⟩) hS.2.2 hd hE.2.2.2.2.2.2.2.2.1
theorem r_aret {C : String} (hE : En X D cc nL own (some (.object C)) rm) {x : Nat} (hd : decode cc pc = .ok (.areturn, 1)) : Wo X D nL (Qr X D cells slots evR) cells slots (some (x, h)) pc lv [.ref x] h := fun out ho H locs ls hP hS hl => by
  cases ho
  exact W.aret hE.1 hE.2.1 hE.2.2.2.2.2.2.2.1 (Or.inl ⟨_, rfl⟩) (Or.inr ⟨_, rfl⟩) (fun t ht hW => ⟨rfl, by rw [ht]; exact hP, hS.F ht⟩) hS.2.2 hd hE.2.2.2.2.2.2.2.2.1
end NEWS
/-! CONTRACTS AND CALLS -/
def Ct (l : Launch) (D : Dx) (y : MethodName) (bytes : ByteArray) (maxL : Nat) (ret : Option FieldType) (rm : Room) (av : List Value) (h : Hp) (r : Option Value) (h' : Hp) : Prop :=
  Met l y (.code y bytes maxL ret :: TB) rm (va_Pc av (fun U => gP D h U.heap ∧ gK D U ∧ gS D U U.heap)) (Qm D r h') rm.cells rm.slots D.A
theorem Ct_blind {D : Dx} {av : List Value} {h : Hp} : FrameBlind (va_Pc av (fun U => gP D h U.heap ∧ gK D U ∧ gS D U U.heap)) := fun a U g mk q => by
  obtain ⟨q1, q2, q3, q4⟩ := q
  exact ⟨q1, q2, gK.same (u := U) rfl q3, gS.moved (u := U) (Vm.Alike.refl U.vm) q4⟩
/-- a contract out of its body's picture -/
theorem Ct.of {ρ : Type} {l : Launch} {D : Dx} {y : MethodName} {bytes : ByteArray} {maxL : Nat} {ret : Option FieldType} {rm : Room} {av : List Value} {h : Hp} {ev : ρ → Option Value} {o : Option (ρ × Hp)} {lv : List (Option Value)} (hy : plainName y.cls = true) (hlen : (lg_sl av).length ≤ maxL) (hlv : toA 0 lv = lv_args 0 av)
    (body : ∀ X : Cx, X.l = l → En X D bytes maxL y.cls ret rm → X.meth.name = y.name → Wo X D maxL (Qr X D rm.cells rm.slots ev) 0 0 o 0 lv [] h) (out : ρ × Hp) (ho : o = some out) : Ct l D y bytes maxL ret rm av h (ev out.1) out.2 := by
  refine Met.ofW (cc := bytes) (maxL := maxL) (ret := ret) hy rfl ?_
  intro p e s m args below meth c s₁ B hml hv
  obtain ⟨rfl, hP, hK, hS⟩ := hv
  have hts := atoms_spec (ws := .code y bytes maxL ret :: TB) B.pre
  have hnm := name_of_methodNamed B.named B.method
  have hl := lv_entry av (n := maxL) hlen
  rw [lg_entry_eq]
  have hE : En (p, l, e, rm, s, m, av.toArray, below, meth, c) D bytes maxL y.cls ret rm := ⟨B.exec, B.bytes, hml, findClass_of_methodNamed B.named, fun w hw => hts w (List.mem_cons_of_mem _ hw), hK, by show D.2.2.1 ≤ s.heap.size; rw [hP.1]; exact hP.2.1, B.returns, B.notSynchronized, hS, rfl⟩
  exact body _ rfl hE hnm.1 out ho s.heap [] _ hP va_S.rf (by show lv_has _ _ _; rw [hlv]; exact hl)
section CALLS
variable {ρ σ : Type} {X : Cx} {D : Dx} {cc : ByteArray} {nL : Nat} {own : String} {rt : Option FieldType} {rm : Room} {Q : ρ × Hp → State → Prop} {cells slots : Nat} {pc : Nat} {lv : List (Option Value)} {st : List Value} {h : Hp}
variable {y : MethodName} {bytes : ByteArray} {maxL idx b : Nat} {ret : Option FieldType} {rc : Room} {As : List Value} {ev' : σ → Option Value} {fo : Option (σ × Hp)} {g : σ × Hp → Option (ρ × Hp)}
theorem run_go {Q : State → Prop} {H : Heap} {locs : List Loc} {ls : Array Slot} {a : Array Value} {st0 rest : List Value} {r : Option Value} {h' : Hp} {mc1 ms1 : Nat} (hr : va_Run X.p X.l X.e X.Rm X.s X.m X.args X.below X.meth X.c H locs cells slots mc1 ms1 (F0 X.m pc ls st0) rest (Qm D r h' a) D.A) (hS : va_S D.A X.s.heap H locs)
    (kk : ∀ (H1 : Heap) (locs1 : List Loc), gP D h' H1 → va_S D.A X.s.heap H1 locs1 → W X.p X.l X.e X.Rm X.s X.m X.args X.below X.meth X.c H1 locs1 (cells + mc1) (slots + ms1) Q (F0 X.m (pc + 3) ls (r.toList ++ rest))) : W X.p X.l X.e X.Rm X.s X.m X.args X.below X.meth X.c H locs cells slots Q (F0 X.m pc ls st0) := by
  intro T hT X0
  obtain ⟨v, st₀, t, T', L, h0, X', hL, e1, e2, ⟨hv, hg, hz, hk⟩, st⟩ := hr T hT X0
  cases hv
  rw [h0] at hz hk
  obtain ⟨t2, a1, b1⟩ := kk T'.heap (locs ++ L) (by rw [e1]; exact hg)
    ⟨Nat.le_trans hS.1 (by rw [e1]; exact hz), fun q h1 h2 => by rw [e1, hk q (Nat.lt_of_lt_of_le h1 hS.1) h2]; exact hS.2.1 q h1 h2, fun q hq => by
      rcases List.mem_append.mp hq with h | h
      · exact hS.2.2 q h
      · exact hL q h⟩ T' rfl X'
  exact ⟨t2, st t2 a1, b1⟩
def okD (y : MethodName) (n : Nat) : Bool := decide (y.cls ≠ "java/lang/invoke/MethodHandle" ∧ y.cls ≠ "java/lang/invoke/VarHandle" ∧ (parseMethodDescriptor y.desc).map (fun d => d.parameters.length) = some n)
def inT (ws : List Cond) : Bool := ws.all (fun w => decide (w ∈ lw_tbl) && goodWord w)
theorem inT_mem {ws : List Cond} (h : inT ws = true) : ∀ w ∈ ws, w ∈ TB := fun w hw => by
  have := List.all_eq_true.mp h w hw
  simp only [Bool.and_eq_true, decide_eq_true_eq] at this
  exact tb_in this.1 this.2
/-- a call's words: static, virtual, of a constructor; of nest mates -/
def csS (own : String) (idx : Nat) (y : MethodName) (bytes : ByteArray) (maxL : Nat) (ret : Option FieldType) (n : Nat) : Bool := inT [.code y bytes maxL ret, .initialized y.cls, .methodLink own idx y, .static y] && okD y n
def csV (own : String) (idx : Nat) (y : MethodName) (bytes : ByteArray) (maxL : Nat) (ret : Option FieldType) (n : Nat) : Bool := inT [.code y bytes maxL ret, .initialized y.cls, .methodLink own idx y, .instanceMethod y, .selects y.cls y y] && okD y n
def csI (own : String) (idx : Nat) (y : MethodName) (bytes : ByteArray) (maxL : Nat) (n : Nat) : Bool := inT [.code y bytes maxL none, .initialized y.cls, .methodLink own idx y, .instanceMethod y] && (okD y n && decide (y.name = "<init>"))
def csSN (own : String) (idx : Nat) (y : MethodName) (bytes : ByteArray) (maxL : Nat) (ret : Option FieldType) (n : Nat) : Bool := inT [.code y bytes maxL ret, .initialized y.cls, .static y] && (okD y n && decide (Cond.methodLinkNest own idx y "CanoeMaster" ∈ nestW))
def csIN (own : String) (idx : Nat) (y : MethodName) (bytes : ByteArray) (maxL : Nat) (n : Nat) : Bool := inT [.code y bytes maxL none, .initialized y.cls, .instanceMethod y] && (okD y n && (decide (Cond.methodLinkNest own idx y "CanoeMaster" ∈ nestW) && decide (y.name = "<init>")))
theorem good_c {y : MethodName} {bytes : ByteArray} {maxL : Nat} {ret : Option FieldType} (h : Cond.code y bytes maxL ret ∈ TB) : GoodIn TB (.code y bytes maxL ret :: TB) := fun w hw => by
  rcases List.mem_cons.mp hw with rfl | hw
  · exact tb_good _ h
  · exact tb_good _ hw
def rOk (rc rm : Room) (maxL cells slots : Nat) : Prop := rc.frames + 1 ≤ rm.frames ∧ 8 + (maxL + 11) + rc.locals ≤ rm.locals ∧ cells + rc.cells ≤ rm.cells ∧ slots + rc.slots ≤ rm.slots
theorem callB_x (hE : En X D cc nL own rt rm) {n : Nat} (h1 : Cond.code y bytes maxL ret ∈ TB) (h2 : Cond.initialized y.cls ∈ TB) (h3 : Cond.methodLink own idx y ∈ TB) (hd : okD y n = true) (hr : rOk rc rm maxL cells slots) : CallB X.Rm X.s X.args own idx y bytes maxL ret (.code y bytes maxL ret :: TB) rc rc.cells rc.slots n := by
  obtain ⟨hx, hb, hml, hown, hts, hgK, -, -, -, -, hRm⟩ := hE
  exact callB_of n hts (good_c h1) rfl rfl rfl (hts _ h2) (hts _ h3) (of_decide_eq_true hd) (by rw [hRm]; exact ⟨hr.1, hr.2.1⟩)
theorem pre_x (hE : En X D cc nL own rt rm) {H : Heap} {locs : List Loc} (hP : gP D h H) (hS : va_S D.A X.s.heap H locs) (av : List Value) : PreS X.s H (va_Pc av (fun U => gP D h U.heap ∧ gK D U ∧ gS D U U.heap)) av := by
  obtain ⟨hx, hb, hml, hown, hts, hgK, -, -, -, hgS, hRm⟩ := hE
  exact ⟨Ct_blind, fun U hU hW => ⟨rfl, by rw [hU]; exact hP, hgK.warm hW, by rw [hU]; exact (hgS.kept hS.2.1).moved hW.alike⟩⟩
theorem r_callS (hE : En X D cc nL own rt rm) (hM : ∀ out, fo = some out → Ct X.l D y bytes maxL ret rc As h (ev' out.1) out.2) (hw : csS own idx y bytes maxL ret As.length = true) (hr : rOk rc rm maxL cells slots) (hst : (st.map fun v => v.category).sum ≤ 8) {st0 : List Value} (he : st0 = As.reverse ++ st) (hd : decode cc pc = .ok (.invokestatic idx, 3))
    (kk : ∀ x, fo = some x → Wo X D nL Q (cells + rc.cells) (slots + rc.slots) (g x) (pc + 3) lv ((ev' x.1).toList ++ st) x.2) : Wo X D nL Q cells slots (fo.bind g) pc lv st0 h := fun out ho H locs ls hP hS hl => by
  obtain ⟨x, h1, h2⟩ := ob_k ho
  simp only [csS, Bool.and_eq_true] at hw
  have hm := inT_mem hw.1
  subst he
  refine run_go (va_runS (As := As) (rest := st) ⟨hE.1, hE.2.1, hE.2.2.1, hE.2.2.2.1, hE.2.2.2.2.1⟩ (hM x h1) ⟨callB_x hE (hm _ (by simp)) (hm _ (by simp)) (hm _ (by simp)) hw.2 hr, hE.2.2.2.2.1 _ (hm _ (by simp))⟩ (pre_x hE hP hS As) rfl rfl hl.1 rfl (lv_room hst) hd ⟨by rw [hE.2.2.2.2.2.2.2.2.2.2]; exact hr.2.2.1, by rw [hE.2.2.2.2.2.2.2.2.2.2]; exact hr.2.2.2⟩) hS fun H1 locs1 hP1 hS1 => kk x h1 out h2 H1 locs1 ls hP1 hS1 hl
theorem r_callSN (hE : En X D cc nL own rt rm) (hM : ∀ out, fo = some out → Ct X.l D y bytes maxL ret rc As h (ev' out.1) out.2) (hw : csSN own idx y bytes maxL ret As.length = true) (hr : rOk rc rm maxL cells slots) (hst : (st.map fun v => v.category).sum ≤ 8) {st0 : List Value} (he : st0 = As.reverse ++ st) (hd : decode cc pc = .ok (.invokestatic idx, 3))
    (kk : ∀ x, fo = some x → Wo X D nL Q (cells + rc.cells) (slots + rc.slots) (g x) (pc + 3) lv ((ev' x.1).toList ++ st) x.2) : Wo X D nL Q cells slots (fo.bind g) pc lv st0 h := fun out ho H locs ls hP hS hl => by
  obtain ⟨x, h1, h2⟩ := ob_k ho
  simp only [csSN, Bool.and_eq_true, decide_eq_true_eq] at hw
  have hm := inT_mem hw.1
  subst he
  have hRm := hE.2.2.2.2.2.2.2.2.2.2
  refine run_go (va_runSN (As := As) (rest := st) ⟨hE.1, hE.2.1, hE.2.2.1, hE.2.2.2.1, hE.2.2.2.2.1⟩ (hM x h1) ⟨va_cnB As.length hE.2.2.2.2.1 (good_c (hm _ (by simp))) rfl rfl rfl (hE.2.2.2.2.2.1.2.2.2.2.1 _ hw.2.2) (hE.2.2.2.2.1 _ (hm _ (by simp))) (of_decide_eq_true hw.2.1) (by rw [hRm]; exact ⟨hr.1, hr.2.1⟩), hE.2.2.2.2.1 _ (hm _ (by simp)), trivial⟩ (pre_x hE hP hS As) rfl rfl hl.1 rfl (lv_room hst) hd ⟨by rw [hRm]; exact hr.2.2.1, by rw [hRm]; exact hr.2.2.2⟩) hS fun H1 locs1 hP1 hS1 => kk x h1 out h2 H1 locs1 ls hP1 hS1 hl
theorem r_callV (hE : En X D cc nL own rt rm) (ci : Nat) (hM : ∀ out, fo = some out → Ct X.l D y bytes maxL ret rc (.ref b :: As) h (ev' out.1) out.2) (hKb : ∀ out, fo = some out → h.K b = ci) (hci : ci < 8) (hyc : y.cls = RF ci) (hw : csV own idx y bytes maxL ret As.length = true) (hr : rOk rc rm maxL cells slots) (hst : (st.map fun v => v.category).sum ≤ 8) {st0 : List Value} (he : st0 = As.reverse ++ .ref b :: st) (hd : decode cc pc = .ok (.invokevirtual idx, 3))
    (kk : ∀ x, fo = some x → Wo X D nL Q (cells + rc.cells) (slots + rc.slots) (g x) (pc + 3) lv ((ev' x.1).toList ++ st) x.2) : Wo X D nL Q cells slots (fo.bind g) pc lv st0 h := fun out ho H locs ls hP hS hl => by
  obtain ⟨x, h1, h2⟩ := ob_k ho
  simp only [csV, Bool.and_eq_true] at hw
  have hm := inT_mem hw.1
  subst he
  have hK := hKb x h1
  obtain ⟨cell, q1, q2, q3, -⟩ := gA_obj hK hci (hP.2.2 b (by omega)).2.2
  have hfc := (hE.2.2.2.2.2.1.1 ci hci).2.1
  have hpre := pre_x hE hP hS (.ref b :: As)
  refine run_go (va_runV (C := y.cls) (As := As) (rest := st) ⟨hE.1, hE.2.1, hE.2.2.1, hE.2.2.2.1, hE.2.2.2.2.1⟩ (hM x h1) ⟨callB_x hE (hm _ (by simp)) (hm _ (by simp)) (hm _ (by simp)) hw.2 hr, hE.2.2.2.2.1 _ (hm _ (by simp)), hE.2.2.2.2.1 _ (hm _ (by simp))⟩ ⟨hpre.1, ⟨cell, q1, by rw [q3]; rfl, by rw [hyc, q2]; exact hfc⟩, hpre.2⟩ rfl rfl hl.1 rfl (lv_room hst) hd ⟨by rw [hE.2.2.2.2.2.2.2.2.2.2]; exact hr.2.2.1, by rw [hE.2.2.2.2.2.2.2.2.2.2]; exact hr.2.2.2⟩) hS fun H1 locs1 hP1 hS1 => kk x h1 out h2 H1 locs1 ls hP1 hS1 hl
theorem r_callI (hE : En X D cc nL own rt rm) (hM : ∀ out, fo = some out → Ct X.l D y bytes maxL none rc (.ref b :: As) h (ev' out.1) out.2) (hw : csI own idx y bytes maxL As.length = true) (hr : rOk rc rm maxL cells slots) (hst : (st.map fun v => v.category).sum ≤ 8) {st0 : List Value} (he : st0 = As.reverse ++ .ref b :: st) (hd : decode cc pc = .ok (.invokespecial idx, 3))
    (kk : ∀ x, fo = some x → Wo X D nL Q (cells + rc.cells) (slots + rc.slots) (g x) (pc + 3) lv ((ev' x.1).toList ++ st) x.2) : Wo X D nL Q cells slots (fo.bind g) pc lv st0 h := fun out ho H locs ls hP hS hl => by
  obtain ⟨x, h1, h2⟩ := ob_k ho
  simp only [csI, Bool.and_eq_true, decide_eq_true_eq] at hw
  have hm := inT_mem hw.1
  subst he
  refine run_go (va_runI (As := As) (rest := st) ⟨hE.1, hE.2.1, hE.2.2.1, hE.2.2.2.1, hE.2.2.2.2.1⟩ (hM x h1) ⟨callB_x hE (hm _ (by simp)) (hm _ (by simp)) (hm _ (by simp)) hw.2.1 hr, hw.2.2, hE.2.2.2.2.1 _ (hm _ (by simp))⟩ (pre_x hE hP hS (.ref b :: As)) rfl rfl hl.1 rfl (lv_room hst) hd ⟨by rw [hE.2.2.2.2.2.2.2.2.2.2]; exact hr.2.2.1, by rw [hE.2.2.2.2.2.2.2.2.2.2]; exact hr.2.2.2⟩) hS fun H1 locs1 hP1 hS1 => kk x h1 out h2 H1 locs1 ls hP1 hS1 hl
theorem r_callIN (hE : En X D cc nL own rt rm) (hM : ∀ out, fo = some out → Ct X.l D y bytes maxL none rc (.ref b :: As) h (ev' out.1) out.2) (hw : csIN own idx y bytes maxL As.length = true) (hr : rOk rc rm maxL cells slots) (hst : (st.map fun v => v.category).sum ≤ 8) {st0 : List Value} (he : st0 = As.reverse ++ .ref b :: st) (hd : decode cc pc = .ok (.invokespecial idx, 3))
    (kk : ∀ x, fo = some x → Wo X D nL Q (cells + rc.cells) (slots + rc.slots) (g x) (pc + 3) lv ((ev' x.1).toList ++ st) x.2) : Wo X D nL Q cells slots (fo.bind g) pc lv st0 h := fun out ho H locs ls hP hS hl => by
  obtain ⟨x, h1, h2⟩ := ob_k ho
  simp only [csIN, Bool.and_eq_true, decide_eq_true_eq] at hw
  have hm := inT_mem hw.1
  subst he
  have hRm := hE.2.2.2.2.2.2.2.2.2.2
  refine run_go (va_runIN (As := As) (rest := st) ⟨hE.1, hE.2.1, hE.2.2.1, hE.2.2.2.1, hE.2.2.2.2.1⟩ (hM x h1) ⟨va_cnB As.length hE.2.2.2.2.1 (good_c (hm _ (by simp))) rfl rfl rfl (hE.2.2.2.2.2.1.2.2.2.2.1 _ hw.2.2.1) (hE.2.2.2.2.1 _ (hm _ (by simp))) (of_decide_eq_true hw.2.1) (by rw [hRm]; exact ⟨hr.1, hr.2.1⟩), hw.2.2.2, hE.2.2.2.2.1 _ (hm _ (by simp))⟩ (pre_x hE hP hS (.ref b :: As)) rfl rfl hl.1 rfl (lv_room hst) hd ⟨by rw [hRm]; exact hr.2.2.1, by rw [hRm]; exact hr.2.2.2⟩) hS fun H1 locs1 hP1 hS1 => kk x h1 out h2 H1 locs1 ls hP1 hS1 hl
end CALLS
end
section
theorem ar8 : Cond.arrayClass .int ∈ TB := tb_in (by decide +kernel) rfl
theorem ar9 : Cond.arrayClass .long ∈ TB := tb_in (by decide +kernel) rfl
theorem ar10 : Cond.arrayClass .char ∈ TB := tb_in (by decide +kernel) rfl
def mmax (x y : Int32) : Int32 := if x < y then y else x
def mmin (x y : Int32) : Int32 := if y < x then y else x
section MORE
variable {ρ : Type} {X : Cx} {D : Dx} {cc : ByteArray} {nL : Nat} {rt : Option FieldType} {rm : Room} {Q : ρ × Hp → State → Prop} {cells slots : Nat} {o : Option (ρ × Hp)} {pc : Nat} {lv : List (Option Value)} {st : List Value} {h : Hp}
theorem r_ldcS (hE : En X D cc nL RX3 rt rm) (i : Nat) (hi : i < 6) (hd : decode cc pc = .ok (.ldc (idxS i), 2)) (k : Wo X D nL Q cells slots o (pc + 2) lv (.ref (D.2.2.2.1 i) :: st) h) : Wo X D nL Q cells slots o pc lv st h := fun out ho H locs ls hP hS hl =>
  va_ldcS hE.1 hE.2.1 hE.2.2.2.1 (hE.2.2.2.2.2.1.2.2.2.2.2 i hi) hd (k out ho H locs ls hP hS hl)
theorem r_mmax {own : String} {idx : Nat} (hE : En X D cc nL own rt rm) {x y : Int32} (hw : inT [.methodLink own idx Lib.Math.max.name, .static Lib.Math.max.name, .initialized "java/lang/Math", .code Lib.Math.max.name Lib.Math.max.code 2 (some .int)] = true) (hfr : 1 ≤ rm.frames) (hlo : (st.map fun v => v.category).sum + 13 ≤ rm.locals) (hc : cells ≤ rm.cells) (hs : slots ≤ rm.slots) (hd : decode cc pc = .ok (.invokestatic idx, 3)) (k : Wo X D nL Q cells slots o (pc + 3) lv (.int (mmax x y) :: st) h) : Wo X D nL Q cells slots o pc lv (.int y :: .int x :: st) h := fun out ho H locs ls hP hS hl => by
  have hm := inT_mem hw
  obtain ⟨hx, hb, hml, hown, hts, hgK, -, -, -, -, hRm⟩ := hE
  exact va_mmax hx hb (by rw [hml]; exact hl.1.symm) hown (hts (.methodLink own idx Lib.Math.max.name) (hm _ (by simp))) (hts _ (hm _ (by simp))) (hts _ (hm _ (by simp))) (hts _ (hm _ (by simp))) (by rw [hRm]; exact hfr) (by rw [hRm]; exact hlo) (by rw [hRm]; exact hc) (by rw [hRm]; exact hs) hd (k out ho H locs ls hP hS hl)
theorem r_mmin {own : String} {idx : Nat} (hE : En X D cc nL own rt rm) {x y : Int32} (hw : inT [.methodLink own idx Lib.Math.min.name, .static Lib.Math.min.name, .initialized "java/lang/Math", .code Lib.Math.min.name Lib.Math.min.code 2 (some .int)] = true) (hfr : 1 ≤ rm.frames) (hlo : (st.map fun v => v.category).sum + 13 ≤ rm.locals) (hc : cells ≤ rm.cells) (hs : slots ≤ rm.slots) (hd : decode cc pc = .ok (.invokestatic idx, 3)) (k : Wo X D nL Q cells slots o (pc + 3) lv (.int (mmin x y) :: st) h) : Wo X D nL Q cells slots o pc lv (.int y :: .int x :: st) h := fun out ho H locs ls hP hS hl => by
  have hm := inT_mem hw
  obtain ⟨hx, hb, hml, hown, hts, hgK, -, -, -, -, hRm⟩ := hE
  exact va_mmin hx hb (by rw [hml]; exact hl.1.symm) hown (hts (.methodLink own idx Lib.Math.min.name) (hm _ (by simp))) (hts _ (hm _ (by simp))) (hts _ (hm _ (by simp))) (hts _ (hm _ (by simp))) (by rw [hRm]; exact hfr) (by rw [hRm]; exact hlo) (by rw [hRm]; exact hc) (by rw [hRm]; exact hs) hd (k out ho H locs ls hP hS hl)
theorem i32_nn {z : Int32} (h : 0 ≤ z.toInt) : ¬ z < 0 ∧ z.toInt = (z.toNatClampNeg : Int) := by
  refine ⟨fun q => ?_, ?_⟩
  · have := Int32.lt_iff_toInt_lt.mp q
    simp at this
    omega
  · show z.toInt = ((z.toInt.toNat : Nat) : Int)
    omega
/-- System.arraycopy of ints -/
theorem r_copyI {own : String} {idx : Nat} (hE : En X D cc nL own rt rm) {a b : Nat} {sp dp n : Int32} {f : Hp → Option (ρ × Hp)} (hw : inT [.methodLink own idx arraycopyName, .native arraycopyName, .static arraycopyName, .initialized "java/lang/System"] = true) (hfr : 1 ≤ rm.frames) (hlo : (st.map fun v => v.category).sum + (nativeFrameWords "java/lang/System" "arraycopy" 5 + 11) ≤ rm.locals) (hd : decode cc pc = .ok (.invokestatic idx, 3))
    (kk : ∀ h', cpI h a sp b dp n = some h' → Wo X D nL Q cells slots (f h') (pc + 3) lv st h') : Wo X D nL Q cells slots ((cpI h a sp b dp n).bind f) pc lv (.int n :: .int dp :: .ref b :: .int sp :: .ref a :: st) h := fun out ho H locs ls hP hS hl => by
  obtain ⟨h', h1, h2⟩ := ob_k ho
  obtain ⟨⟨hKa, hKb, k1, k2, k3, k4, k5⟩, h3⟩ := gi_k h1
  cases h3
  have hm := inT_mem hw
  obtain ⟨hx, hb, hml, hown, hts, hgK, -, -, -, -, hRm⟩ := hE
  obtain ⟨-, -, ga⟩ := hP.2.2 a (by omega)
  obtain ⟨gb1, gb2, gb⟩ := hP.2.2 b (by omega)
  have hc0 := (gA_8 hKa).mp ga
  have hc1 := (gA_8 hKb).mp gb
  obtain ⟨s1, s2⟩ := i32_nn k1
  obtain ⟨d1, d2⟩ := i32_nn k2
  obtain ⟨n1, n2⟩ := i32_nn k3
  obtain ⟨-, k0, hk0, cm0, hkk0⟩ := hgK.2.1.1 (h.L a) (fun j => .int (h.I a j))
  obtain ⟨-, kb, hkb, cmb, hkkb⟩ := hgK.2.1.1 (h.L b) (fun j => .int (h.I b j))
  intro T hT X0
  obtain ⟨vm', X', step⟩ := X0.arraycopy hx hown (hts (.methodLink own idx arraycopyName) (hm _ (by simp))) (hts _ (hm _ (by simp))) (hts _ (hm _ (by simp))) (hts _ (hm _ (by simp))) (src := a) (dst := b) (cs := arrV D.2.1.1 (h.L a) (fun j => .int (h.I a j))) (cd := arrV D.2.1.1 (h.L b) (fun j => .int (h.I b j))) (srcPos := sp) (destPos := dp) (n := n) (by rw [hT]; exact hc0) (by rw [hT]; exact hc1)
    (fun _ h => by cases h) (fun _ h => by cases h) (fun h => by cases h) (fun h => by cases h) hk0 hkb hkk0 hkkb (by simp [refKind]) s1 d1 n1
    (by rw [arrV_size]; omega) (by rw [arrV_size]; omega)
    (fun vm₁ _ i hi => by
      have e : (arrV D.2.1.1 (h.L a) (fun j => .int (h.I a j))).slots.getD (sp.toNatClampNeg + i) .null = .int (h.I a (sp.toNatClampNeg + i)) := by
        rw [Array.getD_eq_getD_getElem?, arrV_read _ _ (by omega)]
        rfl
      rw [e]
      exact ⟨rfl, trivial⟩)
    (g := F0 X.m pc ls (.int n :: .int dp :: .ref b :: .int sp :: .ref a :: st)) rfl (by rw [hml]; exact hl.1) (rest := st) rfl (by rw [hb]; exact hd) (by rw [hRm]; exact hfr) (by rw [hRm]; show 2 * 0 + _ + _ ≤ _; omega)
  have e1 : copied (arrV D.2.1.1 (h.L a) (fun j => .int (h.I a j))) (arrV D.2.1.1 (h.L b) (fun j => .int (h.I b j))) sp dp n = arrV D.2.1.1 (h.L b) (fun j => .int (va_cpy (h.I a) (h.I b) sp.toNatClampNeg dp.toNatClampNeg n.toNatClampNeg j)) := va_copied (fun z => .int z) D.2.1.1 D.2.1.1 (h.I a) (h.I b) (by omega)
  rw [e1] at X' step
  have hlt : b < H.size := (Array.getElem?_eq_some_iff.mp hc1).1
  obtain ⟨cN, hcN⟩ : ∃ cN, cN = arrV D.2.1.1 (h.L b) (fun j => .int (va_cpy (h.I a) (h.I b) sp.toNatClampNeg dp.toNatClampNeg n.toNatClampNeg j)) := ⟨_, rfl⟩
  rw [← hcN] at X' step
  have hheap : ((T.setVm vm').setCell b cN).heap = H.setIfInBounds b cN := by rw [← hT]; rfl
  have oq : ∀ q : Nat, q ≠ b → (H.setIfInBounds b cN)[q]? = H[q]? := fun q hq => by simp [Array.getElem?_setIfInBounds, Ne.symm hq]
  have hPn : gP D (cpyI h a b sp.toNatClampNeg dp.toNatClampNeg n.toNatClampNeg) (H.setIfInBounds b cN) := by
    refine gP_write hP rfl rfl rfl (fun q hq => ?_) (fun _ _ => rfl) (fun _ _ => rfl) (by simp) oq ((gA_8 (h := cpyI h a b _ _ _) hKb).mpr ?_)
    · show va_up h.I b _ q = _; simp [va_up, hq]
    · have e2 : (cpyI h a b sp.toNatClampNeg dp.toNatClampNeg n.toNatClampNeg).I b = va_cpy (h.I a) (h.I b) sp.toNatClampNeg dp.toNatClampNeg n.toNatClampNeg := by show va_up h.I b _ b = _; simp [va_up]
      rw [e2]
      show _ = some (arrV D.2.1.1 (h.L b) _)
      rw [← hcN]
      simp [Array.getElem?_setIfInBounds, hlt]
  obtain ⟨t, a1, b1⟩ := kk _ h1 out h2 _ _ ls hPn ⟨by simp; exact hS.1, fun q g1 g2 => by
      rw [oq q (fun e => g2 (by rw [e]; exact gb1))]
      exact hS.2.1 q g1 g2, fun q hq => by
      rcases List.mem_append.mp hq with h | h
      · exact hS.2.2 q h
      · obtain ⟨z, -, hz⟩ := List.mem_map.mp h
        rw [← hz]
        exact gb1⟩ hl _ hheap X'
  exact ⟨t, step t a1, b1⟩
end MORE
end
section
theorem ct_RJ13_314 : Cond.constantLong RJ13 314 (6148914691236517205) ∈ TB := tb_in (by decide +kernel) rfl
theorem ct_RJ13_316 : Cond.constantLong RJ13 316 (3689348814741910323) ∈ TB := tb_in (by decide +kernel) rfl
theorem ct_RJ13_318 : Cond.constantLong RJ13 318 (1085102592571150095) ∈ TB := tb_in (by decide +kernel) rfl
def rm_J13_bitCount_95d88 : Room := { frames := 0, cells := 0, slots := 0, locals := 0 }
def f_J13_bitCount_95d88_55 (fu : Nat) (x0 : Int64) (h : Hp) : Option (Int32 × Hp) :=
  some (((Int64.toInt32 x0) &&& 127), h)
set_option maxHeartbeats 4000000 in
set_option maxRecDepth 100000 in
theorem w_J13_bitCount_95d88_55 {X : Cx} {D : Dx} (hE : En X D cJ13_bitCount_95d88 2 RJ13 (some .int) rm_J13_bitCount_95d88) {fu : Nat} (x0 : Int64) (h : Hp) {lv : List (Option Value)} (hlv : lvLe [some (.long x0), none] lv) : Wo X D 2 (Qr X D 0 0 evI) 0 0 (f_J13_bitCount_95d88_55 fu x0 h) 55 lv [] h := by
  refine Wo_sub hlv ?_
  unfold f_J13_bitCount_95d88_55
  refine r_lload_n (pc := 55) hE dJ13_bitCount_95d88_55 rfl ?_
  refine r_l2i (pc := 56) hE dJ13_bitCount_95d88_56 ?_
  refine r_bipush (v := 127) (pc := 57) hE dJ13_bitCount_95d88_57 (by decide) ?_
  refine r_iand (pc := 59) hE dJ13_bitCount_95d88_59 ?_
  exact r_iret (pc := 60) hE dJ13_bitCount_95d88_60
def f_J13_bitCount_95d88_48 (fu : Nat) (x0 : Int64) (h : Hp) : Option (Int32 × Hp) :=
  f_J13_bitCount_95d88_55 fu ((x0 + (lush x0 32))) h
set_option maxHeartbeats 4000000 in
set_option maxRecDepth 100000 in
theorem w_J13_bitCount_95d88_48 {X : Cx} {D : Dx} (hE : En X D cJ13_bitCount_95d88 2 RJ13 (some .int) rm_J13_bitCount_95d88) {fu : Nat} (x0 : Int64) (h : Hp) {lv : List (Option Value)} (hlv : lvLe [some (.long x0), none] lv) : Wo X D 2 (Qr X D 0 0 evI) 0 0 (f_J13_bitCount_95d88_48 fu x0 h) 48 lv [] h := by
  refine Wo_sub hlv ?_
  unfold f_J13_bitCount_95d88_48
  refine r_lload_n (pc := 48) hE dJ13_bitCount_95d88_48 rfl ?_
  refine r_lload_n (pc := 49) hE dJ13_bitCount_95d88_49 rfl ?_
  refine r_bipush (v := 32) (pc := 50) hE dJ13_bitCount_95d88_50 (by decide) ?_
  refine r_lushr (pc := 52) hE dJ13_bitCount_95d88_52 ?_
  refine r_ladd (pc := 53) hE dJ13_bitCount_95d88_53 ?_
  refine r_lstore_n (pc := 54) hE dJ13_bitCount_95d88_54 (by decide) ?_
  exact w_J13_bitCount_95d88_55 hE _ _ ⟨rfl, trivial⟩
def f_J13_bitCount_95d88_41 (fu : Nat) (x0 : Int64) (h : Hp) : Option (Int32 × Hp) :=
  f_J13_bitCount_95d88_48 fu ((x0 + (lush x0 16))) h
set_option maxHeartbeats 4000000 in
set_option maxRecDepth 100000 in
theorem w_J13_bitCount_95d88_41 {X : Cx} {D : Dx} (hE : En X D cJ13_bitCount_95d88 2 RJ13 (some .int) rm_J13_bitCount_95d88) {fu : Nat} (x0 : Int64) (h : Hp) {lv : List (Option Value)} (hlv : lvLe [some (.long x0), none] lv) : Wo X D 2 (Qr X D 0 0 evI) 0 0 (f_J13_bitCount_95d88_41 fu x0 h) 41 lv [] h := by
  refine Wo_sub hlv ?_
  unfold f_J13_bitCount_95d88_41
  refine r_lload_n (pc := 41) hE dJ13_bitCount_95d88_41 rfl ?_
  refine r_lload_n (pc := 42) hE dJ13_bitCount_95d88_42 rfl ?_
  refine r_bipush (v := 16) (pc := 43) hE dJ13_bitCount_95d88_43 (by decide) ?_
  refine r_lushr (pc := 45) hE dJ13_bitCount_95d88_45 ?_
  refine r_ladd (pc := 46) hE dJ13_bitCount_95d88_46 ?_
  refine r_lstore_n (pc := 47) hE dJ13_bitCount_95d88_47 (by decide) ?_
  exact w_J13_bitCount_95d88_48 hE _ _ ⟨rfl, trivial⟩
def f_J13_bitCount_95d88_34 (fu : Nat) (x0 : Int64) (h : Hp) : Option (Int32 × Hp) :=
  f_J13_bitCount_95d88_41 fu ((x0 + (lush x0 8))) h
set_option maxHeartbeats 4000000 in
set_option maxRecDepth 100000 in
theorem w_J13_bitCount_95d88_34 {X : Cx} {D : Dx} (hE : En X D cJ13_bitCount_95d88 2 RJ13 (some .int) rm_J13_bitCount_95d88) {fu : Nat} (x0 : Int64) (h : Hp) {lv : List (Option Value)} (hlv : lvLe [some (.long x0), none] lv) : Wo X D 2 (Qr X D 0 0 evI) 0 0 (f_J13_bitCount_95d88_34 fu x0 h) 34 lv [] h := by
  refine Wo_sub hlv ?_
  unfold f_J13_bitCount_95d88_34
  refine r_lload_n (pc := 34) hE dJ13_bitCount_95d88_34 rfl ?_
  refine r_lload_n (pc := 35) hE dJ13_bitCount_95d88_35 rfl ?_
  refine r_bipush (v := 8) (pc := 36) hE dJ13_bitCount_95d88_36 (by decide) ?_
  refine r_lushr (pc := 38) hE dJ13_bitCount_95d88_38 ?_
  refine r_ladd (pc := 39) hE dJ13_bitCount_95d88_39 ?_
  refine r_lstore_n (pc := 40) hE dJ13_bitCount_95d88_40 (by decide) ?_
  exact w_J13_bitCount_95d88_41 hE _ _ ⟨rfl, trivial⟩
def f_J13_bitCount_95d88_24 (fu : Nat) (x0 : Int64) (h : Hp) : Option (Int32 × Hp) :=
  f_J13_bitCount_95d88_34 fu (((x0 + (lush x0 4)) &&& 1085102592571150095)) h
set_option maxHeartbeats 4000000 in
set_option maxRecDepth 100000 in
theorem w_J13_bitCount_95d88_24 {X : Cx} {D : Dx} (hE : En X D cJ13_bitCount_95d88 2 RJ13 (some .int) rm_J13_bitCount_95d88) {fu : Nat} (x0 : Int64) (h : Hp) {lv : List (Option Value)} (hlv : lvLe [some (.long x0), none] lv) : Wo X D 2 (Qr X D 0 0 evI) 0 0 (f_J13_bitCount_95d88_24 fu x0 h) 24 lv [] h := by
  refine Wo_sub hlv ?_
  unfold f_J13_bitCount_95d88_24
  refine r_lload_n (pc := 24) hE dJ13_bitCount_95d88_24 rfl ?_
  refine r_lload_n (pc := 25) hE dJ13_bitCount_95d88_25 rfl ?_
  refine r_iconst (v := 4) (pc := 26) hE dJ13_bitCount_95d88_26 (by decide) ?_
  refine r_lushr (pc := 27) hE dJ13_bitCount_95d88_27 ?_
  refine r_ladd (pc := 28) hE dJ13_bitCount_95d88_28 ?_
  refine r_ldc2 (v := 1085102592571150095) (pc := 29) hE ct_RJ13_318 dJ13_bitCount_95d88_29 ?_
  refine r_land (pc := 32) hE dJ13_bitCount_95d88_32 ?_
  refine r_lstore_n (pc := 33) hE dJ13_bitCount_95d88_33 (by decide) ?_
  exact w_J13_bitCount_95d88_34 hE _ _ ⟨rfl, trivial⟩
def f_J13_bitCount_95d88_10 (fu : Nat) (x0 : Int64) (h : Hp) : Option (Int32 × Hp) :=
  f_J13_bitCount_95d88_24 fu (((x0 &&& 3689348814741910323) + ((lush x0 2) &&& 3689348814741910323))) h
set_option maxHeartbeats 4000000 in
set_option maxRecDepth 100000 in
theorem w_J13_bitCount_95d88_10 {X : Cx} {D : Dx} (hE : En X D cJ13_bitCount_95d88 2 RJ13 (some .int) rm_J13_bitCount_95d88) {fu : Nat} (x0 : Int64) (h : Hp) {lv : List (Option Value)} (hlv : lvLe [some (.long x0), none] lv) : Wo X D 2 (Qr X D 0 0 evI) 0 0 (f_J13_bitCount_95d88_10 fu x0 h) 10 lv [] h := by
  refine Wo_sub hlv ?_
  unfold f_J13_bitCount_95d88_10
  refine r_lload_n (pc := 10) hE dJ13_bitCount_95d88_10 rfl ?_
  refine r_ldc2 (v := 3689348814741910323) (pc := 11) hE ct_RJ13_316 dJ13_bitCount_95d88_11 ?_
  refine r_land (pc := 14) hE dJ13_bitCount_95d88_14 ?_
  refine r_lload_n (pc := 15) hE dJ13_bitCount_95d88_15 rfl ?_
  refine r_iconst (v := 2) (pc := 16) hE dJ13_bitCount_95d88_16 (by decide) ?_
  refine r_lushr (pc := 17) hE dJ13_bitCount_95d88_17 ?_
  refine r_ldc2 (v := 3689348814741910323) (pc := 18) hE ct_RJ13_316 dJ13_bitCount_95d88_18 ?_
  refine r_land (pc := 21) hE dJ13_bitCount_95d88_21 ?_
  refine r_ladd (pc := 22) hE dJ13_bitCount_95d88_22 ?_
  refine r_lstore_n (pc := 23) hE dJ13_bitCount_95d88_23 (by decide) ?_
  exact w_J13_bitCount_95d88_24 hE _ _ ⟨rfl, trivial⟩
def f_J13_bitCount_95d88 (fu : Nat) (x0 : Int64) (h : Hp) : Option (Int32 × Hp) :=
  f_J13_bitCount_95d88_10 fu ((x0 - ((lush x0 1) &&& 6148914691236517205))) h
set_option maxHeartbeats 4000000 in
set_option maxRecDepth 100000 in
theorem c_J13_bitCount_95d88 (l : Launch) (D : Dx) (fu : Nat) (x0 : Int64) (h : Hp) (out : Int32 × Hp) (ho : f_J13_bitCount_95d88 fu x0 h = some out) : Ct l D yJ13_bitCount_95d88 cJ13_bitCount_95d88 2 (some .int) rm_J13_bitCount_95d88 [.long x0] h (evI out.1) out.2 := by
  refine Ct.of (o := f_J13_bitCount_95d88 fu x0 h) (lv := [some (.long x0), none]) (by decide) (Nat.le_of_ble_eq_true rfl) rfl ?_ out ho
  intro X hXl hE hin
  replace hE : En X D cJ13_bitCount_95d88 2 RJ13 (some .int) rm_J13_bitCount_95d88 := hE
  subst hXl
  unfold f_J13_bitCount_95d88
  refine r_lload_n (pc := 0) hE dJ13_bitCount_95d88_0 rfl ?_
  refine r_lload_n (pc := 1) hE dJ13_bitCount_95d88_1 rfl ?_
  refine r_iconst (v := 1) (pc := 2) hE dJ13_bitCount_95d88_2 (by decide) ?_
  refine r_lushr (pc := 3) hE dJ13_bitCount_95d88_3 ?_
  refine r_ldc2 (v := 6148914691236517205) (pc := 4) hE ct_RJ13_314 dJ13_bitCount_95d88_4 ?_
  refine r_land (pc := 7) hE dJ13_bitCount_95d88_7 ?_
  refine r_lsub (pc := 8) hE dJ13_bitCount_95d88_8 ?_
  refine r_lstore_n (pc := 9) hE dJ13_bitCount_95d88_9 (by decide) ?_
  exact w_J13_bitCount_95d88_10 hE _ _ ⟨rfl, trivial⟩
def rm_J7_fill_53178 : Room := { frames := 0, cells := 0, slots := 0, locals := 0 }
def f_J7_fill_53178_5 (fu : Nat) : Nat → Nat → Int32 → Int32 → Int32 → Hp → Option (Unit × Hp)
  | 0, _, _, _, _, _ => none
  | n + 1, x0, x1, x2, x3, h =>
    if x3 ≤ x2 then
      some ((), h)
    else
      (sI h 8 x0 x2 x1).bind fun h13 =>
      f_J7_fill_53178_5 fu n x0 x1 ((x2 + 1)) x3 h13
set_option maxHeartbeats 4000000 in
set_option maxRecDepth 100000 in
theorem w_J7_fill_53178_5 {X : Cx} {D : Dx} (hE : En X D cJ7_fill_53178 4 RJ7 none rm_J7_fill_53178) {fu : Nat} : ∀ (n : Nat) (x0 : Nat) (x1 : Int32) (x2 : Int32) (x3 : Int32) (h : Hp) (lv : List (Option Value)), lvLe [some (.ref x0), some (.int x1), some (.int x2), some (.int x3)] lv → Wo X D 4 (Qr X D 0 0 evU) 0 0 (f_J7_fill_53178_5 fu n x0 x1 x2 x3 h) 5 lv [] h := by
  intro n
  induction n with
  | zero => intros; exact Wo_none
  | succ n ih =>
    intro x0 x1 x2 x3 h lv hlv
    refine Wo_sub hlv ?_
    rw [f_J7_fill_53178_5]
    refine r_iload_n (pc := 5) hE dJ7_fill_53178_5 rfl ?_
    refine r_iload_n (pc := 6) hE dJ7_fill_53178_6 rfl ?_
    refine r_icmp_ge (pc := 7) hE 20 dJ7_fill_53178_7 (by decide) (fun _ => ?_) (fun _ => ?_)
    · exact r_vret (pc := 20) hE dJ7_fill_53178_20
    · refine r_aload_n (pc := 10) hE dJ7_fill_53178_10 rfl ?_
      refine r_iload_n (pc := 11) hE dJ7_fill_53178_11 rfl ?_
      refine r_iload_n (pc := 12) hE dJ7_fill_53178_12 rfl ?_
      refine r_astI (pc := 13) hE dJ7_fill_53178_13 (fun h13 _ => ?_)
      refine r_iinc (v := (x2 + 1)) (pc := 14) hE dJ7_fill_53178_14 rfl rfl (by decide) ?_
      refine r_goto (pc := 17) hE 5 dJ7_fill_53178_17 (by decide) ?_
      exact ih _ _ _ _ _ _ ⟨rfl, ⟨rfl, ⟨rfl, ⟨rfl, trivial⟩⟩⟩⟩
def f_J7_fill_53178 (fu : Nat) (x0 : Nat) (x1 : Int32) (h : Hp) : Option (Unit × Hp) :=
  (aN h x0).bind fun v3 =>
  f_J7_fill_53178_5 fu fu x0 x1 0 v3 h
set_option maxHeartbeats 4000000 in
set_option maxRecDepth 100000 in
theorem c_J7_fill_53178 (l : Launch) (D : Dx) (fu : Nat) (x0 : Nat) (x1 : Int32) (h : Hp) (out : Unit × Hp) (ho : f_J7_fill_53178 fu x0 x1 h = some out) : Ct l D yJ7_fill_53178 cJ7_fill_53178 4 none rm_J7_fill_53178 [.ref x0, .int x1] h (evU out.1) out.2 := by
  refine Ct.of (o := f_J7_fill_53178 fu x0 x1 h) (lv := [some (.ref x0), some (.int x1), none, none]) (by decide) (Nat.le_of_ble_eq_true rfl) rfl ?_ out ho
  intro X hXl hE hin
  replace hE : En X D cJ7_fill_53178 4 RJ7 none rm_J7_fill_53178 := hE
  subst hXl
  unfold f_J7_fill_53178
  refine r_iconst (v := 0) (pc := 0) hE dJ7_fill_53178_0 (by decide) ?_
  refine r_istore_n (pc := 1) hE dJ7_fill_53178_1 (by decide) ?_
  refine r_aload_n (pc := 2) hE dJ7_fill_53178_2 rfl ?_
  refine r_alen (pc := 3) hE dJ7_fill_53178_3 (fun v3 _ => ?_)
  refine r_istore_n (pc := 4) hE dJ7_fill_53178_4 (by decide) ?_
  exact w_J7_fill_53178_5 hE fu _ _ _ _ _ _ ⟨rfl, ⟨rfl, ⟨rfl, ⟨rfl, trivial⟩⟩⟩⟩
end
section
/-! THE STRINGS' OWN METHODS: length() and charAt(k) of the six words -/
def slen (i : Nat) : Int32 := Int32.ofNat (lenS.getD i 0)
def sch (i : Nat) (k : Int32) : Int32 := i2ch (((bytS.getD i []).getD k.toNatClampNeg 0) &&& 255)
theorem slen_shr : ∀ i, i < 6 → slen i >>> ((0 : Int32) &&& 31) = slen i := by decide
def RS : String := "java/lang/String"
section STR
variable {ρ : Type} {X : Cx} {D : Dx} {cc : ByteArray} {nL : Nat} {own : String} {rt : Option FieldType} {rm : Room} {Q : ρ × Hp → State → Prop} {cells slots : Nat} {o o1 o2 : Option (ρ × Hp)} {pc : Nat} {lv : List (Option Value)} {st : List Value} {h : Hp}
theorem Wo_n {c : Prop} [i : Decidable c] (hc : ¬ c) (k : Wo X D nL Q cells slots (@ite _ c i (none : Option (ρ × Hp)) o) pc lv st h) : Wo X D nL Q cells slots o pc lv st h := by rw [if_neg hc] at k; exact k
theorem Wo_y {c : Prop} [i : Decidable c] (hc : c) (k : Wo X D nL Q cells slots (@ite _ c i o (none : Option (ρ × Hp))) pc lv st h) : Wo X D nL Q cells slots o pc lv st h := by rw [if_pos hc] at k; exact k
theorem r_gstat (hE : En X D cc nL own rt rm) {idx : Nat} (hl : Cond.fieldLink own idx "java/lang/String" "COMPACT_STRINGS" "Z" ∈ TB) (hd : decode cc pc = .ok (.getstatic idx, 3)) (k : Wo X D nL Q cells slots o (pc + 3) lv (.int 1 :: st) h) : Wo X D nL Q cells slots o pc lv st h := fun out ho H locs ls hP hS hlv =>
  va_gets hE.1 hE.2.1 hE.2.2.2.2.2.2.2.2.2.1.2.1 hS hE.2.2.2.1 (hE.2.2.2.2.1 _ hl) (fun _ h9 => h9) hd (k out ho H locs ls hP hS hlv)
theorem r_gfmt (hE : En X D cc nL own rt rm) {idx : Nat} (hl : Cond.fieldLink own idx "jdk/internal/util/Preconditions" "SIOOBE_FORMATTER" "Ljava/util/function/BiFunction;" ∈ TB) (hd : decode cc pc = .ok (.getstatic idx, 3)) (k : ∀ q : Option Nat, Wo X D nL Q cells slots o (pc + 3) lv (va_rf q :: st) h) : Wo X D nL Q cells slots o pc lv st h := fun out ho H locs ls hP hS hlv => by
  rcases hE.2.2.2.2.2.2.2.2.2.1.2.2 with hz | ⟨t, hz⟩
  · exact va_gets hE.1 hE.2.1 hz hS hE.2.2.2.1 (hE.2.2.2.2.1 _ hl) (fun _ h9 => h9) hd (k none out ho H locs ls hP hS hlv)
  · exact va_gets hE.1 hE.2.1 hz hS hE.2.2.2.1 (hE.2.2.2.2.1 _ hl) (fun _ h9 => h9) hd (k (some t) out ho H locs ls hP hS hlv)
theorem r_sval (hE : En X D cc nL own rt rm) {i idx : Nat} (hi : i < 6) (hl : Cond.fieldLink own idx "java/lang/String" "value" "[B" ∈ TB) (hd : decode cc pc = .ok (.getfield idx, 3)) (k : Wo X D nL Q cells slots o (pc + 3) lv (.ref (D.2.2.2.2 i) :: st) h) : Wo X D nL Q cells slots o pc lv (.ref (D.2.2.2.1 i) :: st) h := fun out ho H locs ls hP hS hlv =>
  vk_getf hE.1 hE.2.1 (hE.2.2.2.2.2.2.2.2.2.1.1.1 i hi).2.2.1 hS hE.2.2.2.1 (hE.2.2.2.2.1 _ hl) (fun _ h9 => h9) hd (k out ho H locs ls hP hS hlv)
theorem r_scod (hE : En X D cc nL own rt rm) {i idx : Nat} (hi : i < 6) (hl : Cond.fieldLink own idx "java/lang/String" "coder" "B" ∈ TB) (hd : decode cc pc = .ok (.getfield idx, 3)) (k : Wo X D nL Q cells slots o (pc + 3) lv (.int 0 :: st) h) : Wo X D nL Q cells slots o pc lv (.ref (D.2.2.2.1 i) :: st) h := fun out ho H locs ls hP hS hlv =>
  vk_getf hE.1 hE.2.1 (hE.2.2.2.2.2.2.2.2.2.1.1.1 i hi).2.1 hS hE.2.2.2.1 (hE.2.2.2.2.1 _ hl) (fun _ h9 => h9) hd (k out ho H locs ls hP hS hlv)
theorem r_slen (hE : En X D cc nL own rt rm) {i : Nat} (hi : i < 6) (hd : decode cc pc = .ok (.arraylength, 1)) (k : Wo X D nL Q cells slots o (pc + 1) lv (.int (slen i) :: st) h) : Wo X D nL Q cells slots o pc lv (.ref (D.2.2.2.2 i) :: st) h := fun out ho H locs ls hP hS hlv =>
  va_tlen hE.1 hE.2.1 (hE.2.2.2.2.2.2.2.2.2.1.1.1 i hi).2.2.2 hS rfl hd (k out ho H locs ls hP hS hlv)
theorem r_sbyt (hE : En X D cc nL own rt rm) {i : Nat} {j : Int32} (hi : i < 6) (hj : 0 ≤ j.toInt ∧ j.toInt < (lenS.getD i 0 : Int)) (hd : decode cc pc = .ok (.baload, 1)) (k : Wo X D nL Q cells slots o (pc + 1) lv (.int ((bytS.getD i []).getD j.toNatClampNeg 0) :: st) h) : Wo X D nL Q cells slots o pc lv (.int j :: .ref (D.2.2.2.2 i) :: st) h := fun out ho H locs ls hP hS hlv =>
  va_tb hE.1 hE.2.1 (hE.2.2.2.2.2.2.2.2.2.1.1.1 i hi).2.2.2 hS (vp_in_iff.mpr hj) rfl hd (k out ho H locs ls hP hS hlv)
theorem r_nret {ty : FieldType} (hE : En X D cc nL own (some ty) rm) {x : Int32} (hx : narrow ty (.int x) = .int x) (hd : decode cc pc = .ok (.ireturn, 1)) : Wo X D nL (Qr X D cells slots evI) cells slots (some (x, h)) pc lv [.int x] h := fun out ho H locs ls hP hS hl => by
  cases ho
  exact W.zret hE.1 hE.2.1 hE.2.2.2.2.2.2.2.1 hx (fun t ht hW => ⟨rfl, by rw [ht]; exact hP, hS.F ht⟩) hS.2.2 hd hE.2.2.2.2.2.2.2.2.1
variable {σ : Type} {y : MethodName} {bytes : ByteArray} {maxL idx i : Nat} {ret : Option FieldType} {rc : Room} {As : List Value} {ev' : σ → Option Value} {fo : Option (σ × Hp)} {g : σ × Hp → Option (ρ × Hp)}
theorem r_callVS (hE : En X D cc nL own rt rm) (hM : ∀ out, fo = some out → Ct X.l D y bytes maxL ret rc (.ref (D.2.2.2.1 i) :: As) h (ev' out.1) out.2) (hKb : ∀ out, fo = some out → i < 6) (hyc : y.cls = RS) (hw : csV own idx y bytes maxL ret As.length = true) (hr : rOk rc rm maxL cells slots) (hst : (st.map fun v => v.category).sum ≤ 8) {st0 : List Value} (he : st0 = As.reverse ++ .ref (D.2.2.2.1 i) :: st) (hd : decode cc pc = .ok (.invokevirtual idx, 3))
    (kk : ∀ x, fo = some x → Wo X D nL Q (cells + rc.cells) (slots + rc.slots) (g x) (pc + 3) lv ((ev' x.1).toList ++ st) x.2) : Wo X D nL Q cells slots (fo.bind g) pc lv st0 h := fun out ho H locs ls hP hS hl => by
  obtain ⟨x, h1, h2⟩ := ob_k ho
  simp only [csV, Bool.and_eq_true] at hw
  have hm := inT_mem hw.1
  subst he
  have hpre := pre_x hE hP hS (.ref (D.2.2.2.1 i) :: As)
  have hrec := vk_recv hE.2.2.2.2.2.2.2.2.2.1.1 (hKb x h1) hS
  refine run_go (va_runV (C := y.cls) (As := As) (rest := st) ⟨hE.1, hE.2.1, hE.2.2.1, hE.2.2.2.1, hE.2.2.2.2.1⟩ (hM x h1) ⟨callB_x hE (hm _ (by simp)) (hm _ (by simp)) (hm _ (by simp)) hw.2 hr, hE.2.2.2.2.1 _ (hm _ (by simp)), hE.2.2.2.2.1 _ (hm _ (by simp))⟩ ⟨hpre.1, by rw [hyc]; exact hrec, hpre.2⟩ rfl rfl hl.1 rfl (lv_room hst) hd ⟨by rw [hE.2.2.2.2.2.2.2.2.2.2]; exact hr.2.2.1, by rw [hE.2.2.2.2.2.2.2.2.2.2]; exact hr.2.2.2⟩) hS fun H1 locs1 hP1 hS1 => kk x h1 out h2 H1 locs1 ls hP1 hS1 hl
end STR
theorem fl_RJ0_38 : Cond.fieldLink RJ0 38 "java/lang/String" "COMPACT_STRINGS" "Z" ∈ TB := tb_in (by decide +kernel) rfl
theorem fl_RJ0_15 : Cond.fieldLink RJ0 15 "java/lang/String" "coder" "B" ∈ TB := tb_in (by decide +kernel) rfl
theorem fl_RJ0_9 : Cond.fieldLink RJ0 9 "java/lang/String" "value" "[B" ∈ TB := tb_in (by decide +kernel) rfl
theorem fl_RJ0_1053 : Cond.fieldLink RJ0 1053 "jdk/internal/util/Preconditions" "SIOOBE_FORMATTER" "Ljava/util/function/BiFunction;" ∈ TB := tb_in (by decide +kernel) rfl
theorem cs_RJ0_335 : csV RJ0 335 yJ0_coder_7d493 cJ0_coder_7d493 1 (some .byte) 0 = true := by decide +kernel
theorem cs_RJ0_492 : csV RJ0 492 yJ0_isLatin1_aae02 cJ0_isLatin1_aae02 1 (some .boolean) 0 = true := by decide +kernel
theorem cs_RJ0_495 : csS RJ0 495 yJ1_charAt_3b067 cJ1_charAt_3b067 2 (some .char) 2 = true := by decide +kernel
theorem cs_RJ1_9 : csS RJ1 9 yJ0_checkIndex_df160 cJ0_checkIndex_df160 2 none 2 = true := by decide +kernel
theorem cs_RJ0_1059 : csS RJ0 1059 yJ3_checkIndex_8e157 cJ3_checkIndex_8e157 3 (some .int) 3 = true := by decide +kernel
def rm_s0 : Room := { frames := 0, cells := 0, slots := 0, locals := 0 }
def rm_s1 : Room := { frames := 1, cells := 0, slots := 0, locals := 30 }
def rm_s2 : Room := { frames := 2, cells := 0, slots := 0, locals := 60 }
def rm_s3 : Room := { frames := 3, cells := 0, slots := 0, locals := 90 }
set_option maxHeartbeats 4000000 in
theorem c_coder (l : Launch) (D : Dx) (i : Nat) (hi : i < 6) (h : Hp) (out : Int32 × Hp) (ho : some ((0 : Int32), h) = some out) : Ct l D yJ0_coder_7d493 cJ0_coder_7d493 1 (some .byte) rm_s0 [.ref (D.2.2.2.1 i)] h (evI out.1) out.2 := by
  refine Ct.of (lv := [some (.ref (D.2.2.2.1 i))]) (by decide) (Nat.le_of_ble_eq_true rfl) rfl ?_ out ho
  intro X hXl hE hin
  replace hE : En X D cJ0_coder_7d493 1 RJ0 (some .byte) rm_s0 := hE
  refine r_gstat (pc := 0) hE fl_RJ0_38 dJ0_coder_7d493_0 ?_
  refine Wo_n (c := (1 : Int32) = 0) (by decide) (r_if_eq (pc := 3) hE 13 dJ0_coder_7d493_3 (by decide) (fun hc => absurd hc (by decide)) (fun _ => ?_))
  refine r_aload_n (pc := 6) hE dJ0_coder_7d493_6 rfl ?_
  refine r_scod (pc := 7) hE hi fl_RJ0_15 dJ0_coder_7d493_7 ?_
  refine r_goto (pc := 10) hE 14 dJ0_coder_7d493_10 (by decide) ?_
  exact r_nret (pc := 14) hE rfl dJ0_coder_7d493_14
set_option maxHeartbeats 4000000 in
theorem c_isLatin1 (l : Launch) (D : Dx) (i : Nat) (hi : i < 6) (h : Hp) (out : Int32 × Hp) (ho : some ((1 : Int32), h) = some out) : Ct l D yJ0_isLatin1_aae02 cJ0_isLatin1_aae02 1 (some .boolean) rm_s0 [.ref (D.2.2.2.1 i)] h (evI out.1) out.2 := by
  refine Ct.of (lv := [some (.ref (D.2.2.2.1 i))]) (by decide) (Nat.le_of_ble_eq_true rfl) rfl ?_ out ho
  intro X hXl hE hin
  replace hE : En X D cJ0_isLatin1_aae02 1 RJ0 (some .boolean) rm_s0 := hE
  refine r_gstat (pc := 0) hE fl_RJ0_38 dJ0_isLatin1_aae02_0 ?_
  refine Wo_n (c := (1 : Int32) = 0) (by decide) (r_if_eq (pc := 3) hE 17 dJ0_isLatin1_aae02_3 (by decide) (fun hc => absurd hc (by decide)) (fun _ => ?_))
  refine r_aload_n (pc := 6) hE dJ0_isLatin1_aae02_6 rfl ?_
  refine r_scod (pc := 7) hE hi fl_RJ0_15 dJ0_isLatin1_aae02_7 ?_
  refine Wo_y (c := (0 : Int32) = 0) (by decide) (r_if_ne (pc := 10) hE 17 dJ0_isLatin1_aae02_10 (by decide) (fun hc => absurd rfl hc) (fun _ => ?_))
  refine r_iconst (v := 1) (pc := 13) hE dJ0_isLatin1_aae02_13 (by decide) ?_
  refine r_goto (pc := 14) hE 18 dJ0_isLatin1_aae02_14 (by decide) ?_
  exact r_zret (pc := 18) hE (by decide) dJ0_isLatin1_aae02_18
def f_J0_length_8abf5 (fu : Nat) (x0 : Nat) (h : Hp) : Option (Int32 × Hp) := if x0 < 6 then some (slen x0, h) else none
theorem k_J0_length_8abf5 {fu x0 : Nat} {h : Hp} {out : Int32 × Hp} (ho : f_J0_length_8abf5 fu x0 h = some out) : x0 < 6 := (gi_k ho).1
abbrev rm_J0_length_8abf5 : Room := rm_s1
set_option maxHeartbeats 4000000 in
theorem c_J0_length_8abf5 (l : Launch) (D : Dx) (fu : Nat) (x0 : Nat) (h : Hp) (out : Int32 × Hp) (ho : f_J0_length_8abf5 fu x0 h = some out) : Ct l D yJ0_length_8abf5 cJ0_length_8abf5 1 (some .int) rm_J0_length_8abf5 [.ref (D.2.2.2.1 x0)] h (evI out.1) out.2 := by
  obtain ⟨hi, ho⟩ := gi_k ho
  refine Ct.of (lv := [some (.ref (D.2.2.2.1 x0))]) (by decide) (Nat.le_of_ble_eq_true rfl) rfl ?_ out ho
  intro X hXl hE hin
  subst hXl
  replace hE : En X D cJ0_length_8abf5 1 RJ0 (some .int) rm_s1 := hE
  refine r_aload_n (pc := 0) hE dJ0_length_8abf5_0 rfl ?_
  refine r_sval (pc := 1) hE hi fl_RJ0_9 dJ0_length_8abf5_1 ?_
  refine r_slen (pc := 4) hE hi dJ0_length_8abf5_4 ?_
  refine r_aload_n (pc := 5) hE dJ0_length_8abf5_5 rfl ?_
  refine r_callVS (pc := 6) hE (fo := some ((0 : Int32), h)) (g := fun x => some (slen x0, x.2)) (As := []) (fun out ho => c_coder _ _ x0 hi _ out ho) (fun _ _ => hi) rfl cs_RJ0_335 ⟨Nat.le_of_ble_eq_true rfl, Nat.le_of_ble_eq_true rfl, Nat.le_of_ble_eq_true rfl, Nat.le_of_ble_eq_true rfl⟩ (Nat.le_of_ble_eq_true rfl) rfl dJ0_length_8abf5_6 (fun x hx => ?_)
  cases hx
  refine r_ishr (x := slen x0) (y := 0) (pc := 9) hE dJ0_length_8abf5_9 ?_
  rw [slen_shr x0 hi]
  exact r_iret (pc := 10) hE dJ0_length_8abf5_10
set_option maxHeartbeats 4000000 in
theorem c_pcheck (l : Launch) (D : Dx) (i n : Int32) (q : Option Nat) (h1 : ¬ i < 0) (h2 : i < n) (h : Hp) (out : Int32 × Hp) (ho : some (i, h) = some out) : Ct l D yJ3_checkIndex_8e157 cJ3_checkIndex_8e157 3 (some .int) rm_s0 [.int i, .int n, va_rf q] h (evI out.1) out.2 := by
  refine Ct.of (lv := [some (.int i), some (.int n), some (va_rf q)]) (by decide) (by cases q <;> exact Nat.le_of_ble_eq_true rfl) (by cases q <;> rfl) ?_ out ho
  intro X hXl hE hin
  replace hE : En X D cJ3_checkIndex_8e157 3 RJ3 (some .int) rm_s0 := hE
  refine r_iload_n (pc := 0) hE dJ3_checkIndex_8e157_0 rfl ?_
  refine Wo_n h1 (r_if_lt (pc := 1) hE 9 dJ3_checkIndex_8e157_1 (by decide) (fun hc => absurd hc h1) (fun _ => ?_))
  refine r_iload_n (pc := 4) hE dJ3_checkIndex_8e157_4 rfl ?_
  refine r_iload_n (pc := 5) hE dJ3_checkIndex_8e157_5 rfl ?_
  refine Wo_y h2 (r_icmp_lt (pc := 6) hE 16 dJ3_checkIndex_8e157_6 (by decide) (fun _ => ?_) (fun hc => absurd h2 hc))
  refine r_iload_n (pc := 16) hE dJ3_checkIndex_8e157_16 rfl ?_
  exact r_iret (pc := 17) hE dJ3_checkIndex_8e157_17
set_option maxHeartbeats 4000000 in
theorem c_scheck (l : Launch) (D : Dx) (i n : Int32) (h1 : ¬ i < 0) (h2 : i < n) (h : Hp) (out : Unit × Hp) (ho : some ((), h) = some out) : Ct l D yJ0_checkIndex_df160 cJ0_checkIndex_df160 2 none rm_s1 [.int i, .int n] h (evU out.1) out.2 := by
  refine Ct.of (lv := [some (.int i), some (.int n)]) (by decide) (Nat.le_of_ble_eq_true rfl) rfl ?_ out ho
  intro X hXl hE hin
  subst hXl
  replace hE : En X D cJ0_checkIndex_df160 2 RJ0 none rm_s1 := hE
  refine r_iload_n (pc := 0) hE dJ0_checkIndex_df160_0 rfl ?_
  refine r_iload_n (pc := 1) hE dJ0_checkIndex_df160_1 rfl ?_
  refine r_gfmt (pc := 2) hE fl_RJ0_1053 dJ0_checkIndex_df160_2 (fun q => ?_)
  refine r_callS (pc := 5) hE (fo := some (i, h)) (g := fun x => some ((), x.2)) (As := [.int i, .int n, va_rf q]) (fun out ho => c_pcheck _ _ i n q h1 h2 _ out ho) cs_RJ0_1059 ⟨Nat.le_of_ble_eq_true rfl, Nat.le_of_ble_eq_true rfl, Nat.le_of_ble_eq_true rfl, Nat.le_of_ble_eq_true rfl⟩ (Nat.le_of_ble_eq_true rfl) rfl dJ0_checkIndex_df160_5 (fun x hx => ?_)
  cases hx
  refine r_pop (pc := 8) hE dJ0_checkIndex_df160_8 rfl ?_
  exact r_vret (pc := 9) hE dJ0_checkIndex_df160_9
set_option maxHeartbeats 4000000 in
theorem c_lcharAt (l : Launch) (D : Dx) (i : Nat) (hi : i < 6) (k : Int32) (hk : 0 ≤ k.toInt ∧ k.toInt < (lenS.getD i 0 : Int)) (h1 : ¬ k < 0) (h2 : k < slen i) (h : Hp) (out : Int32 × Hp) (ho : some (sch i k, h) = some out) : Ct l D yJ1_charAt_3b067 cJ1_charAt_3b067 2 (some .char) rm_s2 [.ref (D.2.2.2.2 i), .int k] h (evI out.1) out.2 := by
  refine Ct.of (lv := [some (.ref (D.2.2.2.2 i)), some (.int k)]) (by decide) (Nat.le_of_ble_eq_true rfl) rfl ?_ out ho
  intro X hXl hE hin
  subst hXl
  replace hE : En X D cJ1_charAt_3b067 2 RJ1 (some .char) rm_s2 := hE
  refine r_iload_n (pc := 0) hE dJ1_charAt_3b067_0 rfl ?_
  refine r_aload_n (pc := 1) hE dJ1_charAt_3b067_1 rfl ?_
  refine r_slen (pc := 2) hE hi dJ1_charAt_3b067_2 ?_
  refine r_callS (pc := 3) hE (fo := some ((), h)) (g := fun x => some (sch i k, x.2)) (As := [.int k, .int (slen i)]) (fun out ho => c_scheck _ _ k (slen i) h1 h2 _ out ho) cs_RJ1_9 ⟨Nat.le_of_ble_eq_true rfl, Nat.le_of_ble_eq_true rfl, Nat.le_of_ble_eq_true rfl, Nat.le_of_ble_eq_true rfl⟩ (Nat.le_of_ble_eq_true rfl) rfl dJ1_charAt_3b067_3 (fun x hx => ?_)
  cases hx
  refine r_aload_n (pc := 6) hE dJ1_charAt_3b067_6 rfl ?_
  refine r_iload_n (pc := 7) hE dJ1_charAt_3b067_7 rfl ?_
  refine r_sbyt (pc := 8) hE hi hk dJ1_charAt_3b067_8 ?_
  refine r_sipush (v := 255) (pc := 9) hE dJ1_charAt_3b067_9 (by decide) ?_
  refine r_iand (pc := 12) hE dJ1_charAt_3b067_12 ?_
  refine r_i2c (pc := 13) hE dJ1_charAt_3b067_13 ?_
  exact r_nret (pc := 14) hE (pk_nc _) dJ1_charAt_3b067_14
def f_J0_charAt_5068e (fu : Nat) (x0 : Nat) (x1 : Int32) (h : Hp) : Option (Int32 × Hp) := if x0 < 6 ∧ 0 ≤ x1.toInt ∧ x1.toInt < (lenS.getD x0 0 : Int) then some (sch x0 x1, h) else none
theorem k_J0_charAt_5068e {fu x0 : Nat} {x1 : Int32} {h : Hp} {out : Int32 × Hp} (ho : f_J0_charAt_5068e fu x0 x1 h = some out) : x0 < 6 := (gi_k ho).1.1
abbrev rm_J0_charAt_5068e : Room := rm_s3
theorem slen_int : ∀ i, i < 6 → (slen i).toInt = (lenS.getD i 0 : Int) := by decide
set_option maxHeartbeats 4000000 in
theorem c_J0_charAt_5068e (l : Launch) (D : Dx) (fu : Nat) (x0 : Nat) (x1 : Int32) (h : Hp) (out : Int32 × Hp) (ho : f_J0_charAt_5068e fu x0 x1 h = some out) : Ct l D yJ0_charAt_5068e cJ0_charAt_5068e 2 (some .char) rm_J0_charAt_5068e [.ref (D.2.2.2.1 x0), .int x1] h (evI out.1) out.2 := by
  obtain ⟨⟨hi, hk⟩, ho⟩ := gi_k ho
  have h1 : ¬ x1 < 0 := (i32_nn hk.1).1
  have h2 : x1 < slen x0 := Int32.lt_iff_toInt_lt.mpr (by rw [slen_int x0 hi]; exact hk.2)
  refine Ct.of (lv := [some (.ref (D.2.2.2.1 x0)), some (.int x1)]) (by decide) (Nat.le_of_ble_eq_true rfl) rfl ?_ out ho
  intro X hXl hE hin
  subst hXl
  replace hE : En X D cJ0_charAt_5068e 2 RJ0 (some .char) rm_s3 := hE
  refine r_aload_n (pc := 0) hE dJ0_charAt_5068e_0 rfl ?_
  refine r_callVS (pc := 1) hE (fo := some ((1 : Int32), h)) (g := fun x => some (sch x0 x1, x.2)) (As := []) (fun out ho => c_isLatin1 _ _ x0 hi _ out ho) (fun _ _ => hi) rfl cs_RJ0_492 ⟨Nat.le_of_ble_eq_true rfl, Nat.le_of_ble_eq_true rfl, Nat.le_of_ble_eq_true rfl, Nat.le_of_ble_eq_true rfl⟩ (Nat.le_of_ble_eq_true rfl) rfl dJ0_charAt_5068e_1 (fun x hx => ?_)
  cases hx
  refine Wo_n (c := (1 : Int32) = 0) (by decide) (r_if_eq (pc := 4) hE 16 dJ0_charAt_5068e_4 (by decide) (fun hc => absurd hc (by decide)) (fun _ => ?_))
  refine r_aload_n (pc := 7) hE dJ0_charAt_5068e_7 rfl ?_
  refine r_sval (pc := 8) hE hi fl_RJ0_9 dJ0_charAt_5068e_8 ?_
  refine r_iload_n (pc := 11) hE dJ0_charAt_5068e_11 rfl ?_
  refine r_callS (pc := 12) hE (fo := some (sch x0 x1, h)) (g := fun x => some (sch x0 x1, x.2)) (As := [.ref (D.2.2.2.2 x0), .int x1]) (fun out ho => c_lcharAt _ _ x0 hi x1 hk h1 h2 _ out ho) cs_RJ0_495 ⟨Nat.le_of_ble_eq_true rfl, Nat.le_of_ble_eq_true rfl, Nat.le_of_ble_eq_true rfl, Nat.le_of_ble_eq_true rfl⟩ (Nat.le_of_ble_eq_true rfl) rfl dJ0_charAt_5068e_12 (fun x hx => ?_)
  cases hx
  exact r_nret (pc := 15) hE (pk_nc _) dJ0_charAt_5068e_15
end
