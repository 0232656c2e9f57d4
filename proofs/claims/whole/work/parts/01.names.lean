-- ===== PART A: goes FIRST, ahead of the names: the tables' words, and 'selects' of the private methods out of them =====
/-- a private method of a class that the tables say can be made, by its rows of tables_1 -/
def lw_okq (q : MethodName × Nat) : Prop := (q.1.cls ≠ "java/lang/invoke/MethodHandle" ∧ q.1.cls ≠ "java/lang/invoke/VarHandle") ∧ Cond.instantiable q.1.cls q.2 ∈ tables_1 ∧ Cond.privateMethod q.1 ∈ tables_1 ∧ Cond.instanceMethod q.1 ∈ tables_1
theorem lw_p0 : lw_okq (⟨"CanoeMaster$Sea", "layCells", "()V"⟩, 20) := ⟨⟨by decide +kernel, by decide +kernel⟩, List.mem_of_getElem? (i := 26) (by decide +kernel), List.mem_of_getElem? (i := 179) (by decide +kernel), List.mem_of_getElem? (i := 180) (by decide +kernel)⟩
theorem lw_p1 : lw_okq (⟨"CanoeMaster$Sea", "layCell", "(III)V"⟩, 20) := ⟨⟨by decide +kernel, by decide +kernel⟩, List.mem_of_getElem? (i := 26) (by decide +kernel), List.mem_of_getElem? (i := 183) (by decide +kernel), List.mem_of_getElem? (i := 184) (by decide +kernel)⟩
theorem lw_p2 : lw_okq (⟨"CanoeMaster", "startWith", "(J)V"⟩, 9) := ⟨⟨by decide +kernel, by decide +kernel⟩, List.mem_of_getElem? (i := 18) (by decide +kernel), List.mem_of_getElem? (i := 219) (by decide +kernel), List.mem_of_getElem? (i := 220) (by decide +kernel)⟩
theorem lw_p3 : lw_okq (⟨"CanoeMaster$Sea", "grown", "(J)J"⟩, 20) := ⟨⟨by decide +kernel, by decide +kernel⟩, List.mem_of_getElem? (i := 26) (by decide +kernel), List.mem_of_getElem? (i := 236) (by decide +kernel), List.mem_of_getElem? (i := 237) (by decide +kernel)⟩
theorem lw_p4 : lw_okq (⟨"CanoeMaster$Sea", "oneWest", "(J)J"⟩, 20) := ⟨⟨by decide +kernel, by decide +kernel⟩, List.mem_of_getElem? (i := 26) (by decide +kernel), List.mem_of_getElem? (i := 240) (by decide +kernel), List.mem_of_getElem? (i := 241) (by decide +kernel)⟩
theorem lw_p5 : lw_okq (⟨"CanoeMaster$Sea", "oneEast", "(J)J"⟩, 20) := ⟨⟨by decide +kernel, by decide +kernel⟩, List.mem_of_getElem? (i := 26) (by decide +kernel), List.mem_of_getElem? (i := 244) (by decide +kernel), List.mem_of_getElem? (i := 245) (by decide +kernel)⟩
theorem lw_p6 : lw_okq (⟨"CanoeMaster$Sea", "oneNorth", "(J)J"⟩, 20) := ⟨⟨by decide +kernel, by decide +kernel⟩, List.mem_of_getElem? (i := 26) (by decide +kernel), List.mem_of_getElem? (i := 248) (by decide +kernel), List.mem_of_getElem? (i := 249) (by decide +kernel)⟩
theorem lw_p7 : lw_okq (⟨"CanoeMaster$Sea", "oneSouth", "(J)J"⟩, 20) := ⟨⟨by decide +kernel, by decide +kernel⟩, List.mem_of_getElem? (i := 26) (by decide +kernel), List.mem_of_getElem? (i := 252) (by decide +kernel), List.mem_of_getElem? (i := 253) (by decide +kernel)⟩
theorem lw_p8 : lw_okq (⟨"CanoeMaster$Sea", "landsOfReach", "(I)J"⟩, 20) := ⟨⟨by decide +kernel, by decide +kernel⟩, List.mem_of_getElem? (i := 26) (by decide +kernel), List.mem_of_getElem? (i := 256) (by decide +kernel), List.mem_of_getElem? (i := 257) (by decide +kernel)⟩
theorem lw_p9 : lw_okq (⟨"CanoeMaster", "lookAtRows", "(I)I"⟩, 9) := ⟨⟨by decide +kernel, by decide +kernel⟩, List.mem_of_getElem? (i := 18) (by decide +kernel), List.mem_of_getElem? (i := 300) (by decide +kernel), List.mem_of_getElem? (i := 301) (by decide +kernel)⟩
theorem lw_p10 : lw_okq (⟨"CanoeMaster", "watchNow", "()I"⟩, 9) := ⟨⟨by decide +kernel, by decide +kernel⟩, List.mem_of_getElem? (i := 18) (by decide +kernel), List.mem_of_getElem? (i := 324) (by decide +kernel), List.mem_of_getElem? (i := 325) (by decide +kernel)⟩
theorem lw_p11 : lw_okq (⟨"CanoeMaster$Sea", "spreadRow", "(IJ)V"⟩, 20) := ⟨⟨by decide +kernel, by decide +kernel⟩, List.mem_of_getElem? (i := 26) (by decide +kernel), List.mem_of_getElem? (i := 340) (by decide +kernel), List.mem_of_getElem? (i := 341) (by decide +kernel)⟩
theorem lw_p12 : lw_okq (⟨"CanoeMaster$Reader", "readToken", "()V"⟩, 8) := ⟨⟨by decide +kernel, by decide +kernel⟩, List.mem_of_getElem? (i := 109) (by decide +kernel), List.mem_of_getElem? (i := 415) (by decide +kernel), List.mem_of_getElem? (i := 416) (by decide +kernel)⟩
theorem lw_p13 : lw_okq (⟨"CanoeMaster$Reader", "skipLetters", "()V"⟩, 8) := ⟨⟨by decide +kernel, by decide +kernel⟩, List.mem_of_getElem? (i := 109) (by decide +kernel), List.mem_of_getElem? (i := 425) (by decide +kernel), List.mem_of_getElem? (i := 426) (by decide +kernel)⟩
theorem lw_p14 : lw_okq (⟨"CanoeMaster$Reader", "wordRead", "()I"⟩, 8) := ⟨⟨by decide +kernel, by decide +kernel⟩, List.mem_of_getElem? (i := 109) (by decide +kernel), List.mem_of_getElem? (i := 429) (by decide +kernel), List.mem_of_getElem? (i := 430) (by decide +kernel)⟩
theorem lw_p15 : lw_okq (⟨"CanoeMaster$Reader", "spells", "(Ljava/lang/String;)Z"⟩, 8) := ⟨⟨by decide +kernel, by decide +kernel⟩, List.mem_of_getElem? (i := 109) (by decide +kernel), List.mem_of_getElem? (i := 434) (by decide +kernel), List.mem_of_getElem? (i := 435) (by decide +kernel)⟩
def lw_privs_1 : List (MethodName × Nat) := [(⟨"CanoeMaster$Sea", "layCells", "()V"⟩, 20), (⟨"CanoeMaster$Sea", "layCell", "(III)V"⟩, 20), (⟨"CanoeMaster", "startWith", "(J)V"⟩, 9), (⟨"CanoeMaster$Sea", "grown", "(J)J"⟩, 20), (⟨"CanoeMaster$Sea", "oneWest", "(J)J"⟩, 20), (⟨"CanoeMaster$Sea", "oneEast", "(J)J"⟩, 20), (⟨"CanoeMaster$Sea", "oneNorth", "(J)J"⟩, 20), (⟨"CanoeMaster$Sea", "oneSouth", "(J)J"⟩, 20), (⟨"CanoeMaster$Sea", "landsOfReach", "(I)J"⟩, 20), (⟨"CanoeMaster", "lookAtRows", "(I)I"⟩, 9), (⟨"CanoeMaster", "watchNow", "()I"⟩, 9), (⟨"CanoeMaster$Sea", "spreadRow", "(IJ)V"⟩, 20), (⟨"CanoeMaster$Reader", "readToken", "()V"⟩, 8), (⟨"CanoeMaster$Reader", "skipLetters", "()V"⟩, 8), (⟨"CanoeMaster$Reader", "wordRead", "()I"⟩, 8), (⟨"CanoeMaster$Reader", "spells", "(Ljava/lang/String;)Z"⟩, 8)]
theorem lw_r1 : ∀ q ∈ lw_privs_1, lw_okq q := List.forall_mem_cons.mpr ⟨lw_p0, List.forall_mem_cons.mpr ⟨lw_p1, List.forall_mem_cons.mpr ⟨lw_p2, List.forall_mem_cons.mpr ⟨lw_p3, List.forall_mem_cons.mpr ⟨lw_p4, List.forall_mem_cons.mpr ⟨lw_p5, List.forall_mem_cons.mpr ⟨lw_p6, List.forall_mem_cons.mpr ⟨lw_p7, List.forall_mem_cons.mpr ⟨lw_p8, List.forall_mem_cons.mpr ⟨lw_p9, List.forall_mem_cons.mpr ⟨lw_p10, List.forall_mem_cons.mpr ⟨lw_p11, List.forall_mem_cons.mpr ⟨lw_p12, List.forall_mem_cons.mpr ⟨lw_p13, List.forall_mem_cons.mpr ⟨lw_p14, List.forall_mem_cons.mpr ⟨lw_p15, fun _ h => absurd h List.not_mem_nil⟩⟩⟩⟩⟩⟩⟩⟩⟩⟩⟩⟩⟩⟩⟩⟩
theorem lw_p16 : lw_okq (⟨"CanoeMaster$Reader", "readNumber", "()V"⟩, 8) := ⟨⟨by decide +kernel, by decide +kernel⟩, List.mem_of_getElem? (i := 109) (by decide +kernel), List.mem_of_getElem? (i := 494) (by decide +kernel), List.mem_of_getElem? (i := 495) (by decide +kernel)⟩
theorem lw_p17 : lw_okq (⟨"CanoeMaster$Reader", "readLine", "(LCanoeMaster$Chant;)V"⟩, 8) := ⟨⟨by decide +kernel, by decide +kernel⟩, List.mem_of_getElem? (i := 109) (by decide +kernel), List.mem_of_getElem? (i := 498) (by decide +kernel), List.mem_of_getElem? (i := 499) (by decide +kernel)⟩
theorem lw_p18 : lw_okq (⟨"CanoeMaster$Reader", "blame", "(I)V"⟩, 8) := ⟨⟨by decide +kernel, by decide +kernel⟩, List.mem_of_getElem? (i := 109) (by decide +kernel), List.mem_of_getElem? (i := 502) (by decide +kernel), List.mem_of_getElem? (i := 503) (by decide +kernel)⟩
theorem lw_p19 : lw_okq (⟨"CanoeMaster$Reader", "take", "(Z)V"⟩, 8) := ⟨⟨by decide +kernel, by decide +kernel⟩, List.mem_of_getElem? (i := 109) (by decide +kernel), List.mem_of_getElem? (i := 506) (by decide +kernel), List.mem_of_getElem? (i := 507) (by decide +kernel)⟩
theorem lw_p20 : lw_okq (⟨"CanoeMaster$Reader", "numberWithin", "(II)I"⟩, 8) := ⟨⟨by decide +kernel, by decide +kernel⟩, List.mem_of_getElem? (i := 109) (by decide +kernel), List.mem_of_getElem? (i := 510) (by decide +kernel), List.mem_of_getElem? (i := 511) (by decide +kernel)⟩
theorem lw_p21 : lw_okq (⟨"CanoeMaster$Reader", "signNamed", "()I"⟩, 8) := ⟨⟨by decide +kernel, by decide +kernel⟩, List.mem_of_getElem? (i := 109) (by decide +kernel), List.mem_of_getElem? (i := 514) (by decide +kernel), List.mem_of_getElem? (i := 515) (by decide +kernel)⟩
theorem lw_p22 : lw_okq (⟨"CanoeMaster", "judgeOfNow", "()LCanoeMaster$Judge;"⟩, 9) := ⟨⟨by decide +kernel, by decide +kernel⟩, List.mem_of_getElem? (i := 18) (by decide +kernel), List.mem_of_getElem? (i := 535) (by decide +kernel), List.mem_of_getElem? (i := 536) (by decide +kernel)⟩
theorem lw_p23 : lw_okq (⟨"CanoeMaster$Judge", "standAtEnd", "(LCanoeMaster$Sea;)V"⟩, 7) := ⟨⟨by decide +kernel, by decide +kernel⟩, List.mem_of_getElem? (i := 539) (by decide +kernel), List.mem_of_getElem? (i := 586) (by decide +kernel), List.mem_of_getElem? (i := 587) (by decide +kernel)⟩
theorem lw_p24 : lw_okq (⟨"CanoeMaster$Judge", "goThroughLine", "(LCanoeMaster$Sea;LCanoeMaster$Chant;I)V"⟩, 7) := ⟨⟨by decide +kernel, by decide +kernel⟩, List.mem_of_getElem? (i := 539) (by decide +kernel), List.mem_of_getElem? (i := 596) (by decide +kernel), List.mem_of_getElem? (i := 597) (by decide +kernel)⟩
theorem lw_p25 : lw_okq (⟨"CanoeMaster$Judge", "findTargets", "(LCanoeMaster$Sea;I)V"⟩, 7) := ⟨⟨by decide +kernel, by decide +kernel⟩, List.mem_of_getElem? (i := 539) (by decide +kernel), List.mem_of_getElem? (i := 600) (by decide +kernel), List.mem_of_getElem? (i := 601) (by decide +kernel)⟩
theorem lw_p26 : lw_okq (⟨"CanoeMaster$Judge", "goThroughHour", "(LCanoeMaster$Sea;I)V"⟩, 7) := ⟨⟨by decide +kernel, by decide +kernel⟩, List.mem_of_getElem? (i := 539) (by decide +kernel), List.mem_of_getElem? (i := 617) (by decide +kernel), List.mem_of_getElem? (i := 618) (by decide +kernel)⟩
theorem lw_p27 : lw_okq (⟨"CanoeMaster$Judge", "steerOn", "(IIII)V"⟩, 7) := ⟨⟨by decide +kernel, by decide +kernel⟩, List.mem_of_getElem? (i := 539) (by decide +kernel), List.mem_of_getElem? (i := 621) (by decide +kernel), List.mem_of_getElem? (i := 622) (by decide +kernel)⟩
theorem lw_p28 : lw_okq (⟨"CanoeMaster$Search", "lookThrough", "(LCanoeMaster$Sea;JI)I"⟩, 11) := ⟨⟨by decide +kernel, by decide +kernel⟩, List.mem_of_getElem? (i := 652) (by decide +kernel), List.mem_of_getElem? (i := 701) (by decide +kernel), List.mem_of_getElem? (i := 702) (by decide +kernel)⟩
theorem lw_p29 : lw_okq (⟨"CanoeMaster$Search", "keepNew", "(JII)Z"⟩, 11) := ⟨⟨by decide +kernel, by decide +kernel⟩, List.mem_of_getElem? (i := 652) (by decide +kernel), List.mem_of_getElem? (i := 706) (by decide +kernel), List.mem_of_getElem? (i := 707) (by decide +kernel)⟩
theorem lw_p30 : lw_okq (⟨"CanoeMaster$Search", "keepAt", "(IJII)Z"⟩, 11) := ⟨⟨by decide +kernel, by decide +kernel⟩, List.mem_of_getElem? (i := 652) (by decide +kernel), List.mem_of_getElem? (i := 711) (by decide +kernel), List.mem_of_getElem? (i := 712) (by decide +kernel)⟩
theorem lw_p31 : lw_okq (⟨"CanoeMaster$Search", "goOn", "(LCanoeMaster$Sea;II)I"⟩, 11) := ⟨⟨by decide +kernel, by decide +kernel⟩, List.mem_of_getElem? (i := 652) (by decide +kernel), List.mem_of_getElem? (i := 715) (by decide +kernel), List.mem_of_getElem? (i := 716) (by decide +kernel)⟩
def lw_privs_2 : List (MethodName × Nat) := [(⟨"CanoeMaster$Reader", "readNumber", "()V"⟩, 8), (⟨"CanoeMaster$Reader", "readLine", "(LCanoeMaster$Chant;)V"⟩, 8), (⟨"CanoeMaster$Reader", "blame", "(I)V"⟩, 8), (⟨"CanoeMaster$Reader", "take", "(Z)V"⟩, 8), (⟨"CanoeMaster$Reader", "numberWithin", "(II)I"⟩, 8), (⟨"CanoeMaster$Reader", "signNamed", "()I"⟩, 8), (⟨"CanoeMaster", "judgeOfNow", "()LCanoeMaster$Judge;"⟩, 9), (⟨"CanoeMaster$Judge", "standAtEnd", "(LCanoeMaster$Sea;)V"⟩, 7), (⟨"CanoeMaster$Judge", "goThroughLine", "(LCanoeMaster$Sea;LCanoeMaster$Chant;I)V"⟩, 7), (⟨"CanoeMaster$Judge", "findTargets", "(LCanoeMaster$Sea;I)V"⟩, 7), (⟨"CanoeMaster$Judge", "goThroughHour", "(LCanoeMaster$Sea;I)V"⟩, 7), (⟨"CanoeMaster$Judge", "steerOn", "(IIII)V"⟩, 7), (⟨"CanoeMaster$Search", "lookThrough", "(LCanoeMaster$Sea;JI)I"⟩, 11), (⟨"CanoeMaster$Search", "keepNew", "(JII)Z"⟩, 11), (⟨"CanoeMaster$Search", "keepAt", "(IJII)Z"⟩, 11), (⟨"CanoeMaster$Search", "goOn", "(LCanoeMaster$Sea;II)I"⟩, 11)]
theorem lw_r2 : ∀ q ∈ lw_privs_2, lw_okq q := List.forall_mem_cons.mpr ⟨lw_p16, List.forall_mem_cons.mpr ⟨lw_p17, List.forall_mem_cons.mpr ⟨lw_p18, List.forall_mem_cons.mpr ⟨lw_p19, List.forall_mem_cons.mpr ⟨lw_p20, List.forall_mem_cons.mpr ⟨lw_p21, List.forall_mem_cons.mpr ⟨lw_p22, List.forall_mem_cons.mpr ⟨lw_p23, List.forall_mem_cons.mpr ⟨lw_p24, List.forall_mem_cons.mpr ⟨lw_p25, List.forall_mem_cons.mpr ⟨lw_p26, List.forall_mem_cons.mpr ⟨lw_p27, List.forall_mem_cons.mpr ⟨lw_p28, List.forall_mem_cons.mpr ⟨lw_p29, List.forall_mem_cons.mpr ⟨lw_p30, List.forall_mem_cons.mpr ⟨lw_p31, fun _ h => absurd h List.not_mem_nil⟩⟩⟩⟩⟩⟩⟩⟩⟩⟩⟩⟩⟩⟩⟩⟩
theorem lw_p32 : lw_okq (⟨"CanoeMaster$Search", "writeRow", "(III)V"⟩, 11) := ⟨⟨by decide +kernel, by decide +kernel⟩, List.mem_of_getElem? (i := 652) (by decide +kernel), List.mem_of_getElem? (i := 721) (by decide +kernel), List.mem_of_getElem? (i := 722) (by decide +kernel)⟩
theorem lw_p33 : lw_okq (⟨"CanoeMasterModel", "all", "()J"⟩, 38) := ⟨⟨by decide +kernel, by decide +kernel⟩, List.mem_of_getElem? (i := 725) (by decide +kernel), List.mem_of_getElem? (i := 851) (by decide +kernel), List.mem_of_getElem? (i := 852) (by decide +kernel)⟩
theorem lw_p34 : lw_okq (⟨"CanoeMasterModel", "cells", "()I"⟩, 38) := ⟨⟨by decide +kernel, by decide +kernel⟩, List.mem_of_getElem? (i := 725) (by decide +kernel), List.mem_of_getElem? (i := 855) (by decide +kernel), List.mem_of_getElem? (i := 856) (by decide +kernel)⟩
theorem lw_p35 : lw_okq (⟨"CanoeMasterModel", "isCell", "(I)Z"⟩, 38) := ⟨⟨by decide +kernel, by decide +kernel⟩, List.mem_of_getElem? (i := 725) (by decide +kernel), List.mem_of_getElem? (i := 864) (by decide +kernel), List.mem_of_getElem? (i := 865) (by decide +kernel)⟩
theorem lw_p36 : lw_okq (⟨"CanoeMasterModel", "count", "(J)I"⟩, 38) := ⟨⟨by decide +kernel, by decide +kernel⟩, List.mem_of_getElem? (i := 725) (by decide +kernel), List.mem_of_getElem? (i := 884) (by decide +kernel), List.mem_of_getElem? (i := 885) (by decide +kernel)⟩
theorem lw_p37 : lw_okq (⟨"CanoeMasterModel", "has", "(JI)Z"⟩, 38) := ⟨⟨by decide +kernel, by decide +kernel⟩, List.mem_of_getElem? (i := 725) (by decide +kernel), List.mem_of_getElem? (i := 888) (by decide +kernel), List.mem_of_getElem? (i := 889) (by decide +kernel)⟩
theorem lw_p38 : lw_okq (⟨"CanoeMasterModel", "landsIn", "(J)I"⟩, 38) := ⟨⟨by decide +kernel, by decide +kernel⟩, List.mem_of_getElem? (i := 725) (by decide +kernel), List.mem_of_getElem? (i := 892) (by decide +kernel), List.mem_of_getElem? (i := 893) (by decide +kernel)⟩
theorem lw_p39 : lw_okq (⟨"CanoeMasterModel", "isLand", "(I)Z"⟩, 38) := ⟨⟨by decide +kernel, by decide +kernel⟩, List.mem_of_getElem? (i := 725) (by decide +kernel), List.mem_of_getElem? (i := 896) (by decide +kernel), List.mem_of_getElem? (i := 897) (by decide +kernel)⟩
theorem lw_p40 : lw_okq (⟨"CanoeMasterModel", "goesAll", "(JII)J"⟩, 38) := ⟨⟨by decide +kernel, by decide +kernel⟩, List.mem_of_getElem? (i := 725) (by decide +kernel), List.mem_of_getElem? (i := 916) (by decide +kernel), List.mem_of_getElem? (i := 917) (by decide +kernel)⟩
theorem lw_p41 : lw_okq (⟨"CanoeMasterModel", "goes", "(III)I"⟩, 38) := ⟨⟨by decide +kernel, by decide +kernel⟩, List.mem_of_getElem? (i := 725) (by decide +kernel), List.mem_of_getElem? (i := 920) (by decide +kernel), List.mem_of_getElem? (i := 921) (by decide +kernel)⟩
theorem lw_p42 : lw_okq (⟨"CanoeMasterModel", "bound", "(II)I"⟩, 38) := ⟨⟨by decide +kernel, by decide +kernel⟩, List.mem_of_getElem? (i := 725) (by decide +kernel), List.mem_of_getElem? (i := 924) (by decide +kernel), List.mem_of_getElem? (i := 925) (by decide +kernel)⟩
theorem lw_p43 : lw_okq (⟨"CanoeMasterModel", "signOf", "(III)I"⟩, 38) := ⟨⟨by decide +kernel, by decide +kernel⟩, List.mem_of_getElem? (i := 725) (by decide +kernel), List.mem_of_getElem? (i := 932) (by decide +kernel), List.mem_of_getElem? (i := 933) (by decide +kernel)⟩
theorem lw_p44 : lw_okq (⟨"CanoeMasterModel", "far", "(II)I"⟩, 38) := ⟨⟨by decide +kernel, by decide +kernel⟩, List.mem_of_getElem? (i := 725) (by decide +kernel), List.mem_of_getElem? (i := 936) (by decide +kernel), List.mem_of_getElem? (i := 937) (by decide +kernel)⟩
theorem lw_p45 : lw_okq (⟨"CanoeMasterModel", "seen", "(II)J"⟩, 38) := ⟨⟨by decide +kernel, by decide +kernel⟩, List.mem_of_getElem? (i := 725) (by decide +kernel), List.mem_of_getElem? (i := 944) (by decide +kernel), List.mem_of_getElem? (i := 945) (by decide +kernel)⟩
theorem lw_p46 : lw_okq (⟨"CanoeMasterModel", "lay", "(I)V"⟩, 38) := ⟨⟨by decide +kernel, by decide +kernel⟩, List.mem_of_getElem? (i := 725) (by decide +kernel), List.mem_of_getElem? (i := 956) (by decide +kernel), List.mem_of_getElem? (i := 957) (by decide +kernel)⟩
theorem lw_p47 : lw_okq (⟨"CanoeMasterModel", "readText", "()Z"⟩, 38) := ⟨⟨by decide +kernel, by decide +kernel⟩, List.mem_of_getElem? (i := 725) (by decide +kernel), List.mem_of_getElem? (i := 972) (by decide +kernel), List.mem_of_getElem? (i := 973) (by decide +kernel)⟩
def lw_privs_3 : List (MethodName × Nat) := [(⟨"CanoeMaster$Search", "writeRow", "(III)V"⟩, 11), (⟨"CanoeMasterModel", "all", "()J"⟩, 38), (⟨"CanoeMasterModel", "cells", "()I"⟩, 38), (⟨"CanoeMasterModel", "isCell", "(I)Z"⟩, 38), (⟨"CanoeMasterModel", "count", "(J)I"⟩, 38), (⟨"CanoeMasterModel", "has", "(JI)Z"⟩, 38), (⟨"CanoeMasterModel", "landsIn", "(J)I"⟩, 38), (⟨"CanoeMasterModel", "isLand", "(I)Z"⟩, 38), (⟨"CanoeMasterModel", "goesAll", "(JII)J"⟩, 38), (⟨"CanoeMasterModel", "goes", "(III)I"⟩, 38), (⟨"CanoeMasterModel", "bound", "(II)I"⟩, 38), (⟨"CanoeMasterModel", "signOf", "(III)I"⟩, 38), (⟨"CanoeMasterModel", "far", "(II)I"⟩, 38), (⟨"CanoeMasterModel", "seen", "(II)J"⟩, 38), (⟨"CanoeMasterModel", "lay", "(I)V"⟩, 38), (⟨"CanoeMasterModel", "readText", "()Z"⟩, 38)]
theorem lw_r3 : ∀ q ∈ lw_privs_3, lw_okq q := List.forall_mem_cons.mpr ⟨lw_p32, List.forall_mem_cons.mpr ⟨lw_p33, List.forall_mem_cons.mpr ⟨lw_p34, List.forall_mem_cons.mpr ⟨lw_p35, List.forall_mem_cons.mpr ⟨lw_p36, List.forall_mem_cons.mpr ⟨lw_p37, List.forall_mem_cons.mpr ⟨lw_p38, List.forall_mem_cons.mpr ⟨lw_p39, List.forall_mem_cons.mpr ⟨lw_p40, List.forall_mem_cons.mpr ⟨lw_p41, List.forall_mem_cons.mpr ⟨lw_p42, List.forall_mem_cons.mpr ⟨lw_p43, List.forall_mem_cons.mpr ⟨lw_p44, List.forall_mem_cons.mpr ⟨lw_p45, List.forall_mem_cons.mpr ⟨lw_p46, List.forall_mem_cons.mpr ⟨lw_p47, fun _ h => absurd h List.not_mem_nil⟩⟩⟩⟩⟩⟩⟩⟩⟩⟩⟩⟩⟩⟩⟩⟩
theorem lw_p48 : lw_okq (⟨"CanoeMasterModel", "next", "()V"⟩, 38) := ⟨⟨by decide +kernel, by decide +kernel⟩, List.mem_of_getElem? (i := 725) (by decide +kernel), List.mem_of_getElem? (i := 976) (by decide +kernel), List.mem_of_getElem? (i := 977) (by decide +kernel)⟩
theorem lw_p49 : lw_okq (⟨"CanoeMasterModel", "raw", "(I)I"⟩, 38) := ⟨⟨by decide +kernel, by decide +kernel⟩, List.mem_of_getElem? (i := 725) (by decide +kernel), List.mem_of_getElem? (i := 980) (by decide +kernel), List.mem_of_getElem? (i := 981) (by decide +kernel)⟩
theorem lw_p50 : lw_okq (⟨"CanoeMasterModel", "isLetter", "(I)Z"⟩, 38) := ⟨⟨by decide +kernel, by decide +kernel⟩, List.mem_of_getElem? (i := 725) (by decide +kernel), List.mem_of_getElem? (i := 984) (by decide +kernel), List.mem_of_getElem? (i := 985) (by decide +kernel)⟩
theorem lw_p51 : lw_okq (⟨"CanoeMasterModel", "isWord", "(IIIIII)Z"⟩, 38) := ⟨⟨by decide +kernel, by decide +kernel⟩, List.mem_of_getElem? (i := 725) (by decide +kernel), List.mem_of_getElem? (i := 988) (by decide +kernel), List.mem_of_getElem? (i := 989) (by decide +kernel)⟩
theorem lw_p52 : lw_okq (⟨"CanoeMasterModel", "isDigit", "(I)Z"⟩, 38) := ⟨⟨by decide +kernel, by decide +kernel⟩, List.mem_of_getElem? (i := 725) (by decide +kernel), List.mem_of_getElem? (i := 992) (by decide +kernel), List.mem_of_getElem? (i := 993) (by decide +kernel)⟩
theorem lw_p53 : lw_okq (⟨"CanoeMasterModel", "readLine", "()Z"⟩, 38) := ⟨⟨by decide +kernel, by decide +kernel⟩, List.mem_of_getElem? (i := 725) (by decide +kernel), List.mem_of_getElem? (i := 996) (by decide +kernel), List.mem_of_getElem? (i := 997) (by decide +kernel)⟩
theorem lw_p54 : lw_okq (⟨"CanoeMasterModel", "fails", "(I)Z"⟩, 38) := ⟨⟨by decide +kernel, by decide +kernel⟩, List.mem_of_getElem? (i := 725) (by decide +kernel), List.mem_of_getElem? (i := 1000) (by decide +kernel), List.mem_of_getElem? (i := 1001) (by decide +kernel)⟩
theorem lw_p55 : lw_okq (⟨"CanoeMasterModel", "takes", "(II)Z"⟩, 38) := ⟨⟨by decide +kernel, by decide +kernel⟩, List.mem_of_getElem? (i := 725) (by decide +kernel), List.mem_of_getElem? (i := 1004) (by decide +kernel), List.mem_of_getElem? (i := 1005) (by decide +kernel)⟩
theorem lw_p56 : lw_okq (⟨"CanoeMasterModel", "sing", "()V"⟩, 38) := ⟨⟨by decide +kernel, by decide +kernel⟩, List.mem_of_getElem? (i := 725) (by decide +kernel), List.mem_of_getElem? (i := 1012) (by decide +kernel), List.mem_of_getElem? (i := 1013) (by decide +kernel)⟩
theorem lw_p57 : lw_okq (⟨"CanoeMasterModel", "at", "(III)I"⟩, 38) := ⟨⟨by decide +kernel, by decide +kernel⟩, List.mem_of_getElem? (i := 725) (by decide +kernel), List.mem_of_getElem? (i := 1016) (by decide +kernel), List.mem_of_getElem? (i := 1017) (by decide +kernel)⟩
theorem lw_p58 : lw_okq (⟨"CanoeMasterModel", "step", "(IIII)V"⟩, 38) := ⟨⟨by decide +kernel, by decide +kernel⟩, List.mem_of_getElem? (i := 725) (by decide +kernel), List.mem_of_getElem? (i := 1021) (by decide +kernel), List.mem_of_getElem? (i := 1022) (by decide +kernel)⟩
theorem lw_p59 : lw_okq (⟨"CanoeMasterModel", "isThere", "(III)Z"⟩, 38) := ⟨⟨by decide +kernel, by decide +kernel⟩, List.mem_of_getElem? (i := 725) (by decide +kernel), List.mem_of_getElem? (i := 1025) (by decide +kernel), List.mem_of_getElem? (i := 1026) (by decide +kernel)⟩
theorem lw_p60 : lw_okq (⟨"CanoeMasterModel", "findBlind", "()I"⟩, 38) := ⟨⟨by decide +kernel, by decide +kernel⟩, List.mem_of_getElem? (i := 725) (by decide +kernel), List.mem_of_getElem? (i := 1041) (by decide +kernel), List.mem_of_getElem? (i := 1042) (by decide +kernel)⟩
theorem lw_p61 : lw_okq (⟨"CanoeMasterModel", "isAllLand", "(J)Z"⟩, 38) := ⟨⟨by decide +kernel, by decide +kernel⟩, List.mem_of_getElem? (i := 725) (by decide +kernel), List.mem_of_getElem? (i := 1045) (by decide +kernel), List.mem_of_getElem? (i := 1046) (by decide +kernel)⟩
theorem lw_p62 : lw_okq (⟨"CanoeMasterModel", "leads", "(II)V"⟩, 38) := ⟨⟨by decide +kernel, by decide +kernel⟩, List.mem_of_getElem? (i := 725) (by decide +kernel), List.mem_of_getElem? (i := 1049) (by decide +kernel), List.mem_of_getElem? (i := 1050) (by decide +kernel)⟩
theorem lw_p63 : lw_okq (⟨"CanoeMasterModel", "came", "(JI)Z"⟩, 38) := ⟨⟨by decide +kernel, by decide +kernel⟩, List.mem_of_getElem? (i := 725) (by decide +kernel), List.mem_of_getElem? (i := 1053) (by decide +kernel), List.mem_of_getElem? (i := 1054) (by decide +kernel)⟩
def lw_privs_4 : List (MethodName × Nat) := [(⟨"CanoeMasterModel", "next", "()V"⟩, 38), (⟨"CanoeMasterModel", "raw", "(I)I"⟩, 38), (⟨"CanoeMasterModel", "isLetter", "(I)Z"⟩, 38), (⟨"CanoeMasterModel", "isWord", "(IIIIII)Z"⟩, 38), (⟨"CanoeMasterModel", "isDigit", "(I)Z"⟩, 38), (⟨"CanoeMasterModel", "readLine", "()Z"⟩, 38), (⟨"CanoeMasterModel", "fails", "(I)Z"⟩, 38), (⟨"CanoeMasterModel", "takes", "(II)Z"⟩, 38), (⟨"CanoeMasterModel", "sing", "()V"⟩, 38), (⟨"CanoeMasterModel", "at", "(III)I"⟩, 38), (⟨"CanoeMasterModel", "step", "(IIII)V"⟩, 38), (⟨"CanoeMasterModel", "isThere", "(III)Z"⟩, 38), (⟨"CanoeMasterModel", "findBlind", "()I"⟩, 38), (⟨"CanoeMasterModel", "isAllLand", "(J)Z"⟩, 38), (⟨"CanoeMasterModel", "leads", "(II)V"⟩, 38), (⟨"CanoeMasterModel", "came", "(JI)Z"⟩, 38)]
theorem lw_r4 : ∀ q ∈ lw_privs_4, lw_okq q := List.forall_mem_cons.mpr ⟨lw_p48, List.forall_mem_cons.mpr ⟨lw_p49, List.forall_mem_cons.mpr ⟨lw_p50, List.forall_mem_cons.mpr ⟨lw_p51, List.forall_mem_cons.mpr ⟨lw_p52, List.forall_mem_cons.mpr ⟨lw_p53, List.forall_mem_cons.mpr ⟨lw_p54, List.forall_mem_cons.mpr ⟨lw_p55, List.forall_mem_cons.mpr ⟨lw_p56, List.forall_mem_cons.mpr ⟨lw_p57, List.forall_mem_cons.mpr ⟨lw_p58, List.forall_mem_cons.mpr ⟨lw_p59, List.forall_mem_cons.mpr ⟨lw_p60, List.forall_mem_cons.mpr ⟨lw_p61, List.forall_mem_cons.mpr ⟨lw_p62, List.forall_mem_cons.mpr ⟨lw_p63, fun _ h => absurd h List.not_mem_nil⟩⟩⟩⟩⟩⟩⟩⟩⟩⟩⟩⟩⟩⟩⟩⟩
def lw_privs : List (MethodName × Nat) := lw_privs_1 ++ (lw_privs_2 ++ (lw_privs_3 ++ (lw_privs_4)))
def lw_tbl : List Cond := k2_sels lw_privs ++ tables_1
theorem lw_privs_ok : ∀ q ∈ lw_privs, lw_okq q := by
  show ∀ q ∈ lw_privs_1 ++ (lw_privs_2 ++ (lw_privs_3 ++ (lw_privs_4))), lw_okq q
  exact List.forall_mem_append.mpr ⟨lw_r1, List.forall_mem_append.mpr ⟨lw_r2, List.forall_mem_append.mpr ⟨lw_r3, lw_r4⟩⟩⟩
/-! ===== BEGIN words of one list among another's, by their places ===== -/
theorem goodIn_r {big : List Cond} (ws : List Cond) (ps : List Nat) (hp : ws = ps.filterMap (fun i => big[i]?)) (h : ws.all goodWord = true) : GoodIn big ws := by
  intro w hw
  have h1 := List.all_eq_true.mp h w hw
  rw [hp] at hw
  obtain ⟨i, -, hi⟩ := List.mem_filterMap.mp hw
  have hm : w ∈ big := by first | exact List.mem_of_getElem? hi | exact List.getElem?_mem hi
  exact ⟨hm, good_of_word h1⟩
theorem goodIn_app {big a b : List Cond} (ha : GoodIn big a) (hb : GoodIn big b) : GoodIn big (a ++ b) := fun w h => (List.mem_append.mp h).elim (ha w) (hb w)
theorem goodIn_ca {big a b : List Cond} {c : Cond} (ha : GoodIn big (c :: a)) (hb : GoodIn big b) : GoodIn big (c :: (a ++ b)) := fun w h => (List.mem_cons.mp h).elim (fun e => ha w (List.mem_cons.mpr (Or.inl e))) (fun h => (List.mem_append.mp h).elim (fun h => ha w (List.mem_cons.mpr (Or.inr h))) (hb w))
theorem goodIn_sub {big ws : List Cond} (hm : ∀ w ∈ ws, w ∈ big) (h : ws.all goodWord = true) : GoodIn big ws := fun w hw => ⟨hm w hw, good_of_word (List.all_eq_true.mp h w hw)⟩
/-! ===== END ===== -/

/-! ===== BEGIN printed: names, fields, word lists, decode rows ===== -/
def RX0 : String := "CanoeMaster$Chant"
def TX0 : u_T := fun k => match k with
  | 0 => ("CanoeMaster$Chant", "size", "I", false)
  | 1 => ("CanoeMaster$Chant", "ways", "[I", true)
  | 2 => ("CanoeMaster$Chant", "signs", "[I", true)
  | 3 => ("CanoeMaster$Chant", "values", "[I", true)
  | _ => ("CanoeMaster$Chant", "hours", "[I", true)
def tyX0 : Nat → FieldType := fun k => match k with
  | 0 => .int
  | 1 => .array .int
  | 2 => .array .int
  | 3 => .array .int
  | _ => .array .int
abbrev wsX00 : List Cond := u_ws RX0 TX0 5
theorem nmX0 : ∀ a, a < 5 → ∀ b, b < 5 → a ≠ b → (TX0 a).2.1 ≠ (TX0 b).2.1 := by decide +kernel
theorem tyX0_ok : ∀ k, k < 5 → parseFieldDescriptor (TX0 k).2.2.1 = some (tyX0 k) := by decide +kernel
abbrev cX0_init : ByteArray := prog_2_method_1_code
def yX0_init : MethodName := ⟨RX0, "<init>", "()V"⟩
abbrev cX0_add : ByteArray := prog_2_method_2_code
def yX0_add : MethodName := ⟨RX0, "add", "(IIII)V"⟩
abbrev cX0_stops : ByteArray := prog_2_method_3_code
def yX0_stops : MethodName := ⟨RX0, "stops", "(ILCanoeMaster$Sea;I)J"⟩
def RX1 : String := "CanoeMaster$Judge"
def TX1 : u_T := fun k => match k with
  | 0 => ("CanoeMaster$Judge", "heard", "Z", false)
  | 1 => ("CanoeMaster$Judge", "seaVersion", "I", false)
  | 2 => ("CanoeMaster$Judge", "behindLine", "LCanoeMaster$Outcomes;", false)
  | 3 => ("CanoeMaster$Judge", "hourOn", "LCanoeMaster$Outcomes;", false)
  | 4 => ("CanoeMaster$Judge", "thisHour", "LCanoeMaster$Outcomes;", false)
  | 5 => ("CanoeMaster$Judge", "targets", "[I", true)
  | _ => ("CanoeMaster$Judge", "stops", "[J", true)
def tyX1 : Nat → FieldType := fun k => match k with
  | 0 => .boolean
  | 1 => .int
  | 2 => .object "CanoeMaster$Outcomes"
  | 3 => .object "CanoeMaster$Outcomes"
  | 4 => .object "CanoeMaster$Outcomes"
  | 5 => .array .int
  | _ => .array .long
abbrev wsX10 : List Cond := u_ws RX1 TX1 7
theorem nmX1 : ∀ a, a < 7 → ∀ b, b < 7 → a ≠ b → (TX1 a).2.1 ≠ (TX1 b).2.1 := by decide +kernel
theorem tyX1_ok : ∀ k, k < 7 → parseFieldDescriptor (TX1 k).2.2.1 = some (tyX1 k) := by decide +kernel
abbrev cX1_init : ByteArray := prog_3_method_1_code
def yX1_init : MethodName := ⟨RX1, "<init>", "()V"⟩
abbrev cX1_forget : ByteArray := prog_3_method_2_code
def yX1_forget : MethodName := ⟨RX1, "forget", "()V"⟩
abbrev cX1_hear : ByteArray := prog_3_method_3_code
def yX1_hear : MethodName := ⟨RX1, "hear", "(LCanoeMaster$Sea;LCanoeMaster$Chant;)V"⟩
abbrev cX1_standAtEnd : ByteArray := prog_3_method_4_code
def yX1_standAtEnd : MethodName := ⟨RX1, "standAtEnd", "(LCanoeMaster$Sea;)V"⟩
abbrev cX1_goThroughLine : ByteArray := prog_3_method_5_code
def yX1_goThroughLine : MethodName := ⟨RX1, "goThroughLine", "(LCanoeMaster$Sea;LCanoeMaster$Chant;I)V"⟩
abbrev cX1_findTargets : ByteArray := prog_3_method_6_code
def yX1_findTargets : MethodName := ⟨RX1, "findTargets", "(LCanoeMaster$Sea;I)V"⟩
abbrev cX1_goThroughHour : ByteArray := prog_3_method_7_code
def yX1_goThroughHour : MethodName := ⟨RX1, "goThroughHour", "(LCanoeMaster$Sea;I)V"⟩
abbrev cX1_steerOn : ByteArray := prog_3_method_8_code
def yX1_steerOn : MethodName := ⟨RX1, "steerOn", "(IIII)V"⟩
abbrev cX1_longestOf : ByteArray := prog_3_method_9_code
def yX1_longestOf : MethodName := ⟨RX1, "longestOf", "(JI)I"⟩
abbrev cX1_shortestOf : ByteArray := prog_3_method_10_code
def yX1_shortestOf : MethodName := ⟨RX1, "shortestOf", "(JI)I"⟩
abbrev cX1_unsureOf : ByteArray := prog_3_method_11_code
def yX1_unsureOf : MethodName := ⟨RX1, "unsureOf", "(JI)I"⟩
def RX2 : String := "CanoeMaster$Outcomes"
def TX2 : u_T := fun k => match k with
  | 0 => ("CanoeMaster$Outcomes", "most", "[I", true)
  | _ => ("CanoeMaster$Outcomes", "fewest", "[I", true)
def tyX2 : Nat → FieldType := fun k => match k with
  | 0 => .array .int
  | _ => .array .int
abbrev wsX20 : List Cond := u_ws RX2 TX2 2
theorem nmX2 : ∀ a, a < 2 → ∀ b, b < 2 → a ≠ b → (TX2 a).2.1 ≠ (TX2 b).2.1 := by decide +kernel
theorem tyX2_ok : ∀ k, k < 2 → parseFieldDescriptor (TX2 k).2.2.1 = some (tyX2 k) := by decide +kernel
abbrev cX2_init : ByteArray := prog_4_method_1_code
def yX2_init : MethodName := ⟨RX2, "<init>", "()V"⟩
abbrev cX2_set : ByteArray := prog_4_method_2_code
def yX2_set : MethodName := ⟨RX2, "set", "(III)V"⟩
abbrev cX2_copyOf : ByteArray := prog_4_method_3_code
def yX2_copyOf : MethodName := ⟨RX2, "copyOf", "(LCanoeMaster$Outcomes;)V"⟩
def RX3 : String := "CanoeMaster$Reader"
def TX3 : u_T := fun k => match k with
  | 0 => ("CanoeMaster$Reader", "length", "I", false)
  | 1 => ("CanoeMaster$Reader", "fault", "I", false)
  | 2 => ("CanoeMaster$Reader", "faultPlace", "I", false)
  | 3 => ("CanoeMaster$Reader", "tape", "[C", true)
  | 4 => ("CanoeMaster$Reader", "place", "I", false)
  | 5 => ("CanoeMaster$Reader", "token", "I", false)
  | 6 => ("CanoeMaster$Reader", "tokenPlace", "I", false)
  | _ => ("CanoeMaster$Reader", "tokenValue", "I", false)
def tyX3 : Nat → FieldType := fun k => match k with
  | 0 => .int
  | 1 => .int
  | 2 => .int
  | 3 => .array .char
  | 4 => .int
  | 5 => .int
  | 6 => .int
  | _ => .int
abbrev wsX30 : List Cond := u_ws RX3 TX3 8
theorem nmX3 : ∀ a, a < 8 → ∀ b, b < 8 → a ≠ b → (TX3 a).2.1 ≠ (TX3 b).2.1 := by decide +kernel
theorem tyX3_ok : ∀ k, k < 8 → parseFieldDescriptor (TX3 k).2.2.1 = some (tyX3 k) := by decide +kernel
abbrev cX3_init : ByteArray := prog_5_method_1_code
def yX3_init : MethodName := ⟨RX3, "<init>", "()V"⟩
abbrev cX3_append : ByteArray := prog_5_method_2_code
def yX3_append : MethodName := ⟨RX3, "append", "(I)V"⟩
abbrev cX3_readInto : ByteArray := prog_5_method_3_code
def yX3_readInto : MethodName := ⟨RX3, "readInto", "(LCanoeMaster$Chant;)Z"⟩
abbrev cX3_readLine : ByteArray := prog_5_method_4_code
def yX3_readLine : MethodName := ⟨RX3, "readLine", "(LCanoeMaster$Chant;)V"⟩
abbrev cX3_signNamed : ByteArray := prog_5_method_5_code
def yX3_signNamed : MethodName := ⟨RX3, "signNamed", "()I"⟩
abbrev cX3_numberWithin : ByteArray := prog_5_method_6_code
def yX3_numberWithin : MethodName := ⟨RX3, "numberWithin", "(II)I"⟩
abbrev cX3_take : ByteArray := prog_5_method_7_code
def yX3_take : MethodName := ⟨RX3, "take", "(Z)V"⟩
abbrev cX3_blame : ByteArray := prog_5_method_8_code
def yX3_blame : MethodName := ⟨RX3, "blame", "(I)V"⟩
abbrev cX3_readToken : ByteArray := prog_5_method_9_code
def yX3_readToken : MethodName := ⟨RX3, "readToken", "()V"⟩
abbrev cX3_skipLetters : ByteArray := prog_5_method_10_code
def yX3_skipLetters : MethodName := ⟨RX3, "skipLetters", "()V"⟩
abbrev cX3_wordRead : ByteArray := prog_5_method_11_code
def yX3_wordRead : MethodName := ⟨RX3, "wordRead", "()I"⟩
abbrev cX3_spells : ByteArray := prog_5_method_12_code
def yX3_spells : MethodName := ⟨RX3, "spells", "(Ljava/lang/String;)Z"⟩
abbrev cX3_readNumber : ByteArray := prog_5_method_13_code
def yX3_readNumber : MethodName := ⟨RX3, "readNumber", "()V"⟩
abbrev cX3_isBlank : ByteArray := prog_5_method_14_code
def yX3_isBlank : MethodName := ⟨RX3, "isBlank", "(C)Z"⟩
abbrev cX3_isLetter : ByteArray := prog_5_method_15_code
def yX3_isLetter : MethodName := ⟨RX3, "isLetter", "(C)Z"⟩
abbrev cX3_isDigit : ByteArray := prog_5_method_16_code
def yX3_isDigit : MethodName := ⟨RX3, "isDigit", "(C)Z"⟩
def RX4 : String := "CanoeMaster$Sea"
def TX4 : u_T := fun k => match k with
  | 0 => ("CanoeMaster$Sea", "width", "I", false)
  | 1 => ("CanoeMaster$Sea", "height", "I", false)
  | 2 => ("CanoeMaster$Sea", "count", "I", false)
  | 3 => ("CanoeMaster$Sea", "version", "I", false)
  | 4 => ("CanoeMaster$Sea", "cells", "J", false)
  | 5 => ("CanoeMaster$Sea", "shore", "J", false)
  | 6 => ("CanoeMaster$Sea", "nights", "I", false)
  | 7 => ("CanoeMaster$Sea", "flights", "I", false)
  | 8 => ("CanoeMaster$Sea", "reaches", "[I", true)
  | 9 => ("CanoeMaster$Sea", "swells", "[I", true)
  | 10 => ("CanoeMaster$Sea", "driftSets", "[I", true)
  | 11 => ("CanoeMaster$Sea", "columns", "[I", true)
  | 12 => ("CanoeMaster$Sea", "rows", "[I", true)
  | 13 => ("CanoeMaster$Sea", "birdCells", "J", false)
  | 14 => ("CanoeMaster$Sea", "westEdge", "J", false)
  | 15 => ("CanoeMaster$Sea", "eastEdge", "J", false)
  | 16 => ("CanoeMaster$Sea", "northEdge", "J", false)
  | 17 => ("CanoeMaster$Sea", "southEdge", "J", false)
  | 18 => ("CanoeMaster$Sea", "rest", "J", false)
  | _ => ("CanoeMaster$Sea", "shifts", "[J", true)
def tyX4 : Nat → FieldType := fun k => match k with
  | 0 => .int
  | 1 => .int
  | 2 => .int
  | 3 => .int
  | 4 => .long
  | 5 => .long
  | 6 => .int
  | 7 => .int
  | 8 => .array .int
  | 9 => .array .int
  | 10 => .array .int
  | 11 => .array .int
  | 12 => .array .int
  | 13 => .long
  | 14 => .long
  | 15 => .long
  | 16 => .long
  | 17 => .long
  | 18 => .long
  | _ => .array .long
abbrev wsX40 : List Cond := u_ws RX4 TX4 20
theorem nmX4 : ∀ a, a < 20 → ∀ b, b < 20 → a ≠ b → (TX4 a).2.1 ≠ (TX4 b).2.1 := by decide +kernel
theorem tyX4_ok : ∀ k, k < 20 → parseFieldDescriptor (TX4 k).2.2.1 = some (tyX4 k) := by decide +kernel
abbrev cX4_init : ByteArray := prog_6_method_1_code
def yX4_init : MethodName := ⟨RX4, "<init>", "()V"⟩
abbrev cX4_lay : ByteArray := prog_6_method_2_code
def yX4_lay : MethodName := ⟨RX4, "lay", "(II)V"⟩
abbrev cX4_layCells : ByteArray := prog_6_method_3_code
def yX4_layCells : MethodName := ⟨RX4, "layCells", "()V"⟩
abbrev cX4_layCell : ByteArray := prog_6_method_4_code
def yX4_layCell : MethodName := ⟨RX4, "layCell", "(III)V"⟩
abbrev cX4_hasCell : ByteArray := prog_6_method_5_code
def yX4_hasCell : MethodName := ⟨RX4, "hasCell", "(I)Z"⟩
abbrev cX4_setReach : ByteArray := prog_6_method_6_code
def yX4_setReach : MethodName := ⟨RX4, "setReach", "(II)V"⟩
abbrev cX4_landsOfReach : ByteArray := prog_6_method_7_code
def yX4_landsOfReach : MethodName := ⟨RX4, "landsOfReach", "(I)J"⟩
abbrev cX4_grown : ByteArray := prog_6_method_8_code
def yX4_grown : MethodName := ⟨RX4, "grown", "(J)J"⟩
abbrev cX4_setSwell : ByteArray := prog_6_method_9_code
def yX4_setSwell : MethodName := ⟨RX4, "setSwell", "(II)V"⟩
abbrev cX4_setDrifts : ByteArray := prog_6_method_10_code
def yX4_setDrifts : MethodName := ⟨RX4, "setDrifts", "(II)V"⟩
abbrev cX4_setWatches : ByteArray := prog_6_method_11_code
def yX4_setWatches : MethodName := ⟨RX4, "setWatches", "(II)V"⟩
abbrev cX4_driftsBy : ByteArray := prog_6_method_12_code
def yX4_driftsBy : MethodName := ⟨RX4, "driftsBy", "(II)Z"⟩
abbrev cX4_isAllLand : ByteArray := prog_6_method_13_code
def yX4_isAllLand : MethodName := ⟨RX4, "isAllLand", "(J)Z"⟩
abbrev cX4_signAt : ByteArray := prog_6_method_14_code
def yX4_signAt : MethodName := ⟨RX4, "signAt", "(III)I"⟩
abbrev cX4_having : ByteArray := prog_6_method_15_code
def yX4_having : MethodName := ⟨RX4, "having", "(III)J"⟩
abbrev cX4_target : ByteArray := prog_6_method_16_code
def yX4_target : MethodName := ⟨RX4, "target", "(III)I"⟩
abbrev cX4_eastward : ByteArray := prog_6_method_17_code
def yX4_eastward : MethodName := ⟨RX4, "eastward", "(I)I"⟩
abbrev cX4_southward : ByteArray := prog_6_method_18_code
def yX4_southward : MethodName := ⟨RX4, "southward", "(I)I"⟩
abbrev cX4_clamped : ByteArray := prog_6_method_19_code
def yX4_clamped : MethodName := ⟨RX4, "clamped", "(II)I"⟩
abbrev cX4_spread : ByteArray := prog_6_method_20_code
def yX4_spread : MethodName := ⟨RX4, "spread", "(J)V"⟩
abbrev cX4_spreadRow : ByteArray := prog_6_method_21_code
def yX4_spreadRow : MethodName := ⟨RX4, "spreadRow", "(IJ)V"⟩
abbrev cX4_spreadBy : ByteArray := prog_6_method_22_code
def yX4_spreadBy : MethodName := ⟨RX4, "spreadBy", "(II)J"⟩
abbrev cX4_shiftOf : ByteArray := prog_6_method_23_code
def yX4_shiftOf : MethodName := ⟨RX4, "shiftOf", "(I)I"⟩
abbrev cX4_oneWest : ByteArray := prog_6_method_24_code
def yX4_oneWest : MethodName := ⟨RX4, "oneWest", "(J)J"⟩
abbrev cX4_oneEast : ByteArray := prog_6_method_25_code
def yX4_oneEast : MethodName := ⟨RX4, "oneEast", "(J)J"⟩
abbrev cX4_oneNorth : ByteArray := prog_6_method_26_code
def yX4_oneNorth : MethodName := ⟨RX4, "oneNorth", "(J)J"⟩
abbrev cX4_oneSouth : ByteArray := prog_6_method_27_code
def yX4_oneSouth : MethodName := ⟨RX4, "oneSouth", "(J)J"⟩
def RX5 : String := "CanoeMaster$Search"
def TX5 : u_T := fun k => match k with
  | 0 => ("CanoeMaster$Search", "row", "[I", true)
  | 1 => ("CanoeMaster$Search", "sets", "[J", true)
  | 2 => ("CanoeMaster$Search", "setWatches", "[I", true)
  | 3 => ("CanoeMaster$Search", "origins", "[I", true)
  | 4 => ("CanoeMaster$Search", "slots", "[I", true)
  | 5 => ("CanoeMaster$Search", "count", "I", false)
  | 6 => ("CanoeMaster$Search", "asked", "Z", false)
  | 7 => ("CanoeMaster$Search", "askedSet", "J", false)
  | 8 => ("CanoeMaster$Search", "askedWatch", "I", false)
  | 9 => ("CanoeMaster$Search", "askedVersion", "I", false)
  | _ => ("CanoeMaster$Search", "answer", "I", false)
def tyX5 : Nat → FieldType := fun k => match k with
  | 0 => .array .int
  | 1 => .array .long
  | 2 => .array .int
  | 3 => .array .int
  | 4 => .array .int
  | 5 => .int
  | 6 => .boolean
  | 7 => .long
  | 8 => .int
  | 9 => .int
  | _ => .int
abbrev wsX50 : List Cond := u_ws RX5 TX5 11
theorem nmX5 : ∀ a, a < 11 → ∀ b, b < 11 → a ≠ b → (TX5 a).2.1 ≠ (TX5 b).2.1 := by decide +kernel
theorem tyX5_ok : ∀ k, k < 11 → parseFieldDescriptor (TX5 k).2.2.1 = some (tyX5 k) := by decide +kernel
abbrev cX5_init : ByteArray := prog_7_method_1_code
def yX5_init : MethodName := ⟨RX5, "<init>", "()V"⟩
abbrev cX5_shortest : ByteArray := prog_7_method_2_code
def yX5_shortest : MethodName := ⟨RX5, "shortest", "(LCanoeMaster$Sea;JI)I"⟩
abbrev cX5_lookThrough : ByteArray := prog_7_method_3_code
def yX5_lookThrough : MethodName := ⟨RX5, "lookThrough", "(LCanoeMaster$Sea;JI)I"⟩
abbrev cX5_goOn : ByteArray := prog_7_method_4_code
def yX5_goOn : MethodName := ⟨RX5, "goOn", "(LCanoeMaster$Sea;II)I"⟩
abbrev cX5_keepNew : ByteArray := prog_7_method_5_code
def yX5_keepNew : MethodName := ⟨RX5, "keepNew", "(JII)Z"⟩
abbrev cX5_keepAt : ByteArray := prog_7_method_6_code
def yX5_keepAt : MethodName := ⟨RX5, "keepAt", "(IJII)Z"⟩
abbrev cX5_writeRow : ByteArray := prog_7_method_7_code
def yX5_writeRow : MethodName := ⟨RX5, "writeRow", "(III)V"⟩
def RX6 : String := "CanoeMaster"
def TX6 : u_T := fun k => match k with
  | 0 => ("CanoeMaster", "waters", "LCanoeMaster$Sea;", true)
  | 1 => ("CanoeMaster", "reader", "LCanoeMaster$Reader;", true)
  | 2 => ("CanoeMaster", "sung", "LCanoeMaster$Chant;", false)
  | 3 => ("CanoeMaster", "draft", "LCanoeMaster$Chant;", false)
  | 4 => ("CanoeMaster", "within", "J", false)
  | 5 => ("CanoeMaster", "hour", "I", false)
  | 6 => ("CanoeMaster", "canoe", "I", false)
  | 7 => ("CanoeMaster", "judge", "LCanoeMaster$Judge;", false)
  | _ => ("CanoeMaster", "search", "LCanoeMaster$Search;", false)
def tyX6 : Nat → FieldType := fun k => match k with
  | 0 => .object "CanoeMaster$Sea"
  | 1 => .object "CanoeMaster$Reader"
  | 2 => .object "CanoeMaster$Chant"
  | 3 => .object "CanoeMaster$Chant"
  | 4 => .long
  | 5 => .int
  | 6 => .int
  | 7 => .object "CanoeMaster$Judge"
  | _ => .object "CanoeMaster$Search"
abbrev wsX60 : List Cond := u_ws RX6 TX6 9
theorem nmX6 : ∀ a, a < 9 → ∀ b, b < 9 → a ≠ b → (TX6 a).2.1 ≠ (TX6 b).2.1 := by decide +kernel
theorem tyX6_ok : ∀ k, k < 9 → parseFieldDescriptor (TX6 k).2.2.1 = some (tyX6 k) := by decide +kernel
abbrev cX6_init : ByteArray := prog_1_method_1_code
def yX6_init : MethodName := ⟨RX6, "<init>", "()V"⟩
abbrev cX6_sea : ByteArray := prog_1_method_2_code
def yX6_sea : MethodName := ⟨RX6, "sea", "(II)Z"⟩
abbrev cX6_land : ByteArray := prog_1_method_3_code
def yX6_land : MethodName := ⟨RX6, "land", "(II)Z"⟩
abbrev cX6_swell : ByteArray := prog_1_method_4_code
def yX6_swell : MethodName := ⟨RX6, "swell", "(II)Z"⟩
abbrev cX6_drifts : ByteArray := prog_1_method_5_code
def yX6_drifts : MethodName := ⟨RX6, "drifts", "(II)Z"⟩
abbrev cX6_watches : ByteArray := prog_1_method_6_code
def yX6_watches : MethodName := ⟨RX6, "watches", "(II)Z"⟩
abbrev cX6_look : ByteArray := prog_1_method_7_code
def yX6_look : MethodName := ⟨RX6, "look", "(I)I"⟩
abbrev cX6_lookAtRows : ByteArray := prog_1_method_8_code
def yX6_lookAtRows : MethodName := ⟨RX6, "lookAtRows", "(I)I"⟩
abbrev cX6_reckoned : ByteArray := prog_1_method_9_code
def yX6_reckoned : MethodName := ⟨RX6, "reckoned", "()J"⟩
abbrev cX6_begin : ByteArray := prog_1_method_10_code
def yX6_begin : MethodName := ⟨RX6, "begin", "(J)Z"⟩
abbrev cX6_startWith : ByteArray := prog_1_method_11_code
def yX6_startWith : MethodName := ⟨RX6, "startWith", "(J)V"⟩
abbrev cX6_put : ByteArray := prog_1_method_12_code
def yX6_put : MethodName := ⟨RX6, "put", "(I)Z"⟩
abbrev cX6_steer : ByteArray := prog_1_method_13_code
def yX6_steer : MethodName := ⟨RX6, "steer", "(II)I"⟩
abbrev cX6_sign : ByteArray := prog_1_method_14_code
def yX6_sign : MethodName := ⟨RX6, "sign", "(III)I"⟩
abbrev cX6_see : ByteArray := prog_1_method_15_code
def yX6_see : MethodName := ⟨RX6, "see", "(II)I"⟩
abbrev cX6_sights : ByteArray := prog_1_method_16_code
def yX6_sights : MethodName := ⟨RX6, "sights", "()I"⟩
abbrev cX6_feed : ByteArray := prog_1_method_17_code
def yX6_feed : MethodName := ⟨RX6, "feed", "(IIIII)I"⟩
abbrev cX6_end : ByteArray := prog_1_method_18_code
def yX6_end : MethodName := ⟨RX6, "end", "(I)I"⟩
abbrev cX6_chant : ByteArray := prog_1_method_19_code
def yX6_chant : MethodName := ⟨RX6, "chant", "()I"⟩
abbrev cX6_fault : ByteArray := prog_1_method_20_code
def yX6_fault : MethodName := ⟨RX6, "fault", "(I)I"⟩
abbrev cX6_sure : ByteArray := prog_1_method_21_code
def yX6_sure : MethodName := ⟨RX6, "sure", "(I)I"⟩
abbrev cX6_from : ByteArray := prog_1_method_22_code
def yX6_from : MethodName := ⟨RX6, "from", "(I)I"⟩
abbrev cX6_judgeOfNow : ByteArray := prog_1_method_23_code
def yX6_judgeOfNow : MethodName := ⟨RX6, "judgeOfNow", "()LCanoeMaster$Judge;"⟩
abbrev cX6_sings : ByteArray := prog_1_method_24_code
def yX6_sings : MethodName := ⟨RX6, "sings", "(I)I"⟩
abbrev cX6_blind : ByteArray := prog_1_method_25_code
def yX6_blind : MethodName := ⟨RX6, "blind", "(I)I"⟩
abbrev cX6_watchNow : ByteArray := prog_1_method_26_code
def yX6_watchNow : MethodName := ⟨RX6, "watchNow", "()I"⟩
abbrev cX6_isWatch : ByteArray := prog_1_method_27_code
def yX6_isWatch : MethodName := ⟨RX6, "isWatch", "(I)Z"⟩
abbrev cX6_isWatchSet : ByteArray := prog_1_method_28_code
def yX6_isWatchSet : MethodName := ⟨RX6, "isWatchSet", "(I)Z"⟩
abbrev cX6_isWay : ByteArray := prog_1_method_29_code
def yX6_isWay : MethodName := ⟨RX6, "isWay", "(I)Z"⟩
abbrev cX6_isSign : ByteArray := prog_1_method_30_code
def yX6_isSign : MethodName := ⟨RX6, "isSign", "(I)Z"⟩
abbrev cX6_has : ByteArray := prog_1_method_31_code
def yX6_has : MethodName := ⟨RX6, "has", "(JI)Z"⟩
def RX7 : String := "CanoeMasterModel"
def TX7 : u_T := fun k => match k with
  | 0 => ("CanoeMasterModel", "told", "I", false)
  | 1 => ("CanoeMasterModel", "wide", "I", false)
  | 2 => ("CanoeMasterModel", "high", "I", false)
  | 3 => ("CanoeMasterModel", "hour", "I", false)
  | 4 => ("CanoeMasterModel", "reckoned", "J", false)
  | 5 => ("CanoeMasterModel", "canoe", "I", false)
  | 6 => ("CanoeMasterModel", "night", "I", false)
  | 7 => ("CanoeMasterModel", "flight", "I", false)
  | 8 => ("CanoeMasterModel", "land", "[I", true)
  | 9 => ("CanoeMasterModel", "swell", "[I", true)
  | 10 => ("CanoeMasterModel", "drift", "[I", true)
  | 11 => ("CanoeMasterModel", "lines", "I", false)
  | 12 => ("CanoeMasterModel", "lineWay", "[I", true)
  | 13 => ("CanoeMasterModel", "lineSign", "[I", true)
  | 14 => ("CanoeMasterModel", "lineWorth", "[I", true)
  | 15 => ("CanoeMasterModel", "lineHours", "[I", true)
  | 16 => ("CanoeMasterModel", "newLines", "I", false)
  | 17 => ("CanoeMasterModel", "newWay", "[I", true)
  | 18 => ("CanoeMasterModel", "newSign", "[I", true)
  | 19 => ("CanoeMasterModel", "newWorth", "[I", true)
  | 20 => ("CanoeMasterModel", "newHours", "[I", true)
  | 21 => ("CanoeMasterModel", "tape", "[I", true)
  | 22 => ("CanoeMasterModel", "taped", "I", false)
  | 23 => ("CanoeMasterModel", "reads", "I", false)
  | 24 => ("CanoeMasterModel", "from", "I", false)
  | 25 => ("CanoeMasterModel", "token", "I", false)
  | 26 => ("CanoeMasterModel", "number", "I", false)
  | 27 => ("CanoeMasterModel", "faultKind", "I", false)
  | 28 => ("CanoeMasterModel", "faultPlace", "I", false)
  | 29 => ("CanoeMasterModel", "most", "[I", true)
  | 30 => ("CanoeMasterModel", "least", "[I", true)
  | 31 => ("CanoeMasterModel", "sets", "I", false)
  | 32 => ("CanoeMasterModel", "set", "[J", true)
  | 33 => ("CanoeMasterModel", "depth", "[I", true)
  | 34 => ("CanoeMasterModel", "before", "[I", true)
  | 35 => ("CanoeMasterModel", "by", "[I", true)
  | 36 => ("CanoeMasterModel", "blindHours", "I", false)
  | _ => ("CanoeMasterModel", "blindRow", "[I", true)
def tyX7 : Nat → FieldType := fun k => match k with
  | 0 => .int
  | 1 => .int
  | 2 => .int
  | 3 => .int
  | 4 => .long
  | 5 => .int
  | 6 => .int
  | 7 => .int
  | 8 => .array .int
  | 9 => .array .int
  | 10 => .array .int
  | 11 => .int
  | 12 => .array .int
  | 13 => .array .int
  | 14 => .array .int
  | 15 => .array .int
  | 16 => .int
  | 17 => .array .int
  | 18 => .array .int
  | 19 => .array .int
  | 20 => .array .int
  | 21 => .array .int
  | 22 => .int
  | 23 => .int
  | 24 => .int
  | 25 => .int
  | 26 => .int
  | 27 => .int
  | 28 => .int
  | 29 => .array .int
  | 30 => .array .int
  | 31 => .int
  | 32 => .array .long
  | 33 => .array .int
  | 34 => .array .int
  | 35 => .array .int
  | 36 => .int
  | _ => .array .int
abbrev wsX70 : List Cond := u_ws RX7 TX7 38
theorem nmX7 : ∀ a, a < 38 → ∀ b, b < 38 → a ≠ b → (TX7 a).2.1 ≠ (TX7 b).2.1 := by decide +kernel
theorem tyX7_ok : ∀ k, k < 38 → parseFieldDescriptor (TX7 k).2.2.1 = some (tyX7 k) := by decide +kernel
abbrev cX7_init : ByteArray := prog_9_method_1_code
def yX7_init : MethodName := ⟨RX7, "<init>", "()V"⟩
abbrev cX7_cells : ByteArray := prog_9_method_3_code
def yX7_cells : MethodName := ⟨RX7, "cells", "()I"⟩
abbrev cX7_isCell : ByteArray := prog_9_method_4_code
def yX7_isCell : MethodName := ⟨RX7, "isCell", "(I)Z"⟩
abbrev cX7_isLand : ByteArray := prog_9_method_5_code
def yX7_isLand : MethodName := ⟨RX7, "isLand", "(I)Z"⟩
abbrev cX7_all : ByteArray := prog_9_method_6_code
def yX7_all : MethodName := ⟨RX7, "all", "()J"⟩
abbrev cX7_has : ByteArray := prog_9_method_7_code
def yX7_has : MethodName := ⟨RX7, "has", "(JI)Z"⟩
abbrev cX7_count : ByteArray := prog_9_method_8_code
def yX7_count : MethodName := ⟨RX7, "count", "(J)I"⟩
abbrev cX7_sea : ByteArray := prog_9_method_9_code
def yX7_sea : MethodName := ⟨RX7, "sea", "(II)Z"⟩
abbrev cX7_land : ByteArray := prog_9_method_10_code
def yX7_land : MethodName := ⟨RX7, "land", "(II)Z"⟩
abbrev cX7_swell : ByteArray := prog_9_method_11_code
def yX7_swell : MethodName := ⟨RX7, "swell", "(II)Z"⟩
abbrev cX7_drifts : ByteArray := prog_9_method_12_code
def yX7_drifts : MethodName := ⟨RX7, "drifts", "(II)Z"⟩
abbrev cX7_watches : ByteArray := prog_9_method_13_code
def yX7_watches : MethodName := ⟨RX7, "watches", "(II)Z"⟩
abbrev cX7_landsIn : ByteArray := prog_9_method_14_code
def yX7_landsIn : MethodName := ⟨RX7, "landsIn", "(J)I"⟩
abbrev cX7_look : ByteArray := prog_9_method_15_code
def yX7_look : MethodName := ⟨RX7, "look", "(I)I"⟩
abbrev cX7_reckoned : ByteArray := prog_9_method_16_code
def yX7_reckoned : MethodName := ⟨RX7, "reckoned", "()J"⟩
abbrev cX7_begin : ByteArray := prog_9_method_17_code
def yX7_begin : MethodName := ⟨RX7, "begin", "(J)Z"⟩
abbrev cX7_put : ByteArray := prog_9_method_18_code
def yX7_put : MethodName := ⟨RX7, "put", "(I)Z"⟩
abbrev cX7_bound : ByteArray := prog_9_method_19_code
def yX7_bound : MethodName := ⟨RX7, "bound", "(II)I"⟩
abbrev cX7_goes : ByteArray := prog_9_method_20_code
def yX7_goes : MethodName := ⟨RX7, "goes", "(III)I"⟩
abbrev cX7_goesAll : ByteArray := prog_9_method_21_code
def yX7_goesAll : MethodName := ⟨RX7, "goesAll", "(JII)J"⟩
abbrev cX7_steer : ByteArray := prog_9_method_22_code
def yX7_steer : MethodName := ⟨RX7, "steer", "(II)I"⟩
abbrev cX7_far : ByteArray := prog_9_method_23_code
def yX7_far : MethodName := ⟨RX7, "far", "(II)I"⟩
abbrev cX7_signOf : ByteArray := prog_9_method_24_code
def yX7_signOf : MethodName := ⟨RX7, "signOf", "(III)I"⟩
abbrev cX7_sign : ByteArray := prog_9_method_25_code
def yX7_sign : MethodName := ⟨RX7, "sign", "(III)I"⟩
abbrev cX7_seen : ByteArray := prog_9_method_26_code
def yX7_seen : MethodName := ⟨RX7, "seen", "(II)J"⟩
abbrev cX7_see : ByteArray := prog_9_method_27_code
def yX7_see : MethodName := ⟨RX7, "see", "(II)I"⟩
abbrev cX7_sights : ByteArray := prog_9_method_28_code
def yX7_sights : MethodName := ⟨RX7, "sights", "()I"⟩
abbrev cX7_lay : ByteArray := prog_9_method_29_code
def yX7_lay : MethodName := ⟨RX7, "lay", "(I)V"⟩
abbrev cX7_feed : ByteArray := prog_9_method_30_code
def yX7_feed : MethodName := ⟨RX7, "feed", "(IIIII)I"⟩
abbrev cX7_end : ByteArray := prog_9_method_31_code
def yX7_end : MethodName := ⟨RX7, "end", "(I)I"⟩
abbrev cX7_fault : ByteArray := prog_9_method_32_code
def yX7_fault : MethodName := ⟨RX7, "fault", "(I)I"⟩
abbrev cX7_raw : ByteArray := prog_9_method_33_code
def yX7_raw : MethodName := ⟨RX7, "raw", "(I)I"⟩
abbrev cX7_isLetter : ByteArray := prog_9_method_34_code
def yX7_isLetter : MethodName := ⟨RX7, "isLetter", "(I)Z"⟩
abbrev cX7_isDigit : ByteArray := prog_9_method_35_code
def yX7_isDigit : MethodName := ⟨RX7, "isDigit", "(I)Z"⟩
abbrev cX7_isWord : ByteArray := prog_9_method_36_code
def yX7_isWord : MethodName := ⟨RX7, "isWord", "(IIIIII)Z"⟩
abbrev cX7_next : ByteArray := prog_9_method_37_code
def yX7_next : MethodName := ⟨RX7, "next", "()V"⟩
abbrev cX7_fails : ByteArray := prog_9_method_38_code
def yX7_fails : MethodName := ⟨RX7, "fails", "(I)Z"⟩
abbrev cX7_takes : ByteArray := prog_9_method_39_code
def yX7_takes : MethodName := ⟨RX7, "takes", "(II)Z"⟩
abbrev cX7_readLine : ByteArray := prog_9_method_40_code
def yX7_readLine : MethodName := ⟨RX7, "readLine", "()Z"⟩
abbrev cX7_readText : ByteArray := prog_9_method_41_code
def yX7_readText : MethodName := ⟨RX7, "readText", "()Z"⟩
abbrev cX7_chant : ByteArray := prog_9_method_42_code
def yX7_chant : MethodName := ⟨RX7, "chant", "()I"⟩
abbrev cX7_isThere : ByteArray := prog_9_method_43_code
def yX7_isThere : MethodName := ⟨RX7, "isThere", "(III)Z"⟩
abbrev cX7_at : ByteArray := prog_9_method_44_code
def yX7_at : MethodName := ⟨RX7, "at", "(III)I"⟩
abbrev cX7_sing : ByteArray := prog_9_method_45_code
def yX7_sing : MethodName := ⟨RX7, "sing", "()V"⟩
abbrev cX7_step : ByteArray := prog_9_method_46_code
def yX7_step : MethodName := ⟨RX7, "step", "(IIII)V"⟩
abbrev cX7_sure : ByteArray := prog_9_method_47_code
def yX7_sure : MethodName := ⟨RX7, "sure", "(I)I"⟩
abbrev cX7_from : ByteArray := prog_9_method_48_code
def yX7_from : MethodName := ⟨RX7, "from", "(I)I"⟩
abbrev cX7_sings : ByteArray := prog_9_method_49_code
def yX7_sings : MethodName := ⟨RX7, "sings", "(I)I"⟩
abbrev cX7_isAllLand : ByteArray := prog_9_method_50_code
def yX7_isAllLand : MethodName := ⟨RX7, "isAllLand", "(J)Z"⟩
abbrev cX7_came : ByteArray := prog_9_method_51_code
def yX7_came : MethodName := ⟨RX7, "came", "(JI)Z"⟩
abbrev cX7_leads : ByteArray := prog_9_method_52_code
def yX7_leads : MethodName := ⟨RX7, "leads", "(II)V"⟩
abbrev cX7_findBlind : ByteArray := prog_9_method_53_code
def yX7_findBlind : MethodName := ⟨RX7, "findBlind", "()I"⟩
abbrev cX7_blind : ByteArray := prog_9_method_54_code
def yX7_blind : MethodName := ⟨RX7, "blind", "(I)I"⟩
def RJ13 : String := "java/lang/Long"
def TJ13 : u_T := fun k => match k with
  | _ => ("", "", "", false)
def tyJ13 : Nat → FieldType := fun k => match k with
  | _ => .int
abbrev wsJ130 : List Cond := u_ws RJ13 TJ13 0
theorem nmJ13 : ∀ a, a < 0 → ∀ b, b < 0 → a ≠ b → (TJ13 a).2.1 ≠ (TJ13 b).2.1 := by decide +kernel
theorem tyJ13_ok : ∀ k, k < 0 → parseFieldDescriptor (TJ13 k).2.2.1 = some (tyJ13 k) := by decide +kernel
abbrev cJ13_bitCount_95d88 : ByteArray := prog_10_method_50_code
def yJ13_bitCount_95d88 : MethodName := ⟨RJ13, "bitCount", "(J)I"⟩
def RJ9 : String := "java/lang/Math"
def TJ9 : u_T := fun k => match k with
  | _ => ("", "", "", false)
def tyJ9 : Nat → FieldType := fun k => match k with
  | _ => .int
abbrev wsJ90 : List Cond := u_ws RJ9 TJ9 0
theorem nmJ9 : ∀ a, a < 0 → ∀ b, b < 0 → a ≠ b → (TJ9 a).2.1 ≠ (TJ9 b).2.1 := by decide +kernel
theorem tyJ9_ok : ∀ k, k < 0 → parseFieldDescriptor (TJ9 k).2.2.1 = some (tyJ9 k) := by decide +kernel
abbrev cJ9_max_7cf53 : ByteArray := prog_11_method_65_code
def yJ9_max_7cf53 : MethodName := ⟨RJ9, "max", "(II)I"⟩
abbrev cJ9_min_7cf53 : ByteArray := prog_11_method_69_code
def yJ9_min_7cf53 : MethodName := ⟨RJ9, "min", "(II)I"⟩
def RJ0 : String := "java/lang/String"
def TJ0 : u_T := fun k => match k with
  | _ => ("", "", "", false)
def tyJ0 : Nat → FieldType := fun k => match k with
  | _ => .int
abbrev wsJ00 : List Cond := u_ws RJ0 TJ0 0
theorem nmJ0 : ∀ a, a < 0 → ∀ b, b < 0 → a ≠ b → (TJ0 a).2.1 ≠ (TJ0 b).2.1 := by decide +kernel
theorem tyJ0_ok : ∀ k, k < 0 → parseFieldDescriptor (TJ0 k).2.2.1 = some (tyJ0 k) := by decide +kernel
abbrev cJ0_length_8abf5 : ByteArray := prog_12_method_54_code
def yJ0_length_8abf5 : MethodName := ⟨RJ0, "length", "()I"⟩
abbrev cJ0_charAt_5068e : ByteArray := prog_12_method_56_code
def yJ0_charAt_5068e : MethodName := ⟨RJ0, "charAt", "(I)C"⟩
abbrev cJ0_coder_7d493 : ByteArray := prog_12_method_152_code
def yJ0_coder_7d493 : MethodName := ⟨RJ0, "coder", "()B"⟩
abbrev cJ0_isLatin1_aae02 : ByteArray := prog_12_method_154_code
def yJ0_isLatin1_aae02 : MethodName := ⟨RJ0, "isLatin1", "()Z"⟩
abbrev cJ0_checkIndex_df160 : ByteArray := prog_12_method_155_code
def yJ0_checkIndex_df160 : MethodName := ⟨RJ0, "checkIndex", "(II)V"⟩
def RJ1 : String := "java/lang/StringLatin1"
def TJ1 : u_T := fun k => match k with
  | _ => ("", "", "", false)
def tyJ1 : Nat → FieldType := fun k => match k with
  | _ => .int
abbrev wsJ10 : List Cond := u_ws RJ1 TJ1 0
theorem nmJ1 : ∀ a, a < 0 → ∀ b, b < 0 → a ≠ b → (TJ1 a).2.1 ≠ (TJ1 b).2.1 := by decide +kernel
theorem tyJ1_ok : ∀ k, k < 0 → parseFieldDescriptor (TJ1 k).2.2.1 = some (tyJ1 k) := by decide +kernel
abbrev cJ1_charAt_3b067 : ByteArray := prog_13_method_2_code
def yJ1_charAt_3b067 : MethodName := ⟨RJ1, "charAt", "([BI)C"⟩
def RJ2 : String := "java/lang/StringUTF16"
def TJ2 : u_T := fun k => match k with
  | _ => ("", "", "", false)
def tyJ2 : Nat → FieldType := fun k => match k with
  | _ => .int
abbrev wsJ20 : List Cond := u_ws RJ2 TJ2 0
theorem nmJ2 : ∀ a, a < 0 → ∀ b, b < 0 → a ≠ b → (TJ2 a).2.1 ≠ (TJ2 b).2.1 := by decide +kernel
theorem tyJ2_ok : ∀ k, k < 0 → parseFieldDescriptor (TJ2 k).2.2.1 = some (tyJ2 k) := by decide +kernel
abbrev cJ2_getChar_3b067 : ByteArray := prog_14_method_5_code
def yJ2_getChar_3b067 : MethodName := ⟨RJ2, "getChar", "([BI)C"⟩
abbrev cJ2_length_9d52b : ByteArray := prog_14_method_6_code
def yJ2_length_9d52b : MethodName := ⟨RJ2, "length", "([B)I"⟩
abbrev cJ2_charAt_3b067 : ByteArray := prog_14_method_83_code
def yJ2_charAt_3b067 : MethodName := ⟨RJ2, "charAt", "([BI)C"⟩
abbrev cJ2_checkIndex_2214a : ByteArray := prog_14_method_91_code
def yJ2_checkIndex_2214a : MethodName := ⟨RJ2, "checkIndex", "(I[B)V"⟩
def RJ10 : String := "java/lang/System"
def TJ10 : u_T := fun k => match k with
  | _ => ("", "", "", false)
def tyJ10 : Nat → FieldType := fun k => match k with
  | _ => .int
abbrev wsJ100 : List Cond := u_ws RJ10 TJ10 0
theorem nmJ10 : ∀ a, a < 0 → ∀ b, b < 0 → a ≠ b → (TJ10 a).2.1 ≠ (TJ10 b).2.1 := by decide +kernel
theorem tyJ10_ok : ∀ k, k < 0 → parseFieldDescriptor (TJ10 k).2.2.1 = some (tyJ10 k) := by decide +kernel
def RJ7 : String := "java/util/Arrays"
def TJ7 : u_T := fun k => match k with
  | _ => ("", "", "", false)
def tyJ7 : Nat → FieldType := fun k => match k with
  | _ => .int
abbrev wsJ70 : List Cond := u_ws RJ7 TJ7 0
theorem nmJ7 : ∀ a, a < 0 → ∀ b, b < 0 → a ≠ b → (TJ7 a).2.1 ≠ (TJ7 b).2.1 := by decide +kernel
theorem tyJ7_ok : ∀ k, k < 0 → parseFieldDescriptor (TJ7 k).2.2.1 = some (tyJ7 k) := by decide +kernel
abbrev cJ7_fill_53178 : ByteArray := prog_16_method_103_code
def yJ7_fill_53178 : MethodName := ⟨RJ7, "fill", "([II)V"⟩
def RJ3 : String := "jdk/internal/util/Preconditions"
def TJ3 : u_T := fun k => match k with
  | _ => ("", "", "", false)
def tyJ3 : Nat → FieldType := fun k => match k with
  | _ => .int
abbrev wsJ30 : List Cond := u_ws RJ3 TJ3 0
theorem nmJ3 : ∀ a, a < 0 → ∀ b, b < 0 → a ≠ b → (TJ3 a).2.1 ≠ (TJ3 b).2.1 := by decide +kernel
theorem tyJ3_ok : ∀ k, k < 0 → parseFieldDescriptor (TJ3 k).2.2.1 = some (tyJ3 k) := by decide +kernel
abbrev cJ3_checkIndex_8e157 : ByteArray := prog_17_method_11_code
def yJ3_checkIndex_8e157 : MethodName := ⟨RJ3, "checkIndex", "(IILjava/util/function/BiFunction;)I"⟩
def RL : String := "CanoeMasterLaw"
abbrev cL_law : ByteArray := code
def yL_law : MethodName := ⟨RL, "law", "([I)Z"⟩
abbrev vwCl : List vw_C := [(RX0, TX0, 5), (RX1, TX1, 7), (RX2, TX2, 2), (RX3, TX3, 8), (RX4, TX4, 20), (RX5, TX5, 11), (RX6, TX6, 9), (RX7, TX7, 38)]
set_option maxRecDepth 20000 in
theorem inX0 : ∀ w ∈ wsX00, w ∈ lw_tbl := by decide +kernel
set_option maxRecDepth 20000 in
theorem inX1 : ∀ w ∈ wsX10, w ∈ lw_tbl := by decide +kernel
set_option maxRecDepth 20000 in
theorem inX2 : ∀ w ∈ wsX20, w ∈ lw_tbl := by decide +kernel
set_option maxRecDepth 20000 in
theorem inX3 : ∀ w ∈ wsX30, w ∈ lw_tbl := by decide +kernel
set_option maxRecDepth 20000 in
theorem inX4 : ∀ w ∈ wsX40, w ∈ lw_tbl := by decide +kernel
set_option maxRecDepth 20000 in
theorem inX5 : ∀ w ∈ wsX50, w ∈ lw_tbl := by decide +kernel
set_option maxRecDepth 20000 in
theorem inX6 : ∀ w ∈ wsX60, w ∈ lw_tbl := by decide +kernel
set_option maxRecDepth 20000 in
theorem inX7 : ∀ w ∈ wsX70, w ∈ lw_tbl := by decide +kernel
