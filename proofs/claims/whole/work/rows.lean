section
-- ===== PART A: goes FIRST, ahead of the names: the tables' words, and 'selects' of the private methods out of them =====
/-- a private method of a class that the tables say can be made, by its rows of tables_1 -/
def lw_okq (q : MethodName × Nat) : Prop := (q.1.cls ≠ "java/lang/invoke/MethodHandle" ∧ q.1.cls ≠ "java/lang/invoke/VarHandle") ∧ Cond.instantiable q.1.cls q.2 ∈ tables_1 ∧ Cond.privateMethod q.1 ∈ tables_1 ∧ Cond.instanceMethod q.1 ∈ tables_1
theorem lw_p0 : lw_okq (⟨"CanoeMaster$Sea", "layCells", "()V"⟩, 20) := ⟨⟨by decide +kernel, by decide +kernel⟩, List.mem_of_getElem? (i := 26) (by decide +kernel), List.mem_of_getElem? (i := 179) (by decide +kernel), List.mem_of_getElem? (i := 180) (by decide +kernel)⟩
theorem lw_p1 : lw_okq (⟨"CanoeMaster$Sea", "layCell", "(III)V"⟩, 20) := ⟨⟨by decide +kernel, by decide +kernel⟩, List.mem_of_getElem? (i := 26) (by decide +kernel), List.mem_of_getElem? (i := 183) (by decide +kernel), List.mem_of_getElem? (i := 184) (by decide +kernel)⟩
theorem lw_p2 : lw_okq (⟨"CanoeMaster", "startWith", "(J)V"⟩, 9) := ⟨⟨by decide +kernel, by decide +kernel⟩, List.mem_of_getElem? (i := 18) (by decide +kernel), List.mem_of_getElem? (i := 219) (by decide +kernel), List.mem_of_getElem? (i := 220) (by decide +kernel)⟩
theorem lw_p3 : lw_okq (⟨"CanoeMaster$Sea", "grown", "(J)J"⟩, 20) := ⟨⟨by decide +kernel, by decide +kernel⟩, List.mem_of_getElem? (i := 26) (by decide +kernel), List.mem_of_getElem? (i := 236) (by decide +kernel), List.mem_of_getElem? (i := 237) (by decide +kernel)⟩
theorem lw_p4 : lw_okq (⟨"CanoeMaster$Sea", "oneWest", "(J)J"⟩, 20) := ⟨⟨by decide +kernel, by decide +kernel⟩, List.mem_of_getElem? (i := 26) (by decide +kernel), List.mem_of_getElem? (i := 240) (by decide +kernel), List.mem_of_getElem? (i := 241) (by decide +kernel)⟩
theorem lw_p5 : lw_okq (⟨"CanoeMaster$Sea", "oneEast", "(J)J"⟩, 20) := ⟨⟨by decide +kernel, by decide +kernel⟩, List.mem_of_getElem? (i := 26) (by decide +kernel), List.mem_of_getElem? (i := 244) (by decide +kernel), List.mem_of_getElem? (i := 245) (by decide +kernel)⟩
theorem lw_p6 : lw_okq (⟨"CanoeMaster$Sea", "oneNorth", "(J)J"⟩, 20) := ⟨⟨by decide +kernel, by decide +kernel⟩, List.mem_of_getElem? (i := 26) (by decide +kernel), List.mem_of_getElem? (i := 248) (by decide +kernel), List.mem_of_getElem? (i := 249) (by decide +kernel)⟩
theorem lw_p7 : lw_okq (⟨"CanoeMaster$Sea", "oneSouth", "(J)J"⟩, 20) := ⟨⟨by decide +kernel, by decide +kernel⟩, List.mem_of_getElem? (i := 26) (by decide +kernel), List.mem_of_getElem? (i := 252) (by decide +kernel), List.mem_of_getElem? (i := 253) (by decide +kernel)⟩
theorem lw_p8 : lw_okq (⟨"CanoeMaster$Sea", "landsOfReach", "(I)J"⟩, 20) := ⟨⟨by decide +kernel, by decide +kernel⟩, List.mem_of_getElem? (i := 26) (by decide +kernel), List.mem_of_getElem? (i := 256) (by decide +kernel), List.mem_of_getElem? (i := 257) (by decide +kernel)⟩
theorem lw_p9 : lw_okq (⟨"CanoeMaster", "lookAtRows", "(I)I"⟩, 9) := ⟨⟨by decide +kernel, by decide +kernel⟩, List.mem_of_getElem? (i := 18) (by decide +kernel), List.mem_of_getElem? (i := 300) (by decide +kernel), List.mem_of_getElem? (i := 301) (by decide +kernel)⟩
theorem lw_p10 : lw_okq (⟨"CanoeMaster", "watchNow", "()I"⟩, 9) := ⟨⟨by decide +kernel, by decide +kernel⟩, List.mem_of_getElem? (i := 18) (by decide +kernel), List.mem_of_getElem? (i := 324) (by decide +kernel), List.mem_of_getElem? (i := 325) (by decide +kernel)⟩
theorem lw_p11 : lw_okq (⟨"CanoeMaster$Sea", "spreadRow", "(IJ)V"⟩, 20) := ⟨⟨by decide +kernel, by decide +kernel⟩, List.mem_of_getElem? (i := 26) (by decide +kernel), List.mem_of_getElem? (i := 340) (by decide +kernel), List.mem_of_getElem? (i := 341) (by decide +kernel)⟩
theorem lw_p12 : lw_okq (⟨"CanoeMaster$Reader", "readToken", "()V"⟩, 8) := ⟨⟨by decide +kernel, by decide +kernel⟩, List.mem_of_getElem? (i := 109) (by decide +kernel), List.mem_of_getElem? (i := 415) (by decide +kernel), List.mem_of_getElem? (i := 416) (by decide +kernel)⟩
theorem lw_p13 : lw_okq (⟨"CanoeMaster$Reader", "skipLetters", "()V"⟩, 8) := ⟨⟨by decide +kernel, by decide +kernel⟩, List.mem_of_getElem? (i := 109) (by decide +kernel), List.mem_of_getElem? (i := 425) (by decide +kernel), List.mem_of_getElem? (i := 426) (by decide +kernel)⟩
theorem lw_p14 : lw_okq (⟨"CanoeMaster$Reader", "wordRead", "()I"⟩, 8) := ⟨⟨by decide +kernel, by decide +kernel⟩, List.mem_of_getElem? (i := 109) (by decide +kernel), List.mem_of_getElem? (i := 429) (by decide +kernel), List.mem_of_getElem? (i := 430) (by decide +kernel)⟩
theorem lw_p15 : lw_okq (⟨"CanoeMaster$Reader", "spells", "(Ljava/lang/String;)Z"⟩, 8) := ⟨⟨by decide +kernel, by decide +kernel⟩, List.mem_of_getElem? (i := 109) (by decide +kernel), List.mem_of_getElem? (i := 434) (by decide +kernel), List.mem_of_getElem? (i := 435) (by decide +kernel)⟩
def lw_privs_1 : List (MethodName × Nat) := [(⟨"CanoeMaster$Sea", "layCells", "()V"⟩, 20), (⟨"CanoeMaster$Sea", "layCell", "(III)V"⟩, 20), (⟨"CanoeMaster", "startWith", "(J)V"⟩, 9), (⟨"CanoeMaster$Sea", "grown", "(J)J"⟩, 20), (⟨"CanoeMaster$Sea", "oneWest", "(J)J"⟩, 20), (⟨"CanoeMaster$Sea", "oneEast", "(J)J"⟩, 20), (⟨"CanoeMaster$Sea", "oneNorth", "(J)J"⟩, 20), (⟨"CanoeMaster$Sea", "oneSouth", "(J)J"⟩, 20), (⟨"CanoeMaster$Sea", "landsOfReach", "(I)J"⟩, 20), (⟨"CanoeMaster", "lookAtRows", "(I)I"⟩, 9), (⟨"CanoeMaster", "watchNow", "()I"⟩, 9), (⟨"CanoeMaster$Sea", "spreadRow", "(IJ)V"⟩, 20), (⟨"CanoeMaster$Reader", "readToken", "()V"⟩, 8), (⟨"CanoeMaster$Reader", "skipLetters", "()V"⟩, 8), (⟨"CanoeMaster$Reader", "wordRead", "()I"⟩, 8), (⟨"CanoeMaster$Reader", "spells", "(Ljava/lang/String;)Z"⟩, 8)]
theorem lw_r1 : ∀ q ∈ lw_privs_1, lw_okq q := List.forall_mem_cons.mpr ⟨lw_p0, List.forall_mem_cons.mpr ⟨lw_p1, List.forall_mem_cons.mpr ⟨lw_p2, List.forall_mem_cons.mpr ⟨lw_p3, List.forall_mem_cons.mpr ⟨lw_p4, List.forall_mem_cons.mpr ⟨lw_p5, List.forall_mem_cons.mpr ⟨lw_p6, List.forall_mem_cons.mpr ⟨lw_p7, List.forall_mem_cons.mpr ⟨lw_p8, List.forall_mem_cons.mpr ⟨lw_p9, List.forall_mem_cons.mpr ⟨lw_p10, List.forall_mem_cons.mpr ⟨lw_p11, List.forall_mem_cons.mpr ⟨lw_p12, List.forall_mem_cons.mpr ⟨lw_p13, List.forall_mem_cons.mpr ⟨lw_p14, List.forall_mem_cons.mpr ⟨lw_p15, fun _ h => absurd h List.not_mem_nil⟩⟩⟩⟩⟩⟩⟩⟩⟩⟩⟩⟩⟩⟩⟩⟩
theorem lw_p16 : lw_okq (⟨"CanoeMaster$Reader", "readNumber", "()V"⟩, 8) := ⟨⟨by decide +kernel, by decide +kernel⟩, List.mem_of_getElem? (i := 109) (by decide +kernel), List.mem_of_getElem? (i := 494) (by decide +kernel), List.mem_of_getElem? (i := 495) (by decide +kernel)⟩
theorem lw_p17 : lw_okq (⟨"CanoeMaster$Reader", "readLine", "(LCanoeMaster$Chant;)V"⟩, 8) := ⟨⟨by decide +kernel, by decide +kernel⟩, List.mem_of_getElem? (i := 109) (by decide +kernel), List.mem_of_getElem? (i := 498) (by decide +kernel), List.mem_of_getElem? (i := 499) (by decide +kernel)⟩
theorem lw_p18 : lw_okq (⟨"CanoeMaster$Reader", "blame", "(I)V"⟩, 8) := ⟨⟨by decide +kernel, by decide +kernel⟩, List.mem_of_getElem? (i := 109) (by decide +kernel), List.mem_of_getElem? (i := 502) (by decide +kernel), List.mem_of_getElem? (i := 503) (by decide +kernel)⟩
theorem lw_p19 : lw_okq (⟨"CanoeMaster$Reader", "take", "(Z)V"⟩, 8) := ⟨⟨by decide +kernel, by decide +kernel⟩, List.mem_of_getElem? (i := 109) (by decide +kernel), List.mem_of_getElem? (i := 506) (by decide +kernel), List.mem_of_getElem? (i := 507) (by decide +kernel)⟩
theorem lw_p20 : lw_okq (⟨"CanoeMaster$Reader", "numberWithin", "(II)I"⟩, 8) := ⟨⟨by decide +kernel, by decide +kernel⟩, List.mem_of_getElem? (i := 109) (by decide +kernel), List.mem_of_getElem? (i := 510) (by decide +kernel), List.mem_of_getElem? (i := 511) (by decide +kernel)⟩
theorem lw_p21 : lw_okq (⟨"CanoeMaster$Reader", "signNamed", "()I"⟩, 8) := ⟨⟨by decide +kernel, by decide +kernel⟩, List.mem_of_getElem? (i := 109) (by decide +kernel), List.mem_of_getElem? (i := 514) (by decide +kernel), List.mem_of_getElem? (i := 515) (by decide +kernel)⟩
theorem lw_p22 : lw_okq (⟨"CanoeMaster", "judgeOfNow", "()LCanoeMaster$Judge;"⟩, 9) := ⟨⟨by decide +kernel, by decide +kernel⟩, List.mem_of_getElem? (i := 18) (by decide +kernel), List.mem_of_getElem? (i := 535) (by decide +kernel), List.mem_of_getElem? (i := 536) (by decide +kernel)⟩
theorem lw_p23 : lw_okq (⟨"CanoeMaster$Judge", "standAtEnd", "(LCanoeMaster$Sea;)V"⟩, 7) := ⟨⟨by decide +kernel, by decide +kernel⟩, List.mem_of_getElem? (i := 539) (by decide +kernel), List.mem_of_getElem? (i := 586) (by decide +kernel), List.mem_of_getElem? (i := 587) (by decide +kernel)⟩
theorem lw_p24 : lw_okq (⟨"CanoeMaster$Judge", "goThroughLine", "(LCanoeMaster$Sea;LCanoeMaster$Chant;I)V"⟩, 7) := ⟨⟨by decide +kernel, by decide +kernel⟩, List.mem_of_getElem? (i := 539) (by decide +kernel), List.mem_of_getElem? (i := 596) (by decide +kernel), List.mem_of_getElem? (i := 597) (by decide +kernel)⟩
theorem lw_p25 : lw_okq (⟨"CanoeMaster$Judge", "findTargets", "(LCanoeMaster$Sea;I)V"⟩, 7) := ⟨⟨by decide +kernel, by decide +kernel⟩, List.mem_of_getElem? (i := 539) (by decide +kernel), List.mem_of_getElem? (i := 600) (by decide +kernel), List.mem_of_getElem? (i := 601) (by decide +kernel)⟩
theorem lw_p26 : lw_okq (⟨"CanoeMaster$Judge", "goThroughHour", "(LCanoeMaster$Sea;I)V"⟩, 7) := ⟨⟨by decide +kernel, by decide +kernel⟩, List.mem_of_getElem? (i := 539) (by decide +kernel), List.mem_of_getElem? (i := 617) (by decide +kernel), List.mem_of_getElem? (i := 618) (by decide +kernel)⟩
theorem lw_p27 : lw_okq (⟨"CanoeMaster$Judge", "steerOn", "(IIII)V"⟩, 7) := ⟨⟨by decide +kernel, by decide +kernel⟩, List.mem_of_getElem? (i := 539) (by decide +kernel), List.mem_of_getElem? (i := 621) (by decide +kernel), List.mem_of_getElem? (i := 622) (by decide +kernel)⟩
theorem lw_p28 : lw_okq (⟨"CanoeMaster$Search", "lookThrough", "(LCanoeMaster$Sea;JI)I"⟩, 11) := ⟨⟨by decide +kernel, by decide +kernel⟩, List.mem_of_getElem? (i := 652) (by decide +kernel), List.mem_of_getElem? (i := 701) (by decide +kernel), List.mem_of_getElem? (i := 702) (by decide +kernel)⟩
theorem lw_p29 : lw_okq (⟨"CanoeMaster$Search", "keepNew", "(JII)Z"⟩, 11) := ⟨⟨by decide +kernel, by decide +kernel⟩, List.mem_of_getElem? (i := 652) (by decide +kernel), List.mem_of_getElem? (i := 706) (by decide +kernel), List.mem_of_getElem? (i := 707) (by decide +kernel)⟩
theorem lw_p30 : lw_okq (⟨"CanoeMaster$Search", "keepAt", "(IJII)Z"⟩, 11) := ⟨⟨by decide +kernel, by decide +kernel⟩, List.mem_of_getElem? (i := 652) (by decide +kernel), List.mem_of_getElem? (i := 711) (by decide +kernel), List.mem_of_getElem? (i := 712) (by decide +kernel)⟩
theorem lw_p31 : lw_okq (⟨"CanoeMaster$Search", "goOn", "(LCanoeMaster$Sea;II)I"⟩, 11) := ⟨⟨by decide +kernel, by decide +kernel⟩, List.mem_of_getElem? (i := 652) (by decide +kernel), List.mem_of_getElem? (i := 715) (by decide +kernel), List.mem_of_getElem? (i := 716) (by decide +kernel)⟩
def lw_privs_2 : List (MethodName × Nat) := [(⟨"CanoeMaster$Reader", "readNumber", "()V"⟩, 8), (⟨"CanoeMaster$Reader", "readLine", "(LCanoeMaster$Chant;)V"⟩, 8), (⟨"CanoeMaster$Reader", "blame", "(I)V"⟩, 8), (⟨"CanoeMaster$Reader", "take", "(Z)V"⟩, 8), (⟨"CanoeMaster$Reader", "numberWithin", "(II)I"⟩, 8), (⟨"CanoeMaster$Reader", "signNamed", "()I"⟩, 8), (⟨"CanoeMaster", "judgeOfNow", "()LCanoeMaster$Judge;"⟩, 9), (⟨"CanoeMaster$Judge", "standAtEnd", "(LCanoeMaster$Sea;)V"⟩, 7), (⟨"CanoeMaster$Judge", "goThroughLine", "(LCanoeMaster$Sea;LCanoeMaster$Chant;I)V"⟩, 7), (⟨"CanoeMaster$Judge", "findTargets", "(LCanoeMaster$Sea;I)V"⟩, 7), (⟨"CanoeMaster$Judge", "goThroughHour", "(LCanoeMaster$Sea;I)V"⟩, 7), (⟨"CanoeMaster$Judge", "steerOn", "(IIII)V"⟩, 7), (⟨"CanoeMaster$Search", "lookThrough", "(LCanoeMaster$Sea;JI)I"⟩, 11), (⟨"CanoeMaster$Search", "keepNew", "(JII)Z"⟩, 11), (⟨"CanoeMaster$Search", "keepAt", "(IJII)Z"⟩, 11), (⟨"CanoeMaster$Search", "goOn", "(LCanoeMaster$Sea;II)I"⟩, 11)]
theorem lw_r2 : ∀ q ∈ lw_privs_2, lw_okq q := List.forall_mem_cons.mpr ⟨lw_p16, List.forall_mem_cons.mpr ⟨lw_p17, List.forall_mem_cons.mpr ⟨lw_p18, List.forall_mem_cons.mpr ⟨lw_p19, List.forall_mem_cons.mpr ⟨lw_p20, List.forall_mem_cons.mpr ⟨lw_p21, List.forall_mem_cons.mpr ⟨lw_p22, List.forall_mem_cons.mpr ⟨lw_p23, List.forall_mem_cons.mpr ⟨lw_p24, List.forall_mem_cons.mpr ⟨lw_p25, List.forall_mem_cons.mpr ⟨lw_p26, List.forall_mem_cons.mpr ⟨lw_p27, List.forall_mem_cons.mpr ⟨lw_p28, List.forall_mem_cons.mpr ⟨lw_p29, List.forall_mem_cons.mpr ⟨lw_p30, List.forall_mem_cons.mpr ⟨lw_p31, fun _ h => absurd h List.not_mem_nil⟩⟩⟩⟩⟩⟩⟩⟩⟩⟩⟩⟩⟩⟩⟩⟩
theorem lw_p32 : lw_okq (⟨"CanoeMaster$Search", "writeRow", "(III)V"⟩, 11) := ⟨⟨by decide +kernel, by decide +kernel⟩, List.mem_of_getElem? (i := 652) (by decide +kernel), List.mem_of_getElem? (i := 721) (by decide +kernel), List.mem_of_getElem? (i := 722) (by decide +kernel)⟩
theorem lw_p33 : lw_okq (⟨"CanoeMasterModel", "all", "()J"⟩, 38) := ⟨⟨by decide +kernel, by decide +kernel⟩, List.mem_of_getElem? (i := 725) (by decide +kernel), List.mem_of_getElem? (i := 851) (by decide +kernel), List.mem_of_getElem? (i := 852) (by decide +kernel)⟩
theorem lw_p34 : lw_okq (⟨"CanoeMasterModel", "cells", "()I"⟩, 38) := ⟨⟨by decide +kernel, by decide +kernel⟩, List.mem_of_getElem? (i := 725) (by decide +kernel), List.mem_of_getElem? (i := 855) (by decide +kernel), List.mem_of_getElem? (i := 856) (by decide +kernel)⟩
theorem lw_p35 : lw_okq (⟨"CanoeMasterModel", "isCell", "(I)Z"⟩, 38) := ⟨⟨by decide +kernel, by decide +kernel⟩, List.mem_of_getElem? (i := 725) (by decide +kernel), List.mem_of_getElem? (i := 864) (by decide +kernel), List.mem_of_getElem? (i := 865) (by decide +kernel)⟩
theorem lw_p36 : lw_okq (⟨"CanoeMasterModel", "count", "(J)I"⟩, 38) := ⟨⟨by decide +kernel, by decide +kernel⟩, List.mem_of_getElem? (i := 725) (by decide +kernel), List.mem_of_getElem? (i := 884) (by decide +kernel), List.mem_of_getElem? (i := 885) (by decide +kernel)⟩
theorem lw_p37 : lw_okq (⟨"CanoeMasterModel", "has", "(JI)Z"⟩, 38) := ⟨⟨by decide +kernel, by decide +kernel⟩, List.mem_of_getElem? (i := 725) (by decide +kernel), List.mem_of_getElem? (i := 888) (by decide +kernel), List.mem_of_getElem? (i := 889) (by decide +kernel)⟩
theorem lw_p38 : lw_okq (⟨"CanoeMasterModel", "landsIn", "(J)I"⟩, 38) := ⟨⟨by decide +kernel, by decide +kernel⟩, List.mem_of_getElem? (i := 725) (by decide +kernel), List.mem_of_getElem? (i := 892) (by decide +kernel), List.mem_of_getElem? (i := 893) (by decide +kernel)⟩
theorem lw_p39 : lw_okq (⟨"CanoeMasterModel", "isLand", "(I)Z"⟩, 38) := ⟨⟨by decide +kernel, by decide +kernel⟩, List.mem_of_getElem? (i := 725) (by decide +kernel), List.mem_of_getElem? (i := 896) (by decide +kernel), List.mem_of_getElem? (i := 897) (by decide +kernel)⟩
theorem lw_p40 : lw_okq (⟨"CanoeMasterModel", "goesAll", "(JII)J"⟩, 38) := ⟨⟨by decide +kernel, by decide +kernel⟩, List.mem_of_getElem? (i := 725) (by decide +kernel), List.mem_of_getElem? (i := 916) (by decide +kernel), List.mem_of_getElem? (i := 917) (by decide +kernel)⟩
theorem lw_p41 : lw_okq (⟨"CanoeMasterModel", "goes", "(III)I"⟩, 38) := ⟨⟨by decide +kernel, by decide +kernel⟩, List.mem_of_getElem? (i := 725) (by decide +kernel), List.mem_of_getElem? (i := 920) (by decide +kernel), List.mem_of_getElem? (i := 921) (by decide +kernel)⟩
theorem lw_p42 : lw_okq (⟨"CanoeMasterModel", "bound", "(II)I"⟩, 38) := ⟨⟨by decide +kernel, by decide +kernel⟩, List.mem_of_getElem? (i := 725) (by decide +kernel), List.mem_of_getElem? (i := 924) (by decide +kernel), List.mem_of_getElem? (i := 925) (by decide +kernel)⟩
theorem lw_p43 : lw_okq (⟨"CanoeMasterModel", "signOf", "(III)I"⟩, 38) := ⟨⟨by decide +kernel, by decide +kernel⟩, List.mem_of_getElem? (i := 725) (by decide +kernel), List.mem_of_getElem? (i := 932) (by decide +kernel), List.mem_of_getElem? (i := 933) (by decide +kernel)⟩
theorem lw_p44 : lw_okq (⟨"CanoeMasterModel", "far", "(II)I"⟩, 38) := ⟨⟨by decide +kernel, by decide +kernel⟩, List.mem_of_getElem? (i := 725) (by decide +kernel), List.mem_of_getElem? (i := 936) (by decide +kernel), List.mem_of_getElem? (i := 937) (by decide +kernel)⟩
theorem lw_p45 : lw_okq (⟨"CanoeMasterModel", "seen", "(II)J"⟩, 38) := ⟨⟨by decide +kernel, by decide +kernel⟩, List.mem_of_getElem? (i := 725) (by decide +kernel), List.mem_of_getElem? (i := 944) (by decide +kernel), List.mem_of_getElem? (i := 945) (by decide +kernel)⟩
theorem lw_p46 : lw_okq (⟨"CanoeMasterModel", "lay", "(I)V"⟩, 38) := ⟨⟨by decide +kernel, by decide +kernel⟩, List.mem_of_getElem? (i := 725) (by decide +kernel), List.mem_of_getElem? (i := 956) (by decide +kernel), List.mem_of_getElem? (i := 957) (by decide +kernel)⟩
theorem lw_p47 : lw_okq (⟨"CanoeMasterModel", "readText", "()Z"⟩, 38) := ⟨⟨by decide +kernel, by decide +kernel⟩, List.mem_of_getElem? (i := 725) (by decide +kernel), List.mem_of_getElem? (i := 972) (by decide +kernel), List.mem_of_getElem? (i := 973) (by decide +kernel)⟩
def lw_privs_3 : List (MethodName × Nat) := [(⟨"CanoeMaster$Search", "writeRow", "(III)V"⟩, 11), (⟨"CanoeMasterModel", "all", "()J"⟩, 38), (⟨"CanoeMasterModel", "cells", "()I"⟩, 38), (⟨"CanoeMasterModel", "isCell", "(I)Z"⟩, 38), (⟨"CanoeMasterModel", "count", "(J)I"⟩, 38), (⟨"CanoeMasterModel", "has", "(JI)Z"⟩, 38), (⟨"CanoeMasterModel", "landsIn", "(J)I"⟩, 38), (⟨"CanoeMasterModel", "isLand", "(I)Z"⟩, 38), (⟨"CanoeMasterModel", "goesAll", "(JII)J"⟩, 38), (⟨"CanoeMasterModel", "goes", "(III)I"⟩, 38), (⟨"CanoeMasterModel", "bound", "(II)I"⟩, 38), (⟨"CanoeMasterModel", "signOf", "(III)I"⟩, 38), (⟨"CanoeMasterModel", "far", "(II)I"⟩, 38), (⟨"CanoeMasterModel", "seen", "(II)J"⟩, 38), (⟨"CanoeMasterModel", "lay", "(I)V"⟩, 38), (⟨"CanoeMasterModel", "readText", "()Z"⟩, 38)]
theorem lw_r3 : ∀ q ∈ lw_privs_3, lw_okq q := List.forall_mem_cons.mpr ⟨lw_p32, List.forall_mem_cons.mpr ⟨lw_p33, List.forall_mem_cons.mpr ⟨lw_p34, List.forall_mem_cons.mpr ⟨lw_p35, List.forall_mem_cons.mpr ⟨lw_p36, List.forall_mem_cons.mpr ⟨lw_p37, List.forall_mem_cons.mpr ⟨lw_p38, List.forall_mem_cons.mpr ⟨lw_p39, List.forall_mem_cons.mpr ⟨lw_p40, List.forall_mem_cons.mpr ⟨lw_p41, List.forall_mem_cons.mpr ⟨lw_p42, List.forall_mem_cons.mpr ⟨lw_p43, List.forall_mem_cons.mpr ⟨lw_p44, List.forall_mem_cons.mpr ⟨lw_p45, List.forall_mem_cons.mpr ⟨lw_p46, List.forall_mem_cons.mpr ⟨lw_p47, fun _ h => absurd h List.not_mem_nil⟩⟩⟩⟩⟩⟩⟩⟩⟩⟩⟩⟩⟩⟩⟩⟩
theorem lw_p48 : lw_okq (⟨"CanoeMasterModel", "next", "()V"⟩, 38) := ⟨⟨by decide +kernel, by decide +kernel⟩, List.mem_of_getElem? (i := 725) (by decide +kernel), List.mem_of_getElem? (i := 976) (by decide +kernel), List.mem_of_getElem? (i := 977) (by decide +kernel)⟩
theorem lw_p49 : lw_okq (⟨"CanoeMasterModel", "raw", "(I)I"⟩, 38) := ⟨⟨by decide +kernel, by decide +kernel⟩, List.mem_of_getElem? (i := 725) (by decide +kernel), List.mem_of_getElem? (i := 980) (by decide +kernel), List.mem_of_getElem? (i := 981) (by decide +kernel)⟩
theorem lw_p50 : lw_okq (⟨"CanoeMasterModel", "isLetter", "(I)Z"⟩, 38) := ⟨⟨by decide +kernel, by decide +kernel⟩, List.mem_of_getElem? (i := 725) (by decide +kernel), List.mem_of_getElem? (i := 984) (by decide +kernel), List.mem_of_getElem? (i := 985) (by decide +kernel)⟩
theorem lw_p51 : lw_okq (⟨"CanoeMasterModel", "isWord", "(IIIIII)Z"⟩, 38) := ⟨⟨by decide +kernel, by decide +kernel⟩, List.mem_of_getElem? (i := 725) (by decide +kernel), List.mem_of_getElem? (i := 988) (by decide +kernel), List.mem_of_getElem? (i := 989) (by decide +kernel)⟩
theorem lw_p52 : lw_okq (⟨"CanoeMasterModel", "isDigit", "(I)Z"⟩, 38) := ⟨⟨by decide +kernel, by decide +kernel⟩, List.mem_of_getElem? (i := 725) (by decide +kernel), List.mem_of_getElem? (i := 992) (by decide +kernel), List.mem_of_getElem? (i := 993) (by decide +kernel)⟩
theorem lw_p53 : lw_okq (⟨"CanoeMasterModel", "readLine", "()Z"⟩, 38) := ⟨⟨by decide +kernel, by decide +kernel⟩, List.mem_of_getElem? (i := 725) (by decide +kernel), List.mem_of_getElem? (i := 996) (by decide +kernel), List.mem_of_getElem? (i := 997) (by decide +kernel)⟩
theorem lw_p54 : lw_okq (⟨"CanoeMasterModel", "fails", "(I)Z"⟩, 38) := ⟨⟨by decide +kernel, by decide +kernel⟩, List.mem_of_getElem? (i := 725) (by decide +kernel), List.mem_of_getElem? (i := 1000) (by decide +kernel), List.mem_of_getElem? (i := 1001) (by decide +kernel)⟩
theorem lw_p55 : lw_okq (⟨"CanoeMasterModel", "takes", "(II)Z"⟩, 38) := ⟨⟨by decide +kernel, by decide +kernel⟩, List.mem_of_getElem? (i := 725) (by decide +kernel), List.mem_of_getElem? (i := 1004) (by decide +kernel), List.mem_of_getElem? (i := 1005) (by decide +kernel)⟩
theorem lw_p56 : lw_okq (⟨"CanoeMasterModel", "sing", "()V"⟩, 38) := ⟨⟨by decide +kernel, by decide +kernel⟩, List.mem_of_getElem? (i := 725) (by decide +kernel), List.mem_of_getElem? (i := 1012) (by decide +kernel), List.mem_of_getElem? (i := 1013) (by decide +kernel)⟩
theorem lw_p57 : lw_okq (⟨"CanoeMasterModel", "at", "(III)I"⟩, 38) := ⟨⟨by decide +kernel, by decide +kernel⟩, List.mem_of_getElem? (i := 725) (by decide +kernel), List.mem_of_getElem? (i := 1016) (by decide +kernel), List.mem_of_getElem? (i := 1017) (by decide +kernel)⟩
theorem lw_p58 : lw_okq (⟨"CanoeMasterModel", "step", "(IIII)V"⟩, 38) := ⟨⟨by decide +kernel, by decide +kernel⟩, List.mem_of_getElem? (i := 725) (by decide +kernel), List.mem_of_getElem? (i := 1021) (by decide +kernel), List.mem_of_getElem? (i := 1022) (by decide +kernel)⟩
theorem lw_p59 : lw_okq (⟨"CanoeMasterModel", "isThere", "(III)Z"⟩, 38) := ⟨⟨by decide +kernel, by decide +kernel⟩, List.mem_of_getElem? (i := 725) (by decide +kernel), List.mem_of_getElem? (i := 1025) (by decide +kernel), List.mem_of_getElem? (i := 1026) (by decide +kernel)⟩
theorem lw_p60 : lw_okq (⟨"CanoeMasterModel", "findBlind", "()I"⟩, 38) := ⟨⟨by decide +kernel, by decide +kernel⟩, List.mem_of_getElem? (i := 725) (by decide +kernel), List.mem_of_getElem? (i := 1041) (by decide +kernel), List.mem_of_getElem? (i := 1042) (by decide +kernel)⟩
theorem lw_p61 : lw_okq (⟨"CanoeMasterModel", "isAllLand", "(J)Z"⟩, 38) := ⟨⟨by decide +kernel, by decide +kernel⟩, List.mem_of_getElem? (i := 725) (by decide +kernel), List.mem_of_getElem? (i := 1045) (by decide +kernel), List.mem_of_getElem? (i := 1046) (by decide +kernel)⟩
theorem lw_p62 : lw_okq (⟨"CanoeMasterModel", "leads", "(II)V"⟩, 38) := ⟨⟨by decide +kernel, by decide +kernel⟩, List.mem_of_getElem? (i := 725) (by decide +kernel), List.mem_of_getElem? (i := 1049) (by decide +kernel), List.mem_of_getElem? (i := 1050) (by decide +kernel)⟩
theorem lw_p63 : lw_okq (⟨"CanoeMasterModel", "came", "(JI)Z"⟩, 38) := ⟨⟨by decide +kernel, by decide +kernel⟩, List.mem_of_getElem? (i := 725) (by decide +kernel), List.mem_of_getElem? (i := 1053) (by decide +kernel), List.mem_of_getElem? (i := 1054) (by decide +kernel)⟩
def lw_privs_4 : List (MethodName × Nat) := [(⟨"CanoeMasterModel", "next", "()V"⟩, 38), (⟨"CanoeMasterModel", "raw", "(I)I"⟩, 38), (⟨"CanoeMasterModel", "isLetter", "(I)Z"⟩, 38), (⟨"CanoeMasterModel", "isWord", "(IIIIII)Z"⟩, 38), (⟨"CanoeMasterModel", "isDigit", "(I)Z"⟩, 38), (⟨"CanoeMasterModel", "readLine", "()Z"⟩, 38), (⟨"CanoeMasterModel", "fails", "(I)Z"⟩, 38), (⟨"CanoeMasterModel", "takes", "(II)Z"⟩, 38), (⟨"CanoeMasterModel", "sing", "()V"⟩, 38), (⟨"CanoeMasterModel", "at", "(III)I"⟩, 38), (⟨"CanoeMasterModel", "step", "(IIII)V"⟩, 38), (⟨"CanoeMasterModel", "isThere", "(III)Z"⟩, 38), (⟨"CanoeMasterModel", "findBlind", "()I"⟩, 38), (⟨"CanoeMasterModel", "isAllLand", "(J)Z"⟩, 38), (⟨"CanoeMasterModel", "leads", "(II)V"⟩, 38), (⟨"CanoeMasterModel", "came", "(JI)Z"⟩, 38)]
theorem lw_r4 : ∀ q ∈ lw_privs_4, lw_okq q := List.forall_mem_cons.mpr ⟨lw_p48, List.forall_mem_cons.mpr ⟨lw_p49, List.forall_mem_cons.mpr ⟨lw_p50, List.forall_mem_cons.mpr ⟨lw_p51, List.forall_mem_cons.mpr ⟨lw_p52, List.forall_mem_cons.mpr ⟨lw_p53, List.forall_mem_cons.mpr ⟨lw_p54, List.forall_mem_cons.mpr ⟨lw_p55, List.forall_mem_cons.mpr ⟨lw_p56, List.forall_mem_cons.mpr ⟨lw_p57, List.forall_mem_cons.mpr ⟨lw_p58, List.forall_mem_cons.mpr ⟨lw_p59, List.forall_mem_cons.mpr ⟨lw_p60, List.forall_mem_cons.mpr ⟨lw_p61, List.forall_mem_cons.mpr ⟨lw_p62, List.forall_mem_cons.mpr ⟨lw_p63, fun _ h => absurd h List.not_mem_nil⟩⟩⟩⟩⟩⟩⟩⟩⟩⟩⟩⟩⟩⟩⟩⟩
def lw_privs : List (MethodName × Nat) := lw_privs_1 ++ (lw_privs_2 ++ (lw_privs_3 ++ (lw_privs_4)))
def lw_tbl : List Cond := k2_sels lw_privs ++ tables_1
theorem lw_privs_ok : ∀ q ∈ lw_privs, lw_okq q := by
  show ∀ q ∈ lw_privs_1 ++ (lw_privs_2 ++ (lw_privs_3 ++ (lw_privs_4))), lw_okq q
  exact List.forall_mem_append.mpr ⟨lw_r1, List.forall_mem_append.mpr ⟨lw_r2, List.forall_mem_append.mpr ⟨lw_r3, lw_r4⟩⟩⟩
/-! ===== BEGIN words of one list among another's, by their places ===== -/
theorem goodIn_r {big : List Cond} (ws : List Cond) (ps : List Nat) (hp : ws = ps.filterMap (fun i => big[i]?)) (h : ws.all goodWord = true) : GoodIn big ws := by
  intro w hw
  have h1 := List.all_eq_true.mp h w hw
  rw [hp] at hw
  obtain ⟨i, -, hi⟩ := List.mem_filterMap.mp hw
  have hm : w ∈ big := by first | exact List.mem_of_getElem? hi | exact List.getElem?_mem hi
  exact ⟨hm, good_of_word h1⟩
theorem goodIn_app {big a b : List Cond} (ha : GoodIn big a) (hb : GoodIn big b) : GoodIn big (a ++ b) := fun w h => (List.mem_append.mp h).elim (ha w) (hb w)
theorem goodIn_ca {big a b : List Cond} {c : Cond} (ha : GoodIn big (c :: a)) (hb : GoodIn big b) : GoodIn big (c :: (a ++ b)) := fun w h => (List.mem_cons.mp h).elim (fun e => ha w (List.mem_cons.mpr (Or.inl e))) (fun h => (List.mem_append.mp h).elim (fun h => ha w (List.mem_cons.mpr (Or.inr h))) (hb w))
theorem goodIn_sub {big ws : List Cond} (hm : ∀ w ∈ ws, w ∈ big) (h : ws.all goodWord = true) : GoodIn big ws := fun w hw => ⟨hm w hw, good_of_word (List.all_eq_true.mp h w hw)⟩
/-! ===== END ===== -/

/-! ===== BEGIN printed: names, fields, word lists, decode rows ===== -/
def RX0 : String := "CanoeMaster$Chant"
def TX0 : u_T := fun k => match k with
  | 0 => ("CanoeMaster$Chant", "size", "I", false)
  | 1 => ("CanoeMaster$Chant", "ways", "[I", true)
  | 2 => ("CanoeMaster$Chant", "signs", "[I", true)
  | 3 => ("CanoeMaster$Chant", "values", "[I", true)
  | _ => ("CanoeMaster$Chant", "hours", "[I", true)
def tyX0 : Nat → FieldType := fun k => match k with
  | 0 => .int
  | 1 => .array .int
  | 2 => .array .int
  | 3 => .array .int
  | _ => .array .int
abbrev wsX00 : List Cond := u_ws RX0 TX0 5
theorem nmX0 : ∀ a, a < 5 → ∀ b, b < 5 → a ≠ b → (TX0 a).2.1 ≠ (TX0 b).2.1 := by decide +kernel
theorem tyX0_ok : ∀ k, k < 5 → parseFieldDescriptor (TX0 k).2.2.1 = some (tyX0 k) := by decide +kernel
abbrev cX0_init : ByteArray := prog_2_method_1_code
def yX0_init : MethodName := ⟨RX0, "<init>", "()V"⟩
abbrev cX0_add : ByteArray := prog_2_method_2_code
def yX0_add : MethodName := ⟨RX0, "add", "(IIII)V"⟩
abbrev cX0_stops : ByteArray := prog_2_method_3_code
def yX0_stops : MethodName := ⟨RX0, "stops", "(ILCanoeMaster$Sea;I)J"⟩
def RX1 : String := "CanoeMaster$Judge"
def TX1 : u_T := fun k => match k with
  | 0 => ("CanoeMaster$Judge", "heard", "Z", false)
  | 1 => ("CanoeMaster$Judge", "seaVersion", "I", false)
  | 2 => ("CanoeMaster$Judge", "behindLine", "LCanoeMaster$Outcomes;", false)
  | 3 => ("CanoeMaster$Judge", "hourOn", "LCanoeMaster$Outcomes;", false)
  | 4 => ("CanoeMaster$Judge", "thisHour", "LCanoeMaster$Outcomes;", false)
  | 5 => ("CanoeMaster$Judge", "targets", "[I", true)
  | _ => ("CanoeMaster$Judge", "stops", "[J", true)
def tyX1 : Nat → FieldType := fun k => match k with
  | 0 => .boolean
  | 1 => .int
  | 2 => .object "CanoeMaster$Outcomes"
  | 3 => .object "CanoeMaster$Outcomes"
  | 4 => .object "CanoeMaster$Outcomes"
  | 5 => .array .int
  | _ => .array .long
abbrev wsX10 : List Cond := u_ws RX1 TX1 7
theorem nmX1 : ∀ a, a < 7 → ∀ b, b < 7 → a ≠ b → (TX1 a).2.1 ≠ (TX1 b).2.1 := by decide +kernel
theorem tyX1_ok : ∀ k, k < 7 → parseFieldDescriptor (TX1 k).2.2.1 = some (tyX1 k) := by decide +kernel
abbrev cX1_init : ByteArray := prog_3_method_1_code
def yX1_init : MethodName := ⟨RX1, "<init>", "()V"⟩
abbrev cX1_forget : ByteArray := prog_3_method_2_code
def yX1_forget : MethodName := ⟨RX1, "forget", "()V"⟩
abbrev cX1_hear : ByteArray := prog_3_method_3_code
def yX1_hear : MethodName := ⟨RX1, "hear", "(LCanoeMaster$Sea;LCanoeMaster$Chant;)V"⟩
abbrev cX1_standAtEnd : ByteArray := prog_3_method_4_code
def yX1_standAtEnd : MethodName := ⟨RX1, "standAtEnd", "(LCanoeMaster$Sea;)V"⟩
abbrev cX1_goThroughLine : ByteArray := prog_3_method_5_code
def yX1_goThroughLine : MethodName := ⟨RX1, "goThroughLine", "(LCanoeMaster$Sea;LCanoeMaster$Chant;I)V"⟩
abbrev cX1_findTargets : ByteArray := prog_3_method_6_code
def yX1_findTargets : MethodName := ⟨RX1, "findTargets", "(LCanoeMaster$Sea;I)V"⟩
abbrev cX1_goThroughHour : ByteArray := prog_3_method_7_code
def yX1_goThroughHour : MethodName := ⟨RX1, "goThroughHour", "(LCanoeMaster$Sea;I)V"⟩
abbrev cX1_steerOn : ByteArray := prog_3_method_8_code
def yX1_steerOn : MethodName := ⟨RX1, "steerOn", "(IIII)V"⟩
abbrev cX1_longestOf : ByteArray := prog_3_method_9_code
def yX1_longestOf : MethodName := ⟨RX1, "longestOf", "(JI)I"⟩
abbrev cX1_shortestOf : ByteArray := prog_3_method_10_code
def yX1_shortestOf : MethodName := ⟨RX1, "shortestOf", "(JI)I"⟩
abbrev cX1_unsureOf : ByteArray := prog_3_method_11_code
def yX1_unsureOf : MethodName := ⟨RX1, "unsureOf", "(JI)I"⟩
def RX2 : String := "CanoeMaster$Outcomes"
def TX2 : u_T := fun k => match k with
  | 0 => ("CanoeMaster$Outcomes", "most", "[I", true)
  | _ => ("CanoeMaster$Outcomes", "fewest", "[I", true)
def tyX2 : Nat → FieldType := fun k => match k with
  | 0 => .array .int
  | _ => .array .int
abbrev wsX20 : List Cond := u_ws RX2 TX2 2
theorem nmX2 : ∀ a, a < 2 → ∀ b, b < 2 → a ≠ b → (TX2 a).2.1 ≠ (TX2 b).2.1 := by decide +kernel
theorem tyX2_ok : ∀ k, k < 2 → parseFieldDescriptor (TX2 k).2.2.1 = some (tyX2 k) := by decide +kernel
abbrev cX2_init : ByteArray := prog_4_method_1_code
def yX2_init : MethodName := ⟨RX2, "<init>", "()V"⟩
abbrev cX2_set : ByteArray := prog_4_method_2_code
def yX2_set : MethodName := ⟨RX2, "set", "(III)V"⟩
abbrev cX2_copyOf : ByteArray := prog_4_method_3_code
def yX2_copyOf : MethodName := ⟨RX2, "copyOf", "(LCanoeMaster$Outcomes;)V"⟩
def RX3 : String := "CanoeMaster$Reader"
def TX3 : u_T := fun k => match k with
  | 0 => ("CanoeMaster$Reader", "length", "I", false)
  | 1 => ("CanoeMaster$Reader", "fault", "I", false)
  | 2 => ("CanoeMaster$Reader", "faultPlace", "I", false)
  | 3 => ("CanoeMaster$Reader", "tape", "[C", true)
  | 4 => ("CanoeMaster$Reader", "place", "I", false)
  | 5 => ("CanoeMaster$Reader", "token", "I", false)
  | 6 => ("CanoeMaster$Reader", "tokenPlace", "I", false)
  | _ => ("CanoeMaster$Reader", "tokenValue", "I", false)
def tyX3 : Nat → FieldType := fun k => match k with
  | 0 => .int
  | 1 => .int
  | 2 => .int
  | 3 => .array .char
  | 4 => .int
  | 5 => .int
  | 6 => .int
  | _ => .int
abbrev wsX30 : List Cond := u_ws RX3 TX3 8
theorem nmX3 : ∀ a, a < 8 → ∀ b, b < 8 → a ≠ b → (TX3 a).2.1 ≠ (TX3 b).2.1 := by decide +kernel
theorem tyX3_ok : ∀ k, k < 8 → parseFieldDescriptor (TX3 k).2.2.1 = some (tyX3 k) := by decide +kernel
abbrev cX3_init : ByteArray := prog_5_method_1_code
def yX3_init : MethodName := ⟨RX3, "<init>", "()V"⟩
abbrev cX3_append : ByteArray := prog_5_method_2_code
def yX3_append : MethodName := ⟨RX3, "append", "(I)V"⟩
abbrev cX3_readInto : ByteArray := prog_5_method_3_code
def yX3_readInto : MethodName := ⟨RX3, "readInto", "(LCanoeMaster$Chant;)Z"⟩
abbrev cX3_readLine : ByteArray := prog_5_method_4_code
def yX3_readLine : MethodName := ⟨RX3, "readLine", "(LCanoeMaster$Chant;)V"⟩
abbrev cX3_signNamed : ByteArray := prog_5_method_5_code
def yX3_signNamed : MethodName := ⟨RX3, "signNamed", "()I"⟩
abbrev cX3_numberWithin : ByteArray := prog_5_method_6_code
def yX3_numberWithin : MethodName := ⟨RX3, "numberWithin", "(II)I"⟩
abbrev cX3_take : ByteArray := prog_5_method_7_code
def yX3_take : MethodName := ⟨RX3, "take", "(Z)V"⟩
abbrev cX3_blame : ByteArray := prog_5_method_8_code
def yX3_blame : MethodName := ⟨RX3, "blame", "(I)V"⟩
abbrev cX3_readToken : ByteArray := prog_5_method_9_code
def yX3_readToken : MethodName := ⟨RX3, "readToken", "()V"⟩
abbrev cX3_skipLetters : ByteArray := prog_5_method_10_code
def yX3_skipLetters : MethodName := ⟨RX3, "skipLetters", "()V"⟩
abbrev cX3_wordRead : ByteArray := prog_5_method_11_code
def yX3_wordRead : MethodName := ⟨RX3, "wordRead", "()I"⟩
abbrev cX3_spells : ByteArray := prog_5_method_12_code
def yX3_spells : MethodName := ⟨RX3, "spells", "(Ljava/lang/String;)Z"⟩
abbrev cX3_readNumber : ByteArray := prog_5_method_13_code
def yX3_readNumber : MethodName := ⟨RX3, "readNumber", "()V"⟩
abbrev cX3_isBlank : ByteArray := prog_5_method_14_code
def yX3_isBlank : MethodName := ⟨RX3, "isBlank", "(C)Z"⟩
abbrev cX3_isLetter : ByteArray := prog_5_method_15_code
def yX3_isLetter : MethodName := ⟨RX3, "isLetter", "(C)Z"⟩
abbrev cX3_isDigit : ByteArray := prog_5_method_16_code
def yX3_isDigit : MethodName := ⟨RX3, "isDigit", "(C)Z"⟩
def RX4 : String := "CanoeMaster$Sea"
def TX4 : u_T := fun k => match k with
  | 0 => ("CanoeMaster$Sea", "width", "I", false)
  | 1 => ("CanoeMaster$Sea", "height", "I", false)
  | 2 => ("CanoeMaster$Sea", "count", "I", false)
  | 3 => ("CanoeMaster$Sea", "version", "I", false)
  | 4 => ("CanoeMaster$Sea", "cells", "J", false)
  | 5 => ("CanoeMaster$Sea", "shore", "J", false)
  | 6 => ("CanoeMaster$Sea", "nights", "I", false)
  | 7 => ("CanoeMaster$Sea", "flights", "I", false)
  | 8 => ("CanoeMaster$Sea", "reaches", "[I", true)
  | 9 => ("CanoeMaster$Sea", "swells", "[I", true)
  | 10 => ("CanoeMaster$Sea", "driftSets", "[I", true)
  | 11 => ("CanoeMaster$Sea", "columns", "[I", true)
  | 12 => ("CanoeMaster$Sea", "rows", "[I", true)
  | 13 => ("CanoeMaster$Sea", "birdCells", "J", false)
  | 14 => ("CanoeMaster$Sea", "westEdge", "J", false)
  | 15 => ("CanoeMaster$Sea", "eastEdge", "J", false)
  | 16 => ("CanoeMaster$Sea", "northEdge", "J", false)
  | 17 => ("CanoeMaster$Sea", "southEdge", "J", false)
  | 18 => ("CanoeMaster$Sea", "rest", "J", false)
  | _ => ("CanoeMaster$Sea", "shifts", "[J", true)
def tyX4 : Nat → FieldType := fun k => match k with
  | 0 => .int
  | 1 => .int
  | 2 => .int
  | 3 => .int
  | 4 => .long
  | 5 => .long
  | 6 => .int
  | 7 => .int
  | 8 => .array .int
  | 9 => .array .int
  | 10 => .array .int
  | 11 => .array .int
  | 12 => .array .int
  | 13 => .long
  | 14 => .long
  | 15 => .long
  | 16 => .long
  | 17 => .long
  | 18 => .long
  | _ => .array .long
abbrev wsX40 : List Cond := u_ws RX4 TX4 20
theorem nmX4 : ∀ a, a < 20 → ∀ b, b < 20 → a ≠ b → (TX4 a).2.1 ≠ (TX4 b).2.1 := by decide +kernel
theorem tyX4_ok : ∀ k, k < 20 → parseFieldDescriptor (TX4 k).2.2.1 = some (tyX4 k) := by decide +kernel
abbrev cX4_init : ByteArray := prog_6_method_1_code
def yX4_init : MethodName := ⟨RX4, "<init>", "()V"⟩
abbrev cX4_lay : ByteArray := prog_6_method_2_code
def yX4_lay : MethodName := ⟨RX4, "lay", "(II)V"⟩
abbrev cX4_layCells : ByteArray := prog_6_method_3_code
def yX4_layCells : MethodName := ⟨RX4, "layCells", "()V"⟩
abbrev cX4_layCell : ByteArray := prog_6_method_4_code
def yX4_layCell : MethodName := ⟨RX4, "layCell", "(III)V"⟩
abbrev cX4_hasCell : ByteArray := prog_6_method_5_code
def yX4_hasCell : MethodName := ⟨RX4, "hasCell", "(I)Z"⟩
abbrev cX4_setReach : ByteArray := prog_6_method_6_code
def yX4_setReach : MethodName := ⟨RX4, "setReach", "(II)V"⟩
abbrev cX4_landsOfReach : ByteArray := prog_6_method_7_code
def yX4_landsOfReach : MethodName := ⟨RX4, "landsOfReach", "(I)J"⟩
abbrev cX4_grown : ByteArray := prog_6_method_8_code
def yX4_grown : MethodName := ⟨RX4, "grown", "(J)J"⟩
abbrev cX4_setSwell : ByteArray := prog_6_method_9_code
def yX4_setSwell : MethodName := ⟨RX4, "setSwell", "(II)V"⟩
abbrev cX4_setDrifts : ByteArray := prog_6_method_10_code
def yX4_setDrifts : MethodName := ⟨RX4, "setDrifts", "(II)V"⟩
abbrev cX4_setWatches : ByteArray := prog_6_method_11_code
def yX4_setWatches : MethodName := ⟨RX4, "setWatches", "(II)V"⟩
abbrev cX4_driftsBy : ByteArray := prog_6_method_12_code
def yX4_driftsBy : MethodName := ⟨RX4, "driftsBy", "(II)Z"⟩
abbrev cX4_isAllLand : ByteArray := prog_6_method_13_code
def yX4_isAllLand : MethodName := ⟨RX4, "isAllLand", "(J)Z"⟩
abbrev cX4_signAt : ByteArray := prog_6_method_14_code
def yX4_signAt : MethodName := ⟨RX4, "signAt", "(III)I"⟩
abbrev cX4_having : ByteArray := prog_6_method_15_code
def yX4_having : MethodName := ⟨RX4, "having", "(III)J"⟩
abbrev cX4_target : ByteArray := prog_6_method_16_code
def yX4_target : MethodName := ⟨RX4, "target", "(III)I"⟩
abbrev cX4_eastward : ByteArray := prog_6_method_17_code
def yX4_eastward : MethodName := ⟨RX4, "eastward", "(I)I"⟩
abbrev cX4_southward : ByteArray := prog_6_method_18_code
def yX4_southward : MethodName := ⟨RX4, "southward", "(I)I"⟩
abbrev cX4_clamped : ByteArray := prog_6_method_19_code
def yX4_clamped : MethodName := ⟨RX4, "clamped", "(II)I"⟩
abbrev cX4_spread : ByteArray := prog_6_method_20_code
def yX4_spread : MethodName := ⟨RX4, "spread", "(J)V"⟩
abbrev cX4_spreadRow : ByteArray := prog_6_method_21_code
def yX4_spreadRow : MethodName := ⟨RX4, "spreadRow", "(IJ)V"⟩
abbrev cX4_spreadBy : ByteArray := prog_6_method_22_code
def yX4_spreadBy : MethodName := ⟨RX4, "spreadBy", "(II)J"⟩
abbrev cX4_shiftOf : ByteArray := prog_6_method_23_code
def yX4_shiftOf : MethodName := ⟨RX4, "shiftOf", "(I)I"⟩
abbrev cX4_oneWest : ByteArray := prog_6_method_24_code
def yX4_oneWest : MethodName := ⟨RX4, "oneWest", "(J)J"⟩
abbrev cX4_oneEast : ByteArray := prog_6_method_25_code
def yX4_oneEast : MethodName := ⟨RX4, "oneEast", "(J)J"⟩
abbrev cX4_oneNorth : ByteArray := prog_6_method_26_code
def yX4_oneNorth : MethodName := ⟨RX4, "oneNorth", "(J)J"⟩
abbrev cX4_oneSouth : ByteArray := prog_6_method_27_code
def yX4_oneSouth : MethodName := ⟨RX4, "oneSouth", "(J)J"⟩
def RX5 : String := "CanoeMaster$Search"
def TX5 : u_T := fun k => match k with
  | 0 => ("CanoeMaster$Search", "row", "[I", true)
  | 1 => ("CanoeMaster$Search", "sets", "[J", true)
  | 2 => ("CanoeMaster$Search", "setWatches", "[I", true)
  | 3 => ("CanoeMaster$Search", "origins", "[I", true)
  | 4 => ("CanoeMaster$Search", "slots", "[I", true)
  | 5 => ("CanoeMaster$Search", "count", "I", false)
  | 6 => ("CanoeMaster$Search", "asked", "Z", false)
  | 7 => ("CanoeMaster$Search", "askedSet", "J", false)
  | 8 => ("CanoeMaster$Search", "askedWatch", "I", false)
  | 9 => ("CanoeMaster$Search", "askedVersion", "I", false)
  | _ => ("CanoeMaster$Search", "answer", "I", false)
def tyX5 : Nat → FieldType := fun k => match k with
  | 0 => .array .int
  | 1 => .array .long
  | 2 => .array .int
  | 3 => .array .int
  | 4 => .array .int
  | 5 => .int
  | 6 => .boolean
  | 7 => .long
  | 8 => .int
  | 9 => .int
  | _ => .int
abbrev wsX50 : List Cond := u_ws RX5 TX5 11
theorem nmX5 : ∀ a, a < 11 → ∀ b, b < 11 → a ≠ b → (TX5 a).2.1 ≠ (TX5 b).2.1 := by decide +kernel
theorem tyX5_ok : ∀ k, k < 11 → parseFieldDescriptor (TX5 k).2.2.1 = some (tyX5 k) := by decide +kernel
abbrev cX5_init : ByteArray := prog_7_method_1_code
def yX5_init : MethodName := ⟨RX5, "<init>", "()V"⟩
abbrev cX5_shortest : ByteArray := prog_7_method_2_code
def yX5_shortest : MethodName := ⟨RX5, "shortest", "(LCanoeMaster$Sea;JI)I"⟩
abbrev cX5_lookThrough : ByteArray := prog_7_method_3_code
def yX5_lookThrough : MethodName := ⟨RX5, "lookThrough", "(LCanoeMaster$Sea;JI)I"⟩
abbrev cX5_goOn : ByteArray := prog_7_method_4_code
def yX5_goOn : MethodName := ⟨RX5, "goOn", "(LCanoeMaster$Sea;II)I"⟩
abbrev cX5_keepNew : ByteArray := prog_7_method_5_code
def yX5_keepNew : MethodName := ⟨RX5, "keepNew", "(JII)Z"⟩
abbrev cX5_keepAt : ByteArray := prog_7_method_6_code
def yX5_keepAt : MethodName := ⟨RX5, "keepAt", "(IJII)Z"⟩
abbrev cX5_writeRow : ByteArray := prog_7_method_7_code
def yX5_writeRow : MethodName := ⟨RX5, "writeRow", "(III)V"⟩
def RX6 : String := "CanoeMaster"
def TX6 : u_T := fun k => match k with
  | 0 => ("CanoeMaster", "waters", "LCanoeMaster$Sea;", true)
  | 1 => ("CanoeMaster", "reader", "LCanoeMaster$Reader;", true)
  | 2 => ("CanoeMaster", "sung", "LCanoeMaster$Chant;", false)
  | 3 => ("CanoeMaster", "draft", "LCanoeMaster$Chant;", false)
  | 4 => ("CanoeMaster", "within", "J", false)
  | 5 => ("CanoeMaster", "hour", "I", false)
  | 6 => ("CanoeMaster", "canoe", "I", false)
  | 7 => ("CanoeMaster", "judge", "LCanoeMaster$Judge;", false)
  | _ => ("CanoeMaster", "search", "LCanoeMaster$Search;", false)
def tyX6 : Nat → FieldType := fun k => match k with
  | 0 => .object "CanoeMaster$Sea"
  | 1 => .object "CanoeMaster$Reader"
  | 2 => .object "CanoeMaster$Chant"
  | 3 => .object "CanoeMaster$Chant"
  | 4 => .long
  | 5 => .int
  | 6 => .int
  | 7 => .object "CanoeMaster$Judge"
  | _ => .object "CanoeMaster$Search"
abbrev wsX60 : List Cond := u_ws RX6 TX6 9
theorem nmX6 : ∀ a, a < 9 → ∀ b, b < 9 → a ≠ b → (TX6 a).2.1 ≠ (TX6 b).2.1 := by decide +kernel
theorem tyX6_ok : ∀ k, k < 9 → parseFieldDescriptor (TX6 k).2.2.1 = some (tyX6 k) := by decide +kernel
abbrev cX6_init : ByteArray := prog_1_method_1_code
def yX6_init : MethodName := ⟨RX6, "<init>", "()V"⟩
abbrev cX6_sea : ByteArray := prog_1_method_2_code
def yX6_sea : MethodName := ⟨RX6, "sea", "(II)Z"⟩
abbrev cX6_land : ByteArray := prog_1_method_3_code
def yX6_land : MethodName := ⟨RX6, "land", "(II)Z"⟩
abbrev cX6_swell : ByteArray := prog_1_method_4_code
def yX6_swell : MethodName := ⟨RX6, "swell", "(II)Z"⟩
abbrev cX6_drifts : ByteArray := prog_1_method_5_code
def yX6_drifts : MethodName := ⟨RX6, "drifts", "(II)Z"⟩
abbrev cX6_watches : ByteArray := prog_1_method_6_code
def yX6_watches : MethodName := ⟨RX6, "watches", "(II)Z"⟩
abbrev cX6_look : ByteArray := prog_1_method_7_code
def yX6_look : MethodName := ⟨RX6, "look", "(I)I"⟩
abbrev cX6_lookAtRows : ByteArray := prog_1_method_8_code
def yX6_lookAtRows : MethodName := ⟨RX6, "lookAtRows", "(I)I"⟩
abbrev cX6_reckoned : ByteArray := prog_1_method_9_code
def yX6_reckoned : MethodName := ⟨RX6, "reckoned", "()J"⟩
abbrev cX6_begin : ByteArray := prog_1_method_10_code
def yX6_begin : MethodName := ⟨RX6, "begin", "(J)Z"⟩
abbrev cX6_startWith : ByteArray := prog_1_method_11_code
def yX6_startWith : MethodName := ⟨RX6, "startWith", "(J)V"⟩
abbrev cX6_put : ByteArray := prog_1_method_12_code
def yX6_put : MethodName := ⟨RX6, "put", "(I)Z"⟩
abbrev cX6_steer : ByteArray := prog_1_method_13_code
def yX6_steer : MethodName := ⟨RX6, "steer", "(II)I"⟩
abbrev cX6_sign : ByteArray := prog_1_method_14_code
def yX6_sign : MethodName := ⟨RX6, "sign", "(III)I"⟩
abbrev cX6_see : ByteArray := prog_1_method_15_code
def yX6_see : MethodName := ⟨RX6, "see", "(II)I"⟩
abbrev cX6_sights : ByteArray := prog_1_method_16_code
def yX6_sights : MethodName := ⟨RX6, "sights", "()I"⟩
abbrev cX6_feed : ByteArray := prog_1_method_17_code
def yX6_feed : MethodName := ⟨RX6, "feed", "(IIIII)I"⟩
abbrev cX6_end : ByteArray := prog_1_method_18_code
def yX6_end : MethodName := ⟨RX6, "end", "(I)I"⟩
abbrev cX6_chant : ByteArray := prog_1_method_19_code
def yX6_chant : MethodName := ⟨RX6, "chant", "()I"⟩
abbrev cX6_fault : ByteArray := prog_1_method_20_code
def yX6_fault : MethodName := ⟨RX6, "fault", "(I)I"⟩
abbrev cX6_sure : ByteArray := prog_1_method_21_code
def yX6_sure : MethodName := ⟨RX6, "sure", "(I)I"⟩
abbrev cX6_from : ByteArray := prog_1_method_22_code
def yX6_from : MethodName := ⟨RX6, "from", "(I)I"⟩
abbrev cX6_judgeOfNow : ByteArray := prog_1_method_23_code
def yX6_judgeOfNow : MethodName := ⟨RX6, "judgeOfNow", "()LCanoeMaster$Judge;"⟩
abbrev cX6_sings : ByteArray := prog_1_method_24_code
def yX6_sings : MethodName := ⟨RX6, "sings", "(I)I"⟩
abbrev cX6_blind : ByteArray := prog_1_method_25_code
def yX6_blind : MethodName := ⟨RX6, "blind", "(I)I"⟩
abbrev cX6_watchNow : ByteArray := prog_1_method_26_code
def yX6_watchNow : MethodName := ⟨RX6, "watchNow", "()I"⟩
abbrev cX6_isWatch : ByteArray := prog_1_method_27_code
def yX6_isWatch : MethodName := ⟨RX6, "isWatch", "(I)Z"⟩
abbrev cX6_isWatchSet : ByteArray := prog_1_method_28_code
def yX6_isWatchSet : MethodName := ⟨RX6, "isWatchSet", "(I)Z"⟩
abbrev cX6_isWay : ByteArray := prog_1_method_29_code
def yX6_isWay : MethodName := ⟨RX6, "isWay", "(I)Z"⟩
abbrev cX6_isSign : ByteArray := prog_1_method_30_code
def yX6_isSign : MethodName := ⟨RX6, "isSign", "(I)Z"⟩
abbrev cX6_has : ByteArray := prog_1_method_31_code
def yX6_has : MethodName := ⟨RX6, "has", "(JI)Z"⟩
def RX7 : String := "CanoeMasterModel"
def TX7 : u_T := fun k => match k with
  | 0 => ("CanoeMasterModel", "told", "I", false)
  | 1 => ("CanoeMasterModel", "wide", "I", false)
  | 2 => ("CanoeMasterModel", "high", "I", false)
  | 3 => ("CanoeMasterModel", "hour", "I", false)
  | 4 => ("CanoeMasterModel", "reckoned", "J", false)
  | 5 => ("CanoeMasterModel", "canoe", "I", false)
  | 6 => ("CanoeMasterModel", "night", "I", false)
  | 7 => ("CanoeMasterModel", "flight", "I", false)
  | 8 => ("CanoeMasterModel", "land", "[I", true)
  | 9 => ("CanoeMasterModel", "swell", "[I", true)
  | 10 => ("CanoeMasterModel", "drift", "[I", true)
  | 11 => ("CanoeMasterModel", "lines", "I", false)
  | 12 => ("CanoeMasterModel", "lineWay", "[I", true)
  | 13 => ("CanoeMasterModel", "lineSign", "[I", true)
  | 14 => ("CanoeMasterModel", "lineWorth", "[I", true)
  | 15 => ("CanoeMasterModel", "lineHours", "[I", true)
  | 16 => ("CanoeMasterModel", "newLines", "I", false)
  | 17 => ("CanoeMasterModel", "newWay", "[I", true)
  | 18 => ("CanoeMasterModel", "newSign", "[I", true)
  | 19 => ("CanoeMasterModel", "newWorth", "[I", true)
  | 20 => ("CanoeMasterModel", "newHours", "[I", true)
  | 21 => ("CanoeMasterModel", "tape", "[I", true)
  | 22 => ("CanoeMasterModel", "taped", "I", false)
  | 23 => ("CanoeMasterModel", "reads", "I", false)
  | 24 => ("CanoeMasterModel", "from", "I", false)
  | 25 => ("CanoeMasterModel", "token", "I", false)
  | 26 => ("CanoeMasterModel", "number", "I", false)
  | 27 => ("CanoeMasterModel", "faultKind", "I", false)
  | 28 => ("CanoeMasterModel", "faultPlace", "I", false)
  | 29 => ("CanoeMasterModel", "most", "[I", true)
  | 30 => ("CanoeMasterModel", "least", "[I", true)
  | 31 => ("CanoeMasterModel", "sets", "I", false)
  | 32 => ("CanoeMasterModel", "set", "[J", true)
  | 33 => ("CanoeMasterModel", "depth", "[I", true)
  | 34 => ("CanoeMasterModel", "before", "[I", true)
  | 35 => ("CanoeMasterModel", "by", "[I", true)
  | 36 => ("CanoeMasterModel", "blindHours", "I", false)
  | _ => ("CanoeMasterModel", "blindRow", "[I", true)
def tyX7 : Nat → FieldType := fun k => match k with
  | 0 => .int
  | 1 => .int
  | 2 => .int
  | 3 => .int
  | 4 => .long
  | 5 => .int
  | 6 => .int
  | 7 => .int
  | 8 => .array .int
  | 9 => .array .int
  | 10 => .array .int
  | 11 => .int
  | 12 => .array .int
  | 13 => .array .int
  | 14 => .array .int
  | 15 => .array .int
  | 16 => .int
  | 17 => .array .int
  | 18 => .array .int
  | 19 => .array .int
  | 20 => .array .int
  | 21 => .array .int
  | 22 => .int
  | 23 => .int
  | 24 => .int
  | 25 => .int
  | 26 => .int
  | 27 => .int
  | 28 => .int
  | 29 => .array .int
  | 30 => .array .int
  | 31 => .int
  | 32 => .array .long
  | 33 => .array .int
  | 34 => .array .int
  | 35 => .array .int
  | 36 => .int
  | _ => .array .int
abbrev wsX70 : List Cond := u_ws RX7 TX7 38
theorem nmX7 : ∀ a, a < 38 → ∀ b, b < 38 → a ≠ b → (TX7 a).2.1 ≠ (TX7 b).2.1 := by decide +kernel
theorem tyX7_ok : ∀ k, k < 38 → parseFieldDescriptor (TX7 k).2.2.1 = some (tyX7 k) := by decide +kernel
abbrev cX7_init : ByteArray := prog_9_method_1_code
def yX7_init : MethodName := ⟨RX7, "<init>", "()V"⟩
abbrev cX7_cells : ByteArray := prog_9_method_3_code
def yX7_cells : MethodName := ⟨RX7, "cells", "()I"⟩
abbrev cX7_isCell : ByteArray := prog_9_method_4_code
def yX7_isCell : MethodName := ⟨RX7, "isCell", "(I)Z"⟩
abbrev cX7_isLand : ByteArray := prog_9_method_5_code
def yX7_isLand : MethodName := ⟨RX7, "isLand", "(I)Z"⟩
abbrev cX7_all : ByteArray := prog_9_method_6_code
def yX7_all : MethodName := ⟨RX7, "all", "()J"⟩
abbrev cX7_has : ByteArray := prog_9_method_7_code
def yX7_has : MethodName := ⟨RX7, "has", "(JI)Z"⟩
abbrev cX7_count : ByteArray := prog_9_method_8_code
def yX7_count : MethodName := ⟨RX7, "count", "(J)I"⟩
abbrev cX7_sea : ByteArray := prog_9_method_9_code
def yX7_sea : MethodName := ⟨RX7, "sea", "(II)Z"⟩
abbrev cX7_land : ByteArray := prog_9_method_10_code
def yX7_land : MethodName := ⟨RX7, "land", "(II)Z"⟩
abbrev cX7_swell : ByteArray := prog_9_method_11_code
def yX7_swell : MethodName := ⟨RX7, "swell", "(II)Z"⟩
abbrev cX7_drifts : ByteArray := prog_9_method_12_code
def yX7_drifts : MethodName := ⟨RX7, "drifts", "(II)Z"⟩
abbrev cX7_watches : ByteArray := prog_9_method_13_code
def yX7_watches : MethodName := ⟨RX7, "watches", "(II)Z"⟩
abbrev cX7_landsIn : ByteArray := prog_9_method_14_code
def yX7_landsIn : MethodName := ⟨RX7, "landsIn", "(J)I"⟩
abbrev cX7_look : ByteArray := prog_9_method_15_code
def yX7_look : MethodName := ⟨RX7, "look", "(I)I"⟩
abbrev cX7_reckoned : ByteArray := prog_9_method_16_code
def yX7_reckoned : MethodName := ⟨RX7, "reckoned", "()J"⟩
abbrev cX7_begin : ByteArray := prog_9_method_17_code
def yX7_begin : MethodName := ⟨RX7, "begin", "(J)Z"⟩
abbrev cX7_put : ByteArray := prog_9_method_18_code
def yX7_put : MethodName := ⟨RX7, "put", "(I)Z"⟩
abbrev cX7_bound : ByteArray := prog_9_method_19_code
def yX7_bound : MethodName := ⟨RX7, "bound", "(II)I"⟩
abbrev cX7_goes : ByteArray := prog_9_method_20_code
def yX7_goes : MethodName := ⟨RX7, "goes", "(III)I"⟩
abbrev cX7_goesAll : ByteArray := prog_9_method_21_code
def yX7_goesAll : MethodName := ⟨RX7, "goesAll", "(JII)J"⟩
abbrev cX7_steer : ByteArray := prog_9_method_22_code
def yX7_steer : MethodName := ⟨RX7, "steer", "(II)I"⟩
abbrev cX7_far : ByteArray := prog_9_method_23_code
def yX7_far : MethodName := ⟨RX7, "far", "(II)I"⟩
abbrev cX7_signOf : ByteArray := prog_9_method_24_code
def yX7_signOf : MethodName := ⟨RX7, "signOf", "(III)I"⟩
abbrev cX7_sign : ByteArray := prog_9_method_25_code
def yX7_sign : MethodName := ⟨RX7, "sign", "(III)I"⟩
abbrev cX7_seen : ByteArray := prog_9_method_26_code
def yX7_seen : MethodName := ⟨RX7, "seen", "(II)J"⟩
abbrev cX7_see : ByteArray := prog_9_method_27_code
def yX7_see : MethodName := ⟨RX7, "see", "(II)I"⟩
abbrev cX7_sights : ByteArray := prog_9_method_28_code
def yX7_sights : MethodName := ⟨RX7, "sights", "()I"⟩
abbrev cX7_lay : ByteArray := prog_9_method_29_code
def yX7_lay : MethodName := ⟨RX7, "lay", "(I)V"⟩
abbrev cX7_feed : ByteArray := prog_9_method_30_code
def yX7_feed : MethodName := ⟨RX7, "feed", "(IIIII)I"⟩
abbrev cX7_end : ByteArray := prog_9_method_31_code
def yX7_end : MethodName := ⟨RX7, "end", "(I)I"⟩
abbrev cX7_fault : ByteArray := prog_9_method_32_code
def yX7_fault : MethodName := ⟨RX7, "fault", "(I)I"⟩
abbrev cX7_raw : ByteArray := prog_9_method_33_code
def yX7_raw : MethodName := ⟨RX7, "raw", "(I)I"⟩
abbrev cX7_isLetter : ByteArray := prog_9_method_34_code
def yX7_isLetter : MethodName := ⟨RX7, "isLetter", "(I)Z"⟩
abbrev cX7_isDigit : ByteArray := prog_9_method_35_code
def yX7_isDigit : MethodName := ⟨RX7, "isDigit", "(I)Z"⟩
abbrev cX7_isWord : ByteArray := prog_9_method_36_code
def yX7_isWord : MethodName := ⟨RX7, "isWord", "(IIIIII)Z"⟩
abbrev cX7_next : ByteArray := prog_9_method_37_code
def yX7_next : MethodName := ⟨RX7, "next", "()V"⟩
abbrev cX7_fails : ByteArray := prog_9_method_38_code
def yX7_fails : MethodName := ⟨RX7, "fails", "(I)Z"⟩
abbrev cX7_takes : ByteArray := prog_9_method_39_code
def yX7_takes : MethodName := ⟨RX7, "takes", "(II)Z"⟩
abbrev cX7_readLine : ByteArray := prog_9_method_40_code
def yX7_readLine : MethodName := ⟨RX7, "readLine", "()Z"⟩
abbrev cX7_readText : ByteArray := prog_9_method_41_code
def yX7_readText : MethodName := ⟨RX7, "readText", "()Z"⟩
abbrev cX7_chant : ByteArray := prog_9_method_42_code
def yX7_chant : MethodName := ⟨RX7, "chant", "()I"⟩
abbrev cX7_isThere : ByteArray := prog_9_method_43_code
def yX7_isThere : MethodName := ⟨RX7, "isThere", "(III)Z"⟩
abbrev cX7_at : ByteArray := prog_9_method_44_code
def yX7_at : MethodName := ⟨RX7, "at", "(III)I"⟩
abbrev cX7_sing : ByteArray := prog_9_method_45_code
def yX7_sing : MethodName := ⟨RX7, "sing", "()V"⟩
abbrev cX7_step : ByteArray := prog_9_method_46_code
def yX7_step : MethodName := ⟨RX7, "step", "(IIII)V"⟩
abbrev cX7_sure : ByteArray := prog_9_method_47_code
def yX7_sure : MethodName := ⟨RX7, "sure", "(I)I"⟩
abbrev cX7_from : ByteArray := prog_9_method_48_code
def yX7_from : MethodName := ⟨RX7, "from", "(I)I"⟩
abbrev cX7_sings : ByteArray := prog_9_method_49_code
def yX7_sings : MethodName := ⟨RX7, "sings", "(I)I"⟩
abbrev cX7_isAllLand : ByteArray := prog_9_method_50_code
def yX7_isAllLand : MethodName := ⟨RX7, "isAllLand", "(J)Z"⟩
abbrev cX7_came : ByteArray := prog_9_method_51_code
def yX7_came : MethodName := ⟨RX7, "came", "(JI)Z"⟩
abbrev cX7_leads : ByteArray := prog_9_method_52_code
def yX7_leads : MethodName := ⟨RX7, "leads", "(II)V"⟩
abbrev cX7_findBlind : ByteArray := prog_9_method_53_code
def yX7_findBlind : MethodName := ⟨RX7, "findBlind", "()I"⟩
abbrev cX7_blind : ByteArray := prog_9_method_54_code
def yX7_blind : MethodName := ⟨RX7, "blind", "(I)I"⟩
def RJ13 : String := "java/lang/Long"
def TJ13 : u_T := fun k => match k with
  | _ => ("", "", "", false)
def tyJ13 : Nat → FieldType := fun k => match k with
  | _ => .int
abbrev wsJ130 : List Cond := u_ws RJ13 TJ13 0
theorem nmJ13 : ∀ a, a < 0 → ∀ b, b < 0 → a ≠ b → (TJ13 a).2.1 ≠ (TJ13 b).2.1 := by decide +kernel
theorem tyJ13_ok : ∀ k, k < 0 → parseFieldDescriptor (TJ13 k).2.2.1 = some (tyJ13 k) := by decide +kernel
abbrev cJ13_bitCount_95d88 : ByteArray := prog_10_method_50_code
def yJ13_bitCount_95d88 : MethodName := ⟨RJ13, "bitCount", "(J)I"⟩
def RJ9 : String := "java/lang/Math"
def TJ9 : u_T := fun k => match k with
  | _ => ("", "", "", false)
def tyJ9 : Nat → FieldType := fun k => match k with
  | _ => .int
abbrev wsJ90 : List Cond := u_ws RJ9 TJ9 0
theorem nmJ9 : ∀ a, a < 0 → ∀ b, b < 0 → a ≠ b → (TJ9 a).2.1 ≠ (TJ9 b).2.1 := by decide +kernel
theorem tyJ9_ok : ∀ k, k < 0 → parseFieldDescriptor (TJ9 k).2.2.1 = some (tyJ9 k) := by decide +kernel
abbrev cJ9_max_7cf53 : ByteArray := prog_11_method_65_code
def yJ9_max_7cf53 : MethodName := ⟨RJ9, "max", "(II)I"⟩
abbrev cJ9_min_7cf53 : ByteArray := prog_11_method_69_code
def yJ9_min_7cf53 : MethodName := ⟨RJ9, "min", "(II)I"⟩
def RJ0 : String := "java/lang/String"
def TJ0 : u_T := fun k => match k with
  | _ => ("", "", "", false)
def tyJ0 : Nat → FieldType := fun k => match k with
  | _ => .int
abbrev wsJ00 : List Cond := u_ws RJ0 TJ0 0
theorem nmJ0 : ∀ a, a < 0 → ∀ b, b < 0 → a ≠ b → (TJ0 a).2.1 ≠ (TJ0 b).2.1 := by decide +kernel
theorem tyJ0_ok : ∀ k, k < 0 → parseFieldDescriptor (TJ0 k).2.2.1 = some (tyJ0 k) := by decide +kernel
abbrev cJ0_length_8abf5 : ByteArray := prog_12_method_54_code
def yJ0_length_8abf5 : MethodName := ⟨RJ0, "length", "()I"⟩
abbrev cJ0_charAt_5068e : ByteArray := prog_12_method_56_code
def yJ0_charAt_5068e : MethodName := ⟨RJ0, "charAt", "(I)C"⟩
abbrev cJ0_coder_7d493 : ByteArray := prog_12_method_152_code
def yJ0_coder_7d493 : MethodName := ⟨RJ0, "coder", "()B"⟩
abbrev cJ0_isLatin1_aae02 : ByteArray := prog_12_method_154_code
def yJ0_isLatin1_aae02 : MethodName := ⟨RJ0, "isLatin1", "()Z"⟩
abbrev cJ0_checkIndex_df160 : ByteArray := prog_12_method_155_code
def yJ0_checkIndex_df160 : MethodName := ⟨RJ0, "checkIndex", "(II)V"⟩
def RJ1 : String := "java/lang/StringLatin1"
def TJ1 : u_T := fun k => match k with
  | _ => ("", "", "", false)
def tyJ1 : Nat → FieldType := fun k => match k with
  | _ => .int
abbrev wsJ10 : List Cond := u_ws RJ1 TJ1 0
theorem nmJ1 : ∀ a, a < 0 → ∀ b, b < 0 → a ≠ b → (TJ1 a).2.1 ≠ (TJ1 b).2.1 := by decide +kernel
theorem tyJ1_ok : ∀ k, k < 0 → parseFieldDescriptor (TJ1 k).2.2.1 = some (tyJ1 k) := by decide +kernel
abbrev cJ1_charAt_3b067 : ByteArray := prog_13_method_2_code
def yJ1_charAt_3b067 : MethodName := ⟨RJ1, "charAt", "([BI)C"⟩
def RJ2 : String := "java/lang/StringUTF16"
def TJ2 : u_T := fun k => match k with
  | _ => ("", "", "", false)
def tyJ2 : Nat → FieldType := fun k => match k with
  | _ => .int
abbrev wsJ20 : List Cond := u_ws RJ2 TJ2 0
theorem nmJ2 : ∀ a, a < 0 → ∀ b, b < 0 → a ≠ b → (TJ2 a).2.1 ≠ (TJ2 b).2.1 := by decide +kernel
theorem tyJ2_ok : ∀ k, k < 0 → parseFieldDescriptor (TJ2 k).2.2.1 = some (tyJ2 k) := by decide +kernel
abbrev cJ2_getChar_3b067 : ByteArray := prog_14_method_5_code
def yJ2_getChar_3b067 : MethodName := ⟨RJ2, "getChar", "([BI)C"⟩
abbrev cJ2_length_9d52b : ByteArray := prog_14_method_6_code
def yJ2_length_9d52b : MethodName := ⟨RJ2, "length", "([B)I"⟩
abbrev cJ2_charAt_3b067 : ByteArray := prog_14_method_83_code
def yJ2_charAt_3b067 : MethodName := ⟨RJ2, "charAt", "([BI)C"⟩
abbrev cJ2_checkIndex_2214a : ByteArray := prog_14_method_91_code
def yJ2_checkIndex_2214a : MethodName := ⟨RJ2, "checkIndex", "(I[B)V"⟩
def RJ10 : String := "java/lang/System"
def TJ10 : u_T := fun k => match k with
  | _ => ("", "", "", false)
def tyJ10 : Nat → FieldType := fun k => match k with
  | _ => .int
abbrev wsJ100 : List Cond := u_ws RJ10 TJ10 0
theorem nmJ10 : ∀ a, a < 0 → ∀ b, b < 0 → a ≠ b → (TJ10 a).2.1 ≠ (TJ10 b).2.1 := by decide +kernel
theorem tyJ10_ok : ∀ k, k < 0 → parseFieldDescriptor (TJ10 k).2.2.1 = some (tyJ10 k) := by decide +kernel
def RJ7 : String := "java/util/Arrays"
def TJ7 : u_T := fun k => match k with
  | _ => ("", "", "", false)
def tyJ7 : Nat → FieldType := fun k => match k with
  | _ => .int
abbrev wsJ70 : List Cond := u_ws RJ7 TJ7 0
theorem nmJ7 : ∀ a, a < 0 → ∀ b, b < 0 → a ≠ b → (TJ7 a).2.1 ≠ (TJ7 b).2.1 := by decide +kernel
theorem tyJ7_ok : ∀ k, k < 0 → parseFieldDescriptor (TJ7 k).2.2.1 = some (tyJ7 k) := by decide +kernel
abbrev cJ7_fill_53178 : ByteArray := prog_16_method_103_code
def yJ7_fill_53178 : MethodName := ⟨RJ7, "fill", "([II)V"⟩
def RJ3 : String := "jdk/internal/util/Preconditions"
def TJ3 : u_T := fun k => match k with
  | _ => ("", "", "", false)
def tyJ3 : Nat → FieldType := fun k => match k with
  | _ => .int
abbrev wsJ30 : List Cond := u_ws RJ3 TJ3 0
theorem nmJ3 : ∀ a, a < 0 → ∀ b, b < 0 → a ≠ b → (TJ3 a).2.1 ≠ (TJ3 b).2.1 := by decide +kernel
theorem tyJ3_ok : ∀ k, k < 0 → parseFieldDescriptor (TJ3 k).2.2.1 = some (tyJ3 k) := by decide +kernel
abbrev cJ3_checkIndex_8e157 : ByteArray := prog_17_method_11_code
def yJ3_checkIndex_8e157 : MethodName := ⟨RJ3, "checkIndex", "(IILjava/util/function/BiFunction;)I"⟩
def RL : String := "CanoeMasterLaw"
abbrev cL_law : ByteArray := code
def yL_law : MethodName := ⟨RL, "law", "([I)Z"⟩
abbrev vwCl : List vw_C := [(RX0, TX0, 5), (RX1, TX1, 7), (RX2, TX2, 2), (RX3, TX3, 8), (RX4, TX4, 20), (RX5, TX5, 11), (RX6, TX6, 9), (RX7, TX7, 38)]
set_option maxRecDepth 20000 in
theorem inX0 : ∀ w ∈ wsX00, w ∈ lw_tbl := by decide +kernel
set_option maxRecDepth 20000 in
theorem inX1 : ∀ w ∈ wsX10, w ∈ lw_tbl := by decide +kernel
set_option maxRecDepth 20000 in
theorem inX2 : ∀ w ∈ wsX20, w ∈ lw_tbl := by decide +kernel
set_option maxRecDepth 20000 in
theorem inX3 : ∀ w ∈ wsX30, w ∈ lw_tbl := by decide +kernel
set_option maxRecDepth 20000 in
theorem inX4 : ∀ w ∈ wsX40, w ∈ lw_tbl := by decide +kernel
set_option maxRecDepth 20000 in
theorem inX5 : ∀ w ∈ wsX50, w ∈ lw_tbl := by decide +kernel
set_option maxRecDepth 20000 in
theorem inX6 : ∀ w ∈ wsX60, w ∈ lw_tbl := by decide +kernel
set_option maxRecDepth 20000 in
theorem inX7 : ∀ w ∈ wsX70, w ∈ lw_tbl := by decide +kernel
end
section

/-! THE TYPED HEAP: every cell that the system makes, by its address: its kind (0..7 a class, 8 ints, 9 longs, 10 chars; 11 none), its length, ints, longs, references -/
def Hp : Type := Nat × (Nat → Nat) × (Nat → Nat) × (Nat → Nat → Int32) × (Nat → Nat → Int64) × (Nat → Nat → Option Nat)
def Hp.N (h : Hp) : Nat := h.1
def Hp.K (h : Hp) : Nat → Nat := h.2.1
def Hp.L (h : Hp) : Nat → Nat := h.2.2.1
def Hp.I (h : Hp) : Nat → Nat → Int32 := h.2.2.2.1
def Hp.J (h : Hp) : Nat → Nat → Int64 := h.2.2.2.2.1
def Hp.R (h : Hp) : Nat → Nat → Option Nat := h.2.2.2.2.2
def up2 {α : Type} (f : Nat → Nat → α) (a k : Nat) (v : α) : Nat → Nat → α := fun b j => if b = a then (if j = k then v else f b j) else f b j
def putI (h : Hp) (a k : Nat) (v : Int32) : Hp := ⟨h.N, h.K, h.L, up2 h.I a k v, h.J, h.R⟩
def putJ (h : Hp) (a k : Nat) (v : Int64) : Hp := ⟨h.N, h.K, h.L, h.I, up2 h.J a k v, h.R⟩
def putR (h : Hp) (a k : Nat) (v : Option Nat) : Hp := ⟨h.N, h.K, h.L, h.I, h.J, up2 h.R a k v⟩
def newC (h : Hp) (kd len : Nat) : Hp := ⟨h.N + 1, va_up h.K h.N kd, va_up h.L h.N len, va_up h.I h.N (fun _ => 0), va_up h.J h.N (fun _ => 0), va_up h.R h.N (fun _ => none)⟩
def cpyI (h : Hp) (a b : Nat) (sp dp n : Nat) : Hp := ⟨h.N, h.K, h.L, va_up h.I b (va_cpy (h.I a) (h.I b) sp dp n), h.J, h.R⟩
def nF (c : Nat) : Nat := match c with | 0 => 5 | 1 => 7 | 2 => 2 | 3 => 8 | 4 => 20 | 5 => 11 | 6 => 9 | _ => 38
def tyF (c : Nat) : Nat → FieldType := match c with | 0 => tyX0 | 1 => tyX1 | 2 => tyX2 | 3 => tyX3 | 4 => tyX4 | 5 => tyX5 | 6 => tyX6 | _ => tyX7
def TF (c : Nat) : u_T := match c with | 0 => TX0 | 1 => TX1 | 2 => TX2 | 3 => TX3 | 4 => TX4 | 5 => TX5 | 6 => TX6 | _ => TX7
def RF (c : Nat) : String := match c with | 0 => RX0 | 1 => RX1 | 2 => RX2 | 3 => RX3 | 4 => RX4 | 5 => RX5 | 6 => RX6 | _ => RX7
def hW (ty : FieldType) (i : Int32) (j : Int64) (r : Option Nat) : Value := match ty with
  | .long => .long j
  | .object _ => va_rf r
  | .array _ => va_rf r
  | _ => .int i
def hV (h : Hp) (a k : Nat) : Value := hW (tyF (h.K a) k) (h.I a k) (h.J a k) (h.R a k)
theorem lt8 {c : Nat} (h : c < 8) : c = 0 ∨ c = 1 ∨ c = 2 ∨ c = 3 ∨ c = 4 ∨ c = 5 ∨ c = 6 ∨ c = 7 := by omega
def TB : List Cond := lw_tbl.filter goodWord
theorem tb_in {w : Cond} (h : w ∈ lw_tbl) (g : goodWord w = true) : w ∈ TB := List.mem_filter.mpr ⟨h, g⟩
theorem tb_good : GoodIn TB TB := fun w h => ⟨h, good_of_word (List.mem_filter.mp h).2⟩
theorem gw_lay (C : String) (T : u_T) (k : Nat) : goodWord (u_lay C T k) = true := by unfold u_lay; split <;> rfl
theorem inTB {C : String} {T : u_T} {N : Nat} (h : ∀ w ∈ u_ws C T N, w ∈ lw_tbl) : ∀ w ∈ u_ws C T N, w ∈ TB := by
  intro w hw
  refine tb_in (h w hw) ?_
  obtain ⟨k, -, rfl⟩ := List.mem_map.mp hw
  exact gw_lay C T k
theorem fieldsTB {c : Nat} (hc : c < 8) : ∀ w ∈ u_ws (RF c) (TF c) (nF c), w ∈ TB := by
  rcases lt8 hc with rfl | rfl | rfl | rfl | rfl | rfl | rfl | rfl
  · exact inTB inX0
  · exact inTB inX1
  · exact inTB inX2
  · exact inTB inX3
  · exact inTB inX4
  · exact inTB inX5
  · exact inTB inX6
  · exact inTB inX7
theorem tyF_ok {c : Nat} (hc : c < 8) : ∀ k, k < nF c → parseFieldDescriptor (TF c k).2.2.1 = some (tyF c k) := by
  rcases lt8 hc with rfl | rfl | rfl | rfl | rfl | rfl | rfl | rfl
  · exact tyX0_ok
  · exact tyX1_ok
  · exact tyX2_ok
  · exact tyX3_ok
  · exact tyX4_ok
  · exact tyX5_ok
  · exact tyX6_ok
  · exact tyX7_ok
theorem nmF_ok {c : Nat} (hc : c < 8) : ∀ a, a < nF c → ∀ b, b < nF c → a ≠ b → (TF c a).2.1 ≠ (TF c b).2.1 := by
  rcases lt8 hc with rfl | rfl | rfl | rfl | rfl | rfl | rfl | rfl
  · exact nmX0
  · exact nmX1
  · exact nmX2
  · exact nmX3
  · exact nmX4
  · exact nmX5
  · exact nmX6
  · exact nmX7
/-! the strings, the nest links -/
def lenS : List Nat := [5, 5, 3, 5, 5, 4]
def bytS : List (List Int32) := [[115, 116, 101, 101, 114], [117, 110, 116, 105, 108], [102, 111, 114], [98, 105, 114, 100, 115], [115, 119, 101, 108, 108], [115, 116, 97, 114]]
def idxS (i : Nat) : Nat := [88, 94, 96, 98, 100, 102].getD i 0
def txS (i : Nat) : String := ["steer", "until", "for", "birds", "swell", "star"].getD i ""
def nestW : List Cond := [.methodLinkNest RX6 11 yX4_init "CanoeMaster", .methodLinkNest RX6 18 yX3_init "CanoeMaster", .methodLinkNest RX6 25 yX0_init "CanoeMaster", .methodLinkNest RX6 197 yX1_init "CanoeMaster", .methodLinkNest RX6 211 yX5_init "CanoeMaster", .methodLinkNest RX1 11 yX2_init "CanoeMaster", .methodLinkNest RX1 62 yX6_has "CanoeMaster", .methodLinkNest RX4 107 yX6_has "CanoeMaster"]
/-! what is known of the launch: class tables, the array classes of kinds 8, 9, 10, the lowest address of ours, the strings' addresses and their rows' -/
abbrev Dx : Type := va_G × (ClassId × ClassId × ClassId) × Nat × (Nat → Nat) × (Nat → Nat)
def Dx.lo (D : Dx) : Nat := D.2.2.1
def Dx.A (D : Dx) : Nat → Prop := fun q => D.2.2.1 ≤ q
def gA (D : Dx) (h : Hp) (a : Nat) (H : Heap) : Prop :=
  if h.K a = 8 then H[a]? = some (arrV D.2.1.1 (h.L a) (fun j => .int (h.I a j)))
  else if h.K a = 9 then H[a]? = some (arrV D.2.1.2.1 (h.L a) (fun j => .long (h.J a j)))
  else if h.K a = 10 then H[a]? = some (arrV D.2.1.2.2 (h.L a) (fun j => .int (h.I a j)))
  else t_OB a (D.1.1 (h.K a)) (nF (h.K a)) (D.1.2 (h.K a)) H (hV h a)
def gP (D : Dx) (h : Hp) (H : Heap) : Prop := H.size = h.N ∧ D.2.2.1 ≤ h.N ∧ ∀ a, h.K a < 11 → D.2.2.1 ≤ a ∧ a < h.N ∧ gA D h a H
def gK (D : Dx) (U : State) : Prop :=
  (∀ c, c < 8 → u_Kn U (RF c) (TF c) (nF c) (D.1.1 c) (D.1.2 c)) ∧
  (ArrOfT U D.2.1.1 .int ∧ U.vm.findClass ("[" ++ FieldType.int.toString) = some D.2.1.1) ∧ (ArrOfT U D.2.1.2.1 .long ∧ U.vm.findClass ("[" ++ FieldType.long.toString) = some D.2.1.2.1) ∧ (ArrOfT U D.2.1.2.2 .char ∧ U.vm.findClass ("[" ++ FieldType.char.toString) = some D.2.1.2.2) ∧
  (∀ w ∈ nestW, va_Nw w U) ∧ (∀ i, i < 6 → vk_R RX3 (idxS i) (txS i) (D.2.2.2.1 i) U)
def gS (D : Dx) (U : State) (H : Heap) : Prop := vk_S 6 lenS bytS D.2.2.2.1 D.2.2.2.2 D.A U H ∧ va_Z "java/lang/String" "COMPACT_STRINGS" "Z" (.int 1) D.A U H
theorem nest_warm {s U : State} (hW : s.WarmedH U.vm) {w : Cond} (hw : w ∈ nestW) (h : va_Nw w s) : va_Nw w U := by
  simp only [nestW, List.mem_cons, List.not_mem_nil, or_false] at hw
  rcases hw with rfl | rfl | rfl | rfl | rfl | rfl | rfl | rfl <;> exact va_Nw.warmM hW h
theorem gK.warm {D : Dx} {s U : State} (hW : s.WarmedH U.vm) (h : gK D s) : gK D U := by
  obtain ⟨h1, ⟨a1, a2⟩, ⟨b1, b2⟩, ⟨c1, c2⟩, h3, h4⟩ := h
  have hv := hW.alike
  exact ⟨fun c hc => u_Kn_moved hv (h1 c hc), ⟨arrOfT_moved hv a1, by rw [hv.findClass]; exact a2⟩, ⟨arrOfT_moved hv b1, by rw [hv.findClass]; exact b2⟩, ⟨arrOfT_moved hv c1, by rw [hv.findClass]; exact c2⟩, fun w hw => nest_warm hW hw (h3 w hw), fun i hi => (h4 i hi).warm hW⟩
theorem gK.same {D : Dx} {u U : State} (hv : U.vm = u.vm) (h : gK D u) : gK D U := by
  obtain ⟨h1, ⟨a1, a2⟩, ⟨b1, b2⟩, ⟨c1, c2⟩, h3, h4⟩ := h
  have hA : u.vm.Alike U.vm := by rw [hv]; exact Vm.Alike.refl u.vm
  refine ⟨fun c hc => u_Kn_moved hA (h1 c hc), ⟨arrOfT_moved hA a1, by rw [hv]; exact a2⟩, ⟨arrOfT_moved hA b1, by rw [hv]; exact b2⟩, ⟨arrOfT_moved hA c1, by rw [hv]; exact c2⟩, fun w hw => ?_, fun i hi => (h4 i hi).same hv⟩
  have hz := h3 w hw
  simp only [nestW, List.mem_cons, List.not_mem_nil, or_false] at hw
  rcases hw with rfl | rfl | rfl | rfl | rfl | rfl | rfl | rfl <;> exact va_Nw.same rfl hv.symm hz
theorem gS.moved {D : Dx} {u U : State} {H : Heap} (hvm : u.vm.Alike U.vm) (h : gS D u H) : gS D U H := ⟨h.1.moved hvm, h.2.moved hvm⟩
theorem gS.kept {D : Dx} {U : State} {H H1 : Heap} (h : gS D U H) (hq : ∀ a : Nat, a < H.size → ¬ D.A a → H1[a]? = H[a]?) : gS D U H1 := ⟨h.1.kept hq, h.2.kept hq⟩
/-! locals by their places -/
def toA : Nat → List (Option Value) → List (Nat × Value)
  | _, [] => []
  | k, none :: l => toA (k + 1) l
  | k, some v :: l => (k, v) :: toA (k + 1) l
theorem toA_mem : ∀ (l : List (Option Value)) (k i : Nat) (v : Value), l[i]? = some (some v) → (k + i, v) ∈ toA k l
  | [], _, i, v, h => by simp at h
  | none :: l, k, 0, v, h => by simp at h
  | some w :: l, k, 0, v, h => by simp at h; subst h; exact List.mem_cons_self
  | none :: l, k, i + 1, v, h => by
    have := toA_mem l (k + 1) i v (by simpa using h)
    rw [show k + (i + 1) = k + 1 + i by omega]; exact this
  | some w :: l, k, i + 1, v, h => by
    have := toA_mem l (k + 1) i v (by simpa using h)
    rw [show k + (i + 1) = k + 1 + i by omega]; exact List.mem_cons_of_mem _ this
theorem toA_of : ∀ (l : List (Option Value)) (k j : Nat) (v : Value), (j, v) ∈ toA k l → k ≤ j ∧ l[j - k]? = some (some v)
  | [], _, _, _, h => by simp [toA] at h
  | none :: l, k, j, v, h => by
    obtain ⟨h1, h2⟩ := toA_of l (k + 1) j v h
    refine ⟨by omega, ?_⟩
    rw [show j - k = (j - (k + 1)) + 1 by omega]; simpa using h2
  | some w :: l, k, j, v, h => by
    rcases List.mem_cons.mp h with h | h
    · cases h; exact ⟨Nat.le_refl _, by simp⟩
    · obtain ⟨h1, h2⟩ := toA_of l (k + 1) j v h
      refine ⟨by omega, ?_⟩
      rw [show j - k = (j - (k + 1)) + 1 by omega]; simpa using h2
def vC2 (v : Option Value) : Bool := match v with
  | some (.long _) => true
  | some (.double _) => true
  | _ => false
/-- a store at place i: of one word (w = 1) or two -/
def lvS : List (Option Value) → Nat → Value → List (Option Value)
  | [], _, _ => []
  | _ :: l, 0, v => some v :: l
  | x :: l, 1, v => (if vC2 x then none else x) :: lvS l 0 v
  | x :: l, i + 2, v => x :: lvS l (i + 1) v
def lvD : List (Option Value) → Nat → Value → List (Option Value)
  | [], _, _ => []
  | _ :: _ :: l, 0, v => some v :: none :: l
  | _ :: [], 0, v => [some v]
  | x :: l, 1, v => (if vC2 x then none else x) :: lvD l 0 v
  | x :: l, i + 2, v => x :: lvD l (i + 1) v
theorem vC2_cat {v : Value} : vC2 (some v) = (v.category == 2) := by cases v <;> rfl
theorem lvS_get : ∀ (l : List (Option Value)) (i : Nat) (v : Value) (j : Nat) (w : Value), (lvS l i v)[j]? = some (some w) → (j = i ∧ w = v) ∨ (j ≠ i ∧ l[j]? = some (some w) ∧ (j + 1 = i → (w.category == 2) = false))
  | [], _, _, j, w, h => by simp [lvS] at h
  | x :: l, 0, v, 0, w, h => by simp [lvS] at h; exact Or.inl ⟨rfl, h.symm⟩
  | x :: l, 0, v, j + 1, w, h => by simp [lvS] at h; exact Or.inr ⟨by omega, by simpa using h, by omega⟩
  | x :: l, 1, v, 0, w, h => by
    simp only [lvS, List.getElem?_cons_zero, Option.some.injEq] at h
    refine Or.inr ⟨by omega, ?_, fun _ => ?_⟩
    · split at h
      · cases h
      · simp [h]
    · split at h
      · cases h
      · next hx => rw [h, vC2_cat] at hx; simpa using hx
  | x :: l, 1, v, j + 1, w, h => by
    simp only [lvS, List.getElem?_cons_succ] at h
    rcases lvS_get l 0 v j w h with ⟨h1, h2⟩ | ⟨h1, h2, h3⟩
    · exact Or.inl ⟨by omega, h2⟩
    · exact Or.inr ⟨by omega, by simpa using h2, by omega⟩
  | x :: l, i + 2, v, 0, w, h => by
    simp only [lvS, List.getElem?_cons_zero] at h
    exact Or.inr ⟨by omega, by simpa using h, by omega⟩
  | x :: l, i + 2, v, j + 1, w, h => by
    simp only [lvS, List.getElem?_cons_succ] at h
    rcases lvS_get l (i + 1) v j w h with ⟨h1, h2⟩ | ⟨h1, h2, h3⟩
    · exact Or.inl ⟨by omega, h2⟩
    · exact Or.inr ⟨by omega, by simpa using h2, fun q => h3 (by omega)⟩
theorem lvD_get : ∀ (l : List (Option Value)) (i : Nat) (v : Value) (j : Nat) (w : Value), (lvD l i v)[j]? = some (some w) → (j = i ∧ w = v) ∨ (j ≠ i ∧ j ≠ i + 1 ∧ l[j]? = some (some w) ∧ (j + 1 = i → (w.category == 2) = false))
  | [], _, _, j, w, h => by simp [lvD] at h
  | [x], 0, v, 0, w, h => by simp [lvD] at h; exact Or.inl ⟨rfl, h.symm⟩
  | [x], 0, v, j + 1, w, h => by simp [lvD] at h
  | x :: y :: l, 0, v, 0, w, h => by simp [lvD] at h; exact Or.inl ⟨rfl, h.symm⟩
  | x :: y :: l, 0, v, 1, w, h => by simp [lvD] at h
  | x :: y :: l, 0, v, j + 2, w, h => by simp [lvD] at h; exact Or.inr ⟨by omega, by omega, by simpa using h, by omega⟩
  | x :: l, 1, v, 0, w, h => by
    simp only [lvD, List.getElem?_cons_zero, Option.some.injEq] at h
    refine Or.inr ⟨by omega, by omega, ?_, fun _ => ?_⟩
    · split at h
      · cases h
      · simp [h]
    · split at h
      · cases h
      · next hx => rw [h, vC2_cat] at hx; simpa using hx
  | x :: l, 1, v, j + 1, w, h => by
    simp only [lvD, List.getElem?_cons_succ] at h
    rcases lvD_get l 0 v j w h with ⟨h1, h2⟩ | ⟨h1, h2, h3, h4⟩
    · exact Or.inl ⟨by omega, h2⟩
    · exact Or.inr ⟨by omega, by omega, by simpa using h3, by omega⟩
  | x :: l, i + 2, v, 0, w, h => by
    simp only [lvD, List.getElem?_cons_zero] at h
    exact Or.inr ⟨by omega, by omega, by simpa using h, by omega⟩
  | x :: l, i + 2, v, j + 1, w, h => by
    simp only [lvD, List.getElem?_cons_succ] at h
    rcases lvD_get l (i + 1) v j w h with ⟨h1, h2⟩ | ⟨h1, h2, h3, h4⟩
    · exact Or.inl ⟨by omega, h2⟩
    · exact Or.inr ⟨by omega, by omega, by simpa using h3, fun q => h4 (by omega)⟩
def lvh (ls : Array Slot) (nL : Nat) (lv : List (Option Value)) : Prop := lv_has ls nL (toA 0 lv)
theorem lvh.at {ls : Array Slot} {nL : Nat} {lv : List (Option Value)} (h : lvh ls nL lv) {i : Nat} {v : Value} (hi : lv[i]? = some (some v)) : ls[i]? = some (.val v) := by
  have := h.2.2 (0 + i, v) (toA_mem lv 0 i v hi)
  simpa using this
theorem lvh.store {ls : Array Slot} {nL : Nat} {lv : List (Option Value)} {i : Nat} {v : Value} (h : lv_has ls nL ((i, v) :: (toA 0 lv).filter (fun q => !(q.1 == i) && !(q.1 + 1 == i && q.2.category == 2)))) : lvh ls nL (lvS lv i v) := by
  refine ⟨h.1, h.2.1, fun q hq => ?_⟩
  obtain ⟨j, w⟩ := q
  obtain ⟨-, hj⟩ := toA_of _ _ _ _ hq
  rw [Nat.sub_zero] at hj
  rcases lvS_get lv i v j w hj with ⟨rfl, rfl⟩ | ⟨h1, h2, h3⟩
  · exact h.2.2 _ List.mem_cons_self
  · refine h.2.2 _ (List.mem_cons_of_mem _ (List.mem_filter.mpr ⟨by simpa using toA_mem lv 0 j w h2, ?_⟩))
    by_cases hji : j + 1 = i
    · simp [h1, hji, h3 hji]
    · simp [h1, hji]
theorem lvh.store2 {ls : Array Slot} {nL : Nat} {lv : List (Option Value)} {i : Nat} {v : Value} (h : lv_has ls nL ((i, v) :: (toA 0 lv).filter (fun q => !(q.1 == i) && (!(q.1 == i + 1) && !(q.1 + 1 == i && q.2.category == 2))))) : lvh ls nL (lvD lv i v) := by
  refine ⟨h.1, h.2.1, fun q hq => ?_⟩
  obtain ⟨j, w⟩ := q
  obtain ⟨-, hj⟩ := toA_of _ _ _ _ hq
  rw [Nat.sub_zero] at hj
  rcases lvD_get lv i v j w hj with ⟨rfl, rfl⟩ | ⟨h1, h1b, h2, h3⟩
  · exact h.2.2 _ List.mem_cons_self
  · refine h.2.2 _ (List.mem_cons_of_mem _ (List.mem_filter.mpr ⟨by simpa using toA_mem lv 0 j w h2, ?_⟩))
    by_cases hji : j + 1 = i
    · simp [h1, h1b, hji, h3 hji]
    · simp [h1, h1b, hji]
/-- the first list says less -/
def lvLe : List (Option Value) → List (Option Value) → Prop
  | [], _ => True
  | _ :: _, [] => False
  | none :: a, _ :: b => lvLe a b
  | some v :: a, w :: b => w = some v ∧ lvLe a b
theorem lvLe_get : ∀ (a b : List (Option Value)), lvLe a b → ∀ (i : Nat) (v : Value), a[i]? = some (some v) → b[i]? = some (some v)
  | [], _, _, i, v, h => by simp at h
  | _ :: _, [], hl, _, _, _ => hl.elim
  | none :: a, w :: b, hl, 0, v, h => by simp at h
  | none :: a, w :: b, hl, i + 1, v, h => by simpa using lvLe_get a b hl i v (by simpa using h)
  | some u :: a, w :: b, hl, 0, v, h => by simp at h; subst h; simp [hl.1]
  | some u :: a, w :: b, hl, i + 1, v, h => by simpa using lvLe_get a b hl.2 i v (by simpa using h)
theorem lvh.sub {ls : Array Slot} {nL : Nat} {a b : List (Option Value)} (h : lvh ls nL b) (hl : lvLe a b) : lvh ls nL a := by
  refine ⟨h.1, h.2.1, fun q hq => ?_⟩
  obtain ⟨j, w⟩ := q
  obtain ⟨-, hj⟩ := toA_of _ _ _ _ hq
  rw [Nat.sub_zero] at hj
  exact h.at (lvLe_get a b hl j w hj)
end
section

abbrev Cx : Type := Program × Launch × Env × Room × State × MethodId × Array Value × List Frame × Method × Code
def Cx.p (X : Cx) : Program := X.1
def Cx.l (X : Cx) : Launch := X.2.1
def Cx.e (X : Cx) : Env := X.2.2.1
def Cx.Rm (X : Cx) : Room := X.2.2.2.1
def Cx.s (X : Cx) : State := X.2.2.2.2.1
def Cx.m (X : Cx) : MethodId := X.2.2.2.2.2.1
def Cx.args (X : Cx) : Array Value := X.2.2.2.2.2.2.1
def Cx.below (X : Cx) : List Frame := X.2.2.2.2.2.2.2.1
def Cx.meth (X : Cx) : Method := X.2.2.2.2.2.2.2.2.1
def Cx.c (X : Cx) : Code := X.2.2.2.2.2.2.2.2.2
/-- the environment of a method that runs -/
def En (X : Cx) (D : Dx) (cc : ByteArray) (nL : Nat) (own : String) (rt : Option FieldType) (rm : Room) : Prop :=
  X.p.tables.exec = Jvm.exec ∧ X.c.code = cc ∧ X.c.maxLocals = nL ∧ X.s.vm.findClass own = some X.m.cls ∧ (∀ w ∈ TB, w.before X.args X.s = true) ∧ gK D X.s ∧ D.2.2.1 ≤ X.s.heap.size ∧ X.meth.sig.returnType = rt ∧ X.meth.locks = false ∧ gS D X.s X.s.heap ∧ X.Rm = rm
/-- what a method's end says -/
def Qm (D : Dx) (r : Option Value) (h : Hp) : Array Value → State → Outcome → State → Prop := fun _ st oc t => oc = .returned r ∧ gP D h t.heap ∧ va_F D.A st t
/-- THE JUDGEMENT: where the picture o of the rest is some outcome, the machine comes to it -/
def Wo {ρ : Type} (X : Cx) (D : Dx) (nL mc ms : Nat) (ev : ρ → Option Value) (cells slots : Nat) (o : Option (ρ × Hp)) (pc : Nat) (lv : List (Option Value)) (st : List Value) (h : Hp) : Prop :=
  ∀ out, o = some out → ∀ (H : Heap) (locs : List Loc) (ls : Array Slot), gP D h H → va_S D.A X.s.heap H locs → lvh ls nL lv →
    W X.p X.l X.e X.Rm X.s X.m X.args X.below X.meth X.c H locs cells slots (MQ X.below (Qm D (ev out.1) out.2) X.args X.s mc ms D.A) (F0 X.m pc ls st)
section RULES
variable {ρ : Type} {X : Cx} {D : Dx} {cc : ByteArray} {nL : Nat} {own : String} {rt : Option FieldType} {rm : Room} {mc ms : Nat} {ev : ρ → Option Value} {cells slots : Nat} {o o1 o2 : Option (ρ × Hp)} {pc : Nat} {lv : List (Option Value)} {st : List Value} {h : Hp}
theorem Wo_none : Wo X D nL mc ms ev cells slots (none : Option (ρ × Hp)) pc lv st h := fun _ ho => by cases ho
theorem Wo_sub {lv' : List (Option Value)} (hl : lvLe lv' lv) (k : Wo X D nL mc ms ev cells slots o pc lv' st h) : Wo X D nL mc ms ev cells slots o pc lv st h := fun out ho H locs ls hP hS hv => k out ho H locs ls hP hS (hv.sub hl)
theorem Wo_widen {c2 s2 : Nat} (h1 : cells ≤ c2) (h2 : slots ≤ s2) (k : Wo X D nL mc ms ev c2 s2 o pc lv st h) : Wo X D nL mc ms ev cells slots o pc lv st h := fun out ho H locs ls hP hS hv => W.widen h1 h2 (k out ho H locs ls hP hS hv)

theorem r_iconst (hE : En X D cc nL own rt rm) {n : Int} {v : Int32} (hd : decode cc pc = .ok (.iconst n, 1)) (hv : Int32.ofInt n = v) (k : Wo X D nL mc ms ev cells slots o (pc + 1) lv (.int v :: st) h) : Wo X D nL mc ms ev cells slots o pc lv (st) h := fun out ho H locs ls hP hS hl => lv_iconst hE.1 hE.2.1 hd hv (k out ho H locs ls hP hS hl)
theorem r_bipush (hE : En X D cc nL own rt rm) {n : Int} {v : Int32} (hd : decode cc pc = .ok (.bipush n, 2)) (hv : (Int8.ofInt n).toInt32 = v) (k : Wo X D nL mc ms ev cells slots o (pc + 2) lv (.int v :: st) h) : Wo X D nL mc ms ev cells slots o pc lv (st) h := fun out ho H locs ls hP hS hl => lv_bipush hE.1 hE.2.1 hd hv (k out ho H locs ls hP hS hl)
theorem r_sipush (hE : En X D cc nL own rt rm) {n : Int} {v : Int32} (hd : decode cc pc = .ok (.sipush n, 3)) (hv : (Int16.ofInt n).toInt32 = v) (k : Wo X D nL mc ms ev cells slots o (pc + 3) lv (.int v :: st) h) : Wo X D nL mc ms ev cells slots o pc lv (st) h := fun out ho H locs ls hP hS hl => lv_sipush hE.1 hE.2.1 hd hv (k out ho H locs ls hP hS hl)
theorem r_lconst (hE : En X D cc nL own rt rm) {n : Fin 2} {v : Int64} (hd : decode cc pc = .ok (.lconst n, 1)) (hv : Int64.ofNat (n : Nat) = v) (k : Wo X D nL mc ms ev cells slots o (pc + 1) lv (.long v :: st) h) : Wo X D nL mc ms ev cells slots o pc lv (st) h := fun out ho H locs ls hP hS hl => lv_lconst hE.1 hE.2.1 hd hv (k out ho H locs ls hP hS hl)
theorem r_iload_n (hE : En X D cc nL own rt rm) {k : Fin 4} {x : Int32} (hd : decode cc pc = .ok (.iload_n k, 1)) (hx : lv[(k : Nat)]? = some (some (.int x))) (kk : Wo X D nL mc ms ev cells slots o (pc + 1) lv (.int x :: st) h) : Wo X D nL mc ms ev cells slots o pc lv st h := fun out ho H locs ls hP hS hl => lv_iload_n hE.1 hE.2.1 hd rfl (hl.at hx) (kk out ho H locs ls hP hS hl)
theorem r_iload (hE : En X D cc nL own rt rm) {i : Nat} {x : Int32} (hd : decode cc pc = .ok (.iload i, 2)) (hx : lv[i]? = some (some (.int x))) (kk : Wo X D nL mc ms ev cells slots o (pc + 2) lv (.int x :: st) h) : Wo X D nL mc ms ev cells slots o pc lv st h := fun out ho H locs ls hP hS hl => lv_iload hE.1 hE.2.1 hd (hl.at hx) (kk out ho H locs ls hP hS hl)
theorem r_istore_n (hE : En X D cc nL own rt rm) {k : Fin 4} {x : Int32} (hd : decode cc pc = .ok (.istore_n k, 1)) (hn : (k : Nat) < nL) (kk : Wo X D nL mc ms ev cells slots o (pc + 1) (lvS lv (k : Nat) (.int x)) st h) : Wo X D nL mc ms ev cells slots o pc lv (.int x :: st) h := fun out ho H locs ls hP hS hl => lv_istore_n hE.1 hE.2.1 hd rfl hl hn rfl (fun ls' hl' => kk out ho H locs ls' hP hS (lvh.store hl'))
theorem r_istore (hE : En X D cc nL own rt rm) {i : Nat} {x : Int32} (hd : decode cc pc = .ok (.istore i, 2)) (hn : i < nL) (kk : Wo X D nL mc ms ev cells slots o (pc + 2) (lvS lv i (.int x)) st h) : Wo X D nL mc ms ev cells slots o pc lv (.int x :: st) h := fun out ho H locs ls hP hS hl => lv_istore hE.1 hE.2.1 hd hl hn rfl (fun ls' hl' => kk out ho H locs ls' hP hS (lvh.store hl'))
theorem r_lload_n (hE : En X D cc nL own rt rm) {k : Fin 4} {x : Int64} (hd : decode cc pc = .ok (.lload_n k, 1)) (hx : lv[(k : Nat)]? = some (some (.long x))) (kk : Wo X D nL mc ms ev cells slots o (pc + 1) lv (.long x :: st) h) : Wo X D nL mc ms ev cells slots o pc lv st h := fun out ho H locs ls hP hS hl => lv_lload_n hE.1 hE.2.1 hd rfl (hl.at hx) (kk out ho H locs ls hP hS hl)
theorem r_lload (hE : En X D cc nL own rt rm) {i : Nat} {x : Int64} (hd : decode cc pc = .ok (.lload i, 2)) (hx : lv[i]? = some (some (.long x))) (kk : Wo X D nL mc ms ev cells slots o (pc + 2) lv (.long x :: st) h) : Wo X D nL mc ms ev cells slots o pc lv st h := fun out ho H locs ls hP hS hl => lv_lload hE.1 hE.2.1 hd (hl.at hx) (kk out ho H locs ls hP hS hl)
theorem r_lstore_n (hE : En X D cc nL own rt rm) {k : Fin 4} {x : Int64} (hd : decode cc pc = .ok (.lstore_n k, 1)) (hn : (k : Nat) + 1 < nL) (kk : Wo X D nL mc ms ev cells slots o (pc + 1) (lvD lv (k : Nat) (.long x)) st h) : Wo X D nL mc ms ev cells slots o pc lv (.long x :: st) h := fun out ho H locs ls hP hS hl => lv_lstore_n hE.1 hE.2.1 hd rfl hl hn rfl (fun ls' hl' => kk out ho H locs ls' hP hS (lvh.store2 hl'))
theorem r_lstore (hE : En X D cc nL own rt rm) {i : Nat} {x : Int64} (hd : decode cc pc = .ok (.lstore i, 2)) (hn : i + 1 < nL) (kk : Wo X D nL mc ms ev cells slots o (pc + 2) (lvD lv i (.long x)) st h) : Wo X D nL mc ms ev cells slots o pc lv (.long x :: st) h := fun out ho H locs ls hP hS hl => lv_lstore hE.1 hE.2.1 hd hl hn rfl (fun ls' hl' => kk out ho H locs ls' hP hS (lvh.store2 hl'))
theorem r_aload_n (hE : En X D cc nL own rt rm) {k : Fin 4} {x : Nat} (hd : decode cc pc = .ok (.aload_n k, 1)) (hx : lv[(k : Nat)]? = some (some (.ref x))) (kk : Wo X D nL mc ms ev cells slots o (pc + 1) lv (.ref x :: st) h) : Wo X D nL mc ms ev cells slots o pc lv st h := fun out ho H locs ls hP hS hl => lv_aload_n hE.1 hE.2.1 hd rfl (hl.at hx) (kk out ho H locs ls hP hS hl)
theorem r_aload (hE : En X D cc nL own rt rm) {i : Nat} {x : Nat} (hd : decode cc pc = .ok (.aload i, 2)) (hx : lv[i]? = some (some (.ref x))) (kk : Wo X D nL mc ms ev cells slots o (pc + 2) lv (.ref x :: st) h) : Wo X D nL mc ms ev cells slots o pc lv st h := fun out ho H locs ls hP hS hl => lv_aload hE.1 hE.2.1 hd (hl.at hx) (kk out ho H locs ls hP hS hl)
theorem r_astore_n (hE : En X D cc nL own rt rm) {k : Fin 4} {x : Nat} (hd : decode cc pc = .ok (.astore_n k, 1)) (hn : (k : Nat) < nL) (kk : Wo X D nL mc ms ev cells slots o (pc + 1) (lvS lv (k : Nat) (.ref x)) st h) : Wo X D nL mc ms ev cells slots o pc lv (.ref x :: st) h := fun out ho H locs ls hP hS hl => lv_astore_n hE.1 hE.2.1 hd rfl hl hn rfl (fun ls' hl' => kk out ho H locs ls' hP hS (lvh.store hl'))
theorem r_astore (hE : En X D cc nL own rt rm) {i : Nat} {x : Nat} (hd : decode cc pc = .ok (.astore i, 2)) (hn : i < nL) (kk : Wo X D nL mc ms ev cells slots o (pc + 2) (lvS lv i (.ref x)) st h) : Wo X D nL mc ms ev cells slots o pc lv (.ref x :: st) h := fun out ho H locs ls hP hS hl => lv_astore hE.1 hE.2.1 hd hl hn rfl (fun ls' hl' => kk out ho H locs ls' hP hS (lvh.store hl'))
theorem r_iinc (hE : En X D cc nL own rt rm) {i : Nat} {n : Int} {x v : Int32} (hd : decode cc pc = .ok (.iinc i n, 3)) (hx : lv[i]? = some (some (.int x))) (hv : x + Int32.ofInt n = v) (hn : i < nL) (kk : Wo X D nL mc ms ev cells slots o (pc + 3) (lvS lv i (.int v)) st h) : Wo X D nL mc ms ev cells slots o pc lv st h := fun out ho H locs ls hP hS hl => by
  obtain ⟨q, hq⟩ := List.getElem?_of_mem (toA_mem lv 0 i (.int x) hx)
  rw [Nat.zero_add] at hq
  exact lv_iinc hE.1 hE.2.1 hd hl hq hv hn rfl (fun ls' hl' => kk out ho H locs ls' hP hS (lvh.store hl'))
theorem r_iadd (hE : En X D cc nL own rt rm) {x y : Int32} (hd : decode cc pc = .ok (.iadd, 1))  (k : Wo X D nL mc ms ev cells slots o (pc + 1) lv (.int (x + y) :: st) h) : Wo X D nL mc ms ev cells slots o pc lv (.int y :: .int x :: st) h := fun out ho H locs ls hP hS hl => lv_iadd hE.1 hE.2.1 hd  (k out ho H locs ls hP hS hl)
theorem r_isub (hE : En X D cc nL own rt rm) {x y : Int32} (hd : decode cc pc = .ok (.isub, 1))  (k : Wo X D nL mc ms ev cells slots o (pc + 1) lv (.int (x - y) :: st) h) : Wo X D nL mc ms ev cells slots o pc lv (.int y :: .int x :: st) h := fun out ho H locs ls hP hS hl => lv_isub hE.1 hE.2.1 hd  (k out ho H locs ls hP hS hl)
theorem r_imul (hE : En X D cc nL own rt rm) {x y : Int32} (hd : decode cc pc = .ok (.imul, 1))  (k : Wo X D nL mc ms ev cells slots o (pc + 1) lv (.int (x * y) :: st) h) : Wo X D nL mc ms ev cells slots o pc lv (.int y :: .int x :: st) h := fun out ho H locs ls hP hS hl => lv_imul hE.1 hE.2.1 hd  (k out ho H locs ls hP hS hl)
theorem r_iand (hE : En X D cc nL own rt rm) {x y : Int32} (hd : decode cc pc = .ok (.iand, 1))  (k : Wo X D nL mc ms ev cells slots o (pc + 1) lv (.int (x &&& y) :: st) h) : Wo X D nL mc ms ev cells slots o pc lv (.int y :: .int x :: st) h := fun out ho H locs ls hP hS hl => lv_iand hE.1 hE.2.1 hd  (k out ho H locs ls hP hS hl)
theorem r_ior (hE : En X D cc nL own rt rm) {x y : Int32} (hd : decode cc pc = .ok (.ior, 1))  (k : Wo X D nL mc ms ev cells slots o (pc + 1) lv (.int (x ||| y) :: st) h) : Wo X D nL mc ms ev cells slots o pc lv (.int y :: .int x :: st) h := fun out ho H locs ls hP hS hl => lv_ior hE.1 hE.2.1 hd  (k out ho H locs ls hP hS hl)
theorem r_ixor (hE : En X D cc nL own rt rm) {x y : Int32} (hd : decode cc pc = .ok (.ixor, 1))  (k : Wo X D nL mc ms ev cells slots o (pc + 1) lv (.int (x ^^^ y) :: st) h) : Wo X D nL mc ms ev cells slots o pc lv (.int y :: .int x :: st) h := fun out ho H locs ls hP hS hl => lv_ixor hE.1 hE.2.1 hd  (k out ho H locs ls hP hS hl)
theorem r_ishl (hE : En X D cc nL own rt rm) {x y : Int32} (hd : decode cc pc = .ok (.ishl, 1))  (k : Wo X D nL mc ms ev cells slots o (pc + 1) lv (.int (x <<< (y &&& 31)) :: st) h) : Wo X D nL mc ms ev cells slots o pc lv (.int y :: .int x :: st) h := fun out ho H locs ls hP hS hl => lv_ishl hE.1 hE.2.1 hd  (k out ho H locs ls hP hS hl)
theorem r_ishr (hE : En X D cc nL own rt rm) {x y : Int32} (hd : decode cc pc = .ok (.ishr, 1))  (k : Wo X D nL mc ms ev cells slots o (pc + 1) lv (.int (x >>> (y &&& 31)) :: st) h) : Wo X D nL mc ms ev cells slots o pc lv (.int y :: .int x :: st) h := fun out ho H locs ls hP hS hl => lv_ishr hE.1 hE.2.1 hd  (k out ho H locs ls hP hS hl)
theorem r_ladd (hE : En X D cc nL own rt rm) {x y : Int64} (hd : decode cc pc = .ok (.ladd, 1))  (k : Wo X D nL mc ms ev cells slots o (pc + 1) lv (.long (x + y) :: st) h) : Wo X D nL mc ms ev cells slots o pc lv (.long y :: .long x :: st) h := fun out ho H locs ls hP hS hl => lv_ladd hE.1 hE.2.1 hd  (k out ho H locs ls hP hS hl)
theorem r_lsub (hE : En X D cc nL own rt rm) {x y : Int64} (hd : decode cc pc = .ok (.lsub, 1))  (k : Wo X D nL mc ms ev cells slots o (pc + 1) lv (.long (x - y) :: st) h) : Wo X D nL mc ms ev cells slots o pc lv (.long y :: .long x :: st) h := fun out ho H locs ls hP hS hl => lv_lsub hE.1 hE.2.1 hd  (k out ho H locs ls hP hS hl)
theorem r_lmul (hE : En X D cc nL own rt rm) {x y : Int64} (hd : decode cc pc = .ok (.lmul, 1))  (k : Wo X D nL mc ms ev cells slots o (pc + 1) lv (.long (x * y) :: st) h) : Wo X D nL mc ms ev cells slots o pc lv (.long y :: .long x :: st) h := fun out ho H locs ls hP hS hl => lv_lmul hE.1 hE.2.1 hd  (k out ho H locs ls hP hS hl)
theorem r_land (hE : En X D cc nL own rt rm) {x y : Int64} (hd : decode cc pc = .ok (.land, 1))  (k : Wo X D nL mc ms ev cells slots o (pc + 1) lv (.long (x &&& y) :: st) h) : Wo X D nL mc ms ev cells slots o pc lv (.long y :: .long x :: st) h := fun out ho H locs ls hP hS hl => lv_land hE.1 hE.2.1 hd  (k out ho H locs ls hP hS hl)
theorem r_lor (hE : En X D cc nL own rt rm) {x y : Int64} (hd : decode cc pc = .ok (.lor, 1))  (k : Wo X D nL mc ms ev cells slots o (pc + 1) lv (.long (x ||| y) :: st) h) : Wo X D nL mc ms ev cells slots o pc lv (.long y :: .long x :: st) h := fun out ho H locs ls hP hS hl => lv_lor hE.1 hE.2.1 hd  (k out ho H locs ls hP hS hl)
theorem r_lxor (hE : En X D cc nL own rt rm) {x y : Int64} (hd : decode cc pc = .ok (.lxor, 1))  (k : Wo X D nL mc ms ev cells slots o (pc + 1) lv (.long (x ^^^ y) :: st) h) : Wo X D nL mc ms ev cells slots o pc lv (.long y :: .long x :: st) h := fun out ho H locs ls hP hS hl => lv_lxor hE.1 hE.2.1 hd  (k out ho H locs ls hP hS hl)
theorem r_iushr (hE : En X D cc nL own rt rm) {x y : Int32} (hd : decode cc pc = .ok (.iushr, 1))  (k : Wo X D nL mc ms ev cells slots o (pc + 1) lv (.int ((x.toUInt32 >>> (y.toUInt32 &&& Int32.toUInt32 31)).toInt32) :: st) h) : Wo X D nL mc ms ev cells slots o pc lv (.int y :: .int x :: st) h := fun out ho H locs ls hP hS hl => lv_iushr hE.1 hE.2.1 hd rfl (k out ho H locs ls hP hS hl)
theorem r_lushr (hE : En X D cc nL own rt rm) {x : Int64} {y : Int32} (hd : decode cc pc = .ok (.lushr, 1))  (k : Wo X D nL mc ms ev cells slots o (pc + 1) lv (.long ((x.toUInt64 >>> (y.toInt64.toUInt64 &&& Int64.toUInt64 63)).toInt64) :: st) h) : Wo X D nL mc ms ev cells slots o pc lv (.int y :: .long x :: st) h := fun out ho H locs ls hP hS hl => lv_lushr hE.1 hE.2.1 hd rfl (k out ho H locs ls hP hS hl)
theorem r_lshl (hE : En X D cc nL own rt rm) {x : Int64} {y : Int32} (hd : decode cc pc = .ok (.lshl, 1))  (k : Wo X D nL mc ms ev cells slots o (pc + 1) lv (.long (x <<< (y.toInt64 &&& 63)) :: st) h) : Wo X D nL mc ms ev cells slots o pc lv (.int y :: .long x :: st) h := fun out ho H locs ls hP hS hl => lv_lshl hE.1 hE.2.1 hd rfl (k out ho H locs ls hP hS hl)
theorem r_i2l (hE : En X D cc nL own rt rm) {x : Int32} (hd : decode cc pc = .ok (.i2l, 1))  (k : Wo X D nL mc ms ev cells slots o (pc + 1) lv (.long x.toInt64 :: st) h) : Wo X D nL mc ms ev cells slots o pc lv (.int x :: st) h := fun out ho H locs ls hP hS hl => lv_i2l hE.1 hE.2.1 hd rfl (k out ho H locs ls hP hS hl)
theorem r_l2i (hE : En X D cc nL own rt rm) {x : Int64} (hd : decode cc pc = .ok (.l2i, 1))  (k : Wo X D nL mc ms ev cells slots o (pc + 1) lv (.int x.toInt32 :: st) h) : Wo X D nL mc ms ev cells slots o pc lv (.long x :: st) h := fun out ho H locs ls hP hS hl => lv_l2i hE.1 hE.2.1 hd rfl (k out ho H locs ls hP hS hl)
theorem r_i2c (hE : En X D cc nL own rt rm) {x : Int32} (hd : decode cc pc = .ok (.i2c, 1))  (k : Wo X D nL mc ms ev cells slots o (pc + 1) lv (.int ((x.toUInt32 % 65536).toInt32) :: st) h) : Wo X D nL mc ms ev cells slots o pc lv (.int x :: st) h := fun out ho H locs ls hP hS hl => lv_i2c hE.1 hE.2.1 hd rfl (k out ho H locs ls hP hS hl)
theorem r_lcmp (hE : En X D cc nL own rt rm) {x y : Int64} (hd : decode cc pc = .ok (.lcmp, 1))  (k : Wo X D nL mc ms ev cells slots o (pc + 1) lv (.int (lg_cmp x y) :: st) h) : Wo X D nL mc ms ev cells slots o pc lv (.long y :: .long x :: st) h := fun out ho H locs ls hP hS hl => W.lcmp hE.1 hE.2.1 hd  (k out ho H locs ls hP hS hl)
theorem r_dup (hE : En X D cc nL own rt rm) {v : Value} (hd : decode cc pc = .ok (.dup, 1)) (hc : v.category = 1) (k : Wo X D nL mc ms ev cells slots o (pc + 1) lv (v :: v :: st) h) : Wo X D nL mc ms ev cells slots o pc lv (v :: st) h := fun out ho H locs ls hP hS hl => lv_dup hE.1 hE.2.1 hd hc (k out ho H locs ls hP hS hl)
theorem r_pop (hE : En X D cc nL own rt rm) {v : Value} (hd : decode cc pc = .ok (.pop, 1)) (hc : v.category = 1) (k : Wo X D nL mc ms ev cells slots o (pc + 1) lv (st) h) : Wo X D nL mc ms ev cells slots o pc lv (v :: st) h := fun out ho H locs ls hP hS hl => lv_pop hE.1 hE.2.1 hd hc (k out ho H locs ls hP hS hl)
theorem r_null (hE : En X D cc nL own rt rm)  (hd : decode cc pc = .ok (.aconst_null, 1))  (k : Wo X D nL mc ms ev cells slots o (pc + 1) lv (va_rf none :: st) h) : Wo X D nL mc ms ev cells slots o pc lv (st) h := fun out ho H locs ls hP hS hl => lv_null hE.1 hE.2.1 hd  (k out ho H locs ls hP hS hl)
theorem r_idiv (hE : En X D cc nL own rt rm) {x y : Int32} (hd : decode cc pc = .ok (.idiv, 1)) (hy : ¬ y = 0) (k : Wo X D nL mc ms ev cells slots o (pc + 1) lv (.int (x / y) :: st) h) : Wo X D nL mc ms ev cells slots o pc lv (.int y :: .int x :: st) h := fun out ho H locs ls hP hS hl => lv_idiv hE.1 hE.2.1 hd hy (k out ho H locs ls hP hS hl)
theorem r_irem (hE : En X D cc nL own rt rm) {x y : Int32} (hd : decode cc pc = .ok (.irem, 1)) (hy : ¬ y = 0) (k : Wo X D nL mc ms ev cells slots o (pc + 1) lv (.int (x - x / y * y) :: st) h) : Wo X D nL mc ms ev cells slots o pc lv (.int y :: .int x :: st) h := fun out ho H locs ls hP hS hl => lv_irem hE.1 hE.2.1 hd hy (k out ho H locs ls hP hS hl)
theorem r_if_eq (hE : En X D cc nL own rt rm) {x : Int32} {off : Int} {i : Decidable (x = 0)} (tgt : Nat) (hd : decode cc pc = .ok (.ifCond .eq off, 3)) (ht : (pc : Int) + off = (tgt : Int)) (kt : x = 0 → Wo X D nL mc ms ev cells slots o1 tgt lv st h) (kf : ¬ x = 0 → Wo X D nL mc ms ev cells slots o2 (pc + 3) lv st h) : Wo X D nL mc ms ev cells slots (@ite _ (x = 0) i o1 o2) pc lv (.int x :: st) h := fun out ho H locs ls hP hS hl =>
  lv_if_eq hE.1 hE.2.1 hd ht (fun hc => kt hc out (by rw [if_pos hc] at ho; exact ho) H locs ls hP hS hl) (fun hc => kf hc out (by rw [if_neg hc] at ho; exact ho) H locs ls hP hS hl)
theorem r_icmp_eq (hE : En X D cc nL own rt rm) {x y : Int32} {off : Int} {i : Decidable (x = y)} (tgt : Nat) (hd : decode cc pc = .ok (.if_icmp .eq off, 3)) (ht : (pc : Int) + off = (tgt : Int)) (kt : x = y → Wo X D nL mc ms ev cells slots o1 tgt lv st h) (kf : ¬ x = y → Wo X D nL mc ms ev cells slots o2 (pc + 3) lv st h) : Wo X D nL mc ms ev cells slots (@ite _ (x = y) i o1 o2) pc lv (.int y :: .int x :: st) h := fun out ho H locs ls hP hS hl =>
  lv_icmp_eq hE.1 hE.2.1 hd ht (fun hc => kt hc out (by rw [if_pos hc] at ho; exact ho) H locs ls hP hS hl) (fun hc => kf hc out (by rw [if_neg hc] at ho; exact ho) H locs ls hP hS hl)
theorem r_if_ne (hE : En X D cc nL own rt rm) {x : Int32} {off : Int} {i : Decidable (x = 0)} (tgt : Nat) (hd : decode cc pc = .ok (.ifCond .ne off, 3)) (ht : (pc : Int) + off = (tgt : Int)) (kt : ¬ x = 0 → Wo X D nL mc ms ev cells slots o2 tgt lv st h) (kf : x = 0 → Wo X D nL mc ms ev cells slots o1 (pc + 3) lv st h) : Wo X D nL mc ms ev cells slots (@ite _ (x = 0) i o1 o2) pc lv (.int x :: st) h := fun out ho H locs ls hP hS hl =>
  lv_if_ne hE.1 hE.2.1 hd ht (fun hc => kt hc out (by rw [if_neg hc] at ho; exact ho) H locs ls hP hS hl) (fun hc => kf hc out (by rw [if_pos hc] at ho; exact ho) H locs ls hP hS hl)
theorem r_icmp_ne (hE : En X D cc nL own rt rm) {x y : Int32} {off : Int} {i : Decidable (x = y)} (tgt : Nat) (hd : decode cc pc = .ok (.if_icmp .ne off, 3)) (ht : (pc : Int) + off = (tgt : Int)) (kt : ¬ x = y → Wo X D nL mc ms ev cells slots o2 tgt lv st h) (kf : x = y → Wo X D nL mc ms ev cells slots o1 (pc + 3) lv st h) : Wo X D nL mc ms ev cells slots (@ite _ (x = y) i o1 o2) pc lv (.int y :: .int x :: st) h := fun out ho H locs ls hP hS hl =>
  lv_icmp_ne hE.1 hE.2.1 hd ht (fun hc => kt hc out (by rw [if_neg hc] at ho; exact ho) H locs ls hP hS hl) (fun hc => kf hc out (by rw [if_pos hc] at ho; exact ho) H locs ls hP hS hl)
theorem r_if_lt (hE : En X D cc nL own rt rm) {x : Int32} {off : Int} {i : Decidable (x < 0)} (tgt : Nat) (hd : decode cc pc = .ok (.ifCond .lt off, 3)) (ht : (pc : Int) + off = (tgt : Int)) (kt : x < 0 → Wo X D nL mc ms ev cells slots o1 tgt lv st h) (kf : ¬ x < 0 → Wo X D nL mc ms ev cells slots o2 (pc + 3) lv st h) : Wo X D nL mc ms ev cells slots (@ite _ (x < 0) i o1 o2) pc lv (.int x :: st) h := fun out ho H locs ls hP hS hl =>
  lv_if_lt hE.1 hE.2.1 hd ht (fun hc => kt hc out (by rw [if_pos hc] at ho; exact ho) H locs ls hP hS hl) (fun hc => kf hc out (by rw [if_neg hc] at ho; exact ho) H locs ls hP hS hl)
theorem r_icmp_lt (hE : En X D cc nL own rt rm) {x y : Int32} {off : Int} {i : Decidable (x < y)} (tgt : Nat) (hd : decode cc pc = .ok (.if_icmp .lt off, 3)) (ht : (pc : Int) + off = (tgt : Int)) (kt : x < y → Wo X D nL mc ms ev cells slots o1 tgt lv st h) (kf : ¬ x < y → Wo X D nL mc ms ev cells slots o2 (pc + 3) lv st h) : Wo X D nL mc ms ev cells slots (@ite _ (x < y) i o1 o2) pc lv (.int y :: .int x :: st) h := fun out ho H locs ls hP hS hl =>
  lv_icmp_lt hE.1 hE.2.1 hd ht (fun hc => kt hc out (by rw [if_pos hc] at ho; exact ho) H locs ls hP hS hl) (fun hc => kf hc out (by rw [if_neg hc] at ho; exact ho) H locs ls hP hS hl)
theorem r_if_ge (hE : En X D cc nL own rt rm) {x : Int32} {off : Int} {i : Decidable (0 ≤ x)} (tgt : Nat) (hd : decode cc pc = .ok (.ifCond .ge off, 3)) (ht : (pc : Int) + off = (tgt : Int)) (kt : 0 ≤ x → Wo X D nL mc ms ev cells slots o1 tgt lv st h) (kf : ¬ 0 ≤ x → Wo X D nL mc ms ev cells slots o2 (pc + 3) lv st h) : Wo X D nL mc ms ev cells slots (@ite _ (0 ≤ x) i o1 o2) pc lv (.int x :: st) h := fun out ho H locs ls hP hS hl =>
  lv_if_ge hE.1 hE.2.1 hd ht (fun hc => kt hc out (by rw [if_pos hc] at ho; exact ho) H locs ls hP hS hl) (fun hc => kf hc out (by rw [if_neg hc] at ho; exact ho) H locs ls hP hS hl)
theorem r_icmp_ge (hE : En X D cc nL own rt rm) {x y : Int32} {off : Int} {i : Decidable (y ≤ x)} (tgt : Nat) (hd : decode cc pc = .ok (.if_icmp .ge off, 3)) (ht : (pc : Int) + off = (tgt : Int)) (kt : y ≤ x → Wo X D nL mc ms ev cells slots o1 tgt lv st h) (kf : ¬ y ≤ x → Wo X D nL mc ms ev cells slots o2 (pc + 3) lv st h) : Wo X D nL mc ms ev cells slots (@ite _ (y ≤ x) i o1 o2) pc lv (.int y :: .int x :: st) h := fun out ho H locs ls hP hS hl =>
  lv_icmp_ge hE.1 hE.2.1 hd ht (fun hc => kt hc out (by rw [if_pos hc] at ho; exact ho) H locs ls hP hS hl) (fun hc => kf hc out (by rw [if_neg hc] at ho; exact ho) H locs ls hP hS hl)
theorem r_if_gt (hE : En X D cc nL own rt rm) {x : Int32} {off : Int} {i : Decidable (0 < x)} (tgt : Nat) (hd : decode cc pc = .ok (.ifCond .gt off, 3)) (ht : (pc : Int) + off = (tgt : Int)) (kt : 0 < x → Wo X D nL mc ms ev cells slots o1 tgt lv st h) (kf : ¬ 0 < x → Wo X D nL mc ms ev cells slots o2 (pc + 3) lv st h) : Wo X D nL mc ms ev cells slots (@ite _ (0 < x) i o1 o2) pc lv (.int x :: st) h := fun out ho H locs ls hP hS hl =>
  lv_if_gt hE.1 hE.2.1 hd ht (fun hc => kt hc out (by rw [if_pos hc] at ho; exact ho) H locs ls hP hS hl) (fun hc => kf hc out (by rw [if_neg hc] at ho; exact ho) H locs ls hP hS hl)
theorem r_icmp_gt (hE : En X D cc nL own rt rm) {x y : Int32} {off : Int} {i : Decidable (y < x)} (tgt : Nat) (hd : decode cc pc = .ok (.if_icmp .gt off, 3)) (ht : (pc : Int) + off = (tgt : Int)) (kt : y < x → Wo X D nL mc ms ev cells slots o1 tgt lv st h) (kf : ¬ y < x → Wo X D nL mc ms ev cells slots o2 (pc + 3) lv st h) : Wo X D nL mc ms ev cells slots (@ite _ (y < x) i o1 o2) pc lv (.int y :: .int x :: st) h := fun out ho H locs ls hP hS hl =>
  lv_icmp_gt hE.1 hE.2.1 hd ht (fun hc => kt hc out (by rw [if_pos hc] at ho; exact ho) H locs ls hP hS hl) (fun hc => kf hc out (by rw [if_neg hc] at ho; exact ho) H locs ls hP hS hl)
theorem r_if_le (hE : En X D cc nL own rt rm) {x : Int32} {off : Int} {i : Decidable (x ≤ 0)} (tgt : Nat) (hd : decode cc pc = .ok (.ifCond .le off, 3)) (ht : (pc : Int) + off = (tgt : Int)) (kt : x ≤ 0 → Wo X D nL mc ms ev cells slots o1 tgt lv st h) (kf : ¬ x ≤ 0 → Wo X D nL mc ms ev cells slots o2 (pc + 3) lv st h) : Wo X D nL mc ms ev cells slots (@ite _ (x ≤ 0) i o1 o2) pc lv (.int x :: st) h := fun out ho H locs ls hP hS hl =>
  lv_if_le hE.1 hE.2.1 hd ht (fun hc => kt hc out (by rw [if_pos hc] at ho; exact ho) H locs ls hP hS hl) (fun hc => kf hc out (by rw [if_neg hc] at ho; exact ho) H locs ls hP hS hl)
theorem r_icmp_le (hE : En X D cc nL own rt rm) {x y : Int32} {off : Int} {i : Decidable (x ≤ y)} (tgt : Nat) (hd : decode cc pc = .ok (.if_icmp .le off, 3)) (ht : (pc : Int) + off = (tgt : Int)) (kt : x ≤ y → Wo X D nL mc ms ev cells slots o1 tgt lv st h) (kf : ¬ x ≤ y → Wo X D nL mc ms ev cells slots o2 (pc + 3) lv st h) : Wo X D nL mc ms ev cells slots (@ite _ (x ≤ y) i o1 o2) pc lv (.int y :: .int x :: st) h := fun out ho H locs ls hP hS hl =>
  lv_icmp_le hE.1 hE.2.1 hd ht (fun hc => kt hc out (by rw [if_pos hc] at ho; exact ho) H locs ls hP hS hl) (fun hc => kf hc out (by rw [if_neg hc] at ho; exact ho) H locs ls hP hS hl)
theorem r_goto (hE : En X D cc nL own rt rm) {off : Int} (tgt : Nat) (hd : decode cc pc = .ok (.goto off, 3)) (ht : (pc : Int) + off = (tgt : Int)) (k : Wo X D nL mc ms ev cells slots o tgt lv st h) : Wo X D nL mc ms ev cells slots o pc lv st h := fun out ho H locs ls hP hS hl => lv_goto hE.1 hE.2.1 hd ht (k out ho H locs ls hP hS hl)
theorem r_ifnull (hE : En X D cc nL own rt rm) {r : Option Nat} {off : Int} {f : Nat → Option (ρ × Hp)} (tgt : Nat) (hd : decode cc pc = .ok (.ifnull off, 3)) (ht : (pc : Int) + off = (tgt : Int)) (kt : r = none → Wo X D nL mc ms ev cells slots o1 tgt lv st h) (kf : ∀ b, r = some b → Wo X D nL mc ms ev cells slots (f b) (pc + 3) lv st h) : Wo X D nL mc ms ev cells slots (r.elim o1 f) pc lv (va_rf r :: st) h := fun out ho H locs ls hP hS hl => by
  cases r with
  | none => exact lv_ifnullN hE.1 hE.2.1 hd ht (kt rfl out ho H locs ls hP hS hl)
  | some b => exact lv_ifnull hE.1 hE.2.1 hd (kf b rfl out ho H locs ls hP hS hl)
theorem r_ifnonnull (hE : En X D cc nL own rt rm) {r : Option Nat} {off : Int} {f : Nat → Option (ρ × Hp)} (tgt : Nat) (hd : decode cc pc = .ok (.ifnonnull off, 3)) (ht : (pc : Int) + off = (tgt : Int)) (kf : r = none → Wo X D nL mc ms ev cells slots o1 (pc + 3) lv st h) (kt : ∀ b, r = some b → Wo X D nL mc ms ev cells slots (f b) tgt lv st h) : Wo X D nL mc ms ev cells slots (r.elim o1 f) pc lv (va_rf r :: st) h := fun out ho H locs ls hP hS hl => by
  cases r with
  | none => exact lv_ifnonnullN hE.1 hE.2.1 hd (kf rfl out ho H locs ls hP hS hl)
  | some b => exact lv_ifnonnull hE.1 hE.2.1 hd ht (kt b rfl out ho H locs ls hP hS hl)
theorem r_idivQ (hE : En X D cc nL own rt rm) {x y : Int32} {i : Decidable (y = 0)} (hd : decode cc pc = .ok (.idiv, 1)) (k : ¬ y = 0 → Wo X D nL mc ms ev cells slots o (pc + 1) lv (.int (x / y) :: st) h) : Wo X D nL mc ms ev cells slots (@ite _ (y = 0) i none o) pc lv (.int y :: .int x :: st) h := fun out ho H locs ls hP hS hl => by
  by_cases hy : y = 0
  · rw [if_pos hy] at ho; cases ho
  · rw [if_neg hy] at ho; exact lv_idiv hE.1 hE.2.1 hd hy (k hy out ho H locs ls hP hS hl)
theorem r_iremQ (hE : En X D cc nL own rt rm) {x y : Int32} {i : Decidable (y = 0)} (hd : decode cc pc = .ok (.irem, 1)) (k : ¬ y = 0 → Wo X D nL mc ms ev cells slots o (pc + 1) lv (.int (x - x / y * y) :: st) h) : Wo X D nL mc ms ev cells slots (@ite _ (y = 0) i none o) pc lv (.int y :: .int x :: st) h := fun out ho H locs ls hP hS hl => by
  by_cases hy : y = 0
  · rw [if_pos hy] at ho; cases ho
  · rw [if_neg hy] at ho; exact lv_irem hE.1 hE.2.1 hd hy (k hy out ho H locs ls hP hS hl)
theorem Wo_grd {c : Prop} {i : Decidable c} (k : c → Wo X D nL mc ms ev cells slots o pc lv st h) : Wo X D nL mc ms ev cells slots (@ite _ c i o none) pc lv st h := fun out ho => by
  by_cases hc : c
  · rw [if_pos hc] at ho; exact k hc out ho
  · rw [if_neg hc] at ho; cases ho
end RULES
theorem gi_k {α : Type} {c : Prop} {i : Decidable c} {o : Option α} {x : α} (h : @ite _ c i o none = some x) : c ∧ o = some x := by
  by_cases hc : c
  · rw [if_pos hc] at h; exact ⟨hc, h⟩
  · rw [if_neg hc] at h; cases h
theorem ob_k {α β : Type} {o : Option α} {f : α → Option β} {x : β} (h : o.bind f = some x) : ∃ v, o = some v ∧ f v = some x := by
  cases o with
  | none => cases h
  | some v => exact ⟨v, rfl, h⟩
/-! the heap's own reads and writes, none where the machine throws -/
def gI (h : Hp) (c a k : Nat) : Option Int32 := if h.K a = c then some (h.I a k) else none
def gJ (h : Hp) (c a k : Nat) : Option Int64 := if h.K a = c then some (h.J a k) else none
def gR (h : Hp) (c a k : Nat) : Option Nat := if h.K a = c then h.R a k else none
def gQ (h : Hp) (c a k : Nat) : Option (Option Nat) := if h.K a = c then some (h.R a k) else none
def pI (h : Hp) (c a k : Nat) (v : Int32) : Option Hp := if h.K a = c then some (putI h a k v) else none
def pJ (h : Hp) (c a k : Nat) (v : Int64) : Option Hp := if h.K a = c then some (putJ h a k v) else none
def pR (h : Hp) (c a k : Nat) (v : Option Nat) : Option Hp := if h.K a = c then some (putR h a k v) else none
def aI (h : Hp) (c a : Nat) (i : Int32) : Option Int32 := if h.K a = c ∧ 0 ≤ i.toInt ∧ i.toInt < (h.L a : Int) then some (h.I a i.toNatClampNeg) else none
def aJ (h : Hp) (c a : Nat) (i : Int32) : Option Int64 := if h.K a = c ∧ 0 ≤ i.toInt ∧ i.toInt < (h.L a : Int) then some (h.J a i.toNatClampNeg) else none
def sI (h : Hp) (c a : Nat) (i v : Int32) : Option Hp := if h.K a = c ∧ 0 ≤ i.toInt ∧ i.toInt < (h.L a : Int) then some (putI h a i.toNatClampNeg v) else none
def sJ (h : Hp) (c a : Nat) (i : Int32) (v : Int64) : Option Hp := if h.K a = c ∧ 0 ≤ i.toInt ∧ i.toInt < (h.L a : Int) then some (putJ h a i.toNatClampNeg v) else none
def aN (h : Hp) (a : Nat) : Option Int32 := if 8 ≤ h.K a ∧ h.K a < 11 then some (Int32.ofNat (h.L a)) else none
def cpI (h : Hp) (a : Nat) (sp : Int32) (b : Nat) (dp n : Int32) : Option Hp := if h.K a = 8 ∧ h.K b = 8 ∧ 0 ≤ sp.toInt ∧ 0 ≤ dp.toInt ∧ 0 ≤ n.toInt ∧ sp.toInt + n.toInt ≤ (h.L a : Int) ∧ dp.toInt + n.toInt ≤ (h.L b : Int) then some (cpyI h a b sp.toNatClampNeg dp.toNatClampNeg n.toNatClampNeg) else none
end
section

/-! HEAP RULES -/
theorem gA_congr {D : Dx} {h h' : Hp} {a : Nat} {H H' : Heap} (hK : h'.K a = h.K a) (hL : h'.L a = h.L a) (hI : h'.I a = h.I a) (hJ : h'.J a = h.J a) (hR : h'.R a = h.R a) (hH : H'[a]? = H[a]?) (g : gA D h a H) : gA D h' a H' := by
  unfold gA at g ⊢
  rw [hK, hL, hI, hJ, hH]
  by_cases h8 : h.K a = 8
  · rw [if_pos h8] at g ⊢; exact g
  · rw [if_neg h8] at g ⊢
    by_cases h9 : h.K a = 9
    · rw [if_pos h9] at g ⊢; exact g
    · rw [if_neg h9] at g ⊢
      by_cases h10 : h.K a = 10
      · rw [if_pos h10] at g ⊢; exact g
      · rw [if_neg h10] at g ⊢
        have hv : hV h' a = hV h a := by funext k; unfold hV; rw [hK, hI, hJ, hR]
        rw [hv]
        exact g.kept hH
theorem up2_ne {α : Type} (f : Nat → Nat → α) {a b k : Nat} {v : α} (h : b ≠ a) : up2 f a k v b = f b := by funext j; simp [up2, h]
theorem up2_eq {α : Type} (f : Nat → Nat → α) {a k : Nat} {v : α} (j : Nat) : up2 f a k v a j = if j = k then v else f a j := by simp [up2]
theorem gA_obj {D : Dx} {h : Hp} {a c : Nat} {H : Heap} (hK : h.K a = c) (hc : c < 8) (g : gA D h a H) : t_OB a (D.1.1 c) (nF c) (D.1.2 c) H (hV h a) := by
  unfold gA at g
  rw [if_neg (by omega), if_neg (by omega), if_neg (by omega), hK] at g
  exact g
theorem gA_of_obj {D : Dx} {h : Hp} {a c : Nat} {H : Heap} (hK : h.K a = c) (hc : c < 8) (g : t_OB a (D.1.1 c) (nF c) (D.1.2 c) H (hV h a)) : gA D h a H := by
  unfold gA
  rw [if_neg (by omega), if_neg (by omega), if_neg (by omega), hK]
  exact g
theorem gA_8 {D : Dx} {h : Hp} {a : Nat} {H : Heap} (hK : h.K a = 8) : gA D h a H ↔ H[a]? = some (arrV D.2.1.1 (h.L a) (fun j => .int (h.I a j))) := by unfold gA; rw [if_pos hK]
theorem gA_9 {D : Dx} {h : Hp} {a : Nat} {H : Heap} (hK : h.K a = 9) : gA D h a H ↔ H[a]? = some (arrV D.2.1.2.1 (h.L a) (fun j => .long (h.J a j))) := by unfold gA; rw [if_neg (by omega), if_pos hK]
theorem gA_10 {D : Dx} {h : Hp} {a : Nat} {H : Heap} (hK : h.K a = 10) : gA D h a H ↔ H[a]? = some (arrV D.2.1.2.2 (h.L a) (fun j => .int (h.I a j))) := by unfold gA; rw [if_neg (by omega), if_neg (by omega), if_pos hK]
/-- a write to one cell -/
theorem gP_write {D : Dx} {h h' : Hp} {a : Nat} {H H' : Heap} (hP : gP D h H) (hN : h'.N = h.N) (hK : h'.K = h.K) (hL : h'.L = h.L) (hI : ∀ b, b ≠ a → h'.I b = h.I b) (hJ : ∀ b, b ≠ a → h'.J b = h.J b) (hR : ∀ b, b ≠ a → h'.R b = h.R b) (hz : H'.size = H.size) (oq : ∀ q : Nat, q ≠ a → H'[q]? = H[q]?) (ha : gA D h' a H') : gP D h' H' := by
  refine ⟨by rw [hz, hP.1, hN], by rw [hN]; exact hP.2.1, fun b hb => ?_⟩
  rw [hK] at hb
  obtain ⟨g1, g2, g3⟩ := hP.2.2 b hb
  refine ⟨g1, by rw [hN]; exact g2, ?_⟩
  by_cases hab : b = a
  · subst hab; exact ha
  · exact gA_congr (by rw [hK]) (by rw [hL]) (hI b hab) (hJ b hab) (hR b hab) (oq b hab) g3
theorem hV_int {h : Hp} {a k c : Nat} (hK : h.K a = c) (hty : ∀ i j r, hW (tyF c k) i j r = .int i) : hV h a k = .int (h.I a k) := by unfold hV; rw [hK]; exact hty _ _ _
theorem hV_long {h : Hp} {a k c : Nat} (hK : h.K a = c) (hty : ∀ i j r, hW (tyF c k) i j r = .long j) : hV h a k = .long (h.J a k) := by unfold hV; rw [hK]; exact hty _ _ _
theorem hV_ref {h : Hp} {a k c : Nat} (hK : h.K a = c) (hty : ∀ i j r, hW (tyF c k) i j r = va_rf r) : hV h a k = va_rf (h.R a k) := by unfold hV; rw [hK]; exact hty _ _ _
theorem hV_putI {h : Hp} {a k c : Nat} {v : Int32} (hK : h.K a = c) (hty : ∀ i j r, hW (tyF c k) i j r = .int i) (j : Nat) : updV (hV h a) k (.int v) j = hV (putI h a k v) a j := by
  by_cases hj : j = k
  · subst hj
    rw [hV_int (h := putI h a j v) hK hty]
    simp [updV, putI, Hp.I, up2]
  · simp [updV, hj, hV, putI, Hp.I, Hp.K, Hp.J, Hp.R, up2]
theorem hV_putJ {h : Hp} {a k c : Nat} {v : Int64} (hK : h.K a = c) (hty : ∀ i j r, hW (tyF c k) i j r = .long j) (j : Nat) : updV (hV h a) k (.long v) j = hV (putJ h a k v) a j := by
  by_cases hj : j = k
  · subst hj
    rw [hV_long (h := putJ h a j v) hK hty]
    simp [updV, putJ, Hp.J, up2]
  · simp [updV, hj, hV, putJ, Hp.I, Hp.K, Hp.J, Hp.R, up2]
theorem hV_putR {h : Hp} {a k c : Nat} {v : Option Nat} (hK : h.K a = c) (hty : ∀ i j r, hW (tyF c k) i j r = va_rf r) (j : Nat) : updV (hV h a) k (va_rf v) j = hV (putR h a k v) a j := by
  by_cases hj : j = k
  · subst hj
    rw [hV_ref (h := putR h a j v) hK hty]
    simp [updV, putR, Hp.R, up2]
  · simp [updV, hj, hV, putR, Hp.I, Hp.K, Hp.J, Hp.R, up2]
section HEAP
variable {ρ : Type} {X : Cx} {D : Dx} {cc : ByteArray} {nL : Nat} {own : String} {rt : Option FieldType} {rm : Room} {mc ms : Nat} {ev : ρ → Option Value} {cells slots : Nat} {o o1 o2 : Option (ρ × Hp)} {pc : Nat} {lv : List (Option Value)} {st : List Value} {h : Hp}
/-- a field is read -/
theorem w_get {Q : State → Prop} {H : Heap} {locs : List Loc} {ls : Array Slot} (hE : En X D cc nL own rt rm) {c k idx a : Nat} (hc : c < 8) (hk : k < nF c) (hlink : Cond.fieldLink own idx (TF c k).1 (TF c k).2.1 (TF c k).2.2.1 ∈ TB) (hd : decode cc pc = .ok (.getfield idx, 3)) (hP : gP D h H) (hK : h.K a = c)
    (kk : W X.p X.l X.e X.Rm X.s X.m X.args X.below X.meth X.c H locs cells slots Q (F0 X.m (pc + 3) ls (hV h a k :: st))) : W X.p X.l X.e X.Rm X.s X.m X.args X.below X.meth X.c H locs cells slots Q (F0 X.m pc ls (.ref a :: st)) := by
  obtain ⟨hx, hb, hml, hown, hts, hgK, -⟩ := hE
  obtain ⟨cell, q1, q2, q3, q4⟩ := gA_obj hK hc (hP.2.2 a (by omega)).2.2
  obtain ⟨hS, hfc, kC, hkC, hkind⟩ := hgK.1 c hc
  obtain ⟨cf, kf, fi, f, hi, hsl⟩ := hS k hk
  refine W.getf hx hb hown (hts _ hlink) hi (u_facts hfc hkC (u_lays hts (fieldsTB hc) hk) hi).1 q1 (by rw [q3]; exact fun h => by cases h) (v := hV h a k) ?_ rfl rfl hd kk
  rw [hsl, q4 k hk]
theorem w_apart (hE : En X D cc nL own rt rm) {c : Nat} (hc : c < 8) : ∀ x y, x < nF c → y < nF c → x ≠ y → (D.1.2 c) x ≠ (D.1.2 c) y := by
  obtain ⟨hx, hb, hml, hown, hts, hgK, -⟩ := hE
  intro x y hx hy hne
  obtain ⟨hS, -⟩ := hgK.1 c hc
  obtain ⟨_, _, _, fa, hia, ea⟩ := hS x hx
  obtain ⟨_, _, _, fb, hib, eb⟩ := hS y hy
  rw [← ea, ← eb]
  refine u_apart (u_lays hts (fieldsTB hc) hx) (u_lays hts (fieldsTB hc) hy) hia hib ?_
  rw [(State.fieldFound?_type hia (tyF_ok hc x hx)).1, (State.fieldFound?_type hib (tyF_ok hc y hy)).1]
  exact nmF_ok hc x hx y hy hne
/-- a field is written -/
theorem w_put {Q : State → Prop} {H : Heap} {locs : List Loc} {ls : Array Slot} (hE : En X D cc nL own rt rm) {c k idx a : Nat} {v : Value} (hc : c < 8) (hk : k < nF c) (hlink : Cond.fieldLink own idx (TF c k).1 (TF c k).2.1 (TF c k).2.2.1 ∈ TB) (hfin : (TF c k).2.2.2 = false) (hn : narrow (tyF c k) v = v) (hfit : fits (tyF c k) v = true) (hd : decode cc pc = .ok (.putfield idx, 3)) (hP : gP D h H) (hS0 : va_S D.A X.s.heap H locs) (hK : h.K a = c)
    (kk : ∀ (H1 : Heap) (locs1 : List Loc), t_OB a (D.1.1 c) (nF c) (D.1.2 c) H1 (updV (hV h a) k v) → H1.size = H.size → (∀ q : Nat, q ≠ a → H1[q]? = H[q]?) → va_S D.A X.s.heap H1 locs1 → W X.p X.l X.e X.Rm X.s X.m X.args X.below X.meth X.c H1 locs1 cells slots Q (F0 X.m (pc + 3) ls st)) : W X.p X.l X.e X.Rm X.s X.m X.args X.below X.meth X.c H locs cells slots Q (F0 X.m pc ls (v :: .ref a :: st)) := by
  have hap := w_apart hE hc
  obtain ⟨hx, hb, hml, hown, hts, hgK, -⟩ := hE
  obtain ⟨g1, g2, g3⟩ := hP.2.2 a (by omega)
  obtain ⟨cell, q1, q2, q3, q4⟩ := gA_obj hK hc g3
  obtain ⟨hS, hfc, kC, hkC, hkind⟩ := hgK.1 c hc
  obtain ⟨cf, kf, fi, f, hi, hsl⟩ := hS k hk
  have hlay := hts _ (fieldsTB hc _ (u_in_lay hk))
  unfold u_lay at hlay
  rw [if_neg (by rw [hfin]; decide)] at hlay
  have hst := (u_facts hfc hkC (u_lays hts (fieldsTB hc) hk) hi).1
  have h6 := u_store hfc hkC hkind hlay hi (tyF_ok hc k hk) hn hfit
  refine W.putK hx hb (f := f) ⟨hown, hts _ hlink, ⟨_, _, _, hi⟩, hst⟩ (by rw [q2]; exact h6) q1 q3 (by rw [hsl]; exact k2_hasslot (q4 k hk)) rfl rfl hd fun H' e1 e2 e3 => ?_
  rw [hsl] at e1 ⊢
  exact kk H' _ ⟨_, e1, q2, q3, t_set q4 hap hk v⟩ e2 e3 (hS0.put e2 e3 g1)
theorem r_getI (hE : En X D cc nL own rt rm) (c k : Nat) {idx a : Nat} {f : Int32 → Option (ρ × Hp)} (hc : c < 8) (hk : k < nF c) (hty : ∀ i j r, hW (tyF c k) i j r = .int i) (hlink : Cond.fieldLink own idx (TF c k).1 (TF c k).2.1 (TF c k).2.2.1 ∈ TB) (hd : decode cc pc = .ok (.getfield idx, 3)) (kk : ∀ v, gI h c a k = some v → Wo X D nL mc ms ev cells slots (f v) (pc + 3) lv (.int v :: st) h) : Wo X D nL mc ms ev cells slots ((gI h c a k).bind f) pc lv (.ref a :: st) h := fun out ho H locs ls hP hS hl => by
  obtain ⟨v, h1, h2⟩ := ob_k ho
  obtain ⟨hK, h3⟩ := gi_k h1
  refine w_get hE hc hk hlink hd hP hK ?_
  have hw := kk v h1 out h2 H locs ls hP hS hl
  rw [hV_int hK hty]
  cases h3; exact hw
theorem r_getJ (hE : En X D cc nL own rt rm) (c k : Nat) {idx a : Nat} {f : Int64 → Option (ρ × Hp)} (hc : c < 8) (hk : k < nF c) (hty : ∀ i j r, hW (tyF c k) i j r = .long j) (hlink : Cond.fieldLink own idx (TF c k).1 (TF c k).2.1 (TF c k).2.2.1 ∈ TB) (hd : decode cc pc = .ok (.getfield idx, 3)) (kk : ∀ v, gJ h c a k = some v → Wo X D nL mc ms ev cells slots (f v) (pc + 3) lv (.long v :: st) h) : Wo X D nL mc ms ev cells slots ((gJ h c a k).bind f) pc lv (.ref a :: st) h := fun out ho H locs ls hP hS hl => by
  obtain ⟨v, h1, h2⟩ := ob_k ho
  obtain ⟨hK, h3⟩ := gi_k h1
  refine w_get hE hc hk hlink hd hP hK ?_
  have hw := kk v h1 out h2 H locs ls hP hS hl
  rw [hV_long hK hty]
  cases h3; exact hw
theorem r_getR (hE : En X D cc nL own rt rm) (c k : Nat) {idx a : Nat} {f : Nat → Option (ρ × Hp)} (hc : c < 8) (hk : k < nF c) (hty : ∀ i j r, hW (tyF c k) i j r = va_rf r) (hlink : Cond.fieldLink own idx (TF c k).1 (TF c k).2.1 (TF c k).2.2.1 ∈ TB) (hd : decode cc pc = .ok (.getfield idx, 3)) (kk : ∀ v, gR h c a k = some v → Wo X D nL mc ms ev cells slots (f v) (pc + 3) lv (.ref v :: st) h) : Wo X D nL mc ms ev cells slots ((gR h c a k).bind f) pc lv (.ref a :: st) h := fun out ho H locs ls hP hS hl => by
  obtain ⟨v, h1, h2⟩ := ob_k ho
  obtain ⟨hK, h3⟩ := gi_k h1
  refine w_get hE hc hk hlink hd hP hK ?_
  have hw := kk v h1 out h2 H locs ls hP hS hl
  rw [hV_ref hK hty]
  rw [h3]; exact hw
theorem r_getQ (hE : En X D cc nL own rt rm) (c k : Nat) {idx a : Nat} {f : Option Nat → Option (ρ × Hp)} (hc : c < 8) (hk : k < nF c) (hty : ∀ i j r, hW (tyF c k) i j r = va_rf r) (hlink : Cond.fieldLink own idx (TF c k).1 (TF c k).2.1 (TF c k).2.2.1 ∈ TB) (hd : decode cc pc = .ok (.getfield idx, 3)) (kk : ∀ v, gQ h c a k = some v → Wo X D nL mc ms ev cells slots (f v) (pc + 3) lv (va_rf v :: st) h) : Wo X D nL mc ms ev cells slots ((gQ h c a k).bind f) pc lv (.ref a :: st) h := fun out ho H locs ls hP hS hl => by
  obtain ⟨v, h1, h2⟩ := ob_k ho
  obtain ⟨hK, h3⟩ := gi_k h1
  refine w_get hE hc hk hlink hd hP hK ?_
  have hw := kk v h1 out h2 H locs ls hP hS hl
  rw [hV_ref hK hty]
  cases h3; exact hw
theorem r_putI (hE : En X D cc nL own rt rm) (c k : Nat) {idx a : Nat} {v : Int32} {f : Hp → Option (ρ × Hp)} (hc : c < 8) (hk : k < nF c) (hty : ∀ i j r, hW (tyF c k) i j r = .int i) (hlink : Cond.fieldLink own idx (TF c k).1 (TF c k).2.1 (TF c k).2.2.1 ∈ TB) (hfin : (TF c k).2.2.2 = false) (hn : narrow (tyF c k) (.int v) = .int v) (hfit : fits (tyF c k) (.int v) = true) (hd : decode cc pc = .ok (.putfield idx, 3)) (kk : ∀ h', pI h c a k (v) = some h' → Wo X D nL mc ms ev cells slots (f h') (pc + 3) lv st h') : Wo X D nL mc ms ev cells slots ((pI h c a k (v)).bind f) pc lv (.int v :: .ref a :: st) h := fun out ho H locs ls hP hS hl => by
  obtain ⟨h', h1, h2⟩ := ob_k ho
  obtain ⟨hK, h3⟩ := gi_k h1
  refine w_put hE hc hk hlink hfin hn hfit hd hP hS hK fun H1 locs1 hO hz oq hS1 => ?_
  have hw := kk h' h1 out h2 H1 locs1 ls
  cases h3
  exact hw (gP_write hP rfl rfl rfl (fun b hb => up2_ne _ hb) (fun _ _ => rfl) (fun _ _ => rfl) hz oq (gA_of_obj hK hc (hO.to (fun j _ => hV_putI hK hty j)))) hS1 hl
theorem r_putJ (hE : En X D cc nL own rt rm) (c k : Nat) {idx a : Nat} {v : Int64} {f : Hp → Option (ρ × Hp)} (hc : c < 8) (hk : k < nF c) (hty : ∀ i j r, hW (tyF c k) i j r = .long j) (hlink : Cond.fieldLink own idx (TF c k).1 (TF c k).2.1 (TF c k).2.2.1 ∈ TB) (hfin : (TF c k).2.2.2 = false) (hn : narrow (tyF c k) (.long v) = .long v) (hfit : fits (tyF c k) (.long v) = true) (hd : decode cc pc = .ok (.putfield idx, 3)) (kk : ∀ h', pJ h c a k (v) = some h' → Wo X D nL mc ms ev cells slots (f h') (pc + 3) lv st h') : Wo X D nL mc ms ev cells slots ((pJ h c a k (v)).bind f) pc lv (.long v :: .ref a :: st) h := fun out ho H locs ls hP hS hl => by
  obtain ⟨h', h1, h2⟩ := ob_k ho
  obtain ⟨hK, h3⟩ := gi_k h1
  refine w_put hE hc hk hlink hfin hn hfit hd hP hS hK fun H1 locs1 hO hz oq hS1 => ?_
  have hw := kk h' h1 out h2 H1 locs1 ls
  cases h3
  exact hw (gP_write hP rfl rfl rfl (fun _ _ => rfl) (fun b hb => up2_ne _ hb) (fun _ _ => rfl) hz oq (gA_of_obj hK hc (hO.to (fun j _ => hV_putJ hK hty j)))) hS1 hl
theorem r_putR (hE : En X D cc nL own rt rm) (c k : Nat) {idx a : Nat} {v : Nat} {f : Hp → Option (ρ × Hp)} (hc : c < 8) (hk : k < nF c) (hty : ∀ i j r, hW (tyF c k) i j r = va_rf r) (hlink : Cond.fieldLink own idx (TF c k).1 (TF c k).2.1 (TF c k).2.2.1 ∈ TB) (hfin : (TF c k).2.2.2 = false) (hn : narrow (tyF c k) (.ref v) = .ref v) (hfit : fits (tyF c k) (.ref v) = true) (hd : decode cc pc = .ok (.putfield idx, 3)) (kk : ∀ h', pR h c a k (some v) = some h' → Wo X D nL mc ms ev cells slots (f h') (pc + 3) lv st h') : Wo X D nL mc ms ev cells slots ((pR h c a k (some v)).bind f) pc lv (.ref v :: .ref a :: st) h := fun out ho H locs ls hP hS hl => by
  obtain ⟨h', h1, h2⟩ := ob_k ho
  obtain ⟨hK, h3⟩ := gi_k h1
  refine w_put hE hc hk hlink hfin hn hfit hd hP hS hK fun H1 locs1 hO hz oq hS1 => ?_
  have hw := kk h' h1 out h2 H1 locs1 ls
  cases h3
  exact hw (gP_write hP rfl rfl rfl (fun _ _ => rfl) (fun _ _ => rfl) (fun b hb => up2_ne _ hb) hz oq (gA_of_obj hK hc (hO.to (fun j _ => (hV_putR (v := some v)) hK hty j)))) hS1 hl
theorem r_putN (hE : En X D cc nL own rt rm) (c k : Nat) {idx a : Nat}  {f : Hp → Option (ρ × Hp)} (hc : c < 8) (hk : k < nF c) (hty : ∀ i j r, hW (tyF c k) i j r = va_rf r) (hlink : Cond.fieldLink own idx (TF c k).1 (TF c k).2.1 (TF c k).2.2.1 ∈ TB) (hfin : (TF c k).2.2.2 = false) (hn : narrow (tyF c k) (va_rf none) = va_rf none) (hfit : fits (tyF c k) (va_rf none) = true) (hd : decode cc pc = .ok (.putfield idx, 3)) (kk : ∀ h', pR h c a k (none) = some h' → Wo X D nL mc ms ev cells slots (f h') (pc + 3) lv st h') : Wo X D nL mc ms ev cells slots ((pR h c a k (none)).bind f) pc lv (va_rf none :: .ref a :: st) h := fun out ho H locs ls hP hS hl => by
  obtain ⟨h', h1, h2⟩ := ob_k ho
  obtain ⟨hK, h3⟩ := gi_k h1
  refine w_put hE hc hk hlink hfin hn hfit hd hP hS hK fun H1 locs1 hO hz oq hS1 => ?_
  have hw := kk h' h1 out h2 H1 locs1 ls
  cases h3
  exact hw (gP_write hP rfl rfl rfl (fun _ _ => rfl) (fun _ _ => rfl) (fun b hb => up2_ne _ hb) hz oq (gA_of_obj hK hc (hO.to (fun j _ => (hV_putR (v := none)) hK hty j)))) hS1 hl
theorem r_aldI (hE : En X D cc nL own rt rm) {a : Nat} {i : Int32} {f : Int32 → Option (ρ × Hp)} (hd : decode cc pc = .ok (.iaload, 1)) (kk : ∀ v, aI h 8 a i = some v → Wo X D nL mc ms ev cells slots (f v) (pc + 1) lv (.int v :: st) h) : Wo X D nL mc ms ev cells slots ((aI h 8 a i).bind f) pc lv (.int i :: .ref a :: st) h := fun out ho H locs ls hP hS hl => by
  obtain ⟨v, h1, h2⟩ := ob_k ho
  obtain ⟨⟨hK, hi⟩, h3⟩ := gi_k h1
  have hin : vp_in i (h.L a) := vp_in_iff.mpr hi
  have hlt : i.toNatClampNeg < h.L a := Nat.not_le.mp fun q => hin (Or.inr q)
  have g := (gA_8 hK).mp (hP.2.2 a (by omega)).2.2
  have hw := kk v h1 out h2 H locs ls hP hS hl
  cases h3
  exact W.iald (v := .int _) hE.1 hE.2.1 g (hE.2.2.2.2.2.1.2.1.1 _ _) (fun q => by cases q) (by rw [arrV_size]; exact hin) (arrV_read _ _ hlt) rfl rfl hd hw
theorem r_aldJ (hE : En X D cc nL own rt rm) {a : Nat} {i : Int32} {f : Int64 → Option (ρ × Hp)} (hd : decode cc pc = .ok (.laload, 1)) (kk : ∀ v, aJ h 9 a i = some v → Wo X D nL mc ms ev cells slots (f v) (pc + 1) lv (.long v :: st) h) : Wo X D nL mc ms ev cells slots ((aJ h 9 a i).bind f) pc lv (.int i :: .ref a :: st) h := fun out ho H locs ls hP hS hl => by
  obtain ⟨v, h1, h2⟩ := ob_k ho
  obtain ⟨⟨hK, hi⟩, h3⟩ := gi_k h1
  have hin : vp_in i (h.L a) := vp_in_iff.mpr hi
  have hlt : i.toNatClampNeg < h.L a := Nat.not_le.mp fun q => hin (Or.inr q)
  have g := (gA_9 hK).mp (hP.2.2 a (by omega)).2.2
  have hw := kk v h1 out h2 H locs ls hP hS hl
  cases h3
  exact W.lald (v := .long _) hE.1 hE.2.1 g (hE.2.2.2.2.2.1.2.2.1.1 _ _) (fun q => by cases q) (by rw [arrV_size]; exact hin) (arrV_read _ _ hlt) rfl rfl hd hw
theorem r_aldC (hE : En X D cc nL own rt rm) {a : Nat} {i : Int32} {f : Int32 → Option (ρ × Hp)} (hd : decode cc pc = .ok (.caload, 1)) (kk : ∀ v, aI h 10 a i = some v → Wo X D nL mc ms ev cells slots (f v) (pc + 1) lv (.int v :: st) h) : Wo X D nL mc ms ev cells slots ((aI h 10 a i).bind f) pc lv (.int i :: .ref a :: st) h := fun out ho H locs ls hP hS hl => by
  obtain ⟨v, h1, h2⟩ := ob_k ho
  obtain ⟨⟨hK, hi⟩, h3⟩ := gi_k h1
  have hin : vp_in i (h.L a) := vp_in_iff.mpr hi
  have hlt : i.toNatClampNeg < h.L a := Nat.not_le.mp fun q => hin (Or.inr q)
  have g := (gA_10 hK).mp (hP.2.2 a (by omega)).2.2
  have hw := kk v h1 out h2 H locs ls hP hS hl
  cases h3
  exact W.cald (v := .int _) hE.1 hE.2.1 g (hE.2.2.2.2.2.1.2.2.2.1.1 _ _) (fun q => by cases q) (by rw [arrV_size]; exact hin) (arrV_read _ _ hlt) rfl rfl hd hw
theorem r_astI (hE : En X D cc nL own rt rm) {a : Nat} {i : Int32} {x : Int32} {f : Hp → Option (ρ × Hp)} (hd : decode cc pc = .ok (.iastore, 1)) (kk : ∀ h', sI h 8 a i (x) = some h' → Wo X D nL mc ms ev cells slots (f h') (pc + 1) lv st h') : Wo X D nL mc ms ev cells slots ((sI h 8 a i (x)).bind f) pc lv (.int x :: .int i :: .ref a :: st) h := fun out ho H locs ls hP hS hl => by
  obtain ⟨h', h1, h2⟩ := ob_k ho
  obtain ⟨⟨hK, hi⟩, h3⟩ := gi_k h1
  have hin : vp_in i (h.L a) := vp_in_iff.mpr hi
  obtain ⟨g1, g2, g3⟩ := hP.2.2 a (by omega)
  have g := (gA_8 hK).mp g3
  cases h3
  refine W.iast hE.1 hE.2.1 g (hE.2.2.2.2.2.1.2.1.1 _ _) (fun q => by cases q) (by rw [arrV_size]; exact hin) rfl rfl hd fun H1 e z oq => ?_
  refine kk _ h1 out h2 H1 _ ls (gP_write hP rfl rfl rfl (fun b hb => up2_ne _ hb) (fun _ _ => rfl) (fun _ _ => rfl) z oq ((gA_8 (h := putI h a i.toNatClampNeg (x)) hK).mpr ?_)) (hS.put z oq g1) hl
  rw [e, arrV_store]
  refine congrArg (fun f => some (arrV _ _ f)) ?_
  funext q
  by_cases hq : q = i.toNatClampNeg
  · subst hq
    simp [updV, putI, Hp.I, up2]
    
  · simp [updV, putI, Hp.I, up2, hq]
theorem r_astJ (hE : En X D cc nL own rt rm) {a : Nat} {i : Int32} {x : Int64} {f : Hp → Option (ρ × Hp)} (hd : decode cc pc = .ok (.lastore, 1)) (kk : ∀ h', sJ h 9 a i (x) = some h' → Wo X D nL mc ms ev cells slots (f h') (pc + 1) lv st h') : Wo X D nL mc ms ev cells slots ((sJ h 9 a i (x)).bind f) pc lv (.long x :: .int i :: .ref a :: st) h := fun out ho H locs ls hP hS hl => by
  obtain ⟨h', h1, h2⟩ := ob_k ho
  obtain ⟨⟨hK, hi⟩, h3⟩ := gi_k h1
  have hin : vp_in i (h.L a) := vp_in_iff.mpr hi
  obtain ⟨g1, g2, g3⟩ := hP.2.2 a (by omega)
  have g := (gA_9 hK).mp g3
  cases h3
  refine W.last hE.1 hE.2.1 g (hE.2.2.2.2.2.1.2.2.1.1 _ _) (fun q => by cases q) (by rw [arrV_size]; exact hin) rfl rfl hd fun H1 e z oq => ?_
  refine kk _ h1 out h2 H1 _ ls (gP_write hP rfl rfl rfl (fun _ _ => rfl) (fun b hb => up2_ne _ hb) (fun _ _ => rfl) z oq ((gA_9 (h := putJ h a i.toNatClampNeg x) hK).mpr ?_)) (hS.put z oq g1) hl
  rw [e, arrV_store]
  refine congrArg (fun f => some (arrV _ _ f)) ?_
  funext q
  by_cases hq : q = i.toNatClampNeg
  · subst hq
    simp [updV, putJ, Hp.J, up2]
    
  · simp [updV, putJ, Hp.J, up2, hq]
theorem r_astC (hE : En X D cc nL own rt rm) {a : Nat} {i : Int32} {x : Int32} {f : Hp → Option (ρ × Hp)} (hd : decode cc pc = .ok (.castore, 1)) (kk : ∀ h', sI h 10 a i (vp_nar .char x) = some h' → Wo X D nL mc ms ev cells slots (f h') (pc + 1) lv st h') : Wo X D nL mc ms ev cells slots ((sI h 10 a i (vp_nar .char x)).bind f) pc lv (.int x :: .int i :: .ref a :: st) h := fun out ho H locs ls hP hS hl => by
  obtain ⟨h', h1, h2⟩ := ob_k ho
  obtain ⟨⟨hK, hi⟩, h3⟩ := gi_k h1
  have hin : vp_in i (h.L a) := vp_in_iff.mpr hi
  obtain ⟨g1, g2, g3⟩ := hP.2.2 a (by omega)
  have g := (gA_10 hK).mp g3
  cases h3
  refine W.cast hE.1 hE.2.1 g (hE.2.2.2.2.2.1.2.2.2.1.1 _ _) (fun q => by cases q) (by rw [arrV_size]; exact hin) rfl rfl hd fun H1 e z oq => ?_
  refine kk _ h1 out h2 H1 _ ls (gP_write hP rfl rfl rfl (fun b hb => up2_ne _ hb) (fun _ _ => rfl) (fun _ _ => rfl) z oq ((gA_10 (h := putI h a i.toNatClampNeg (vp_nar .char x)) hK).mpr ?_)) (hS.put z oq g1) hl
  rw [e, arrV_store]
  refine congrArg (fun f => some (arrV _ _ f)) ?_
  funext q
  by_cases hq : q = i.toNatClampNeg
  · subst hq
    simp [updV, putI, Hp.I, up2, vp_nar]
    try rfl
  · simp [updV, putI, Hp.I, up2, hq]
theorem r_alen (hE : En X D cc nL own rt rm) {a : Nat} {f : Int32 → Option (ρ × Hp)} (hd : decode cc pc = .ok (.arraylength, 1)) (kk : ∀ v, aN h a = some v → Wo X D nL mc ms ev cells slots (f v) (pc + 1) lv (.int v :: st) h) : Wo X D nL mc ms ev cells slots ((aN h a).bind f) pc lv (.ref a :: st) h := fun out ho H locs ls hP hS hl => by
  obtain ⟨v, h1, h2⟩ := ob_k ho
  obtain ⟨⟨k1, k2⟩, h3⟩ := gi_k h1
  have g3 := (hP.2.2 a k2).2.2
  have hw := kk v h1 out h2 H locs ls hP hS hl
  cases h3
  rcases (show h.K a = 8 ∨ h.K a = 9 ∨ h.K a = 10 by omega) with hK | hK | hK
  · exact W.alen hE.1 hE.2.1 ((gA_8 hK).mp g3) (hE.2.2.2.2.2.1.2.1.1 _ _) (by rw [arrV_size]) rfl rfl hd hw
  · exact W.alen hE.1 hE.2.1 ((gA_9 hK).mp g3) (hE.2.2.2.2.2.1.2.2.1.1 _ _) (by rw [arrV_size]) rfl rfl hd hw
  · exact W.alen hE.1 hE.2.1 ((gA_10 hK).mp g3) (hE.2.2.2.2.2.1.2.2.2.1.1 _ _) (by rw [arrV_size]) rfl rfl hd hw
end HEAP
end
section

section NEWS
variable {ρ : Type} {X : Cx} {D : Dx} {cc : ByteArray} {nL : Nat} {own : String} {rt : Option FieldType} {rm : Room} {mc ms : Nat} {ev : ρ → Option Value} {cells slots : Nat} {o o1 o2 : Option (ρ × Hp)} {pc : Nat} {lv : List (Option Value)} {st : List Value} {h : Hp}
/-- a new cell -/
theorem gP_new {D : Dx} {h : Hp} {H H' : Heap} {kd len : Nat} (hP : gP D h H) (hz : H'.size = h.N + 1) (oq : ∀ q : Nat, q < h.N → H'[q]? = H[q]?) (ha : gA D (newC h kd len) h.N H') : gP D (newC h kd len) H' := by
  refine ⟨hz, Nat.le_succ_of_le hP.2.1, fun b hb => ?_⟩
  by_cases hbn : b = h.N
  · subst hbn; exact ⟨hP.2.1, Nat.lt_succ_self _, ha⟩
  · have hKb : (newC h kd len).K b = h.K b := by show va_up h.K h.N kd b = _; simp [va_up, hbn]
    rw [hKb] at hb
    obtain ⟨g1, g2, g3⟩ := hP.2.2 b hb
    refine ⟨g1, Nat.lt_succ_of_lt g2, gA_congr hKb ?_ ?_ ?_ ?_ (oq b g2) g3⟩
    · show va_up h.L h.N len b = _; simp [va_up, hbn]
    · show va_up h.I h.N _ b = _; simp [va_up, hbn]
    · show va_up h.J h.N _ b = _; simp [va_up, hbn]
    · show va_up h.R h.N _ b = _; simp [va_up, hbn]
theorem newC_K {h : Hp} {kd len : Nat} : (newC h kd len).K h.N = kd := by show va_up h.K h.N kd h.N = _; simp [va_up]
theorem newC_L {h : Hp} {kd len : Nat} : (newC h kd len).L h.N = len := by show va_up h.L h.N len h.N = _; simp [va_up]
theorem newC_I {h : Hp} {kd len : Nat} (j : Nat) : (newC h kd len).I h.N j = 0 := by show va_up h.I h.N _ h.N j = _; simp [va_up]
theorem newC_J {h : Hp} {kd len : Nat} (j : Nat) : (newC h kd len).J h.N j = 0 := by show va_up h.J h.N _ h.N j = _; simp [va_up]
theorem newC_R {h : Hp} {kd len : Nat} (j : Nat) : (newC h kd len).R h.N j = none := by show va_up h.R h.N _ h.N j = _; simp [va_up]
theorem dflt_hW (ty : FieldType) (hty : (match ty with | .int => true | .boolean => true | .long => true | .object _ => true | .array _ => true | _ => false) = true) : defaultValue ty = hW ty 0 0 none := by
  cases ty <;> first | rfl | (simp at hty)
theorem tyF_d {c : Nat} (hc : c < 8) : ∀ k, k < nF c → (match tyF c k with | .int => true | .boolean => true | .long => true | .object _ => true | .array _ => true | _ => false) = true := by
  rcases lt8 hc with rfl | rfl | rfl | rfl | rfl | rfl | rfl | rfl <;> decide
theorem va_S.grow {A : Nat → Prop} {H0 H H1 : Heap} {locs : List Loc} (hS : va_S A H0 H locs) (hz : H1.size = H.size + 1) (o1 : ∀ q, q < H.size → H1[q]? = H[q]?) : va_S A H0 H1 locs :=
  ⟨Nat.le_trans hS.1 (by omega), fun x h1 h2 => (o1 x (Nat.lt_of_lt_of_le h1 hS.1)).trans (hS.2.1 x h1 h2), hS.2.2⟩
theorem r_new (hE : En X D cc nL own rt rm) (c : Nat) {idx : Nat} (hc : c < 8) (hw : Cond.classLink own idx (RF c) ∈ TB ∧ Cond.instantiable (RF c) (nF c) ∈ TB ∧ Cond.initialized (RF c) ∈ TB) (hr : cells + 1 ≤ rm.cells ∧ slots + nF c ≤ rm.slots) (hd : decode cc pc = .ok (.new idx, 3)) (k : Wo X D nL mc ms ev (cells + 1) (slots + nF c) o (pc + 3) lv (.ref h.N :: st) (newC h c 0)) : Wo X D nL mc ms ev cells slots o pc lv st h := fun out ho H locs ls hP hS hl => by
  obtain ⟨hx, hb, hml, hown, hts, hgK, -, -, -, -, hRm⟩ := hE
  have hKn := hgK.1 c hc
  refine W.newcK hx hb hown (hts _ hw.1) (hts _ hw.2.1) (hts _ hw.2.2) rfl hd (by rw [hRm]; exact hr.1) (by rw [hRm]; exact hr.2) hKn.2.1 hP.1 fun H1 kC hkC e1 z1 o1 => ?_
  refine k out ho H1 locs ls (gP_new hP z1 o1 (gA_of_obj newC_K hc ?_)) (hS.grow (by rw [z1, hP.1]) (by rw [hP.1]; exact o1)) hl
  refine (u_born (tyF c) hts (fieldsTB hc) hKn hkC e1 (tyF_ok hc)).to fun j hj => ?_
  rw [dflt_hW _ (tyF_d hc j hj)]
  unfold hV
  rw [newC_K, newC_I, newC_J, newC_R]
theorem r_newI (hE : En X D cc nL own rt rm) {n : Int32} (N : Nat) (hn : ¬ n < 0) (hN : n.toNatClampNeg = N) (hbytes : N * componentBytes .int ≤ 536870912) (hw : Cond.arrayClass .int ∈ TB) (hr : cells + 1 ≤ rm.cells ∧ slots + N ≤ rm.slots) (hd : decode cc pc = .ok (.newarray .int, 2)) (k : Wo X D nL mc ms ev (cells + 1) (slots + N) o (pc + 2) lv (.ref h.N :: st) (newC h 8 N)) : Wo X D nL mc ms ev cells slots o pc lv (.int n :: st) h := fun out ho H locs ls hP hS hl => by
  obtain ⟨hx, hb, hml, hown, hts, hgK, -, -, -, -, hRm⟩ := hE
  refine va_newaK hx hb (atype := .int) (hts _ hw) rfl hd rfl hn hN hbytes (by rw [hRm]; exact hr.1) (by rw [hRm]; exact hr.2) hP.1 fun H1 cA e1 z1 o1 hAr hNm => ?_
  obtain rfl : D.2.1.1 = cA := Option.some.inj (hgK.2.1.2.symm.trans hNm)
  refine k out ho H1 locs ls (gP_new hP z1 o1 ((gA_8 newC_K).mpr ?_)) (hS.grow (by rw [z1, hP.1]) (by rw [hP.1]; exact o1)) hl
  rw [e1, newC_L]
  refine congrArg (fun f => some (arrV _ _ f)) ?_
  funext j
  rw [newC_I]; rfl
theorem r_newJ (hE : En X D cc nL own rt rm) {n : Int32} (N : Nat) (hn : ¬ n < 0) (hN : n.toNatClampNeg = N) (hbytes : N * componentBytes .long ≤ 536870912) (hw : Cond.arrayClass .long ∈ TB) (hr : cells + 1 ≤ rm.cells ∧ slots + N ≤ rm.slots) (hd : decode cc pc = .ok (.newarray .long, 2)) (k : Wo X D nL mc ms ev (cells + 1) (slots + N) o (pc + 2) lv (.ref h.N :: st) (newC h 9 N)) : Wo X D nL mc ms ev cells slots o pc lv (.int n :: st) h := fun out ho H locs ls hP hS hl => by
  obtain ⟨hx, hb, hml, hown, hts, hgK, -, -, -, -, hRm⟩ := hE
  refine va_newaK hx hb (atype := .long) (hts _ hw) rfl hd rfl hn hN hbytes (by rw [hRm]; exact hr.1) (by rw [hRm]; exact hr.2) hP.1 fun H1 cA e1 z1 o1 hAr hNm => ?_
  obtain rfl : D.2.1.2.1 = cA := Option.some.inj (hgK.2.2.1.2.symm.trans hNm)
  refine k out ho H1 locs ls (gP_new hP z1 o1 ((gA_9 newC_K).mpr ?_)) (hS.grow (by rw [z1, hP.1]) (by rw [hP.1]; exact o1)) hl
  rw [e1, newC_L]
  refine congrArg (fun f => some (arrV _ _ f)) ?_
  funext j
  rw [newC_J]; rfl
theorem r_newCh (hE : En X D cc nL own rt rm) {n : Int32} (N : Nat) (hn : ¬ n < 0) (hN : n.toNatClampNeg = N) (hbytes : N * componentBytes .char ≤ 536870912) (hw : Cond.arrayClass .char ∈ TB) (hr : cells + 1 ≤ rm.cells ∧ slots + N ≤ rm.slots) (hd : decode cc pc = .ok (.newarray .char, 2)) (k : Wo X D nL mc ms ev (cells + 1) (slots + N) o (pc + 2) lv (.ref h.N :: st) (newC h 10 N)) : Wo X D nL mc ms ev cells slots o pc lv (.int n :: st) h := fun out ho H locs ls hP hS hl => by
  obtain ⟨hx, hb, hml, hown, hts, hgK, -, -, -, -, hRm⟩ := hE
  refine va_newaK hx hb (atype := .char) (hts _ hw) rfl hd rfl hn hN hbytes (by rw [hRm]; exact hr.1) (by rw [hRm]; exact hr.2) hP.1 fun H1 cA e1 z1 o1 hAr hNm => ?_
  obtain rfl : D.2.1.2.2 = cA := Option.some.inj (hgK.2.2.2.1.2.symm.trans hNm)
  refine k out ho H1 locs ls (gP_new hP z1 o1 ((gA_10 newC_K).mpr ?_)) (hS.grow (by rw [z1, hP.1]) (by rw [hP.1]; exact o1)) hl
  rw [e1, newC_L]
  refine congrArg (fun f => some (arrV _ _ f)) ?_
  funext j
  rw [newC_I]; rfl
/-- a final field in a constructor: references alone -/
theorem r_putF (hE : En X D cc nL own rt rm) (hin : X.meth.name = "<init>") (c k : Nat) {idx a : Nat} {v : Nat} {f : Hp → Option (ρ × Hp)} (hc : c < 8) (hk : k < nF c) (hown2 : (TF c k).1 = own) (hty : ∀ i j r, hW (tyF c k) i j r = va_rf r) (hlink : Cond.fieldLink own idx (TF c k).1 (TF c k).2.1 (TF c k).2.2.1 ∈ TB) (hfin : (TF c k).2.2.2 = true) (hn : narrow (tyF c k) (.ref v) = .ref v) (hfit : fits (tyF c k) (.ref v) = true) (hd : decode cc pc = .ok (.putfield idx, 3)) (kk : ∀ h', pR h c a k (some v) = some h' → Wo X D nL mc ms ev cells slots (f h') (pc + 3) lv st h') : Wo X D nL mc ms ev cells slots ((pR h c a k (some v)).bind f) pc lv (.ref v :: .ref a :: st) h := fun out ho H locs ls hP hS0 hl => by
  obtain ⟨h', h1, h2⟩ := ob_k ho
  obtain ⟨hK, h3⟩ := gi_k h1
  have hap := w_apart hE hc
  obtain ⟨hx, hb, hml, hown, hts, hgK, -⟩ := hE
  obtain ⟨g1, g2, g3⟩ := hP.2.2 a (by omega)
  obtain ⟨cell, q1, q2, q3, q4⟩ := gA_obj hK hc g3
  obtain ⟨hS, hfc, kC, hkC, hkind⟩ := hgK.1 c hc
  obtain ⟨cf, kf, fi, f9, hi, hsl⟩ := hS k hk
  cases h3
  have hlay := hts _ (fieldsTB hc _ (u_in_lay hk))
  unfold u_lay at hlay
  rw [if_pos hfin] at hlay
  have hst := (u_facts hfc hkC (u_lays hts (fieldsTB hc) hk) hi).1
  have hcf : X.m.cls = cf := by
    obtain ⟨_, _, c', _, _, _, -, -, hf', -, -, -, hown3, -⟩ := Cond.laysFinal_spec hlay
    have e1 : c' = cf := by have := hi.symm.trans hf'; simp at this; exact this.1.symm
    rw [hown2] at hown3
    rw [← e1]; exact Option.some.inj (hown.symm.trans hown3)
  have h6 := u_fits hfc hkC hkind (Or.inr hlay) hi (tyF_ok hc k hk) hn hfit
  refine W.putFinK hx hb hown (hts _ hlink) hi hst hcf hin (by rw [q2]; exact h6) q1 q3 (by rw [hsl]; exact k2_hasslot (q4 k hk)) rfl rfl hd fun H' e1 e2 e3 => ?_
  rw [hsl] at e1 ⊢
  refine kk _ h1 out h2 H' _ ls (gP_write hP rfl rfl rfl (fun _ _ => rfl) (fun _ _ => rfl) (fun b hb => up2_ne _ hb) e2 e3 (gA_of_obj hK hc ?_)) (hS0.put e2 e3 g1) hl
  exact t_OB.to (V := updV (hV h a) k (.ref v)) ⟨_, e1, q2, q3, t_set q4 hap hk (.ref v)⟩ (fun j _ => hV_putR (v := some v) hK hty j)
/-- Object.<init> -/
theorem r_objInit (hE : En X D cc nL own rt rm) {idx a : Nat} (hw : Cond.methodLink own idx objectInit ∈ TB ∧ Cond.instanceMethod objectInit ∈ TB ∧ Cond.code objectInit ⟨#[0xb1]⟩ 1 none ∈ TB) (hr : 1 ≤ rm.frames ∧ (st.map fun v => v.category).sum + 12 ≤ rm.locals) (hd : decode cc pc = .ok (.invokespecial idx, 3)) (k : Wo X D nL mc ms ev cells slots o (pc + 3) lv st h) : Wo X D nL mc ms ev cells slots o pc lv (.ref a :: st) h := fun out ho H locs ls hP hS hl => by
  obtain ⟨hx, hb, hml, hown, hts, hgK, -, -, -, -, hRm⟩ := hE
  refine W.objInit hx hb hown (hts _ hw.1) (hts _ hw.2.1) (hts _ hw.2.2) rfl (by rw [hml]; exact hl.1) rfl hd (by rw [hRm]; exact hr.1) (by rw [hRm]; show 2 * 0 + _ + 12 ≤ _; have := hr.2; omega) ?_
  exact k out ho H locs ls hP hS hl
/-! constants -/
theorem r_ldc (hE : En X D cc nL own rt rm) {idx : Nat} {v : Int32} (hc : Cond.constant own idx v ∈ TB) (hd : decode cc pc = .ok (.ldc idx, 2)) (k : Wo X D nL mc ms ev cells slots o (pc + 2) lv (.int v :: st) h) : Wo X D nL mc ms ev cells slots o pc lv st h := fun out ho H locs ls hP hS hl => lv_ldc hE.1 hE.2.1 hE.2.2.2.1 (hE.2.2.2.2.1 _ hc) hd (k out ho H locs ls hP hS hl)
theorem r_ldc2 (hE : En X D cc nL own rt rm) {idx : Nat} {v : Int64} (hc : Cond.constantLong own idx v ∈ TB) (hd : decode cc pc = .ok (.ldc2_w idx, 3)) (k : Wo X D nL mc ms ev cells slots o (pc + 3) lv (.long v :: st) h) : Wo X D nL mc ms ev cells slots o pc lv st h := fun out ho H locs ls hP hS hl => lv_ldc2 hE.1 hE.2.1 hE.2.2.2.1 (hE.2.2.2.2.1 _ hc) hd (k out ho H locs ls hP hS hl)
/-! a table -/
def swt {α : Type} (x : Int32) (lo : Int) (os : List α) (d : α) : α := if x.toInt < lo then d else (os[(x.toInt - lo).toNat]?).getD d
def swP (X : Cx) (D : Dx) (nL mc ms : Nat) (ev : ρ → Option Value) (cells slots : Nat) (pc : Nat) (lv : List (Option Value)) (st : List Value) (h : Hp) : List (Option (ρ × Hp)) → List Int → Prop
  | [], [] => True
  | o :: os, f :: fs => (∃ tgt : Nat, (pc : Int) + f = (tgt : Int) ∧ Wo X D nL mc ms ev cells slots o tgt lv st h) ∧ swP X D nL mc ms ev cells slots pc lv st h os fs
  | _, _ => False
theorem swP_get : ∀ (os : List (Option (ρ × Hp))) (fs : List Int), swP X D nL mc ms ev cells slots pc lv st h os fs → os.length = fs.length ∧ ∀ (j : Nat) (o : Option (ρ × Hp)), os[j]? = some o → ∃ (f : Int) (tgt : Nat), fs[j]? = some f ∧ (pc : Int) + f = (tgt : Int) ∧ Wo X D nL mc ms ev cells slots o tgt lv st h
  | [], [], _ => ⟨rfl, fun j o h => by simp at h⟩
  | [], _ :: _, q => q.elim
  | _ :: _, [], q => q.elim
  | o :: os, f :: fs, q => by
    obtain ⟨⟨tgt, h1, h2⟩, q2⟩ := q
    obtain ⟨e1, e2⟩ := swP_get os fs q2
    refine ⟨by simp [e1], fun j o' hj => ?_⟩
    cases j with
    | zero => simp at hj; subst hj; exact ⟨f, tgt, rfl, h1, h2⟩
    | succ j => simpa using e2 j o' (by simpa using hj)
theorem r_tsw (hE : En X D cc nL own rt rm) {x : Int32} {dflt lo hi : Int} {offs : Array Int} {len : Nat} {os : List (Option (ρ × Hp))} (tgt : Nat) (hd : decode cc pc = .ok (.tableswitch dflt lo hi offs, len)) (hh : hi - lo + 1 = (offs.size : Int)) (ht : (pc : Int) + dflt = (tgt : Int)) (hs : swP X D nL mc ms ev cells slots pc lv st h os offs.toList) (kd : Wo X D nL mc ms ev cells slots o tgt lv st h) : Wo X D nL mc ms ev cells slots (swt x lo os o) pc lv (.int x :: st) h := fun out ho H locs ls hP hS hl => by
  obtain ⟨e1, e2⟩ := swP_get _ _ hs
  have e3 : offs.toList.length = offs.size := Array.length_toList
  have e4 : os.length = offs.size := e1.trans e3
  unfold swt at ho
  by_cases hlo : x.toInt < lo
  · rw [if_pos hlo] at ho
    exact lv_tableOut hE.1 hE.2.1 hd (Or.inl hlo) ht (kd out ho H locs ls hP hS hl)
  · rw [if_neg hlo] at ho
    cases hq : os[(x.toInt - lo).toNat]? with
    | none =>
      rw [hq] at ho
      have := List.getElem?_eq_none_iff.mp hq
      exact lv_tableOut hE.1 hE.2.1 hd (Or.inr (by omega)) ht (kd out ho H locs ls hP hS hl)
    | some o' =>
      rw [hq] at ho
      obtain ⟨f, tg, h1, h2, h3⟩ := e2 _ _ hq
      have hlt := (List.getElem?_eq_some_iff.mp hq).1
      exact lv_tableIn hE.1 hE.2.1 hd hlo (by omega) (by rw [← Array.getElem?_toList]; exact h1) h2 (h3 out ho H locs ls hP hS hl)
/-! returns -/
def evI (x : Int32) : Option Value := some (.int x)
def evJ (x : Int64) : Option Value := some (.long x)
def evR (x : Nat) : Option Value := some (.ref x)
def evU (_ : Unit) : Option Value := none
theorem r_iret (hE : En X D cc nL own (some .int) rm) {x : Int32} (hd : decode cc pc = .ok (.ireturn, 1)) : Wo X D nL cells slots evI cells slots (some (x, h)) pc lv [.int x] h := fun out ho H locs ls hP hS hl => by
  cases ho
  exact W.iret hE.1 hE.2.1 hE.2.2.2.2.2.2.2.1 (fun t ht hW => ⟨rfl, by rw [ht]; exact hP, hS.F ht⟩) hS.2.2 hd hE.2.2.2.2.2.2.2.2.1
theorem r_zret (hE : En X D cc nL own (some .boolean) rm) {x : Int32} (hx : x = 0 ∨ x = 1) (hd : decode cc pc = .ok (.ireturn, 1)) : Wo X D nL cells slots evI cells slots (some (x, h)) pc lv [.int x] h := fun out ho H locs ls hP hS hl => by
  cases ho
  exact W.zret hE.1 hE.2.1 hE.2.2.2.2.2.2.2.1 (by rcases hx with rfl | rfl <;> rfl) (fun t ht hW => ⟨rfl, by rw [ht]; exact hP, hS.F ht⟩) hS.2.2 hd hE.2.2.2.2.2.2.2.2.1
theorem r_zretQ (hE : En X D cc nL own (some .boolean) rm) {x : Int32} {i : Decidable (x = 0 ∨ x = 1)} (hd : decode cc pc = .ok (.ireturn, 1)) : Wo X D nL cells slots evI cells slots (@ite _ (x = 0 ∨ x = 1) i (some (x, h)) none) pc lv [.int x] h := Wo_grd (fun hx => r_zret hE hx hd)
theorem r_vret (hE : En X D cc nL own none rm) {x : Unit} (hd : decode cc pc = .ok (.return_, 1)) : Wo X D nL cells slots evU cells slots (some (x, h)) pc lv [] h := fun out ho H locs ls hP hS hl => by
  cases ho
  exact W.vret hE.1 hE.2.1 hE.2.2.2.2.2.2.2.1 (fun t ht hW => ⟨rfl, by rw [ht]; exact hP, hS.F ht⟩) hS.2.2 hd hE.2.2.2.2.2.2.2.2.1
theorem r_lret (hE : En X D cc nL own (some .long) rm) {x : Int64} (hd : decode cc pc = .ok (.lreturn, 1)) : Wo X D nL cells slots evJ cells slots (some (x, h)) pc lv [.long x] h := fun out ho H locs ls hP hS hl => by
  cases ho
  exact W.lret hE.1 hE.2.1 hE.2.2.2.2.2.2.2.1 (fun t ht hW => ⟨rfl, by rw [ht]; exact hP, hS.F ht⟩) hS.2.2 hd hE.2.2.2.2.2.2.2.2.1
theorem r_aret {C : String} (hE : En X D cc nL own (some (.object C)) rm) {x : Nat} (hd : decode cc pc = .ok (.areturn, 1)) : Wo X D nL cells slots evR cells slots (some (x, h)) pc lv [.ref x] h := fun out ho H locs ls hP hS hl => by
  cases ho
  exact W.aret hE.1 hE.2.1 hE.2.2.2.2.2.2.2.1 (Or.inl ⟨_, rfl⟩) (Or.inr ⟨_, rfl⟩) (fun t ht hW => ⟨rfl, by rw [ht]; exact hP, hS.F ht⟩) hS.2.2 hd hE.2.2.2.2.2.2.2.2.1
end NEWS
/-! CONTRACTS AND CALLS -/
def Ct (l : Launch) (D : Dx) (y : MethodName) (bytes : ByteArray) (maxL : Nat) (ret : Option FieldType) (rm : Room) (av : List Value) (h : Hp) (r : Option Value) (h' : Hp) : Prop :=
  Met l y (.code y bytes maxL ret :: TB) rm (va_Pc av (fun U => gP D h U.heap ∧ gK D U ∧ gS D U U.heap)) (Qm D r h') rm.cells rm.slots D.A
theorem Ct_blind {D : Dx} {av : List Value} {h : Hp} : FrameBlind (va_Pc av (fun U => gP D h U.heap ∧ gK D U ∧ gS D U U.heap)) := fun a U g mk q => by
  obtain ⟨q1, q2, q3, q4⟩ := q
  exact ⟨q1, q2, gK.same (u := U) rfl q3, gS.moved (u := U) (Vm.Alike.refl U.vm) q4⟩
/-- a contract out of its body's picture -/
theorem Ct.of {ρ : Type} {l : Launch} {D : Dx} {y : MethodName} {bytes : ByteArray} {maxL : Nat} {ret : Option FieldType} {rm : Room} {av : List Value} {h : Hp} {ev : ρ → Option Value} {o : Option (ρ × Hp)} {lv : List (Option Value)} (hy : plainName y.cls = true) (hlen : (lg_sl av).length ≤ maxL) (hlv : toA 0 lv = lv_args 0 av)
    (body : ∀ X : Cx, X.l = l → En X D bytes maxL y.cls ret rm → X.meth.name = y.name → Wo X D maxL rm.cells rm.slots ev 0 0 o 0 lv [] h) (out : ρ × Hp) (ho : o = some out) : Ct l D y bytes maxL ret rm av h (ev out.1) out.2 := by
  refine Met.ofW (cc := bytes) (maxL := maxL) (ret := ret) hy rfl ?_
  intro p e s m args below meth c s₁ B hml hv
  obtain ⟨rfl, hP, hK, hS⟩ := hv
  have hts := atoms_spec (ws := .code y bytes maxL ret :: TB) B.pre
  have hnm := name_of_methodNamed B.named B.method
  have hl := lv_entry av (n := maxL) hlen
  rw [lg_entry_eq]
  have hE : En (p, l, e, rm, s, m, av.toArray, below, meth, c) D bytes maxL y.cls ret rm := ⟨B.exec, B.bytes, hml, findClass_of_methodNamed B.named, fun w hw => hts w (List.mem_cons_of_mem _ hw), hK, by show D.2.2.1 ≤ s.heap.size; rw [hP.1]; exact hP.2.1, B.returns, B.notSynchronized, hS, rfl⟩
  exact body _ rfl hE hnm.1 out ho s.heap [] _ hP va_S.rf (by show lv_has _ _ _; rw [hlv]; exact hl)
section CALLS
variable {ρ σ : Type} {X : Cx} {D : Dx} {cc : ByteArray} {nL : Nat} {own : String} {rt : Option FieldType} {rm : Room} {mc ms : Nat} {ev : ρ → Option Value} {cells slots : Nat} {pc : Nat} {lv : List (Option Value)} {st : List Value} {h : Hp}
variable {y : MethodName} {bytes : ByteArray} {maxL idx b : Nat} {ret : Option FieldType} {rc : Room} {As : List Value} {ev' : σ → Option Value} {fo : Option (σ × Hp)} {g : σ × Hp → Option (ρ × Hp)}
theorem run_go {Q : State → Prop} {H : Heap} {locs : List Loc} {ls : Array Slot} {a : Array Value} {st0 rest : List Value} {r : Option Value} {h' : Hp} {mc1 ms1 : Nat} (hr : va_Run X.p X.l X.e X.Rm X.s X.m X.args X.below X.meth X.c H locs cells slots mc1 ms1 (F0 X.m pc ls st0) rest (Qm D r h' a) D.A) (hS : va_S D.A X.s.heap H locs)
    (kk : ∀ (H1 : Heap) (locs1 : List Loc), gP D h' H1 → va_S D.A X.s.heap H1 locs1 → W X.p X.l X.e X.Rm X.s X.m X.args X.below X.meth X.c H1 locs1 (cells + mc1) (slots + ms1) Q (F0 X.m (pc + 3) ls (r.toList ++ rest))) : W X.p X.l X.e X.Rm X.s X.m X.args X.below X.meth X.c H locs cells slots Q (F0 X.m pc ls st0) := by
  intro T hT X0
  obtain ⟨v, st₀, t, T', L, h0, X', hL, e1, e2, ⟨hv, hg, hz, hk⟩, st⟩ := hr T hT X0
  cases hv
  rw [h0] at hz hk
  obtain ⟨t2, a1, b1⟩ := kk T'.heap (locs ++ L) (by rw [e1]; exact hg)
    ⟨Nat.le_trans hS.1 (by rw [e1]; exact hz), fun q h1 h2 => by rw [e1, hk q (Nat.lt_of_lt_of_le h1 hS.1) h2]; exact hS.2.1 q h1 h2, fun q hq => by
      rcases List.mem_append.mp hq with h | h
      · exact hS.2.2 q h
      · exact hL q h⟩ T' rfl X'
  exact ⟨t2, st t2 a1, b1⟩
def okD (y : MethodName) (n : Nat) : Bool := decide (y.cls ≠ "java/lang/invoke/MethodHandle" ∧ y.cls ≠ "java/lang/invoke/VarHandle" ∧ (parseMethodDescriptor y.desc).map (fun d => d.parameters.length) = some n)
def inT (ws : List Cond) : Bool := ws.all (fun w => decide (w ∈ lw_tbl) && goodWord w)
theorem inT_mem {ws : List Cond} (h : inT ws = true) : ∀ w ∈ ws, w ∈ TB := fun w hw => by
  have := List.all_eq_true.mp h w hw
  simp only [Bool.and_eq_true, decide_eq_true_eq] at this
  exact tb_in this.1 this.2
/-- a call's words: static, virtual, of a constructor; of nest mates -/
def csS (own : String) (idx : Nat) (y : MethodName) (bytes : ByteArray) (maxL : Nat) (ret : Option FieldType) (n : Nat) : Bool := inT [.code y bytes maxL ret, .initialized y.cls, .methodLink own idx y, .static y] && okD y n
def csV (own : String) (idx : Nat) (y : MethodName) (bytes : ByteArray) (maxL : Nat) (ret : Option FieldType) (n : Nat) : Bool := inT [.code y bytes maxL ret, .initialized y.cls, .methodLink own idx y, .instanceMethod y, .selects y.cls y y] && okD y n
def csI (own : String) (idx : Nat) (y : MethodName) (bytes : ByteArray) (maxL : Nat) (n : Nat) : Bool := inT [.code y bytes maxL none, .initialized y.cls, .methodLink own idx y, .instanceMethod y] && (okD y n && decide (y.name = "<init>"))
def csSN (own : String) (idx : Nat) (y : MethodName) (bytes : ByteArray) (maxL : Nat) (ret : Option FieldType) (n : Nat) : Bool := inT [.code y bytes maxL ret, .initialized y.cls, .static y] && (okD y n && decide (Cond.methodLinkNest own idx y "CanoeMaster" ∈ nestW))
def csIN (own : String) (idx : Nat) (y : MethodName) (bytes : ByteArray) (maxL : Nat) (n : Nat) : Bool := inT [.code y bytes maxL none, .initialized y.cls, .instanceMethod y] && (okD y n && (decide (Cond.methodLinkNest own idx y "CanoeMaster" ∈ nestW) && decide (y.name = "<init>")))
theorem good_c {y : MethodName} {bytes : ByteArray} {maxL : Nat} {ret : Option FieldType} (h : Cond.code y bytes maxL ret ∈ TB) : GoodIn TB (.code y bytes maxL ret :: TB) := fun w hw => by
  rcases List.mem_cons.mp hw with rfl | hw
  · exact tb_good _ h
  · exact tb_good _ hw
def rOk (rc rm : Room) (maxL cells slots : Nat) : Prop := rc.frames + 1 ≤ rm.frames ∧ 8 + (maxL + 11) + rc.locals ≤ rm.locals ∧ cells + rc.cells ≤ rm.cells ∧ slots + rc.slots ≤ rm.slots
theorem callB_x (hE : En X D cc nL own rt rm) {n : Nat} (h1 : Cond.code y bytes maxL ret ∈ TB) (h2 : Cond.initialized y.cls ∈ TB) (h3 : Cond.methodLink own idx y ∈ TB) (hd : okD y n = true) (hr : rOk rc rm maxL cells slots) : CallB X.Rm X.s X.args own idx y bytes maxL ret (.code y bytes maxL ret :: TB) rc rc.cells rc.slots n := by
  obtain ⟨hx, hb, hml, hown, hts, hgK, -, -, -, -, hRm⟩ := hE
  exact callB_of n hts (good_c h1) rfl rfl rfl (hts _ h2) (hts _ h3) (of_decide_eq_true hd) (by rw [hRm]; exact ⟨hr.1, hr.2.1⟩)
theorem pre_x (hE : En X D cc nL own rt rm) {H : Heap} {locs : List Loc} (hP : gP D h H) (hS : va_S D.A X.s.heap H locs) (av : List Value) : PreS X.s H (va_Pc av (fun U => gP D h U.heap ∧ gK D U ∧ gS D U U.heap)) av := by
  obtain ⟨hx, hb, hml, hown, hts, hgK, -, -, -, hgS, hRm⟩ := hE
  exact ⟨Ct_blind, fun U hU hW => ⟨rfl, by rw [hU]; exact hP, hgK.warm hW, by rw [hU]; exact (hgS.kept hS.2.1).moved hW.alike⟩⟩
theorem r_callS (hE : En X D cc nL own rt rm) (hM : ∀ out, fo = some out → Ct X.l D y bytes maxL ret rc As h (ev' out.1) out.2) (hw : csS own idx y bytes maxL ret As.length = true) (hr : rOk rc rm maxL cells slots) (hst : (st.map fun v => v.category).sum ≤ 8) {st0 : List Value} (he : st0 = As.reverse ++ st) (hd : decode cc pc = .ok (.invokestatic idx, 3))
    (kk : ∀ x, fo = some x → Wo X D nL mc ms ev (cells + rc.cells) (slots + rc.slots) (g x) (pc + 3) lv ((ev' x.1).toList ++ st) x.2) : Wo X D nL mc ms ev cells slots (fo.bind g) pc lv st0 h := fun out ho H locs ls hP hS hl => by
  obtain ⟨x, h1, h2⟩ := ob_k ho
  simp only [csS, Bool.and_eq_true] at hw
  have hm := inT_mem hw.1
  subst he
  refine run_go (va_runS (As := As) (rest := st) ⟨hE.1, hE.2.1, hE.2.2.1, hE.2.2.2.1, hE.2.2.2.2.1⟩ (hM x h1) ⟨callB_x hE (hm _ (by simp)) (hm _ (by simp)) (hm _ (by simp)) hw.2 hr, hE.2.2.2.2.1 _ (hm _ (by simp))⟩ (pre_x hE hP hS As) rfl rfl hl.1 rfl (lv_room hst) hd ⟨by rw [hE.2.2.2.2.2.2.2.2.2.2]; exact hr.2.2.1, by rw [hE.2.2.2.2.2.2.2.2.2.2]; exact hr.2.2.2⟩) hS fun H1 locs1 hP1 hS1 => kk x h1 out h2 H1 locs1 ls hP1 hS1 hl
theorem r_callSN (hE : En X D cc nL own rt rm) (hM : ∀ out, fo = some out → Ct X.l D y bytes maxL ret rc As h (ev' out.1) out.2) (hw : csSN own idx y bytes maxL ret As.length = true) (hr : rOk rc rm maxL cells slots) (hst : (st.map fun v => v.category).sum ≤ 8) {st0 : List Value} (he : st0 = As.reverse ++ st) (hd : decode cc pc = .ok (.invokestatic idx, 3))
    (kk : ∀ x, fo = some x → Wo X D nL mc ms ev (cells + rc.cells) (slots + rc.slots) (g x) (pc + 3) lv ((ev' x.1).toList ++ st) x.2) : Wo X D nL mc ms ev cells slots (fo.bind g) pc lv st0 h := fun out ho H locs ls hP hS hl => by
  obtain ⟨x, h1, h2⟩ := ob_k ho
  simp only [csSN, Bool.and_eq_true, decide_eq_true_eq] at hw
  have hm := inT_mem hw.1
  subst he
  have hRm := hE.2.2.2.2.2.2.2.2.2.2
  refine run_go (va_runSN (As := As) (rest := st) ⟨hE.1, hE.2.1, hE.2.2.1, hE.2.2.2.1, hE.2.2.2.2.1⟩ (hM x h1) ⟨va_cnB As.length hE.2.2.2.2.1 (good_c (hm _ (by simp))) rfl rfl rfl (hE.2.2.2.2.2.1.2.2.2.2.1 _ hw.2.2) (hE.2.2.2.2.1 _ (hm _ (by simp))) (of_decide_eq_true hw.2.1) (by rw [hRm]; exact ⟨hr.1, hr.2.1⟩), hE.2.2.2.2.1 _ (hm _ (by simp)), trivial⟩ (pre_x hE hP hS As) rfl rfl hl.1 rfl (lv_room hst) hd ⟨by rw [hRm]; exact hr.2.2.1, by rw [hRm]; exact hr.2.2.2⟩) hS fun H1 locs1 hP1 hS1 => kk x h1 out h2 H1 locs1 ls hP1 hS1 hl
theorem r_callV (hE : En X D cc nL own rt rm) (ci : Nat) (hM : ∀ out, fo = some out → Ct X.l D y bytes maxL ret rc (.ref b :: As) h (ev' out.1) out.2) (hKb : ∀ out, fo = some out → h.K b = ci) (hci : ci < 8) (hyc : y.cls = RF ci) (hw : csV own idx y bytes maxL ret As.length = true) (hr : rOk rc rm maxL cells slots) (hst : (st.map fun v => v.category).sum ≤ 8) {st0 : List Value} (he : st0 = As.reverse ++ .ref b :: st) (hd : decode cc pc = .ok (.invokevirtual idx, 3))
    (kk : ∀ x, fo = some x → Wo X D nL mc ms ev (cells + rc.cells) (slots + rc.slots) (g x) (pc + 3) lv ((ev' x.1).toList ++ st) x.2) : Wo X D nL mc ms ev cells slots (fo.bind g) pc lv st0 h := fun out ho H locs ls hP hS hl => by
  obtain ⟨x, h1, h2⟩ := ob_k ho
  simp only [csV, Bool.and_eq_true] at hw
  have hm := inT_mem hw.1
  subst he
  have hK := hKb x h1
  obtain ⟨cell, q1, q2, q3, -⟩ := gA_obj hK hci (hP.2.2 b (by omega)).2.2
  have hfc := (hE.2.2.2.2.2.1.1 ci hci).2.1
  have hpre := pre_x hE hP hS (.ref b :: As)
  refine run_go (va_runV (C := y.cls) (As := As) (rest := st) ⟨hE.1, hE.2.1, hE.2.2.1, hE.2.2.2.1, hE.2.2.2.2.1⟩ (hM x h1) ⟨callB_x hE (hm _ (by simp)) (hm _ (by simp)) (hm _ (by simp)) hw.2 hr, hE.2.2.2.2.1 _ (hm _ (by simp)), hE.2.2.2.2.1 _ (hm _ (by simp))⟩ ⟨hpre.1, ⟨cell, q1, by rw [q3]; rfl, by rw [hyc, q2]; exact hfc⟩, hpre.2⟩ rfl rfl hl.1 rfl (lv_room hst) hd ⟨by rw [hE.2.2.2.2.2.2.2.2.2.2]; exact hr.2.2.1, by rw [hE.2.2.2.2.2.2.2.2.2.2]; exact hr.2.2.2⟩) hS fun H1 locs1 hP1 hS1 => kk x h1 out h2 H1 locs1 ls hP1 hS1 hl
theorem r_callI (hE : En X D cc nL own rt rm) (hM : ∀ out, fo = some out → Ct X.l D y bytes maxL none rc (.ref b :: As) h (ev' out.1) out.2) (hw : csI own idx y bytes maxL As.length = true) (hr : rOk rc rm maxL cells slots) (hst : (st.map fun v => v.category).sum ≤ 8) {st0 : List Value} (he : st0 = As.reverse ++ .ref b :: st) (hd : decode cc pc = .ok (.invokespecial idx, 3))
    (kk : ∀ x, fo = some x → Wo X D nL mc ms ev (cells + rc.cells) (slots + rc.slots) (g x) (pc + 3) lv ((ev' x.1).toList ++ st) x.2) : Wo X D nL mc ms ev cells slots (fo.bind g) pc lv st0 h := fun out ho H locs ls hP hS hl => by
  obtain ⟨x, h1, h2⟩ := ob_k ho
  simp only [csI, Bool.and_eq_true, decide_eq_true_eq] at hw
  have hm := inT_mem hw.1
  subst he
  refine run_go (va_runI (As := As) (rest := st) ⟨hE.1, hE.2.1, hE.2.2.1, hE.2.2.2.1, hE.2.2.2.2.1⟩ (hM x h1) ⟨callB_x hE (hm _ (by simp)) (hm _ (by simp)) (hm _ (by simp)) hw.2.1 hr, hw.2.2, hE.2.2.2.2.1 _ (hm _ (by simp))⟩ (pre_x hE hP hS (.ref b :: As)) rfl rfl hl.1 rfl (lv_room hst) hd ⟨by rw [hE.2.2.2.2.2.2.2.2.2.2]; exact hr.2.2.1, by rw [hE.2.2.2.2.2.2.2.2.2.2]; exact hr.2.2.2⟩) hS fun H1 locs1 hP1 hS1 => kk x h1 out h2 H1 locs1 ls hP1 hS1 hl
theorem r_callIN (hE : En X D cc nL own rt rm) (hM : ∀ out, fo = some out → Ct X.l D y bytes maxL none rc (.ref b :: As) h (ev' out.1) out.2) (hw : csIN own idx y bytes maxL As.length = true) (hr : rOk rc rm maxL cells slots) (hst : (st.map fun v => v.category).sum ≤ 8) {st0 : List Value} (he : st0 = As.reverse ++ .ref b :: st) (hd : decode cc pc = .ok (.invokespecial idx, 3))
    (kk : ∀ x, fo = some x → Wo X D nL mc ms ev (cells + rc.cells) (slots + rc.slots) (g x) (pc + 3) lv ((ev' x.1).toList ++ st) x.2) : Wo X D nL mc ms ev cells slots (fo.bind g) pc lv st0 h := fun out ho H locs ls hP hS hl => by
  obtain ⟨x, h1, h2⟩ := ob_k ho
  simp only [csIN, Bool.and_eq_true, decide_eq_true_eq] at hw
  have hm := inT_mem hw.1
  subst he
  have hRm := hE.2.2.2.2.2.2.2.2.2.2
  refine run_go (va_runIN (As := As) (rest := st) ⟨hE.1, hE.2.1, hE.2.2.1, hE.2.2.2.1, hE.2.2.2.2.1⟩ (hM x h1) ⟨va_cnB As.length hE.2.2.2.2.1 (good_c (hm _ (by simp))) rfl rfl rfl (hE.2.2.2.2.2.1.2.2.2.2.1 _ hw.2.2.1) (hE.2.2.2.2.1 _ (hm _ (by simp))) (of_decide_eq_true hw.2.1) (by rw [hRm]; exact ⟨hr.1, hr.2.1⟩), hw.2.2.2, hE.2.2.2.2.1 _ (hm _ (by simp))⟩ (pre_x hE hP hS (.ref b :: As)) rfl rfl hl.1 rfl (lv_room hst) hd ⟨by rw [hRm]; exact hr.2.2.1, by rw [hRm]; exact hr.2.2.2⟩) hS fun H1 locs1 hP1 hS1 => kk x h1 out h2 H1 locs1 ls hP1 hS1 hl
end CALLS
end
