section
-- ===== PART A: goes FIRST, ahead of the names: the tables' words, and 'selects' of the private methods out of them =====
/-- a private method of a class that the tables say can be made, by its rows of tables_1 -/
def lw_okq (q : MethodName × Nat) : Prop := (q.1.cls ≠ "java/lang/invoke/MethodHandle" ∧ q.1.cls ≠ "java/lang/invoke/VarHandle") ∧ Cond.instantiable q.1.cls q.2 ∈ tables_1 ∧ Cond.privateMethod q.1 ∈ tables_1 ∧ Cond.instanceMethod q.1 ∈ tables_1
theorem lw_p0 : lw_okq (⟨"ClickingDisk$FormatText", "step", "()V"⟩, 8) := ⟨⟨by decide +kernel, by decide +kernel⟩, List.mem_of_getElem? (i := 31) (by decide +kernel), List.mem_of_getElem? (i := 462) (by decide +kernel), List.mem_of_getElem? (i := 463) (by decide +kernel)⟩
theorem lw_p1 : lw_okq (⟨"ClickingDisk$FormatText", "kindAt", "(I)I"⟩, 8) := ⟨⟨by decide +kernel, by decide +kernel⟩, List.mem_of_getElem? (i := 31) (by decide +kernel), List.mem_of_getElem? (i := 466) (by decide +kernel), List.mem_of_getElem? (i := 467) (by decide +kernel)⟩
theorem lw_p2 : lw_okq (⟨"ClickingDisk$FormatText", "isLong", "()Z"⟩, 8) := ⟨⟨by decide +kernel, by decide +kernel⟩, List.mem_of_getElem? (i := 31) (by decide +kernel), List.mem_of_getElem? (i := 470) (by decide +kernel), List.mem_of_getElem? (i := 471) (by decide +kernel)⟩
theorem lw_p3 : lw_okq (⟨"ClickingDisk$FormatText", "lineBegun", "()I"⟩, 8) := ⟨⟨by decide +kernel, by decide +kernel⟩, List.mem_of_getElem? (i := 31) (by decide +kernel), List.mem_of_getElem? (i := 478) (by decide +kernel), List.mem_of_getElem? (i := 479) (by decide +kernel)⟩
theorem lw_p4 : lw_okq (⟨"ClickingDisk$FormatText", "isWord", "(Ljava/lang/String;)Z"⟩, 8) := ⟨⟨by decide +kernel, by decide +kernel⟩, List.mem_of_getElem? (i := 31) (by decide +kernel), List.mem_of_getElem? (i := 483) (by decide +kernel), List.mem_of_getElem? (i := 484) (by decide +kernel)⟩
theorem lw_p5 : lw_okq (⟨"ClickingDisk$FormatText", "takeRest", "(ILClickingDisk$Layout;)Z"⟩, 8) := ⟨⟨by decide +kernel, by decide +kernel⟩, List.mem_of_getElem? (i := 31) (by decide +kernel), List.mem_of_getElem? (i := 540) (by decide +kernel), List.mem_of_getElem? (i := 541) (by decide +kernel)⟩
theorem lw_p6 : lw_okq (⟨"ClickingDisk$FormatText", "takeNumber", "(II)Z"⟩, 8) := ⟨⟨by decide +kernel, by decide +kernel⟩, List.mem_of_getElem? (i := 31) (by decide +kernel), List.mem_of_getElem? (i := 544) (by decide +kernel), List.mem_of_getElem? (i := 545) (by decide +kernel)⟩
theorem lw_p7 : lw_okq (⟨"ClickingDisk$FormatText", "takeMark", "(LClickingDisk$Layout;)Z"⟩, 8) := ⟨⟨by decide +kernel, by decide +kernel⟩, List.mem_of_getElem? (i := 31) (by decide +kernel), List.mem_of_getElem? (i := 548) (by decide +kernel), List.mem_of_getElem? (i := 549) (by decide +kernel)⟩
theorem lw_p8 : lw_okq (⟨"ClickingDisk$FormatText", "takeSum", "(LClickingDisk$Layout;)Z"⟩, 8) := ⟨⟨by decide +kernel, by decide +kernel⟩, List.mem_of_getElem? (i := 31) (by decide +kernel), List.mem_of_getElem? (i := 552) (by decide +kernel), List.mem_of_getElem? (i := 553) (by decide +kernel)⟩
theorem lw_p9 : lw_okq (⟨"ClickingDisk$FormatText", "takeStop", "()Z"⟩, 8) := ⟨⟨by decide +kernel, by decide +kernel⟩, List.mem_of_getElem? (i := 31) (by decide +kernel), List.mem_of_getElem? (i := 560) (by decide +kernel), List.mem_of_getElem? (i := 561) (by decide +kernel)⟩
theorem lw_p10 : lw_okq (⟨"ClickingDisk$RawBits", "push", "(I)V"⟩, 2) := ⟨⟨by decide +kernel, by decide +kernel⟩, List.mem_of_getElem? (i := 136) (by decide +kernel), List.mem_of_getElem? (i := 620) (by decide +kernel), List.mem_of_getElem? (i := 621) (by decide +kernel)⟩
theorem lw_p11 : lw_okq (⟨"ClickingDisk$Sector", "byteAt", "(LClickingDisk$RawBits;I)I"⟩, 7) := ⟨⟨by decide +kernel, by decide +kernel⟩, List.mem_of_getElem? (i := 170) (by decide +kernel), List.mem_of_getElem? (i := 636) (by decide +kernel), List.mem_of_getElem? (i := 637) (by decide +kernel)⟩
theorem lw_p12 : lw_okq (⟨"ClickingDisk$Sector", "slipsIn", "(LClickingDisk$RawBits;LClickingDisk$Layout;)I"⟩, 7) := ⟨⟨by decide +kernel, by decide +kernel⟩, List.mem_of_getElem? (i := 170) (by decide +kernel), List.mem_of_getElem? (i := 665) (by decide +kernel), List.mem_of_getElem? (i := 666) (by decide +kernel)⟩
theorem lw_p13 : lw_okq (⟨"ClickingDisk", "ofSector", "(LClickingDisk$Sector;I)I"⟩, 9) := ⟨⟨by decide +kernel, by decide +kernel⟩, List.mem_of_getElem? (i := 23) (by decide +kernel), List.mem_of_getElem? (i := 685) (by decide +kernel), List.mem_of_getElem? (i := 686) (by decide +kernel)⟩
theorem lw_p14 : lw_okq (⟨"ClickingDisk$Shelf", "keepBetter", "(LClickingDisk$Take;II)V"⟩, 3) := ⟨⟨by decide +kernel, by decide +kernel⟩, List.mem_of_getElem? (i := 155) (by decide +kernel), List.mem_of_getElem? (i := 700) (by decide +kernel), List.mem_of_getElem? (i := 701) (by decide +kernel)⟩
theorem lw_p15 : lw_okq (⟨"ClickingDisk", "canJudge", "(II)Z"⟩, 9) := ⟨⟨by decide +kernel, by decide +kernel⟩, List.mem_of_getElem? (i := 23) (by decide +kernel), List.mem_of_getElem? (i := 720) (by decide +kernel), List.mem_of_getElem? (i := 721) (by decide +kernel)⟩
def lw_privs_1 : List (MethodName × Nat) := [(⟨"ClickingDisk$FormatText", "step", "()V"⟩, 8), (⟨"ClickingDisk$FormatText", "kindAt", "(I)I"⟩, 8), (⟨"ClickingDisk$FormatText", "isLong", "()Z"⟩, 8), (⟨"ClickingDisk$FormatText", "lineBegun", "()I"⟩, 8), (⟨"ClickingDisk$FormatText", "isWord", "(Ljava/lang/String;)Z"⟩, 8), (⟨"ClickingDisk$FormatText", "takeRest", "(ILClickingDisk$Layout;)Z"⟩, 8), (⟨"ClickingDisk$FormatText", "takeNumber", "(II)Z"⟩, 8), (⟨"ClickingDisk$FormatText", "takeMark", "(LClickingDisk$Layout;)Z"⟩, 8), (⟨"ClickingDisk$FormatText", "takeSum", "(LClickingDisk$Layout;)Z"⟩, 8), (⟨"ClickingDisk$FormatText", "takeStop", "()Z"⟩, 8), (⟨"ClickingDisk$RawBits", "push", "(I)V"⟩, 2), (⟨"ClickingDisk$Sector", "byteAt", "(LClickingDisk$RawBits;I)I"⟩, 7), (⟨"ClickingDisk$Sector", "slipsIn", "(LClickingDisk$RawBits;LClickingDisk$Layout;)I"⟩, 7), (⟨"ClickingDisk", "ofSector", "(LClickingDisk$Sector;I)I"⟩, 9), (⟨"ClickingDisk$Shelf", "keepBetter", "(LClickingDisk$Take;II)V"⟩, 3), (⟨"ClickingDisk", "canJudge", "(II)Z"⟩, 9)]
theorem lw_r1 : ∀ q ∈ lw_privs_1, lw_okq q := List.forall_mem_cons.mpr ⟨lw_p0, List.forall_mem_cons.mpr ⟨lw_p1, List.forall_mem_cons.mpr ⟨lw_p2, List.forall_mem_cons.mpr ⟨lw_p3, List.forall_mem_cons.mpr ⟨lw_p4, List.forall_mem_cons.mpr ⟨lw_p5, List.forall_mem_cons.mpr ⟨lw_p6, List.forall_mem_cons.mpr ⟨lw_p7, List.forall_mem_cons.mpr ⟨lw_p8, List.forall_mem_cons.mpr ⟨lw_p9, List.forall_mem_cons.mpr ⟨lw_p10, List.forall_mem_cons.mpr ⟨lw_p11, List.forall_mem_cons.mpr ⟨lw_p12, List.forall_mem_cons.mpr ⟨lw_p13, List.forall_mem_cons.mpr ⟨lw_p14, List.forall_mem_cons.mpr ⟨lw_p15, fun _ h => absurd h List.not_mem_nil⟩⟩⟩⟩⟩⟩⟩⟩⟩⟩⟩⟩⟩⟩⟩⟩
theorem lw_p16 : lw_okq (⟨"ClickingDisk$Jury", "gather", "(LClickingDisk$Shelf;)V"⟩, 13) := ⟨⟨by decide +kernel, by decide +kernel⟩, List.mem_of_getElem? (i := 277) (by decide +kernel), List.mem_of_getElem? (i := 728) (by decide +kernel), List.mem_of_getElem? (i := 729) (by decide +kernel)⟩
theorem lw_p17 : lw_okq (⟨"ClickingDisk$Jury", "rightAgree", "(I)Z"⟩, 13) := ⟨⟨by decide +kernel, by decide +kernel⟩, List.mem_of_getElem? (i := 277) (by decide +kernel), List.mem_of_getElem? (i := 733) (by decide +kernel), List.mem_of_getElem? (i := 734) (by decide +kernel)⟩
theorem lw_p18 : lw_okq (⟨"ClickingDisk$Jury", "mend", "(LClickingDisk$Layout;)Z"⟩, 13) := ⟨⟨by decide +kernel, by decide +kernel⟩, List.mem_of_getElem? (i := 277) (by decide +kernel), List.mem_of_getElem? (i := 742) (by decide +kernel), List.mem_of_getElem? (i := 743) (by decide +kernel)⟩
theorem lw_p19 : lw_okq (⟨"ClickingDisk$Jury", "gatherKinds", "(I)Z"⟩, 13) := ⟨⟨by decide +kernel, by decide +kernel⟩, List.mem_of_getElem? (i := 277) (by decide +kernel), List.mem_of_getElem? (i := 747) (by decide +kernel), List.mem_of_getElem? (i := 748) (by decide +kernel)⟩
theorem lw_p20 : lw_okq (⟨"ClickingDisk$Jury", "hasKind", "(II)Z"⟩, 13) := ⟨⟨by decide +kernel, by decide +kernel⟩, List.mem_of_getElem? (i := 277) (by decide +kernel), List.mem_of_getElem? (i := 755) (by decide +kernel), List.mem_of_getElem? (i := 756) (by decide +kernel)⟩
theorem lw_p21 : lw_okq (⟨"ClickingDisk$Jury", "hasSum", "(II)Z"⟩, 13) := ⟨⟨by decide +kernel, by decide +kernel⟩, List.mem_of_getElem? (i := 277) (by decide +kernel), List.mem_of_getElem? (i := 761) (by decide +kernel), List.mem_of_getElem? (i := 762) (by decide +kernel)⟩
theorem lw_p22 : lw_okq (⟨"ClickingDisk$Jury", "keepRow", "(I)V"⟩, 13) := ⟨⟨by decide +kernel, by decide +kernel⟩, List.mem_of_getElem? (i := 277) (by decide +kernel), List.mem_of_getElem? (i := 765) (by decide +kernel), List.mem_of_getElem? (i := 766) (by decide +kernel)⟩
theorem lw_p23 : lw_okq (⟨"ClickingDisk$Jury", "chooseAnother", "(I)I"⟩, 13) := ⟨⟨by decide +kernel, by decide +kernel⟩, List.mem_of_getElem? (i := 277) (by decide +kernel), List.mem_of_getElem? (i := 769) (by decide +kernel), List.mem_of_getElem? (i := 770) (by decide +kernel)⟩
theorem lw_p24 : lw_okq (⟨"ClickingDisk$Disk", "findUnlike", "()Z"⟩, 12) := ⟨⟨by decide +kernel, by decide +kernel⟩, List.mem_of_getElem? (i := 333) (by decide +kernel), List.mem_of_getElem? (i := 812) (by decide +kernel), List.mem_of_getElem? (i := 813) (by decide +kernel)⟩
theorem lw_p25 : lw_okq (⟨"ClickingDisk$Disk", "join", "()V"⟩, 12) := ⟨⟨by decide +kernel, by decide +kernel⟩, List.mem_of_getElem? (i := 333) (by decide +kernel), List.mem_of_getElem? (i := 816) (by decide +kernel), List.mem_of_getElem? (i := 817) (by decide +kernel)⟩
theorem lw_p26 : lw_okq (⟨"ClickingDisk$Disk", "choose", "(II)V"⟩, 12) := ⟨⟨by decide +kernel, by decide +kernel⟩, List.mem_of_getElem? (i := 333) (by decide +kernel), List.mem_of_getElem? (i := 834) (by decide +kernel), List.mem_of_getElem? (i := 835) (by decide +kernel)⟩
theorem lw_p27 : lw_okq (⟨"ClickingDisk", "bestDrive", "()I"⟩, 9) := ⟨⟨by decide +kernel, by decide +kernel⟩, List.mem_of_getElem? (i := 23) (by decide +kernel), List.mem_of_getElem? (i := 879) (by decide +kernel), List.mem_of_getElem? (i := 880) (by decide +kernel)⟩
theorem lw_p28 : lw_okq (⟨"ClickingDisk", "worstTrack", "()I"⟩, 9) := ⟨⟨by decide +kernel, by decide +kernel⟩, List.mem_of_getElem? (i := 23) (by decide +kernel), List.mem_of_getElem? (i := 883) (by decide +kernel), List.mem_of_getElem? (i := 884) (by decide +kernel)⟩
theorem lw_p29 : lw_okq (⟨"ClickingDisk$Scribe", "pushBit", "(I)V"⟩, 6) := ⟨⟨by decide +kernel, by decide +kernel⟩, List.mem_of_getElem? (i := 380) (by decide +kernel), List.mem_of_getElem? (i := 902) (by decide +kernel), List.mem_of_getElem? (i := 903) (by decide +kernel)⟩
theorem lw_p30 : lw_okq (⟨"ClickingDisk$Scribe", "pushByte", "(I)V"⟩, 6) := ⟨⟨by decide +kernel, by decide +kernel⟩, List.mem_of_getElem? (i := 380) (by decide +kernel), List.mem_of_getElem? (i := 907) (by decide +kernel), List.mem_of_getElem? (i := 908) (by decide +kernel)⟩
theorem lw_p31 : lw_okq (⟨"ClickingDiskModel", "leads", "()V"⟩, 38) := ⟨⟨by decide +kernel, by decide +kernel⟩, List.mem_of_getElem? (i := 918) (by decide +kernel), List.mem_of_getElem? (i := 1055) (by decide +kernel), List.mem_of_getElem? (i := 1056) (by decide +kernel)⟩
def lw_privs_2 : List (MethodName × Nat) := [(⟨"ClickingDisk$Jury", "gather", "(LClickingDisk$Shelf;)V"⟩, 13), (⟨"ClickingDisk$Jury", "rightAgree", "(I)Z"⟩, 13), (⟨"ClickingDisk$Jury", "mend", "(LClickingDisk$Layout;)Z"⟩, 13), (⟨"ClickingDisk$Jury", "gatherKinds", "(I)Z"⟩, 13), (⟨"ClickingDisk$Jury", "hasKind", "(II)Z"⟩, 13), (⟨"ClickingDisk$Jury", "hasSum", "(II)Z"⟩, 13), (⟨"ClickingDisk$Jury", "keepRow", "(I)V"⟩, 13), (⟨"ClickingDisk$Jury", "chooseAnother", "(I)I"⟩, 13), (⟨"ClickingDisk$Disk", "findUnlike", "()Z"⟩, 12), (⟨"ClickingDisk$Disk", "join", "()V"⟩, 12), (⟨"ClickingDisk$Disk", "choose", "(II)V"⟩, 12), (⟨"ClickingDisk", "bestDrive", "()I"⟩, 9), (⟨"ClickingDisk", "worstTrack", "()I"⟩, 9), (⟨"ClickingDisk$Scribe", "pushBit", "(I)V"⟩, 6), (⟨"ClickingDisk$Scribe", "pushByte", "(I)V"⟩, 6), (⟨"ClickingDiskModel", "leads", "()V"⟩, 38)]
theorem lw_r2 : ∀ q ∈ lw_privs_2, lw_okq q := List.forall_mem_cons.mpr ⟨lw_p16, List.forall_mem_cons.mpr ⟨lw_p17, List.forall_mem_cons.mpr ⟨lw_p18, List.forall_mem_cons.mpr ⟨lw_p19, List.forall_mem_cons.mpr ⟨lw_p20, List.forall_mem_cons.mpr ⟨lw_p21, List.forall_mem_cons.mpr ⟨lw_p22, List.forall_mem_cons.mpr ⟨lw_p23, List.forall_mem_cons.mpr ⟨lw_p24, List.forall_mem_cons.mpr ⟨lw_p25, List.forall_mem_cons.mpr ⟨lw_p26, List.forall_mem_cons.mpr ⟨lw_p27, List.forall_mem_cons.mpr ⟨lw_p28, List.forall_mem_cons.mpr ⟨lw_p29, List.forall_mem_cons.mpr ⟨lw_p30, List.forall_mem_cons.mpr ⟨lw_p31, fun _ h => absurd h List.not_mem_nil⟩⟩⟩⟩⟩⟩⟩⟩⟩⟩⟩⟩⟩⟩⟩⟩
theorem lw_p32 : lw_okq (⟨"ClickingDiskModel", "line", "()Z"⟩, 38) := ⟨⟨by decide +kernel, by decide +kernel⟩, List.mem_of_getElem? (i := 918) (by decide +kernel), List.mem_of_getElem? (i := 1068) (by decide +kernel), List.mem_of_getElem? (i := 1069) (by decide +kernel)⟩
theorem lw_p33 : lw_okq (⟨"ClickingDiskModel", "isWord", "(Ljava/lang/String;)Z"⟩, 38) := ⟨⟨by decide +kernel, by decide +kernel⟩, List.mem_of_getElem? (i := 918) (by decide +kernel), List.mem_of_getElem? (i := 1073) (by decide +kernel), List.mem_of_getElem? (i := 1074) (by decide +kernel)⟩
theorem lw_p34 : lw_okq (⟨"ClickingDiskModel", "number", "(III)Z"⟩, 38) := ⟨⟨by decide +kernel, by decide +kernel⟩, List.mem_of_getElem? (i := 918) (by decide +kernel), List.mem_of_getElem? (i := 1087) (by decide +kernel), List.mem_of_getElem? (i := 1088) (by decide +kernel)⟩
theorem lw_p35 : lw_okq (⟨"ClickingDiskModel", "sumHere", "()Z"⟩, 38) := ⟨⟨by decide +kernel, by decide +kernel⟩, List.mem_of_getElem? (i := 918) (by decide +kernel), List.mem_of_getElem? (i := 1091) (by decide +kernel), List.mem_of_getElem? (i := 1092) (by decide +kernel)⟩
theorem lw_p36 : lw_okq (⟨"ClickingDiskModel", "closes", "()Z"⟩, 38) := ⟨⟨by decide +kernel, by decide +kernel⟩, List.mem_of_getElem? (i := 918) (by decide +kernel), List.mem_of_getElem? (i := 1099) (by decide +kernel), List.mem_of_getElem? (i := 1100) (by decide +kernel)⟩
theorem lw_p37 : lw_okq (⟨"ClickingDiskModel", "turns", "(III)V"⟩, 38) := ⟨⟨by decide +kernel, by decide +kernel⟩, List.mem_of_getElem? (i := 918) (by decide +kernel), List.mem_of_getElem? (i := 1127) (by decide +kernel), List.mem_of_getElem? (i := 1128) (by decide +kernel)⟩
theorem lw_p38 : lw_okq (⟨"ClickingDiskModel", "finds", "(III)V"⟩, 38) := ⟨⟨by decide +kernel, by decide +kernel⟩, List.mem_of_getElem? (i := 918) (by decide +kernel), List.mem_of_getElem? (i := 1136) (by decide +kernel), List.mem_of_getElem? (i := 1137) (by decide +kernel)⟩
theorem lw_p39 : lw_okq (⟨"ClickingDiskModel", "many", "()I"⟩, 38) := ⟨⟨by decide +kernel, by decide +kernel⟩, List.mem_of_getElem? (i := 918) (by decide +kernel), List.mem_of_getElem? (i := 1140) (by decide +kernel), List.mem_of_getElem? (i := 1141) (by decide +kernel)⟩
theorem lw_p40 : lw_okq (⟨"ClickingDiskModel", "isMark", "(I)Z"⟩, 38) := ⟨⟨by decide +kernel, by decide +kernel⟩, List.mem_of_getElem? (i := 918) (by decide +kernel), List.mem_of_getElem? (i := 1144) (by decide +kernel), List.mem_of_getElem? (i := 1145) (by decide +kernel)⟩
theorem lw_p41 : lw_okq (⟨"ClickingDiskModel", "takes", "(I)V"⟩, 38) := ⟨⟨by decide +kernel, by decide +kernel⟩, List.mem_of_getElem? (i := 918) (by decide +kernel), List.mem_of_getElem? (i := 1151) (by decide +kernel), List.mem_of_getElem? (i := 1152) (by decide +kernel)⟩
theorem lw_p42 : lw_okq (⟨"ClickingDiskModel", "trackOf", "(I)I"⟩, 38) := ⟨⟨by decide +kernel, by decide +kernel⟩, List.mem_of_getElem? (i := 918) (by decide +kernel), List.mem_of_getElem? (i := 1155) (by decide +kernel), List.mem_of_getElem? (i := 1156) (by decide +kernel)⟩
theorem lw_p43 : lw_okq (⟨"ClickingDiskModel", "numberOf", "(I)I"⟩, 38) := ⟨⟨by decide +kernel, by decide +kernel⟩, List.mem_of_getElem? (i := 918) (by decide +kernel), List.mem_of_getElem? (i := 1159) (by decide +kernel), List.mem_of_getElem? (i := 1160) (by decide +kernel)⟩
theorem lw_p44 : lw_okq (⟨"ClickingDiskModel", "told", "(I)I"⟩, 38) := ⟨⟨by decide +kernel, by decide +kernel⟩, List.mem_of_getElem? (i := 918) (by decide +kernel), List.mem_of_getElem? (i := 1163) (by decide +kernel), List.mem_of_getElem? (i := 1164) (by decide +kernel)⟩
theorem lw_p45 : lw_okq (⟨"ClickingDiskModel", "sumOfSector", "(I)I"⟩, 38) := ⟨⟨by decide +kernel, by decide +kernel⟩, List.mem_of_getElem? (i := 918) (by decide +kernel), List.mem_of_getElem? (i := 1167) (by decide +kernel), List.mem_of_getElem? (i := 1168) (by decide +kernel)⟩
theorem lw_p46 : lw_okq (⟨"ClickingDiskModel", "sumOf", "()I"⟩, 38) := ⟨⟨by decide +kernel, by decide +kernel⟩, List.mem_of_getElem? (i := 918) (by decide +kernel), List.mem_of_getElem? (i := 1171) (by decide +kernel), List.mem_of_getElem? (i := 1172) (by decide +kernel)⟩
theorem lw_p47 : lw_okq (⟨"ClickingDiskModel", "isRight", "(I)Z"⟩, 38) := ⟨⟨by decide +kernel, by decide +kernel⟩, List.mem_of_getElem? (i := 918) (by decide +kernel), List.mem_of_getElem? (i := 1181) (by decide +kernel), List.mem_of_getElem? (i := 1182) (by decide +kernel)⟩
def lw_privs_3 : List (MethodName × Nat) := [(⟨"ClickingDiskModel", "line", "()Z"⟩, 38), (⟨"ClickingDiskModel", "isWord", "(Ljava/lang/String;)Z"⟩, 38), (⟨"ClickingDiskModel", "number", "(III)Z"⟩, 38), (⟨"ClickingDiskModel", "sumHere", "()Z"⟩, 38), (⟨"ClickingDiskModel", "closes", "()Z"⟩, 38), (⟨"ClickingDiskModel", "turns", "(III)V"⟩, 38), (⟨"ClickingDiskModel", "finds", "(III)V"⟩, 38), (⟨"ClickingDiskModel", "many", "()I"⟩, 38), (⟨"ClickingDiskModel", "isMark", "(I)Z"⟩, 38), (⟨"ClickingDiskModel", "takes", "(I)V"⟩, 38), (⟨"ClickingDiskModel", "trackOf", "(I)I"⟩, 38), (⟨"ClickingDiskModel", "numberOf", "(I)I"⟩, 38), (⟨"ClickingDiskModel", "told", "(I)I"⟩, 38), (⟨"ClickingDiskModel", "sumOfSector", "(I)I"⟩, 38), (⟨"ClickingDiskModel", "sumOf", "()I"⟩, 38), (⟨"ClickingDiskModel", "isRight", "(I)Z"⟩, 38)]
theorem lw_r3 : ∀ q ∈ lw_privs_3, lw_okq q := List.forall_mem_cons.mpr ⟨lw_p32, List.forall_mem_cons.mpr ⟨lw_p33, List.forall_mem_cons.mpr ⟨lw_p34, List.forall_mem_cons.mpr ⟨lw_p35, List.forall_mem_cons.mpr ⟨lw_p36, List.forall_mem_cons.mpr ⟨lw_p37, List.forall_mem_cons.mpr ⟨lw_p38, List.forall_mem_cons.mpr ⟨lw_p39, List.forall_mem_cons.mpr ⟨lw_p40, List.forall_mem_cons.mpr ⟨lw_p41, List.forall_mem_cons.mpr ⟨lw_p42, List.forall_mem_cons.mpr ⟨lw_p43, List.forall_mem_cons.mpr ⟨lw_p44, List.forall_mem_cons.mpr ⟨lw_p45, List.forall_mem_cons.mpr ⟨lw_p46, List.forall_mem_cons.mpr ⟨lw_p47, fun _ h => absurd h List.not_mem_nil⟩⟩⟩⟩⟩⟩⟩⟩⟩⟩⟩⟩⟩⟩⟩⟩
theorem lw_p48 : lw_okq (⟨"ClickingDiskModel", "isSector", "(II)Z"⟩, 38) := ⟨⟨by decide +kernel, by decide +kernel⟩, List.mem_of_getElem? (i := 918) (by decide +kernel), List.mem_of_getElem? (i := 1189) (by decide +kernel), List.mem_of_getElem? (i := 1190) (by decide +kernel)⟩
theorem lw_p49 : lw_okq (⟨"ClickingDiskModel", "statusOf", "(II)I"⟩, 38) := ⟨⟨by decide +kernel, by decide +kernel⟩, List.mem_of_getElem? (i := 918) (by decide +kernel), List.mem_of_getElem? (i := 1193) (by decide +kernel), List.mem_of_getElem? (i := 1194) (by decide +kernel)⟩
theorem lw_p50 : lw_okq (⟨"ClickingDiskModel", "gathers", "(II)V"⟩, 38) := ⟨⟨by decide +kernel, by decide +kernel⟩, List.mem_of_getElem? (i := 918) (by decide +kernel), List.mem_of_getElem? (i := 1197) (by decide +kernel), List.mem_of_getElem? (i := 1198) (by decide +kernel)⟩
theorem lw_p51 : lw_okq (⟨"ClickingDiskModel", "mends", "()I"⟩, 38) := ⟨⟨by decide +kernel, by decide +kernel⟩, List.mem_of_getElem? (i := 918) (by decide +kernel), List.mem_of_getElem? (i := 1201) (by decide +kernel), List.mem_of_getElem? (i := 1202) (by decide +kernel)⟩
theorem lw_p52 : lw_okq (⟨"ClickingDiskModel", "isAhead", "(II)Z"⟩, 38) := ⟨⟨by decide +kernel, by decide +kernel⟩, List.mem_of_getElem? (i := 918) (by decide +kernel), List.mem_of_getElem? (i := 1205) (by decide +kernel), List.mem_of_getElem? (i := 1206) (by decide +kernel)⟩
theorem lw_p53 : lw_okq (⟨"ClickingDiskModel", "asks", "(I)Z"⟩, 38) := ⟨⟨by decide +kernel, by decide +kernel⟩, List.mem_of_getElem? (i := 918) (by decide +kernel), List.mem_of_getElem? (i := 1231) (by decide +kernel), List.mem_of_getElem? (i := 1232) (by decide +kernel)⟩
theorem lw_p54 : lw_okq (⟨"ClickingDiskModel", "takesFrom", "(I)V"⟩, 38) := ⟨⟨by decide +kernel, by decide +kernel⟩, List.mem_of_getElem? (i := 918) (by decide +kernel), List.mem_of_getElem? (i := 1236) (by decide +kernel), List.mem_of_getElem? (i := 1237) (by decide +kernel)⟩
theorem lw_p55 : lw_okq (⟨"ClickingDiskModel", "mishapsNow", "()I"⟩, 38) := ⟨⟨by decide +kernel, by decide +kernel⟩, List.mem_of_getElem? (i := 918) (by decide +kernel), List.mem_of_getElem? (i := 1243) (by decide +kernel), List.mem_of_getElem? (i := 1244) (by decide +kernel)⟩
theorem lw_p56 : lw_okq (⟨"ClickingDiskModel", "chains", "(I)V"⟩, 38) := ⟨⟨by decide +kernel, by decide +kernel⟩, List.mem_of_getElem? (i := 918) (by decide +kernel), List.mem_of_getElem? (i := 1247) (by decide +kernel), List.mem_of_getElem? (i := 1248) (by decide +kernel)⟩
theorem lw_p57 : lw_okq (⟨"ClickingDiskModel", "writes", "()Z"⟩, 38) := ⟨⟨by decide +kernel, by decide +kernel⟩, List.mem_of_getElem? (i := 918) (by decide +kernel), List.mem_of_getElem? (i := 1276) (by decide +kernel), List.mem_of_getElem? (i := 1277) (by decide +kernel)⟩
theorem lw_p58 : lw_okq (⟨"ClickingDiskModel", "lays", "(I)Z"⟩, 38) := ⟨⟨by decide +kernel, by decide +kernel⟩, List.mem_of_getElem? (i := 918) (by decide +kernel), List.mem_of_getElem? (i := 1280) (by decide +kernel), List.mem_of_getElem? (i := 1281) (by decide +kernel)⟩
def lw_privs_4 : List (MethodName × Nat) := [(⟨"ClickingDiskModel", "isSector", "(II)Z"⟩, 38), (⟨"ClickingDiskModel", "statusOf", "(II)I"⟩, 38), (⟨"ClickingDiskModel", "gathers", "(II)V"⟩, 38), (⟨"ClickingDiskModel", "mends", "()I"⟩, 38), (⟨"ClickingDiskModel", "isAhead", "(II)Z"⟩, 38), (⟨"ClickingDiskModel", "asks", "(I)Z"⟩, 38), (⟨"ClickingDiskModel", "takesFrom", "(I)V"⟩, 38), (⟨"ClickingDiskModel", "mishapsNow", "()I"⟩, 38), (⟨"ClickingDiskModel", "chains", "(I)V"⟩, 38), (⟨"ClickingDiskModel", "writes", "()Z"⟩, 38), (⟨"ClickingDiskModel", "lays", "(I)Z"⟩, 38)]
theorem lw_r4 : ∀ q ∈ lw_privs_4, lw_okq q := List.forall_mem_cons.mpr ⟨lw_p48, List.forall_mem_cons.mpr ⟨lw_p49, List.forall_mem_cons.mpr ⟨lw_p50, List.forall_mem_cons.mpr ⟨lw_p51, List.forall_mem_cons.mpr ⟨lw_p52, List.forall_mem_cons.mpr ⟨lw_p53, List.forall_mem_cons.mpr ⟨lw_p54, List.forall_mem_cons.mpr ⟨lw_p55, List.forall_mem_cons.mpr ⟨lw_p56, List.forall_mem_cons.mpr ⟨lw_p57, List.forall_mem_cons.mpr ⟨lw_p58, fun _ h => absurd h List.not_mem_nil⟩⟩⟩⟩⟩⟩⟩⟩⟩⟩⟩
def lw_privs : List (MethodName × Nat) := lw_privs_1 ++ (lw_privs_2 ++ (lw_privs_3 ++ (lw_privs_4)))
def lw_tbl : List Cond := k2_sels lw_privs ++ tables_1
theorem lw_privs_ok : ∀ q ∈ lw_privs, lw_okq q := by
  show ∀ q ∈ lw_privs_1 ++ (lw_privs_2 ++ (lw_privs_3 ++ (lw_privs_4))), lw_okq q
  exact List.forall_mem_append.mpr ⟨lw_r1, List.forall_mem_append.mpr ⟨lw_r2, List.forall_mem_append.mpr ⟨lw_r3, lw_r4⟩⟩⟩
def RX0 : String := "ClickingDisk$Disk"
def TX0 : u_T := fun k => match k with
  | 0 => ("ClickingDisk$Disk", "files", "I", false)
  | 1 => ("ClickingDisk$Disk", "walked", "I", false)
  | 2 => ("ClickingDisk$Disk", "path", "[I", true)
  | 3 => ("ClickingDisk$Disk", "first", "[I", true)
  | 4 => ("ClickingDisk$Disk", "second", "[I", true)
  | 5 => ("ClickingDisk$Disk", "joined", "[I", true)
  | 6 => ("ClickingDisk$Disk", "unlike", "[I", true)
  | 7 => ("ClickingDisk$Disk", "unlikeOnes", "I", false)
  | 8 => ("ClickingDisk$Disk", "joinTried", "Z", false)
  | 9 => ("ClickingDisk$Disk", "joinStands", "Z", false)
  | 10 => ("ClickingDisk$Disk", "heads", "[I", true)
  | _ => ("ClickingDisk$Disk", "lengths", "[I", true)
def tyX0 : Nat → FieldType := fun k => match k with
  | 0 => .int
  | 1 => .int
  | 2 => .array .int
  | 3 => .array .int
  | 4 => .array .int
  | 5 => .array .int
  | 6 => .array .int
  | 7 => .int
  | 8 => .boolean
  | 9 => .boolean
  | 10 => .array .int
  | _ => .array .int
abbrev wsX00 : List Cond := u_ws RX0 TX0 12
theorem nmX0 : ∀ a, a < 12 → ∀ b, b < 12 → a ≠ b → (TX0 a).2.1 ≠ (TX0 b).2.1 := by decide +kernel
theorem tyX0_ok : ∀ k, k < 12 → parseFieldDescriptor (TX0 k).2.2.1 = some (tyX0 k) := by decide +kernel
abbrev cX0_init : ByteArray := prog_2_method_1_code
def yX0_init : MethodName := ⟨RX0, "<init>", "()V"⟩
abbrev cX0_write : ByteArray := prog_2_method_2_code
def yX0_write : MethodName := ⟨RX0, "write", "(III)V"⟩
abbrev cX0_add : ByteArray := prog_2_method_3_code
def yX0_add : MethodName := ⟨RX0, "add", "(II)V"⟩
abbrev cX0_holds : ByteArray := prog_2_method_4_code
def yX0_holds : MethodName := ⟨RX0, "holds", "(I)Z"⟩
abbrev cX0_rowOf : ByteArray := prog_2_method_5_code
def yX0_rowOf : MethodName := ⟨RX0, "rowOf", "(I)[I"⟩
abbrev cX0_walk : ByteArray := prog_2_method_6_code
def yX0_walk : MethodName := ⟨RX0, "walk", "([II)V"⟩
abbrev cX0_faultsBy : ByteArray := prog_2_method_7_code
def yX0_faultsBy : MethodName := ⟨RX0, "faultsBy", "([I)I"⟩
abbrev cX0_inFiles : ByteArray := prog_2_method_8_code
def yX0_inFiles : MethodName := ⟨RX0, "inFiles", "()I"⟩
abbrev cX0_lostOnes : ByteArray := prog_2_method_9_code
def yX0_lostOnes : MethodName := ⟨RX0, "lostOnes", "([II)I"⟩
abbrev cX0_findUnlike : ByteArray := prog_2_method_10_code
def yX0_findUnlike : MethodName := ⟨RX0, "findUnlike", "()Z"⟩
abbrev cX0_join : ByteArray := prog_2_method_11_code
def yX0_join : MethodName := ⟨RX0, "join", "()V"⟩
abbrev cX0_choose : ByteArray := prog_2_method_12_code
def yX0_choose : MethodName := ⟨RX0, "choose", "(II)V"⟩
def RX1 : String := "ClickingDisk$Find"
def TX1 : u_T := fun k => match k with
  | 0 => ("ClickingDisk$Find", "sectors", "[LClickingDisk$Sector;", true)
  | _ => ("ClickingDisk$Find", "size", "I", false)
def tyX1 : Nat → FieldType := fun k => match k with
  | 0 => .array (.object "ClickingDisk$Sector")
  | _ => .int
abbrev wsX10 : List Cond := u_ws RX1 TX1 2
theorem nmX1 : ∀ a, a < 2 → ∀ b, b < 2 → a ≠ b → (TX1 a).2.1 ≠ (TX1 b).2.1 := by decide +kernel
theorem tyX1_ok : ∀ k, k < 2 → parseFieldDescriptor (TX1 k).2.2.1 = some (tyX1 k) := by decide +kernel
abbrev cX1_init : ByteArray := prog_3_method_1_code
def yX1_init : MethodName := ⟨RX1, "<init>", "()V"⟩
abbrev cX1_search : ByteArray := prog_3_method_2_code
def yX1_search : MethodName := ⟨RX1, "search", "(LClickingDisk$RawBits;LClickingDisk$Layout;)V"⟩
abbrev cX1_rightOnes : ByteArray := prog_3_method_3_code
def yX1_rightOnes : MethodName := ⟨RX1, "rightOnes", "()I"⟩
abbrev cX1_slipsOfRight : ByteArray := prog_3_method_4_code
def yX1_slipsOfRight : MethodName := ⟨RX1, "slipsOfRight", "()I"⟩
def RX2 : String := "ClickingDisk$FormatText"
def TX2 : u_T := fun k => match k with
  | 0 => ("ClickingDisk$FormatText", "bytes", "[I", true)
  | 1 => ("ClickingDisk$FormatText", "size", "I", false)
  | 2 => ("ClickingDisk$FormatText", "kind", "I", false)
  | 3 => ("ClickingDisk$FormatText", "start", "I", false)
  | 4 => ("ClickingDisk$FormatText", "after", "I", false)
  | 5 => ("ClickingDisk$FormatText", "number", "I", false)
  | 6 => ("ClickingDisk$FormatText", "taken", "I", false)
  | _ => ("ClickingDisk$FormatText", "told", "I", false)
def tyX2 : Nat → FieldType := fun k => match k with
  | 0 => .array .int
  | 1 => .int
  | 2 => .int
  | 3 => .int
  | 4 => .int
  | 5 => .int
  | 6 => .int
  | _ => .int
abbrev wsX20 : List Cond := u_ws RX2 TX2 8
theorem nmX2 : ∀ a, a < 8 → ∀ b, b < 8 → a ≠ b → (TX2 a).2.1 ≠ (TX2 b).2.1 := by decide +kernel
theorem tyX2_ok : ∀ k, k < 8 → parseFieldDescriptor (TX2 k).2.2.1 = some (tyX2 k) := by decide +kernel
abbrev cX2_init : ByteArray := prog_4_method_1_code
def yX2_init : MethodName := ⟨RX2, "<init>", "()V"⟩
abbrev cX2_push : ByteArray := prog_4_method_2_code
def yX2_push : MethodName := ⟨RX2, "push", "(I)V"⟩
abbrev cX2_parse : ByteArray := prog_4_method_3_code
def yX2_parse : MethodName := ⟨RX2, "parse", "(LClickingDisk$Layout;)I"⟩
abbrev cX2_lineBegun : ByteArray := prog_4_method_4_code
def yX2_lineBegun : MethodName := ⟨RX2, "lineBegun", "()I"⟩
abbrev cX2_takeRest : ByteArray := prog_4_method_5_code
def yX2_takeRest : MethodName := ⟨RX2, "takeRest", "(ILClickingDisk$Layout;)Z"⟩
abbrev cX2_takeMark : ByteArray := prog_4_method_6_code
def yX2_takeMark : MethodName := ⟨RX2, "takeMark", "(LClickingDisk$Layout;)Z"⟩
abbrev cX2_takeSum : ByteArray := prog_4_method_7_code
def yX2_takeSum : MethodName := ⟨RX2, "takeSum", "(LClickingDisk$Layout;)Z"⟩
abbrev cX2_takeNumber : ByteArray := prog_4_method_8_code
def yX2_takeNumber : MethodName := ⟨RX2, "takeNumber", "(II)Z"⟩
abbrev cX2_takeStop : ByteArray := prog_4_method_9_code
def yX2_takeStop : MethodName := ⟨RX2, "takeStop", "()Z"⟩
abbrev cX2_isWord : ByteArray := prog_4_method_10_code
def yX2_isWord : MethodName := ⟨RX2, "isWord", "(Ljava/lang/String;)Z"⟩
abbrev cX2_step : ByteArray := prog_4_method_11_code
def yX2_step : MethodName := ⟨RX2, "step", "()V"⟩
abbrev cX2_isLong : ByteArray := prog_4_method_12_code
def yX2_isLong : MethodName := ⟨RX2, "isLong", "()Z"⟩
abbrev cX2_kindAt : ByteArray := prog_4_method_13_code
def yX2_kindAt : MethodName := ⟨RX2, "kindAt", "(I)I"⟩
def RX3 : String := "ClickingDisk$Jury"
def TX3 : u_T := fun k => match k with
  | 0 => ("ClickingDisk$Jury", "size", "I", false)
  | 1 => ("ClickingDisk$Jury", "right", "I", false)
  | 2 => ("ClickingDisk$Jury", "verdict", "I", false)
  | 3 => ("ClickingDisk$Jury", "data", "[I", true)
  | 4 => ("ClickingDisk$Jury", "copies", "[LClickingDisk$Sector;", true)
  | 5 => ("ClickingDisk$Jury", "track", "I", false)
  | 6 => ("ClickingDisk$Jury", "number", "I", false)
  | 7 => ("ClickingDisk$Jury", "ofClusters", "[I", true)
  | 8 => ("ClickingDisk$Jury", "kinds", "[[I", true)
  | 9 => ("ClickingDisk$Jury", "kindsAt", "[I", true)
  | 10 => ("ClickingDisk$Jury", "chosen", "[I", true)
  | 11 => ("ClickingDisk$Jury", "sums", "[I", true)
  | _ => ("ClickingDisk$Jury", "tally", "[I", true)
def tyX3 : Nat → FieldType := fun k => match k with
  | 0 => .int
  | 1 => .int
  | 2 => .int
  | 3 => .array .int
  | 4 => .array (.object "ClickingDisk$Sector")
  | 5 => .int
  | 6 => .int
  | 7 => .array .int
  | 8 => .array (.array .int)
  | 9 => .array .int
  | 10 => .array .int
  | 11 => .array .int
  | _ => .array .int
abbrev wsX30 : List Cond := u_ws RX3 TX3 13
theorem nmX3 : ∀ a, a < 13 → ∀ b, b < 13 → a ≠ b → (TX3 a).2.1 ≠ (TX3 b).2.1 := by decide +kernel
theorem tyX3_ok : ∀ k, k < 13 → parseFieldDescriptor (TX3 k).2.2.1 = some (tyX3 k) := by decide +kernel
abbrev cX3_init : ByteArray := prog_5_method_1_code
def yX3_init : MethodName := ⟨RX3, "<init>", "()V"⟩
abbrev cX3_forget : ByteArray := prog_5_method_2_code
def yX3_forget : MethodName := ⟨RX3, "forget", "()V"⟩
abbrev cX3_judgeCluster : ByteArray := prog_5_method_3_code
def yX3_judgeCluster : MethodName := ⟨RX3, "judgeCluster", "(ILClickingDisk$Shelf;LClickingDisk$Layout;)I"⟩
abbrev cX3_judge : ByteArray := prog_5_method_4_code
def yX3_judge : MethodName := ⟨RX3, "judge", "(IILClickingDisk$Shelf;LClickingDisk$Layout;)V"⟩
abbrev cX3_vote : ByteArray := prog_5_method_5_code
def yX3_vote : MethodName := ⟨RX3, "vote", "(I)I"⟩
abbrev cX3_gather : ByteArray := prog_5_method_6_code
def yX3_gather : MethodName := ⟨RX3, "gather", "(LClickingDisk$Shelf;)V"⟩
abbrev cX3_rightAgree : ByteArray := prog_5_method_7_code
def yX3_rightAgree : MethodName := ⟨RX3, "rightAgree", "(I)Z"⟩
abbrev cX3_mend : ByteArray := prog_5_method_8_code
def yX3_mend : MethodName := ⟨RX3, "mend", "(LClickingDisk$Layout;)Z"⟩
abbrev cX3_gatherKinds : ByteArray := prog_5_method_9_code
def yX3_gatherKinds : MethodName := ⟨RX3, "gatherKinds", "(I)Z"⟩
abbrev cX3_hasKind : ByteArray := prog_5_method_10_code
def yX3_hasKind : MethodName := ⟨RX3, "hasKind", "(II)Z"⟩
abbrev cX3_hasSum : ByteArray := prog_5_method_11_code
def yX3_hasSum : MethodName := ⟨RX3, "hasSum", "(II)Z"⟩
abbrev cX3_keepRow : ByteArray := prog_5_method_12_code
def yX3_keepRow : MethodName := ⟨RX3, "keepRow", "(I)V"⟩
abbrev cX3_chooseAnother : ByteArray := prog_5_method_13_code
def yX3_chooseAnother : MethodName := ⟨RX3, "chooseAnother", "(I)I"⟩
def RX4 : String := "ClickingDisk$Layout"
def TX4 : u_T := fun k => match k with
  | 0 => ("ClickingDisk$Layout", "stands", "Z", false)
  | 1 => ("ClickingDisk$Layout", "cell", "I", false)
  | 2 => ("ClickingDisk$Layout", "gain", "I", false)
  | 3 => ("ClickingDisk$Layout", "mark", "I", false)
  | 4 => ("ClickingDisk$Layout", "size", "I", false)
  | 5 => ("ClickingDisk$Layout", "sumKind", "I", false)
  | 6 => ("ClickingDisk$Layout", "crcTurn", "I", false)
  | 7 => ("ClickingDisk$Layout", "crcStart", "I", false)
  | _ => ("ClickingDisk$Layout", "swapped", "Z", false)
def tyX4 : Nat → FieldType := fun k => match k with
  | 0 => .boolean
  | 1 => .int
  | 2 => .int
  | 3 => .int
  | 4 => .int
  | 5 => .int
  | 6 => .int
  | 7 => .int
  | _ => .boolean
abbrev wsX40 : List Cond := u_ws RX4 TX4 9
theorem nmX4 : ∀ a, a < 9 → ∀ b, b < 9 → a ≠ b → (TX4 a).2.1 ≠ (TX4 b).2.1 := by decide +kernel
theorem tyX4_ok : ∀ k, k < 9 → parseFieldDescriptor (TX4 k).2.2.1 = some (tyX4 k) := by decide +kernel
abbrev cX4_init : ByteArray := prog_6_method_1_code
def yX4_init : MethodName := ⟨RX4, "<init>", "()V"⟩
abbrev cX4_clear : ByteArray := prog_6_method_2_code
def yX4_clear : MethodName := ⟨RX4, "clear", "()V"⟩
abbrev cX4_take : ByteArray := prog_6_method_3_code
def yX4_take : MethodName := ⟨RX4, "take", "(LClickingDisk$Layout;)V"⟩
abbrev cX4_firstByte : ByteArray := prog_6_method_4_code
def yX4_firstByte : MethodName := ⟨RX4, "firstByte", "(II)I"⟩
abbrev cX4_secondByte : ByteArray := prog_6_method_5_code
def yX4_secondByte : MethodName := ⟨RX4, "secondByte", "(II)I"⟩
abbrev cX4_sumOfHead : ByteArray := prog_6_method_6_code
def yX4_sumOfHead : MethodName := ⟨RX4, "sumOfHead", "(II)I"⟩
abbrev cX4_sumOf : ByteArray := prog_6_method_7_code
def yX4_sumOf : MethodName := ⟨RX4, "sumOf", "(II[I)I"⟩
abbrev cX4_sumWith : ByteArray := prog_6_method_8_code
def yX4_sumWith : MethodName := ⟨RX4, "sumWith", "(II)I"⟩
def RX5 : String := "ClickingDisk$RawBits"
def TX5 : u_T := fun k => match k with
  | 0 => ("ClickingDisk$RawBits", "row", "[I", true)
  | _ => ("ClickingDisk$RawBits", "size", "I", false)
def tyX5 : Nat → FieldType := fun k => match k with
  | 0 => .array .int
  | _ => .int
abbrev wsX50 : List Cond := u_ws RX5 TX5 2
theorem nmX5 : ∀ a, a < 2 → ∀ b, b < 2 → a ≠ b → (TX5 a).2.1 ≠ (TX5 b).2.1 := by decide +kernel
theorem tyX5_ok : ∀ k, k < 2 → parseFieldDescriptor (TX5 k).2.2.1 = some (tyX5 k) := by decide +kernel
abbrev cX5_init : ByteArray := prog_7_method_1_code
def yX5_init : MethodName := ⟨RX5, "<init>", "()V"⟩
abbrev cX5_fill : ByteArray := prog_7_method_2_code
def yX5_fill : MethodName := ⟨RX5, "fill", "(LClickingDisk$Tape;II)V"⟩
abbrev cX5_push : ByteArray := prog_7_method_3_code
def yX5_push : MethodName := ⟨RX5, "push", "(I)V"⟩
def RX6 : String := "ClickingDisk$Scribe"
def TX6 : u_T := fun k => match k with
  | 0 => ("ClickingDisk$Scribe", "steps", "[I", true)
  | 1 => ("ClickingDisk$Scribe", "size", "I", false)
  | 2 => ("ClickingDisk$Scribe", "cell", "I", false)
  | 3 => ("ClickingDisk$Scribe", "since", "I", false)
  | 4 => ("ClickingDisk$Scribe", "ahead", "I", false)
  | _ => ("ClickingDisk$Scribe", "fits", "Z", false)
def tyX6 : Nat → FieldType := fun k => match k with
  | 0 => .array .int
  | 1 => .int
  | 2 => .int
  | 3 => .int
  | 4 => .int
  | _ => .boolean
abbrev wsX60 : List Cond := u_ws RX6 TX6 6
theorem nmX6 : ∀ a, a < 6 → ∀ b, b < 6 → a ≠ b → (TX6 a).2.1 ≠ (TX6 b).2.1 := by decide +kernel
theorem tyX6_ok : ∀ k, k < 6 → parseFieldDescriptor (TX6 k).2.2.1 = some (tyX6 k) := by decide +kernel
abbrev cX6_init : ByteArray := prog_8_method_1_code
def yX6_init : MethodName := ⟨RX6, "<init>", "()V"⟩
abbrev cX6_write : ByteArray := prog_8_method_2_code
def yX6_write : MethodName := ⟨RX6, "write", "(LClickingDisk$Layout;II[I)Z"⟩
abbrev cX6_pushByte : ByteArray := prog_8_method_3_code
def yX6_pushByte : MethodName := ⟨RX6, "pushByte", "(I)V"⟩
abbrev cX6_pushBit : ByteArray := prog_8_method_4_code
def yX6_pushBit : MethodName := ⟨RX6, "pushBit", "(I)V"⟩
def RX7 : String := "ClickingDisk$Sector"
def TX7 : u_T := fun k => match k with
  | 0 => ("ClickingDisk$Sector", "place", "I", false)
  | 1 => ("ClickingDisk$Sector", "track", "I", false)
  | 2 => ("ClickingDisk$Sector", "number", "I", false)
  | 3 => ("ClickingDisk$Sector", "sumRead", "I", false)
  | 4 => ("ClickingDisk$Sector", "sumDue", "I", false)
  | 5 => ("ClickingDisk$Sector", "slips", "I", false)
  | _ => ("ClickingDisk$Sector", "data", "[I", true)
def tyX7 : Nat → FieldType := fun k => match k with
  | 0 => .int
  | 1 => .int
  | 2 => .int
  | 3 => .int
  | 4 => .int
  | 5 => .int
  | _ => .array .int
abbrev wsX70 : List Cond := u_ws RX7 TX7 7
theorem nmX7 : ∀ a, a < 7 → ∀ b, b < 7 → a ≠ b → (TX7 a).2.1 ≠ (TX7 b).2.1 := by decide +kernel
theorem tyX7_ok : ∀ k, k < 7 → parseFieldDescriptor (TX7 k).2.2.1 = some (tyX7 k) := by decide +kernel
abbrev cX7_init : ByteArray := prog_9_method_1_code
def yX7_init : MethodName := ⟨RX7, "<init>", "()V"⟩
abbrev cX7_isRight : ByteArray := prog_9_method_2_code
def yX7_isRight : MethodName := ⟨RX7, "isRight", "()Z"⟩
abbrev cX7_take : ByteArray := prog_9_method_3_code
def yX7_take : MethodName := ⟨RX7, "take", "(LClickingDisk$RawBits;ILClickingDisk$Layout;)V"⟩
abbrev cX7_hasData : ByteArray := prog_9_method_4_code
def yX7_hasData : MethodName := ⟨RX7, "hasData", "(LClickingDisk$Sector;I)Z"⟩
abbrev cX7_byteOrSum : ByteArray := prog_9_method_5_code
def yX7_byteOrSum : MethodName := ⟨RX7, "byteOrSum", "(II)I"⟩
abbrev cX7_byteAt : ByteArray := prog_9_method_6_code
def yX7_byteAt : MethodName := ⟨RX7, "byteAt", "(LClickingDisk$RawBits;I)I"⟩
abbrev cX7_slipsIn : ByteArray := prog_9_method_7_code
def yX7_slipsIn : MethodName := ⟨RX7, "slipsIn", "(LClickingDisk$RawBits;LClickingDisk$Layout;)I"⟩
def RX8 : String := "ClickingDisk$Shelf"
def TX8 : u_T := fun k => match k with
  | 0 => ("ClickingDisk$Shelf", "takes", "[LClickingDisk$Take;", true)
  | 1 => ("ClickingDisk$Shelf", "size", "I", false)
  | _ => ("ClickingDisk$Shelf", "trial", "LClickingDisk$Find;", true)
def tyX8 : Nat → FieldType := fun k => match k with
  | 0 => .array (.object "ClickingDisk$Take")
  | 1 => .int
  | _ => .object "ClickingDisk$Find"
abbrev wsX80 : List Cond := u_ws RX8 TX8 3
theorem nmX8 : ∀ a, a < 3 → ∀ b, b < 3 → a ≠ b → (TX8 a).2.1 ≠ (TX8 b).2.1 := by decide +kernel
theorem tyX8_ok : ∀ k, k < 3 → parseFieldDescriptor (TX8 k).2.2.1 = some (tyX8 k) := by decide +kernel
abbrev cX8_init : ByteArray := prog_10_method_1_code
def yX8_init : MethodName := ⟨RX8, "<init>", "()V"⟩
abbrev cX8_holds : ByteArray := prog_10_method_2_code
def yX8_holds : MethodName := ⟨RX8, "holds", "(I)Z"⟩
abbrev cX8_put : ByteArray := prog_10_method_3_code
def yX8_put : MethodName := ⟨RX8, "put", "(LClickingDisk$Tape;ILClickingDisk$Layout;LClickingDisk$RawBits;)V"⟩
abbrev cX8_tune : ByteArray := prog_10_method_4_code
def yX8_tune : MethodName := ⟨RX8, "tune", "(ILClickingDisk$Layout;LClickingDisk$RawBits;)V"⟩
abbrev cX8_keepBetter : ByteArray := prog_10_method_5_code
def yX8_keepBetter : MethodName := ⟨RX8, "keepBetter", "(LClickingDisk$Take;II)V"⟩
abbrev cX8_hopeOf : ByteArray := prog_10_method_6_code
def yX8_hopeOf : MethodName := ⟨RX8, "hopeOf", "(I)I"⟩
def RX9 : String := "ClickingDisk$Take"
def TX9 : u_T := fun k => match k with
  | 0 => ("ClickingDisk$Take", "tape", "LClickingDisk$Tape;", true)
  | 1 => ("ClickingDisk$Take", "find", "LClickingDisk$Find;", true)
  | 2 => ("ClickingDisk$Take", "drive", "I", false)
  | 3 => ("ClickingDisk$Take", "isTuned", "Z", false)
  | 4 => ("ClickingDisk$Take", "bestCell", "I", false)
  | 5 => ("ClickingDisk$Take", "bestGain", "I", false)
  | 6 => ("ClickingDisk$Take", "bestRight", "I", false)
  | _ => ("ClickingDisk$Take", "bestSlips", "I", false)
def tyX9 : Nat → FieldType := fun k => match k with
  | 0 => .object "ClickingDisk$Tape"
  | 1 => .object "ClickingDisk$Find"
  | 2 => .int
  | 3 => .boolean
  | 4 => .int
  | 5 => .int
  | 6 => .int
  | _ => .int
abbrev wsX90 : List Cond := u_ws RX9 TX9 8
theorem nmX9 : ∀ a, a < 8 → ∀ b, b < 8 → a ≠ b → (TX9 a).2.1 ≠ (TX9 b).2.1 := by decide +kernel
theorem tyX9_ok : ∀ k, k < 8 → parseFieldDescriptor (TX9 k).2.2.1 = some (tyX9 k) := by decide +kernel
abbrev cX9_init : ByteArray := prog_11_method_1_code
def yX9_init : MethodName := ⟨RX9, "<init>", "()V"⟩
def RX10 : String := "ClickingDisk$Tape"
def TX10 : u_T := fun k => match k with
  | 0 => ("ClickingDisk$Tape", "steps", "[I", true)
  | _ => ("ClickingDisk$Tape", "size", "I", false)
def tyX10 : Nat → FieldType := fun k => match k with
  | 0 => .array .int
  | _ => .int
abbrev wsX100 : List Cond := u_ws RX10 TX10 2
theorem nmX10 : ∀ a, a < 2 → ∀ b, b < 2 → a ≠ b → (TX10 a).2.1 ≠ (TX10 b).2.1 := by decide +kernel
theorem tyX10_ok : ∀ k, k < 2 → parseFieldDescriptor (TX10 k).2.2.1 = some (tyX10 k) := by decide +kernel
abbrev cX10_init : ByteArray := prog_12_method_1_code
def yX10_init : MethodName := ⟨RX10, "<init>", "()V"⟩
abbrev cX10_push : ByteArray := prog_12_method_2_code
def yX10_push : MethodName := ⟨RX10, "push", "(I)V"⟩
abbrev cX10_take : ByteArray := prog_12_method_3_code
def yX10_take : MethodName := ⟨RX10, "take", "(LClickingDisk$Tape;)V"⟩
def RX11 : String := "ClickingDisk"
def TX11 : u_T := fun k => match k with
  | 0 => ("ClickingDisk", "text", "LClickingDisk$FormatText;", true)
  | 1 => ("ClickingDisk", "draft", "LClickingDisk$Layout;", true)
  | 2 => ("ClickingDisk", "layout", "LClickingDisk$Layout;", true)
  | 3 => ("ClickingDisk", "tape", "LClickingDisk$Tape;", true)
  | 4 => ("ClickingDisk", "bits", "LClickingDisk$RawBits;", true)
  | 5 => ("ClickingDisk", "shelf", "LClickingDisk$Shelf;", true)
  | 6 => ("ClickingDisk", "jury", "LClickingDisk$Jury;", true)
  | 7 => ("ClickingDisk", "disk", "LClickingDisk$Disk;", true)
  | _ => ("ClickingDisk", "scribe", "LClickingDisk$Scribe;", true)
def tyX11 : Nat → FieldType := fun k => match k with
  | 0 => .object "ClickingDisk$FormatText"
  | 1 => .object "ClickingDisk$Layout"
  | 2 => .object "ClickingDisk$Layout"
  | 3 => .object "ClickingDisk$Tape"
  | 4 => .object "ClickingDisk$RawBits"
  | 5 => .object "ClickingDisk$Shelf"
  | 6 => .object "ClickingDisk$Jury"
  | 7 => .object "ClickingDisk$Disk"
  | _ => .object "ClickingDisk$Scribe"
abbrev wsX110 : List Cond := u_ws RX11 TX11 9
theorem nmX11 : ∀ a, a < 9 → ∀ b, b < 9 → a ≠ b → (TX11 a).2.1 ≠ (TX11 b).2.1 := by decide +kernel
theorem tyX11_ok : ∀ k, k < 9 → parseFieldDescriptor (TX11 k).2.2.1 = some (tyX11 k) := by decide +kernel
abbrev cX11_init : ByteArray := prog_1_method_1_code
def yX11_init : MethodName := ⟨RX11, "<init>", "()V"⟩
abbrev cX11_feed : ByteArray := prog_1_method_2_code
def yX11_feed : MethodName := ⟨RX11, "feed", "(IIIII)I"⟩
abbrev cX11_end : ByteArray := prog_1_method_3_code
def yX11_end : MethodName := ⟨RX11, "end", "(I)Z"⟩
abbrev cX11_fault : ByteArray := prog_1_method_4_code
def yX11_fault : MethodName := ⟨RX11, "fault", "()I"⟩
abbrev cX11_format : ByteArray := prog_1_method_5_code
def yX11_format : MethodName := ⟨RX11, "format", "()I"⟩
abbrev cX11_flux : ByteArray := prog_1_method_6_code
def yX11_flux : MethodName := ⟨RX11, "flux", "(IIIII)I"⟩
abbrev cX11_wipe : ByteArray := prog_1_method_7_code
def yX11_wipe : MethodName := ⟨RX11, "wipe", "()I"⟩
abbrev cX11_read : ByteArray := prog_1_method_8_code
def yX11_read : MethodName := ⟨RX11, "read", "(I)I"⟩
abbrev cX11_raw : ByteArray := prog_1_method_9_code
def yX11_raw : MethodName := ⟨RX11, "raw", "(III)I"⟩
abbrev cX11_found : ByteArray := prog_1_method_10_code
def yX11_found : MethodName := ⟨RX11, "found", "(III)I"⟩
abbrev cX11_tuned : ByteArray := prog_1_method_11_code
def yX11_tuned : MethodName := ⟨RX11, "tuned", "(II)I"⟩
abbrev cX11_status : ByteArray := prog_1_method_12_code
def yX11_status : MethodName := ⟨RX11, "status", "(III)I"⟩
abbrev cX11_value : ByteArray := prog_1_method_13_code
def yX11_value : MethodName := ⟨RX11, "value", "(III)I"⟩
abbrev cX11_tell : ByteArray := prog_1_method_14_code
def yX11_tell : MethodName := ⟨RX11, "tell", "(III)Z"⟩
abbrev cX11_file : ByteArray := prog_1_method_15_code
def yX11_file : MethodName := ⟨RX11, "file", "(II)I"⟩
abbrev cX11_mishaps : ByteArray := prog_1_method_16_code
def yX11_mishaps : MethodName := ⟨RX11, "mishaps", "(I)I"⟩
abbrev cX11_next : ByteArray := prog_1_method_17_code
def yX11_next : MethodName := ⟨RX11, "next", "(II)I"⟩
abbrev cX11_chain : ByteArray := prog_1_method_18_code
def yX11_chain : MethodName := ⟨RX11, "chain", "(III)I"⟩
abbrev cX11_gaps : ByteArray := prog_1_method_19_code
def yX11_gaps : MethodName := ⟨RX11, "gaps", "(I)I"⟩
abbrev cX11_hope : ByteArray := prog_1_method_20_code
def yX11_hope : MethodName := ⟨RX11, "hope", "(I)I"⟩
abbrev cX11_ask : ByteArray := prog_1_method_21_code
def yX11_ask : MethodName := ⟨RX11, "ask", "(I)I"⟩
abbrev cX11_written : ByteArray := prog_1_method_22_code
def yX11_written : MethodName := ⟨RX11, "written", "(III)I"⟩
abbrev cX11_count : ByteArray := prog_1_method_23_code
def yX11_count : MethodName := ⟨RX11, "count", "(I)I"⟩
abbrev cX11_ofSector : ByteArray := prog_1_method_24_code
def yX11_ofSector : MethodName := ⟨RX11, "ofSector", "(LClickingDisk$Sector;I)I"⟩
abbrev cX11_canJudge : ByteArray := prog_1_method_25_code
def yX11_canJudge : MethodName := ⟨RX11, "canJudge", "(II)Z"⟩
abbrev cX11_bestDrive : ByteArray := prog_1_method_26_code
def yX11_bestDrive : MethodName := ⟨RX11, "bestDrive", "()I"⟩
abbrev cX11_worstTrack : ByteArray := prog_1_method_27_code
def yX11_worstTrack : MethodName := ⟨RX11, "worstTrack", "()I"⟩
abbrev cX11_isDrive : ByteArray := prog_1_method_28_code
def yX11_isDrive : MethodName := ⟨RX11, "isDrive", "(I)Z"⟩
abbrev cX11_isCluster : ByteArray := prog_1_method_29_code
def yX11_isCluster : MethodName := ⟨RX11, "isCluster", "(I)Z"⟩
abbrev cX11_soundStatus : ByteArray := prog_1_method_30_code
def yX11_soundStatus : MethodName := ⟨RX11, "soundStatus", "(I)Z"⟩
abbrev cX11_byteOf : ByteArray := prog_1_method_31_code
def yX11_byteOf : MethodName := ⟨RX11, "byteOf", "(II)I"⟩
abbrev cX11_stepsIn : ByteArray := prog_1_method_32_code
def yX11_stepsIn : MethodName := ⟨RX11, "stepsIn", "(I)I"⟩
abbrev cX11_clockDue : ByteArray := prog_1_method_33_code
def yX11_clockDue : MethodName := ⟨RX11, "clockDue", "(II)I"⟩
def RX12 : String := "ClickingDiskModel"
def TX12 : u_T := fun k => match k with
  | 0 => ("ClickingDiskModel", "text", "[B", true)
  | 1 => ("ClickingDiskModel", "size", "I", false)
  | 2 => ("ClickingDiskModel", "at", "I", false)
  | 3 => ("ClickingDiskModel", "kind", "I", false)
  | 4 => ("ClickingDiskModel", "tokenAt", "I", false)
  | 5 => ("ClickingDiskModel", "value", "J", false)
  | 6 => ("ClickingDiskModel", "newFormat", "[I", true)
  | 7 => ("ClickingDiskModel", "format", "[I", true)
  | 8 => ("ClickingDiskModel", "isFormat", "Z", false)
  | 9 => ("ClickingDiskModel", "tape", "I", false)
  | 10 => ("ClickingDiskModel", "step", "[I", true)
  | 11 => ("ClickingDiskModel", "reads", "I", false)
  | 12 => ("ClickingDiskModel", "drive", "[I", true)
  | 13 => ("ClickingDiskModel", "readLong", "[I", true)
  | 14 => ("ClickingDiskModel", "readStep", "[I", true)
  | 15 => ("ClickingDiskModel", "tells", "[I", true)
  | 16 => ("ClickingDiskModel", "files", "I", false)
  | 17 => ("ClickingDiskModel", "fileFirst", "[I", true)
  | 18 => ("ClickingDiskModel", "fileLong", "[I", true)
  | 19 => ("ClickingDiskModel", "bit", "[Z", true)
  | 20 => ("ClickingDiskModel", "bits", "I", false)
  | 21 => ("ClickingDiskModel", "sectors", "I", false)
  | 22 => ("ClickingDiskModel", "place", "[I", true)
  | 23 => ("ClickingDiskModel", "bytes", "[I", true)
  | 24 => ("ClickingDiskModel", "slips", "[I", true)
  | 25 => ("ClickingDiskModel", "summed", "[I", true)
  | 26 => ("ClickingDiskModel", "copies", "I", false)
  | 27 => ("ClickingDiskModel", "copy", "[I", true)
  | 28 => ("ClickingDiskModel", "copyRight", "[Z", true)
  | 29 => ("ClickingDiskModel", "whole", "[I", true)
  | 30 => ("ClickingDiskModel", "choice", "[I", true)
  | 31 => ("ClickingDiskModel", "choices", "[I", true)
  | 32 => ("ClickingDiskModel", "asked", "[I", true)
  | 33 => ("ClickingDiskModel", "link", "[I", true)
  | 34 => ("ClickingDiskModel", "links", "I", false)
  | 35 => ("ClickingDiskModel", "anew", "[I", true)
  | 36 => ("ClickingDiskModel", "anews", "I", false)
  | _ => ("ClickingDiskModel", "since", "I", false)
def tyX12 : Nat → FieldType := fun k => match k with
  | 0 => .array .byte
  | 1 => .int
  | 2 => .int
  | 3 => .int
  | 4 => .int
  | 5 => .long
  | 6 => .array .int
  | 7 => .array .int
  | 8 => .boolean
  | 9 => .int
  | 10 => .array .int
  | 11 => .int
  | 12 => .array .int
  | 13 => .array .int
  | 14 => .array .int
  | 15 => .array .int
  | 16 => .int
  | 17 => .array .int
  | 18 => .array .int
  | 19 => .array .boolean
  | 20 => .int
  | 21 => .int
  | 22 => .array .int
  | 23 => .array .int
  | 24 => .array .int
  | 25 => .array .int
  | 26 => .int
  | 27 => .array .int
  | 28 => .array .boolean
  | 29 => .array .int
  | 30 => .array .int
  | 31 => .array .int
  | 32 => .array .int
  | 33 => .array .int
  | 34 => .int
  | 35 => .array .int
  | 36 => .int
  | _ => .int
abbrev wsX120 : List Cond := u_ws RX12 TX12 38
theorem nmX12 : ∀ a, a < 38 → ∀ b, b < 38 → a ≠ b → (TX12 a).2.1 ≠ (TX12 b).2.1 := by decide +kernel
theorem tyX12_ok : ∀ k, k < 38 → parseFieldDescriptor (TX12 k).2.2.1 = some (tyX12 k) := by decide +kernel
abbrev cX12_init : ByteArray := prog_14_method_1_code
def yX12_init : MethodName := ⟨RX12, "<init>", "()V"⟩
abbrev cX12_in : ByteArray := prog_14_method_2_code
def yX12_in : MethodName := ⟨RX12, "in", "(III)Z"⟩
abbrev cX12_feed : ByteArray := prog_14_method_3_code
def yX12_feed : MethodName := ⟨RX12, "feed", "(IIIII)I"⟩
abbrev cX12_end : ByteArray := prog_14_method_4_code
def yX12_end : MethodName := ⟨RX12, "end", "(I)Z"⟩
abbrev cX12_isLetter : ByteArray := prog_14_method_5_code
def yX12_isLetter : MethodName := ⟨RX12, "isLetter", "(I)Z"⟩
abbrev cX12_isDigit : ByteArray := prog_14_method_6_code
def yX12_isDigit : MethodName := ⟨RX12, "isDigit", "(I)Z"⟩
abbrev cX12_leads : ByteArray := prog_14_method_7_code
def yX12_leads : MethodName := ⟨RX12, "leads", "()V"⟩
abbrev cX12_packed : ByteArray := prog_14_method_8_code
def yX12_packed : MethodName := ⟨RX12, "packed", "(Ljava/lang/String;)J"⟩
abbrev cX12_isWord : ByteArray := prog_14_method_9_code
def yX12_isWord : MethodName := ⟨RX12, "isWord", "(Ljava/lang/String;)Z"⟩
abbrev cX12_number : ByteArray := prog_14_method_10_code
def yX12_number : MethodName := ⟨RX12, "number", "(III)Z"⟩
abbrev cX12_closes : ByteArray := prog_14_method_11_code
def yX12_closes : MethodName := ⟨RX12, "closes", "()Z"⟩
abbrev cX12_sumHere : ByteArray := prog_14_method_12_code
def yX12_sumHere : MethodName := ⟨RX12, "sumHere", "()Z"⟩
abbrev cX12_line : ByteArray := prog_14_method_13_code
def yX12_line : MethodName := ⟨RX12, "line", "()Z"⟩
abbrev cX12_fault : ByteArray := prog_14_method_14_code
def yX12_fault : MethodName := ⟨RX12, "fault", "()I"⟩
abbrev cX12_format : ByteArray := prog_14_method_15_code
def yX12_format : MethodName := ⟨RX12, "format", "()I"⟩
abbrev cX12_flux : ByteArray := prog_14_method_16_code
def yX12_flux : MethodName := ⟨RX12, "flux", "(IIIII)I"⟩
abbrev cX12_byteOf : ByteArray := prog_14_method_17_code
def yX12_byteOf : MethodName := ⟨RX12, "byteOf", "(IIIIII)I"⟩
abbrev cX12_wipe : ByteArray := prog_14_method_18_code
def yX12_wipe : MethodName := ⟨RX12, "wipe", "()I"⟩
abbrev cX12_read : ByteArray := prog_14_method_19_code
def yX12_read : MethodName := ⟨RX12, "read", "(I)I"⟩
abbrev cX12_turns : ByteArray := prog_14_method_20_code
def yX12_turns : MethodName := ⟨RX12, "turns", "(III)V"⟩
abbrev cX12_raw : ByteArray := prog_14_method_21_code
def yX12_raw : MethodName := ⟨RX12, "raw", "(III)I"⟩
abbrev cX12_many : ByteArray := prog_14_method_22_code
def yX12_many : MethodName := ⟨RX12, "many", "()I"⟩
abbrev cX12_bitOf : ByteArray := prog_14_method_23_code
def yX12_bitOf : MethodName := ⟨RX12, "bitOf", "(II)I"⟩
abbrev cX12_isMark : ByteArray := prog_14_method_24_code
def yX12_isMark : MethodName := ⟨RX12, "isMark", "(I)Z"⟩
abbrev cX12_finds : ByteArray := prog_14_method_25_code
def yX12_finds : MethodName := ⟨RX12, "finds", "(III)V"⟩
abbrev cX12_takes : ByteArray := prog_14_method_26_code
def yX12_takes : MethodName := ⟨RX12, "takes", "(I)V"⟩
abbrev cX12_sumOf : ByteArray := prog_14_method_27_code
def yX12_sumOf : MethodName := ⟨RX12, "sumOf", "()I"⟩
abbrev cX12_sumOfSector : ByteArray := prog_14_method_28_code
def yX12_sumOfSector : MethodName := ⟨RX12, "sumOfSector", "(I)I"⟩
abbrev cX12_told : ByteArray := prog_14_method_29_code
def yX12_told : MethodName := ⟨RX12, "told", "(I)I"⟩
abbrev cX12_isRight : ByteArray := prog_14_method_30_code
def yX12_isRight : MethodName := ⟨RX12, "isRight", "(I)Z"⟩
abbrev cX12_trackOf : ByteArray := prog_14_method_31_code
def yX12_trackOf : MethodName := ⟨RX12, "trackOf", "(I)I"⟩
abbrev cX12_numberOf : ByteArray := prog_14_method_32_code
def yX12_numberOf : MethodName := ⟨RX12, "numberOf", "(I)I"⟩
abbrev cX12_found : ByteArray := prog_14_method_33_code
def yX12_found : MethodName := ⟨RX12, "found", "(III)I"⟩
abbrev cX12_tuned : ByteArray := prog_14_method_34_code
def yX12_tuned : MethodName := ⟨RX12, "tuned", "(II)I"⟩
abbrev cX12_gathers : ByteArray := prog_14_method_35_code
def yX12_gathers : MethodName := ⟨RX12, "gathers", "(II)V"⟩
abbrev cX12_isAhead : ByteArray := prog_14_method_36_code
def yX12_isAhead : MethodName := ⟨RX12, "isAhead", "(II)Z"⟩
abbrev cX12_mends : ByteArray := prog_14_method_37_code
def yX12_mends : MethodName := ⟨RX12, "mends", "()I"⟩
abbrev cX12_statusOf : ByteArray := prog_14_method_38_code
def yX12_statusOf : MethodName := ⟨RX12, "statusOf", "(II)I"⟩
abbrev cX12_isWhole : ByteArray := prog_14_method_39_code
def yX12_isWhole : MethodName := ⟨RX12, "isWhole", "(I)Z"⟩
abbrev cX12_isSector : ByteArray := prog_14_method_40_code
def yX12_isSector : MethodName := ⟨RX12, "isSector", "(II)Z"⟩
abbrev cX12_status : ByteArray := prog_14_method_41_code
def yX12_status : MethodName := ⟨RX12, "status", "(III)I"⟩
abbrev cX12_value : ByteArray := prog_14_method_42_code
def yX12_value : MethodName := ⟨RX12, "value", "(III)I"⟩
abbrev cX12_isCluster : ByteArray := prog_14_method_43_code
def yX12_isCluster : MethodName := ⟨RX12, "isCluster", "(I)Z"⟩
abbrev cX12_tell : ByteArray := prog_14_method_44_code
def yX12_tell : MethodName := ⟨RX12, "tell", "(III)Z"⟩
abbrev cX12_file : ByteArray := prog_14_method_45_code
def yX12_file : MethodName := ⟨RX12, "file", "(II)I"⟩
abbrev cX12_chains : ByteArray := prog_14_method_46_code
def yX12_chains : MethodName := ⟨RX12, "chains", "(I)V"⟩
abbrev cX12_mishapsNow : ByteArray := prog_14_method_47_code
def yX12_mishapsNow : MethodName := ⟨RX12, "mishapsNow", "()I"⟩
abbrev cX12_takesFrom : ByteArray := prog_14_method_48_code
def yX12_takesFrom : MethodName := ⟨RX12, "takesFrom", "(I)V"⟩
abbrev cX12_ones : ByteArray := prog_14_method_49_code
def yX12_ones : MethodName := ⟨RX12, "ones", "(I)I"⟩
abbrev cX12_asks : ByteArray := prog_14_method_50_code
def yX12_asks : MethodName := ⟨RX12, "asks", "(I)Z"⟩
abbrev cX12_mishaps : ByteArray := prog_14_method_51_code
def yX12_mishaps : MethodName := ⟨RX12, "mishaps", "(I)I"⟩
abbrev cX12_next : ByteArray := prog_14_method_52_code
def yX12_next : MethodName := ⟨RX12, "next", "(II)I"⟩
abbrev cX12_chain : ByteArray := prog_14_method_53_code
def yX12_chain : MethodName := ⟨RX12, "chain", "(III)I"⟩
abbrev cX12_gaps : ByteArray := prog_14_method_54_code
def yX12_gaps : MethodName := ⟨RX12, "gaps", "(I)I"⟩
abbrev cX12_hope : ByteArray := prog_14_method_55_code
def yX12_hope : MethodName := ⟨RX12, "hope", "(I)I"⟩
abbrev cX12_ask : ByteArray := prog_14_method_56_code
def yX12_ask : MethodName := ⟨RX12, "ask", "(I)I"⟩
abbrev cX12_lays : ByteArray := prog_14_method_57_code
def yX12_lays : MethodName := ⟨RX12, "lays", "(I)Z"⟩
abbrev cX12_writes : ByteArray := prog_14_method_58_code
def yX12_writes : MethodName := ⟨RX12, "writes", "()Z"⟩
abbrev cX12_written : ByteArray := prog_14_method_59_code
def yX12_written : MethodName := ⟨RX12, "written", "(III)I"⟩
abbrev cX12_count : ByteArray := prog_14_method_60_code
def yX12_count : MethodName := ⟨RX12, "count", "(I)I"⟩
def RJx145de : String := "java/io/Serializable"
def RJx9f9b0 : String := "java/lang/CharSequence"
def RJxb160c : String := "java/lang/Comparable"
def RJ6 : String := "java/lang/Integer"
abbrev cJ6_bitCount_0f7a4 : ByteArray := prog_15_method_49_code
def yJ6_bitCount_0f7a4 : MethodName := ⟨RJ6, "bitCount", "(I)I"⟩
def RJ9 : String := "java/lang/Math"
abbrev cJ9_floorDiv_7cf53 : ByteArray := prog_16_method_47_code
def yJ9_floorDiv_7cf53 : MethodName := ⟨RJ9, "floorDiv", "(II)I"⟩
abbrev cJ9_max_7cf53 : ByteArray := prog_16_method_65_code
def yJ9_max_7cf53 : MethodName := ⟨RJ9, "max", "(II)I"⟩
abbrev cJ9_min_7cf53 : ByteArray := prog_16_method_69_code
def yJ9_min_7cf53 : MethodName := ⟨RJ9, "min", "(II)I"⟩
def RJ0 : String := "java/lang/String"
abbrev cJ0_length_8abf5 : ByteArray := prog_17_method_54_code
def yJ0_length_8abf5 : MethodName := ⟨RJ0, "length", "()I"⟩
abbrev cJ0_charAt_5068e : ByteArray := prog_17_method_56_code
def yJ0_charAt_5068e : MethodName := ⟨RJ0, "charAt", "(I)C"⟩
abbrev cJ0_coder_7d493 : ByteArray := prog_17_method_152_code
def yJ0_coder_7d493 : MethodName := ⟨RJ0, "coder", "()B"⟩
abbrev cJ0_isLatin1_aae02 : ByteArray := prog_17_method_154_code
def yJ0_isLatin1_aae02 : MethodName := ⟨RJ0, "isLatin1", "()Z"⟩
abbrev cJ0_checkIndex_df160 : ByteArray := prog_17_method_155_code
def yJ0_checkIndex_df160 : MethodName := ⟨RJ0, "checkIndex", "(II)V"⟩
def RJ1 : String := "java/lang/StringLatin1"
abbrev cJ1_charAt_3b067 : ByteArray := prog_18_method_2_code
def yJ1_charAt_3b067 : MethodName := ⟨RJ1, "charAt", "([BI)C"⟩
def RJ2 : String := "java/lang/StringUTF16"
abbrev cJ2_getChar_3b067 : ByteArray := prog_19_method_5_code
def yJ2_getChar_3b067 : MethodName := ⟨RJ2, "getChar", "([BI)C"⟩
abbrev cJ2_length_9d52b : ByteArray := prog_19_method_6_code
def yJ2_length_9d52b : MethodName := ⟨RJ2, "length", "([B)I"⟩
abbrev cJ2_charAt_3b067 : ByteArray := prog_19_method_83_code
def yJ2_charAt_3b067 : MethodName := ⟨RJ2, "charAt", "([BI)C"⟩
abbrev cJ2_checkIndex_2214a : ByteArray := prog_19_method_91_code
def yJ2_checkIndex_2214a : MethodName := ⟨RJ2, "checkIndex", "(I[B)V"⟩
def RJ10 : String := "java/lang/System"
def RJxfd54e : String := "java/lang/constant/Constable"
def RJx3cf43 : String := "java/lang/constant/ConstantDesc"
def RJ7 : String := "java/util/Arrays"
abbrev cJ7_fill_53178 : ByteArray := prog_21_method_103_code
def yJ7_fill_53178 : MethodName := ⟨RJ7, "fill", "([II)V"⟩
def RJ3 : String := "jdk/internal/util/Preconditions"
abbrev cJ3_checkIndex_8e157 : ByteArray := prog_22_method_11_code
def yJ3_checkIndex_8e157 : MethodName := ⟨RJ3, "checkIndex", "(IILjava/util/function/BiFunction;)I"⟩
def RL : String := "ClickingDiskLaw"
abbrev cL_law : ByteArray := code
def yL_law : MethodName := ⟨RL, "law", "([I)Z"⟩
abbrev vwCl : List vw_C := [(RX0, TX0, 12), (RX1, TX1, 2), (RX2, TX2, 8), (RX3, TX3, 13), (RX4, TX4, 9), (RX5, TX5, 2), (RX6, TX6, 6), (RX7, TX7, 7), (RX8, TX8, 3), (RX9, TX9, 8), (RX10, TX10, 2), (RX11, TX11, 9), (RX12, TX12, 38)]
theorem inX0 : ∀ w ∈ wsX00, w ∈ lw_tbl := by decide +kernel
theorem inX1 : ∀ w ∈ wsX10, w ∈ lw_tbl := by decide +kernel
theorem inX2 : ∀ w ∈ wsX20, w ∈ lw_tbl := by decide +kernel
theorem inX3 : ∀ w ∈ wsX30, w ∈ lw_tbl := by decide +kernel
theorem inX4 : ∀ w ∈ wsX40, w ∈ lw_tbl := by decide +kernel
theorem inX5 : ∀ w ∈ wsX50, w ∈ lw_tbl := by decide +kernel
theorem inX6 : ∀ w ∈ wsX60, w ∈ lw_tbl := by decide +kernel
theorem inX7 : ∀ w ∈ wsX70, w ∈ lw_tbl := by decide +kernel
theorem inX8 : ∀ w ∈ wsX80, w ∈ lw_tbl := by decide +kernel
theorem inX9 : ∀ w ∈ wsX90, w ∈ lw_tbl := by decide +kernel
theorem inX10 : ∀ w ∈ wsX100, w ∈ lw_tbl := by decide +kernel
theorem inX11 : ∀ w ∈ wsX110, w ∈ lw_tbl := by decide +kernel
theorem inX12 : ∀ w ∈ wsX120, w ∈ lw_tbl := by decide +kernel
end
section
/-! the abstract values and the abstract heap -/
abbrev aV : Type := Int32 ⊕ (Int64 ⊕ Option (Option (Nat × Nat)))
abbrev aI (x : Int32) : aV := .inl x
abbrev aL (x : Int64) : aV := .inr (.inl x)
abbrev aR (k i : Nat) : aV := .inr (.inr (some (some (k, i))))
abbrev aN : aV := .inr (.inr (some none))
abbrev aX : aV := .inr (.inr none)
abbrev aQ (k : Nat) (o : Option Nat) : aV := .inr (.inr (some (o.map fun i => (k, i))))
abbrev mH : Type := Nat → Nat → Nat → Int32
def sto (μ : mH) (K i s : Nat) (x : Int32) : mH := fun K' i' s' => if K' = K then (if i' = i then (if s' = s then x else μ K' i' s') else μ K' i' s') else μ K' i' s'
theorem sto_eq {μ : mH} {K i s : Nat} {x : Int32} : sto μ K i s x K i s = x := by simp [sto]
theorem sto_K {μ : mH} {K i s K' i' s' : Nat} {x : Int32} (h : K' ≠ K) : sto μ K i s x K' i' s' = μ K' i' s' := by simp [sto, h]
theorem sto_i {μ : mH} {K i s K' i' s' : Nat} {x : Int32} (h : i' ≠ i) : sto μ K i s x K' i' s' = μ K' i' s' := by simp [sto, h]
theorem sto_s {μ : mH} {K i s K' i' s' : Nat} {x : Int32} (h : s' ≠ s) : sto μ K i s x K' i' s' = μ K' i' s' := by simp [sto, h]
theorem sto_ne {μ : mH} {K i s K' i' s' : Nat} {x : Int32} (h : ¬ (K' = K ∧ i' = i ∧ s' = s)) : sto μ K i s x K' i' s' = μ K' i' s' := by
  unfold sto
  split
  · split
    · split
      · exact absurd ⟨‹_›, ‹_›, ‹_›⟩ h
      · rfl
    · rfl
  · rfl
/-! the kinds: 0 .. 12 the objects by their classes, 20 .. 39 the arrays of the class, 40 .. 62 those of the reference, 63 texts, 64 their bytes, 65 the script -/
def kd (K : Nat) : Option (Nat ⊕ (FieldType × Nat)) := match K with
  | 0 => some (.inl 0) | 1 => some (.inl 1) | 2 => some (.inl 2) | 3 => some (.inl 3) | 4 => some (.inl 4) | 5 => some (.inl 5) | 6 => some (.inl 6) | 7 => some (.inl 7) | 8 => some (.inl 8) | 9 => some (.inl 9) | 10 => some (.inl 10) | 11 => some (.inl 11) | 12 => some (.inl 12)
  | 20 => some (.inr (.int, 200)) | 21 => some (.inr (.int, 320)) | 22 => some (.inr (.int, 2560)) | 23 => some (.inr (.object RX7, 8)) | 24 => some (.inr (.int, 8)) | 25 => some (.inr (.object RX9, 10)) | 26 => some (.inr (.object RX7, 80)) | 27 => some (.inr (.int, 24)) | 28 => some (.inr (.array .int, 10)) | 29 => some (.inr (.int, 80)) | 30 => some (.inr (.int, 10)) | 31 => some (.inr (.int, 8)) | 32 => some (.inr (.int, 9)) | 33 => some (.inr (.int, 256)) | 34 => some (.inr (.int, 24)) | 35 => some (.inr (.int, 24)) | 36 => some (.inr (.int, 12)) | 37 => some (.inr (.int, 6)) | 38 => some (.inr (.int, 6)) | 39 => some (.inr (.int, 225))
  | 40 => some (.inr (.byte, 200)) | 41 => some (.inr (.int, 9)) | 42 => some (.inr (.int, 9)) | 43 => some (.inr (.int, 320)) | 44 => some (.inr (.int, 10)) | 45 => some (.inr (.int, 10)) | 46 => some (.inr (.int, 3200)) | 47 => some (.inr (.int, 48)) | 48 => some (.inr (.int, 6)) | 49 => some (.inr (.int, 6)) | 50 => some (.inr (.boolean, 2700)) | 51 => some (.inr (.int, 8)) | 52 => some (.inr (.int, 96)) | 53 => some (.inr (.int, 8)) | 54 => some (.inr (.int, 12)) | 55 => some (.inr (.int, 960)) | 56 => some (.inr (.boolean, 80)) | 57 => some (.inr (.int, 12)) | 58 => some (.inr (.int, 960)) | 59 => some (.inr (.int, 12)) | 60 => some (.inr (.int, 24)) | 61 => some (.inr (.int, 24)) | 62 => some (.inr (.int, 400))
  | _ => none
/-- how many there are of a kind -/
def kn (K : Nat) : Nat := match K with
  | 1 => 11 | 4 => 2 | 7 => 88 | 9 => 10 | 10 => 11 | 21 => 11 | 23 => 11 | 24 => 89 | 29 => 10 | 35 => 3 | 63 => 9 | 64 => 9 | _ => 1
/-- places that hold a reference that never changes -/
def rs (K s : Nat) : Bool := match K with
  | 0 => s == 2 || s == 3 || s == 4 || s == 5 || s == 6 || s == 10 || s == 11
  | 1 => s == 0
  | 2 => s == 0
  | 3 => s == 3 || s == 4 || s == 7 || s == 8 || s == 9 || s == 10 || s == 11 || s == 12
  | 5 => s == 0
  | 6 => s == 0
  | 7 => s == 6
  | 8 => s == 0 || s == 2
  | 9 => s == 0 || s == 1
  | 10 => s == 0
  | 11 => true
  | 12 => s == 0 || s == 6 || s == 7 || s == 10 || s == 12 || s == 13 || s == 14 || s == 15 || s == 17 || s == 18 || s == 19 || s == 22 || s == 23 || s == 24 || s == 25 || s == 27 || s == 28 || s == 29 || s == 30 || s == 31 || s == 32 || s == 33 || s == 35
  | 23 => true
  | 25 => true
  | 28 => true
  | _ => false
/-- and which one -/
def rf (K i s : Nat) : Nat × Nat := match K with
  | 0 => match s with | 2 => (34, 0) | 3 => (35, 0) | 4 => (35, 1) | 5 => (35, 2) | 6 => (36, 0) | 10 => (37, 0) | _ => (38, 0)
  | 1 => (23, i)
  | 2 => (20, 0)
  | 3 => match s with | 3 => (24, 88) | 4 => (26, 0) | 7 => (27, 0) | 8 => (28, 0) | 9 => (30, 0) | 10 => (31, 0) | 11 => (32, 0) | _ => (33, 0)
  | 5 => (22, 0)
  | 6 => (39, 0)
  | 7 => (24, i)
  | 8 => match s with | 0 => (25, 0) | _ => (1, 10)
  | 9 => match s with | 0 => (10, i + 1) | _ => (1, i)
  | 10 => (21, i)
  | 11 => match s with | 0 => (2, 0) | 1 => (4, 0) | 2 => (4, 1) | 3 => (10, 0) | 4 => (5, 0) | 5 => (8, 0) | 6 => (3, 0) | 7 => (0, 0) | _ => (6, 0)
  | 12 => match s with | 0 => (40, 0) | 6 => (41, 0) | 7 => (42, 0) | 10 => (43, 0) | 12 => (44, 0) | 13 => (45, 0) | 14 => (46, 0) | 15 => (47, 0) | 17 => (48, 0) | 18 => (49, 0) | 19 => (50, 0) | 22 => (51, 0) | 23 => (52, 0) | 24 => (53, 0) | 25 => (54, 0) | 27 => (55, 0) | 28 => (56, 0) | 29 => (57, 0) | 30 => (58, 0) | 31 => (59, 0) | 32 => (60, 0) | 33 => (61, 0) | _ => (62, 0)
  | 23 => (7, 8 * i + s)
  | 25 => (9, s)
  | _ => (29, s)
/-- a long out of two ints, and back -/
def mkL (h l : Int32) : Int64 := Int64.ofInt (h.toInt * 4294967296 + (l.toInt % 4294967296))
def hiL (x : Int64) : Int32 := Int32.ofInt (x.toInt / 4294967296)
def loL (x : Int64) : Int32 := Int32.ofInt x.toInt
/-- what a place of Jury.copies holds -/
def cpo (x : Int32) : Option Nat := if 1 ≤ x.toNatClampNeg ∧ x.toNatClampNeg ≤ 88 then some (x.toNatClampNeg - 1) else none
/-- places of ints -/
def isI (K s : Nat) : Bool := !(rs K s) && !(K == 26) && !(K == 12 && (s == 5 || s == 100))
def look (μ : mH) (K i s : Nat) : aV := if rs K s then aR (rf K i s).1 (rf K i s).2 else if K = 26 then aQ 7 (cpo (μ K i s)) else if K = 12 ∧ s = 5 then aL (mkL (μ K i 5) (μ K i 100)) else aI (μ K i s)
theorem look_I {μ : mH} {K i s : Nat} (h : isI K s = true) : look μ K i s = aI (μ K i s) := by
  simp only [isI, Bool.and_eq_true, Bool.not_eq_true', beq_eq_false_iff_ne, Bool.and_eq_false_imp, beq_iff_eq, Bool.or_eq_false_iff] at h
  obtain ⟨⟨h1, h2⟩, h3⟩ := h
  unfold look
  rw [if_neg (by simp [h1]), if_neg h2, if_neg (fun q => (h3 q.1).1 q.2)]
theorem look_sto {μ : mH} {K i s K' i' s' : Nat} {x : Int32} (h : isI K s = true) : look (sto μ K i s x) K' i' s' = if K' = K ∧ i' = i ∧ s' = s then aI x else look μ K' i' s' := by
  by_cases hq : K' = K ∧ i' = i ∧ s' = s
  · obtain ⟨rfl, rfl, rfl⟩ := hq
    rw [if_pos ⟨rfl, rfl, rfl⟩, look_I h, sto_eq]
  · rw [if_neg hq]
    simp only [isI, Bool.and_eq_true, Bool.not_eq_true', beq_eq_false_iff_ne, Bool.and_eq_false_imp, beq_iff_eq, Bool.or_eq_false_iff] at h
    obtain ⟨⟨h1, h2⟩, h3⟩ := h
    unfold look
    split
    · rfl
    · split
      · rename_i e
        rw [sto_K (by rw [e]; exact fun q => h2 q.symm)]
      · split
        · rename_i e
          by_cases eK : K = 12
          · rw [sto_s (by intro q; exact (h3 eK).1 q.symm), sto_s (by intro q; exact (h3 eK).2 q.symm)]
          · rw [sto_K (by rw [e.1]; exact fun q => eK q.symm), sto_K (by rw [e.1]; exact fun q => eK q.symm)]
        · rw [sto_ne hq]
theorem mkL_hl (x : Int64) : mkL (hiL x) (loL x) = x := by
  have h1 : -9223372036854775808 ≤ x.toInt := by have := Int64.minValue_le_toInt x; simpa using this
  have h2 : x.toInt < 9223372036854775808 := by have := Int64.toInt_lt x; simpa using this
  have e1 : (hiL x).toInt = x.toInt / 4294967296 := by
    unfold hiL
    rw [Int32.toInt_ofInt, show Int32.size = 4294967296 from rfl]
    apply Int.bmod_eq_of_le <;> omega
  have e2 : (loL x).toInt % 4294967296 = x.toInt % 4294967296 := by
    unfold loL
    rw [Int32.toInt_ofInt, show Int32.size = 4294967296 from rfl]
    exact Int.bmod_emod
  unfold mkL
  rw [e1, e2, show x.toInt / 4294967296 * 4294967296 + x.toInt % 4294967296 = x.toInt by omega]
  exact Int64.ofInt_toInt x
/-- the references that there are -/
def liv (v : aV) : Prop := match v with
  | .inr (.inr (some (some q))) => q.2 < kn q.1
  | _ => True
theorem liv_rf {K i s : Nat} (hi : i < kn K) (h : rs K s = true) (hs : ∀ ty n, kd K = some (.inr (ty, n)) → s < n) : (rf K i s).2 < kn (rf K i s).1 := by
  unfold rs at h
  split at h
  · simp only [rf]; split <;> decide
  · simpa [rf, kn] using hi
  · simp [rf, kn]
  · simp only [rf]; split <;> decide
  · simp [rf, kn]
  · simp [rf, kn]
  · simp only [rf, kn] at hi ⊢; omega
  · simp only [rf]; split <;> decide
  · simp only [rf]
    split
    · simp only [kn] at hi ⊢; omega
    · simp only [kn] at hi ⊢; omega
  · simpa [rf, kn] using hi
  · simp only [rf]; split <;> decide
  · simp only [rf]; split <;> decide
  · have := hs _ _ rfl
    simp only [rf, kn] at hi ⊢; omega
  · have := hs _ _ rfl
    simp only [rf, kn] at hi ⊢; omega
  · have := hs _ _ rfl
    simp only [rf, kn] at hi ⊢; omega
  · cases h
theorem liv_look {μ : mH} {K i s : Nat} (hi : i < kn K) (hs : ∀ ty n, kd K = some (.inr (ty, n)) → s < n) : liv (look μ K i s) := by
  unfold look
  split
  · exact liv_rf hi ‹_› hs
  · split
    · unfold cpo
      split
      · rename_i h
        show (μ K i s).toNatClampNeg - 1 < 88
        omega
      · exact trivial
    · split <;> exact trivial
end
section
/-! the context of a run: the launch, the classes' numbers and slots, the arrays' classes, the addresses, the heap at the law's start, the heap's size, the script -/
abbrev cx_T : Type := Launch × (Nat → ClassId) × (Nat → Nat → Nat) × (Nat → ClassId) × (Nat → Nat → Nat) × Heap × Nat × (Nat × Nat × (Nat → Int32))
abbrev g_l (Γ : cx_T) : Launch := Γ.1
abbrev g_dC (Γ : cx_T) : Nat → ClassId := Γ.2.1
abbrev g_dI (Γ : cx_T) : Nat → Nat → Nat := Γ.2.2.1
abbrev g_cA (Γ : cx_T) : Nat → ClassId := Γ.2.2.2.1
abbrev g_ad (Γ : cx_T) : Nat → Nat → Nat := Γ.2.2.2.2.1
abbrev g_H0 (Γ : cx_T) : Heap := Γ.2.2.2.2.2.1
abbrev g_sz (Γ : cx_T) : Nat := Γ.2.2.2.2.2.2.1
abbrev g_b (Γ : cx_T) : Nat := Γ.2.2.2.2.2.2.2.1
abbrev g_L (Γ : cx_T) : Nat := Γ.2.2.2.2.2.2.2.2.1
abbrev g_xs (Γ : cx_T) : Nat → Int32 := Γ.2.2.2.2.2.2.2.2.2
def g_A (Γ : cx_T) : Nat → Prop := fun q => (g_H0 Γ).size ≤ q
def cv (ad : Nat → Nat → Nat) (v : aV) : Value := match v with
  | .inl x => .int x
  | .inr (.inl x) => .long x
  | .inr (.inr (some (some q))) => .ref (ad q.1 q.2)
  | .inr (.inr _) => .null
/-- a method: its name, its code, its locals, what it answers, frames and words of room -/
abbrev mt_T : Type := MethodName × ByteArray × Nat × Option FieldType × Nat × Nat
abbrev m_y (M : mt_T) : MethodName := M.1
abbrev m_c (M : mt_T) : ByteArray := M.2.1
abbrev m_L (M : mt_T) : Nat := M.2.2.1
abbrev m_r (M : mt_T) : Option FieldType := M.2.2.2.1
abbrev m_f (M : mt_T) : Nat := M.2.2.2.2.1
abbrev m_w (M : mt_T) : Nat := M.2.2.2.2.2
def is_nl (w : Cond) : Bool := match w with
  | .methodLinkNest _ _ _ _ => true
  | _ => false
def tb_g : List Cond := lw_tbl.filter goodWord
def tb_n : List Cond := lw_tbl.filter is_nl
theorem tb_gm {w : Cond} (n : Nat) (h : lw_tbl[n]? = some w) (hg : goodWord w = true) : w ∈ tb_g := List.mem_filter.mpr ⟨List.mem_of_getElem? h, hg⟩
theorem tb_nm {w : Cond} (n : Nat) (h : lw_tbl[n]? = some w) (hg : is_nl w = true) : w ∈ tb_n := List.mem_filter.mpr ⟨List.mem_of_getElem? h, hg⟩
/-- the texts: cell gain mark data sum swap add xor crc -/
def lenS : List Nat := [4, 4, 4, 4, 3, 4, 3, 3, 3]
def bytS : List (List Int32) := [[99, 101, 108, 108], [103, 97, 105, 110], [109, 97, 114, 107], [100, 97, 116, 97], [115, 117, 109], [115, 119, 97, 112], [97, 100, 100], [120, 111, 114], [99, 114, 99]]
def st_tab : List (String × Nat × String × Nat) := [("ClickingDisk$FormatText", 55, "cell", 0), ("ClickingDisk$FormatText", 61, "gain", 1), ("ClickingDisk$FormatText", 63, "mark", 2), ("ClickingDisk$FormatText", 65, "data", 3), ("ClickingDisk$FormatText", 67, "sum", 4), ("ClickingDisk$FormatText", 69, "swap", 5), ("ClickingDisk$FormatText", 96, "add", 6), ("ClickingDisk$FormatText", 101, "xor", 7), ("ClickingDisk$FormatText", 103, "crc", 8), ("ClickingDiskModel", 146, "cell", 0), ("ClickingDiskModel", 148, "gain", 1), ("ClickingDiskModel", 150, "mark", 2), ("ClickingDiskModel", 152, "data", 3), ("ClickingDiskModel", 154, "sum", 4), ("ClickingDiskModel", 156, "swap", 5), ("ClickingDiskModel", 132, "crc", 8), ("ClickingDiskModel", 138, "add", 6), ("ClickingDiskModel", 140, "xor", 7)]
def g_ok (Γ : cx_T) : Prop := (∀ K i K' i', kd K ≠ none → kd K' ≠ none → i < kn K → i' < kn K' → g_ad Γ K i = g_ad Γ K' i' → K = K' ∧ i = i') ∧ (∀ K i, kd K ≠ none → i < kn K → (g_H0 Γ).size ≤ g_ad Γ K i)
def vm_OK (Γ : cx_T) (U : State) : Prop := g_ok Γ ∧ (∀ w ∈ tb_g, ∀ a, w.before a U = true) ∧ (∀ w ∈ tb_n, va_Nw w U) ∧ (∀ (c : Nat) (q : vw_C), vwCl[c]? = some q → u_Kn U q.1 q.2.1 q.2.2 (g_dC Γ c) (g_dI Γ c)) ∧ (∀ (K : Nat) (ty : FieldType) (n : Nat), kd K = some (.inr (ty, n)) → ArrOfT U (g_cA Γ K) ty ∧ va_RA U (g_cA Γ K) ty) ∧ vk_S 9 lenS bytS (g_ad Γ 63) (g_ad Γ 64) (g_A Γ) U (g_H0 Γ) ∧ (∀ q ∈ st_tab, vk_R q.1 q.2.1 q.2.2.1 (g_ad Γ 63 q.2.2.2) U) ∧ (va_Z "java/lang/String" "COMPACT_STRINGS" "Z" (.int 1) (g_A Γ) U (g_H0 Γ) ∧ (va_Z "jdk/internal/util/Preconditions" "SIOOBE_FORMATTER" "Ljava/util/function/BiFunction;" .null (g_A Γ) U (g_H0 Γ) ∨ va_Z "jdk/internal/util/Preconditions" "SIOOBE_FORMATTER" "Ljava/util/function/BiFunction;" (.ref (g_ad Γ 66 0)) (g_A Γ) U (g_H0 Γ))) ∧ va_X (g_b Γ) (g_L Γ) (g_xs Γ) U (g_H0 Γ) ∧ g_b Γ < (g_H0 Γ).size
theorem vm_warm {Γ : cx_T} {s U : State} (hW : s.WarmedH U.vm) (h : vm_OK Γ s) : vm_OK Γ U := by
  obtain ⟨h0, h1, h2, h3, h4, h5, h6, h7, h8, h9⟩ := h
  refine ⟨h0, fun w hw a => word_at hW (good_of_word (List.mem_filter.mp hw).2) (h1 w hw #[]), fun w hw => ?_, fun c q hq => u_Kn_moved hW.alike (h3 c q hq), fun K ty n hk => ⟨arrOfT_moved hW.alike (h4 K ty n hk).1, (h4 K ty n hk).2.moved hW.alike⟩, h5.moved hW.alike, fun q hq => (h6 q hq).warm hW, ⟨h7.1.moved hW.alike, h7.2.imp (fun q => q.moved hW.alike) (fun q => q.moved hW.alike)⟩, h8.moved hW.alike, h9⟩
  have h := h2 w hw
  have hn := (List.mem_filter.mp hw).2
  unfold is_nl at hn
  split at hn
  · exact va_Nw.warmM hW h
  · cases hn
/-- a cell of a kind -/
def rp_c (Γ : cx_T) (μ : mH) (K i : Nat) (H : Heap) : Prop := match kd K with
  | some (.inl ci) => ∃ r : vw_C, vwCl[ci]? = some r ∧ t_OB (g_ad Γ K i) (g_dC Γ ci) r.2.2 (g_dI Γ ci) H (fun s => cv (g_ad Γ) (look μ K i s))
  | some (.inr (_, n)) => H[g_ad Γ K i]? = some (arrV (g_cA Γ K) n (fun j => cv (g_ad Γ) (look μ K i j)))
  | none => True
def rp_H (Γ : cx_T) (μ : mH) (H : Heap) : Prop := H.size = g_sz Γ ∧ ∀ K i, i < kn K → rp_c Γ μ K i H
theorem rp_obj {Γ : cx_T} {μ : mH} {H : Heap} (h : rp_H Γ μ H) {K i ci : Nat} (hi : i < kn K) (hk : kd K = some (.inl ci)) : ∃ r : vw_C, vwCl[ci]? = some r ∧ t_OB (g_ad Γ K i) (g_dC Γ ci) r.2.2 (g_dI Γ ci) H (fun s => cv (g_ad Γ) (look μ K i s)) := by
  have := h.2 K i hi
  unfold rp_c at this
  rw [hk] at this
  exact this
theorem rp_arr {Γ : cx_T} {μ : mH} {H : Heap} (h : rp_H Γ μ H) {K i n : Nat} {ty : FieldType} (hi : i < kn K) (hk : kd K = some (.inr (ty, n))) : H[g_ad Γ K i]? = some (arrV (g_cA Γ K) n (fun j => cv (g_ad Γ) (look μ K i j))) := by
  have := h.2 K i hi
  unfold rp_c at this
  rw [hk] at this
  exact this
/-- one cell has changed -/
theorem rp_set {Γ : cx_T} {μ μ' : mH} {H H' : Heap} (hG : g_ok Γ) (h : rp_H Γ μ H) {K i : Nat} (hi : i < kn K) (hk : kd K ≠ none) (hz : H'.size = H.size) (oq : ∀ q : Nat, q ≠ g_ad Γ K i → H'[q]? = H[q]?) (hc : rp_c Γ μ' K i H') (hl : ∀ K' i' s', ¬ (K' = K ∧ i' = i) → look μ' K' i' s' = look μ K' i' s') : rp_H Γ μ' H' := by
  refine ⟨hz.trans h.1, fun K' i' hi' => ?_⟩
  by_cases he : K' = K ∧ i' = i
  · obtain ⟨rfl, rfl⟩ := he
    exact hc
  · have h0 := h.2 K' i' hi'
    unfold rp_c at h0 ⊢
    have e : ∀ s, look μ' K' i' s = look μ K' i' s := fun s => hl K' i' s he
    cases hk' : kd K' with
    | none => trivial
    | some y =>
      have hne : g_ad Γ K' i' ≠ g_ad Γ K i := fun q => he (hG.1 K' i' K i (by rw [hk']; simp) hk hi' hi q)
      rw [hk'] at h0
      cases y with
      | inl ci =>
        obtain ⟨r, h1, h2⟩ := h0
        refine ⟨r, h1, ?_⟩
        simp only [e]
        exact h2.kept (oq _ hne)
      | inr y =>
        show H'[g_ad Γ K' i']? = _
        rw [oq _ hne]
        simp only [e]
        exact h0
/-- the machine's own things in a method's body -/
abbrev mx_T : Type := Program × Env × Room × State × MethodId × Array Value × List Frame × Method × Code × Nat × Nat × (State → Prop)
def in_B (Γ : cx_T) (M : mt_T) (X : mx_T) : Prop := match X with
  | (p, _, R, s, m, _, _, meth, c, cells, slots, _) => p.tables.exec = Jvm.exec ∧ c.code = m_c M ∧ c.maxLocals = m_L M ∧ s.vm.findClass (m_y M).cls = some m.cls ∧ vm_OK Γ s ∧ m_f M ≤ R.frames ∧ m_w M ≤ R.locals ∧ cells ≤ R.cells ∧ slots ≤ R.slots ∧ va_S (g_A Γ) (g_H0 Γ) s.heap [] ∧ s.heap.size ≤ g_sz Γ ∧ meth.sig.returnType = m_r M
def wx (Γ : cx_T) (X : mx_T) (H : Heap) (locs : List Loc) (pc : Nat) (arr : Array Slot) (st : List Value) : Prop := match X with
  | (p, e, R, s, m, args, below, meth, c, cells, slots, QQ) => W p (g_l Γ) e R s m args below meth c H locs cells slots QQ (F0 m pc arr st)
/-- what a return owes -/
def rt_W (Γ : cx_T) (M : mt_T) (X : mx_T) (r : aV) (μ : mH) : Prop := ∀ (H : Heap) (locs : List Loc) (pc : Nat) (arr : Array Slot), rp_H Γ μ H → va_S (g_A Γ) (g_H0 Γ) H locs →
  (decode (m_c M) pc = .ok (.ireturn, 1) → ∀ (x : Int32) (ty : FieldType), r = aI x → m_r M = some ty → narrow ty (.int x) = .int x → wx Γ X H locs pc arr [.int x]) ∧
  (decode (m_c M) pc = .ok (.lreturn, 1) → ∀ (x : Int64), r = aL x → m_r M = some .long → wx Γ X H locs pc arr [.long x]) ∧
  (decode (m_c M) pc = .ok (.areturn, 1) → ∀ (o : Option (Nat × Nat)), r = .inr (.inr (some o)) → m_r M = some (.array .int) → wx Γ X H locs pc arr [cv (g_ad Γ) r]) ∧
  (decode (m_c M) pc = .ok (.return_, 1) → r = aX → m_r M = none → wx Γ X H locs pc arr [])
def rt_ok (Γ : cx_T) (M : mt_T) (X : mx_T) (Q : aV → mH → Prop) : Prop := ∀ r μ, liv r → Q r μ → rt_W Γ M X r μ
/-- the locals that are known -/
def lo_l (ad : Nat → Nat → Nat) (ls : List aV) : List (Nat × Value) := (List.range ls.length).filterMap fun i => (ls[i]?).bind fun v => if v = aX then none else some (i, cv ad v)
/-- THE JUDGEMENT: from this place of the method, with these locals, this stack and this heap, it comes to an end with Q -/
def aw (Γ : cx_T) (M : mt_T) (pc : Nat) (ls st : List aV) (μ : mH) (Q : aV → mH → Prop) : Prop := ∀ X : mx_T, in_B Γ M X → rt_ok Γ M X Q → ∀ (H : Heap) (locs : List Loc) (arr : Array Slot), rp_H Γ μ H → va_S (g_A Γ) (g_H0 Γ) H locs → lv_has arr (m_L M) (lo_l (g_ad Γ) ls) → (∀ v ∈ ls, liv v) → (∀ v ∈ st, liv v) → wx Γ X H locs pc arr (st.map (cv (g_ad Γ)))
/-- and of a whole call -/
def cw_P (Γ : cx_T) (vs : List aV) (μ : mH) : Array Value → State → Prop := fun v U => v = (vs.map (cv (g_ad Γ))).toArray ∧ (∀ v ∈ vs, liv v) ∧ rp_H Γ μ U.heap ∧ va_S (g_A Γ) (g_H0 Γ) U.heap [] ∧ vm_OK Γ U
def cw_o (Γ : cx_T) (M : mt_T) (r : aV) : Outcome := match m_r M with
  | none => .returned none
  | some _ => .returned (some (cv (g_ad Γ) r))
def cw_Q (Γ : cx_T) (M : mt_T) (Q : aV → mH → Prop) : Array Value → State → Outcome → State → Prop := fun _ _ oc t => ∃ r μ, oc = cw_o Γ M r ∧ liv r ∧ rp_H Γ μ t.heap ∧ va_S (g_A Γ) (g_H0 Γ) t.heap [] ∧ Q r μ
def cw (Γ : cx_T) (M : mt_T) (vs : List aV) (μ : mH) (Q : aV → mH → Prop) : Prop := Met (g_l Γ) (m_y M) [.code (m_y M) (m_c M) (m_L M) (m_r M)] { frames := m_f M, cells := 0, slots := 0, locals := m_w M } (cw_P Γ vs μ) (cw_Q Γ M Q) 0 0 (g_A Γ)
theorem cw_mono {Γ : cx_T} {M : mt_T} {vs : List aV} {μ : mH} {Q Q' : aV → mH → Prop} (h : cw Γ M vs μ Q) (hQ : ∀ r μ', Q r μ' → Q' r μ') : cw Γ M vs μ Q' := by
  intro p e ha hc hk s m args below hf hap hP hT
  obtain ⟨k, o, h1, h2, h3, ⟨r, μ', q1, q2, q3, q4, q5⟩, h5⟩ := h p e ha hc hk s m args below hf hap hP hT
  exact ⟨k, o, h1, h2, h3, ⟨r, μ', q1, q2, q3, q4, hQ r μ' q5⟩, h5⟩
end
section
theorem lo_mem {ad : Nat → Nat → Nat} {ls : List aV} {q : Nat × Value} : q ∈ lo_l ad ls ↔ ∃ v, ls[q.1]? = some v ∧ v ≠ aX ∧ q.2 = cv ad v := by
  unfold lo_l
  rw [List.mem_filterMap]
  constructor
  · rintro ⟨i, hi, h⟩
    cases hv : ls[i]? with
    | none => rw [hv] at h; cases h
    | some v =>
      rw [hv] at h
      simp only [Option.bind_some] at h
      split at h
      · cases h
      · cases h
        exact ⟨v, hv, ‹_›, rfl⟩
  · rintro ⟨v, h1, h2, h3⟩
    refine ⟨q.1, List.mem_range.mpr (List.getElem?_eq_some_iff.mp h1).1, ?_⟩
    rw [h1]
    simp only [Option.bind_some, if_neg h2]
    rw [← h3]
theorem lo_at {ad : Nat → Nat → Nat} {ls : List aV} {arr : Array Slot} {n : Nat} (h : lv_has arr n (lo_l ad ls)) {i : Nat} {v : aV} (hl : ls[i]? = some v) (hv : v ≠ aX) : arr[i]? = some (.val (cv ad v)) := h.2.2 (i, cv ad v) (lo_mem.mpr ⟨v, hl, hv, rfl⟩)
/-- no long stands just ahead of i -/
def lo_nl (ls : List aV) (i : Nat) : Bool := match i with
  | 0 => true
  | j + 1 => match ls[j]? with
    | some (.inr (.inl _)) => false
    | _ => true
theorem cv_cat {ad : Nat → Nat → Nat} {v : aV} (h : (cv ad v).category = 2) : ∃ x, v = .inr (.inl x) := by
  unfold cv at h
  split at h
  · cases h
  · exact ⟨_, rfl⟩
  · cases h
  · cases h
theorem lo_set {ad : Nat → Nat → Nat} {ls ls' : List aV} {arr : Array Slot} {n i : Nat} {v : aV} (h : lv_has arr n ((i, cv ad v) :: (lo_l ad ls).filter (fun q => !(q.1 == i) && !(q.1 + 1 == i && q.2.category == 2)))) (hn : lo_nl ls i = true) (he : ls.set i v = ls') : lv_has arr n (lo_l ad ls') := by
  subst he
  refine ⟨h.1, h.2.1, fun q hq => ?_⟩
  obtain ⟨w, h1, h2, h3⟩ := lo_mem.mp hq
  obtain ⟨k, z⟩ := q
  dsimp only at h1 h3 ⊢
  by_cases hk : k = i
  · subst hk
    rw [List.getElem?_set_self' ] at h1
    cases hv : ls[k]? with
    | none => rw [hv] at h1; cases h1
    | some y =>
      rw [hv] at h1
      cases h1
      rw [h3]
      exact h.2.2 (k, cv ad v) List.mem_cons_self
  · rw [List.getElem?_set_ne (fun e => hk e.symm)] at h1
    refine h.2.2 (k, z) (List.mem_cons_of_mem _ (List.mem_filter.mpr ⟨lo_mem.mpr ⟨w, h1, h2, h3⟩, ?_⟩))
    simp only [Bool.and_eq_true, Bool.not_eq_true', beq_eq_false_iff_ne, ne_eq, Bool.and_eq_false_imp, beq_iff_eq]
    refine ⟨hk, fun e hc => ?_⟩
    rw [h3] at hc
    obtain ⟨x, rfl⟩ := cv_cat hc
    subst e
    simp only [lo_nl, h1] at hn
    cases hn
theorem lo_setL {ad : Nat → Nat → Nat} {ls ls' : List aV} {arr : Array Slot} {n i : Nat} {x : Int64} (h : lv_has arr n ((i, .long x) :: (lo_l ad ls).filter (fun q => !(q.1 == i) && (!(q.1 == i + 1) && !(q.1 + 1 == i && q.2.category == 2))))) (hn : lo_nl ls i = true) (he : (ls.set i (aL x)).set (i + 1) aX = ls') : lv_has arr n (lo_l ad ls') := by
  subst he
  refine ⟨h.1, h.2.1, fun q hq => ?_⟩
  obtain ⟨w, h1, h2, h3⟩ := lo_mem.mp hq
  obtain ⟨k, z⟩ := q
  dsimp only at h1 h3 ⊢
  by_cases hk1 : k = i + 1
  · subst hk1
    rw [List.getElem?_set_self'] at h1
    cases hv : (ls.set i (aL x))[i + 1]? with
    | none => rw [hv] at h1; cases h1
    | some y => rw [hv] at h1; cases h1; exact absurd rfl h2
  rw [List.getElem?_set_ne (fun e => hk1 e.symm)] at h1
  by_cases hk : k = i
  · subst hk
    rw [List.getElem?_set_self' ] at h1
    cases hv : ls[k]? with
    | none => rw [hv] at h1; cases h1
    | some y =>
      rw [hv] at h1
      cases h1
      rw [h3]
      exact h.2.2 (k, .long x) List.mem_cons_self
  · rw [List.getElem?_set_ne (fun e => hk e.symm)] at h1
    refine h.2.2 (k, z) (List.mem_cons_of_mem _ (List.mem_filter.mpr ⟨lo_mem.mpr ⟨w, h1, h2, h3⟩, ?_⟩))
    simp only [Bool.and_eq_true, Bool.not_eq_true', beq_eq_false_iff_ne, ne_eq, Bool.and_eq_false_imp, beq_iff_eq]
    refine ⟨hk, hk1, fun e hc => ?_⟩
    rw [h3] at hc
    obtain ⟨x, rfl⟩ := cv_cat hc
    subst e
    simp only [lo_nl, h1] at hn
    cases hn
theorem liv_set {ls ls' : List aV} {i : Nat} {v : aV} (h : ∀ w ∈ ls, liv w) (hv : liv v) (he : ls.set i v = ls') : ∀ w ∈ ls', liv w := by
  subst he
  intro w hw
  rcases List.mem_or_eq_of_mem_set hw with h1 | h1
  · exact h w h1
  · rw [h1]; exact hv
section AW
variable {Γ : cx_T} {M : mt_T} {pc : Nat} {ls ls' st : List aV} {μ : mH} {Q : aV → mH → Prop}
/-- an instruction that touches the stack alone -/
theorem aw_s {pc' : Nat} {st st' : List aV} (k : aw Γ M pc' ls st' μ Q) (hst : (∀ v ∈ ls, liv v) → (∀ v ∈ st, liv v) → ∀ v ∈ st', liv v)
    (h : ∀ {p : Program} {l : Launch} {e : Env} {R : Room} {s : State} {m : MethodId} {args : Array Value} {below : List Frame} {meth : Method} {c : Code} {H : Heap} {locs : List Loc} {cells slots : Nat} {QQ : State → Prop} {arr : Array Slot}, p.tables.exec = Jvm.exec → c.code = m_c M → lv_has arr (m_L M) (lo_l (g_ad Γ) ls) → W p l e R s m args below meth c H locs cells slots QQ (F0 m pc' arr (st'.map (cv (g_ad Γ)))) → W p l e R s m args below meth c H locs cells slots QQ (F0 m pc arr (st.map (cv (g_ad Γ))))) : aw Γ M pc ls st μ Q := by
  intro X hB hR H locs arr hH hS hL hv hw
  have hk := k X hB hR H locs arr hH hS hL hv (hst hv hw)
  obtain ⟨p, e, R, s, m, args, below, meth, c, cells, slots, QQ⟩ := X
  obtain ⟨hx, hb, -⟩ := hB
  exact h hx hb hL hk
/-- fewer locals are known -/
theorem aw_weak (h : ∀ (i : Nat) (v : aV), ls'[i]? = some v → v ≠ aX → ls[i]? = some v) (k : aw Γ M pc ls' st μ Q) : aw Γ M pc ls st μ Q := by
  intro X hB hR H locs arr hH hS hL hv hw
  refine k X hB hR H locs arr hH hS ⟨hL.1, hL.2.1, fun q hq => ?_⟩ (fun w hw => ?_) hw
  · obtain ⟨v, h1, h2, h3⟩ := lo_mem.mp hq
    exact hL.2.2 q (lo_mem.mpr ⟨v, h _ _ h1 h2, h2, h3⟩)
  · by_cases e : w = aX
    · rw [e]; exact trivial
    · obtain ⟨i, hi⟩ := List.getElem?_of_mem hw
      exact hv w (List.mem_of_getElem? (h i w hi e))
theorem aw_mono {Q' : aV → mH → Prop} (h : aw Γ M pc ls st μ Q) (hQ : ∀ r μ', Q r μ' → Q' r μ') : aw Γ M pc ls st μ Q' := fun X hB hR => h X hB (fun r μ' hl hq => hR r μ' hl (hQ r μ' hq))
/-- an instruction that stores a local -/
theorem aw_l {pc' i : Nat} {v : aV} (k : aw Γ M pc' ls' st μ Q) (hn : lo_nl ls i = true) (he : ls.set i v = ls') {st0 : List aV} (hv1 : (∀ w ∈ st0, liv w) → (∀ v ∈ ls, liv v) → liv v) (hst0 : (∀ w ∈ st0, liv w) → ∀ w ∈ st, liv w)
    (h : ∀ {p : Program} {l : Launch} {e : Env} {R : Room} {s : State} {m : MethodId} {args : Array Value} {below : List Frame} {meth : Method} {c : Code} {H : Heap} {locs : List Loc} {cells slots : Nat} {QQ : State → Prop} {arr : Array Slot}, p.tables.exec = Jvm.exec → c.code = m_c M → lv_has arr (m_L M) (lo_l (g_ad Γ) ls) → (∀ arr' : Array Slot, lv_has arr' (m_L M) ((i, cv (g_ad Γ) v) :: (lo_l (g_ad Γ) ls).filter (fun q => !(q.1 == i) && !(q.1 + 1 == i && q.2.category == 2))) → W p l e R s m args below meth c H locs cells slots QQ (F0 m pc' arr' (st.map (cv (g_ad Γ))))) → W p l e R s m args below meth c H locs cells slots QQ (F0 m pc arr (st0.map (cv (g_ad Γ))))) : aw Γ M pc ls st0 μ Q := by
  intro X hB hR H locs arr hH hS hL hv hw
  have hk := fun arr' (hL' : lv_has arr' (m_L M) (lo_l (g_ad Γ) ls')) => k X hB hR H locs arr' hH hS hL' (liv_set hv (hv1 hw hv) he) (hst0 hw)
  obtain ⟨p, e, R, s, m, args, below, meth, c, cells, slots, QQ⟩ := X
  obtain ⟨hx, hb, -⟩ := hB
  exact h hx hb hL (fun arr' h' => hk arr' (lo_set h' hn he))
theorem aw_iconst {n : Int} {v : Int32} (hd : decode (m_c M) pc = .ok (.iconst n, 1)) (hv : Int32.ofInt n = v) (k : aw Γ M (pc + 1) ls (aI v :: st) μ Q) : aw Γ M pc ls st μ Q := aw_s k (fun _ h => List.forall_mem_cons.mpr ⟨trivial, h⟩) (fun hx hb hL kk => lv_iconst hx hb hd hv kk)
theorem aw_bipush {n : Int} {v : Int32} (hd : decode (m_c M) pc = .ok (.bipush n, 2)) (hv : (Int8.ofInt n).toInt32 = v) (k : aw Γ M (pc + 2) ls (aI v :: st) μ Q) : aw Γ M pc ls st μ Q := aw_s k (fun _ h => List.forall_mem_cons.mpr ⟨trivial, h⟩) (fun hx hb hL kk => lv_bipush hx hb hd hv kk)
theorem aw_sipush {n : Int} {v : Int32} (hd : decode (m_c M) pc = .ok (.sipush n, 3)) (hv : (Int16.ofInt n).toInt32 = v) (k : aw Γ M (pc + 3) ls (aI v :: st) μ Q) : aw Γ M pc ls st μ Q := aw_s k (fun _ h => List.forall_mem_cons.mpr ⟨trivial, h⟩) (fun hx hb hL kk => lv_sipush hx hb hd hv kk)
theorem aw_lconst {n : Fin 2} {v : Int64} (hd : decode (m_c M) pc = .ok (.lconst n, 1)) (hv : Int64.ofNat (n : Nat) = v) (k : aw Γ M (pc + 1) ls (aL v :: st) μ Q) : aw Γ M pc ls st μ Q := aw_s k (fun _ h => List.forall_mem_cons.mpr ⟨trivial, h⟩) (fun hx hb hL kk => lv_lconst hx hb hd hv kk)
theorem aw_null (hd : decode (m_c M) pc = .ok (.aconst_null, 1)) (k : aw Γ M (pc + 1) ls (aN :: st) μ Q) : aw Γ M pc ls st μ Q := aw_s k (fun _ h => List.forall_mem_cons.mpr ⟨trivial, h⟩) (fun hx hb hL kk => lv_null hx hb hd kk)
theorem aw_iload_n {n : Fin 4} {x : Int32} (hd : decode (m_c M) pc = .ok (.iload_n n, 1)) (hl : ls[(n : Nat)]? = some (aI x)) (k : aw Γ M (pc + 1) ls (aI x :: st) μ Q) : aw Γ M pc ls st μ Q := aw_s k (fun _ h => List.forall_mem_cons.mpr ⟨trivial, h⟩) (fun hx hb hL kk => lv_iload_n hx hb hd rfl (lo_at hL hl (by simp)) kk)
theorem aw_iload {n : Nat} {x : Int32} (hd : decode (m_c M) pc = .ok (.iload n, 2)) (hl : ls[n]? = some (aI x)) (k : aw Γ M (pc + 2) ls (aI x :: st) μ Q) : aw Γ M pc ls st μ Q := aw_s k (fun _ h => List.forall_mem_cons.mpr ⟨trivial, h⟩) (fun hx hb hL kk => lv_iload hx hb hd (lo_at hL hl (by simp)) kk)
theorem aw_lload_n {n : Fin 4} {x : Int64} (hd : decode (m_c M) pc = .ok (.lload_n n, 1)) (hl : ls[(n : Nat)]? = some (aL x)) (k : aw Γ M (pc + 1) ls (aL x :: st) μ Q) : aw Γ M pc ls st μ Q := aw_s k (fun _ h => List.forall_mem_cons.mpr ⟨trivial, h⟩) (fun hx hb hL kk => lv_lload_n hx hb hd rfl (lo_at hL hl (by simp)) kk)
theorem aw_aload_n {n : Fin 4} {K i : Nat} (hd : decode (m_c M) pc = .ok (.aload_n n, 1)) (hl : ls[(n : Nat)]? = some (aR K i)) (k : aw Γ M (pc + 1) ls (aR K i :: st) μ Q) : aw Γ M pc ls st μ Q := aw_s k (fun h0 h => List.forall_mem_cons.mpr ⟨h0 _ (List.mem_of_getElem? hl), h⟩) (fun hx hb hL kk => lv_aload_n hx hb hd rfl (lo_at hL hl (by simp)) kk)
theorem aw_aload_nQ {n : Fin 4} {K : Nat} {o : Option Nat} (hd : decode (m_c M) pc = .ok (.aload_n n, 1)) (hl : ls[(n : Nat)]? = some (aQ K o)) (k : aw Γ M (pc + 1) ls (aQ K o :: st) μ Q) : aw Γ M pc ls st μ Q := by
  cases o with
  | none => exact aw_s k (fun _ h => List.forall_mem_cons.mpr ⟨trivial, h⟩) (fun hx hb hL kk => lv_aload_nN hx hb hd rfl (lo_at hL hl (by simp)) kk)
  | some i => exact aw_aload_n hd hl k
theorem aw_aload {n : Nat} {K i : Nat} (hd : decode (m_c M) pc = .ok (.aload n, 2)) (hl : ls[n]? = some (aR K i)) (k : aw Γ M (pc + 2) ls (aR K i :: st) μ Q) : aw Γ M pc ls st μ Q := aw_s k (fun h0 h => List.forall_mem_cons.mpr ⟨h0 _ (List.mem_of_getElem? hl), h⟩) (fun hx hb hL kk => lv_aload hx hb hd (lo_at hL hl (by simp)) kk)
theorem aw_aloadQ {n : Nat} {K : Nat} {o : Option Nat} (hd : decode (m_c M) pc = .ok (.aload n, 2)) (hl : ls[n]? = some (aQ K o)) (k : aw Γ M (pc + 2) ls (aQ K o :: st) μ Q) : aw Γ M pc ls st μ Q := by
  cases o with
  | none => exact aw_s k (fun _ h => List.forall_mem_cons.mpr ⟨trivial, h⟩) (fun hx hb hL kk => lv_aloadN hx hb hd (lo_at hL hl (by simp)) kk)
  | some i => exact aw_aload hd hl k
theorem aw_iadd {x y : Int32} (hd : decode (m_c M) pc = .ok (.iadd, 1)) (k : aw Γ M (pc + 1) ls (aI (x + y) :: st) μ Q) : aw Γ M pc ls (aI y :: aI x :: st) μ Q := aw_s k (fun _ h => List.forall_mem_cons.mpr ⟨trivial, (List.forall_mem_cons.mp (List.forall_mem_cons.mp h).2).2⟩) (fun hx hb hL kk => lv_iadd hx hb hd kk)
theorem aw_isub {x y : Int32} (hd : decode (m_c M) pc = .ok (.isub, 1)) (k : aw Γ M (pc + 1) ls (aI (x - y) :: st) μ Q) : aw Γ M pc ls (aI y :: aI x :: st) μ Q := aw_s k (fun _ h => List.forall_mem_cons.mpr ⟨trivial, (List.forall_mem_cons.mp (List.forall_mem_cons.mp h).2).2⟩) (fun hx hb hL kk => lv_isub hx hb hd kk)
theorem aw_imul {x y : Int32} (hd : decode (m_c M) pc = .ok (.imul, 1)) (k : aw Γ M (pc + 1) ls (aI (x * y) :: st) μ Q) : aw Γ M pc ls (aI y :: aI x :: st) μ Q := aw_s k (fun _ h => List.forall_mem_cons.mpr ⟨trivial, (List.forall_mem_cons.mp (List.forall_mem_cons.mp h).2).2⟩) (fun hx hb hL kk => lv_imul hx hb hd kk)
theorem aw_iand {x y : Int32} (hd : decode (m_c M) pc = .ok (.iand, 1)) (k : aw Γ M (pc + 1) ls (aI (x &&& y) :: st) μ Q) : aw Γ M pc ls (aI y :: aI x :: st) μ Q := aw_s k (fun _ h => List.forall_mem_cons.mpr ⟨trivial, (List.forall_mem_cons.mp (List.forall_mem_cons.mp h).2).2⟩) (fun hx hb hL kk => lv_iand hx hb hd kk)
theorem aw_ior {x y : Int32} (hd : decode (m_c M) pc = .ok (.ior, 1)) (k : aw Γ M (pc + 1) ls (aI (x ||| y) :: st) μ Q) : aw Γ M pc ls (aI y :: aI x :: st) μ Q := aw_s k (fun _ h => List.forall_mem_cons.mpr ⟨trivial, (List.forall_mem_cons.mp (List.forall_mem_cons.mp h).2).2⟩) (fun hx hb hL kk => lv_ior hx hb hd kk)
theorem aw_ixor {x y : Int32} (hd : decode (m_c M) pc = .ok (.ixor, 1)) (k : aw Γ M (pc + 1) ls (aI (x ^^^ y) :: st) μ Q) : aw Γ M pc ls (aI y :: aI x :: st) μ Q := aw_s k (fun _ h => List.forall_mem_cons.mpr ⟨trivial, (List.forall_mem_cons.mp (List.forall_mem_cons.mp h).2).2⟩) (fun hx hb hL kk => lv_ixor hx hb hd kk)
theorem aw_ishl {x y : Int32} (hd : decode (m_c M) pc = .ok (.ishl, 1)) (k : aw Γ M (pc + 1) ls (aI (x <<< (y &&& 31)) :: st) μ Q) : aw Γ M pc ls (aI y :: aI x :: st) μ Q := aw_s k (fun _ h => List.forall_mem_cons.mpr ⟨trivial, (List.forall_mem_cons.mp (List.forall_mem_cons.mp h).2).2⟩) (fun hx hb hL kk => lv_ishl hx hb hd kk)
theorem aw_ishr {x y : Int32} (hd : decode (m_c M) pc = .ok (.ishr, 1)) (k : aw Γ M (pc + 1) ls (aI (x >>> (y &&& 31)) :: st) μ Q) : aw Γ M pc ls (aI y :: aI x :: st) μ Q := aw_s k (fun _ h => List.forall_mem_cons.mpr ⟨trivial, (List.forall_mem_cons.mp (List.forall_mem_cons.mp h).2).2⟩) (fun hx hb hL kk => lv_ishr hx hb hd kk)
theorem aw_iushr {x y : Int32} (hd : decode (m_c M) pc = .ok (.iushr, 1)) (k : aw Γ M (pc + 1) ls (aI ((x.toUInt32 >>> (y.toUInt32 &&& Int32.toUInt32 31)).toInt32) :: st) μ Q) : aw Γ M pc ls (aI y :: aI x :: st) μ Q := aw_s k (fun _ h => List.forall_mem_cons.mpr ⟨trivial, (List.forall_mem_cons.mp (List.forall_mem_cons.mp h).2).2⟩) (fun hx hb hL kk => lv_iushr hx hb hd rfl kk)
theorem aw_idiv {x y : Int32} (hd : decode (m_c M) pc = .ok (.idiv, 1)) (hne : ¬ y = 0) (k : aw Γ M (pc + 1) ls (aI (x / y) :: st) μ Q) : aw Γ M pc ls (aI y :: aI x :: st) μ Q := aw_s k (fun _ h => List.forall_mem_cons.mpr ⟨trivial, (List.forall_mem_cons.mp (List.forall_mem_cons.mp h).2).2⟩) (fun hx hb hL kk => lv_idiv hx hb hd hne kk)
theorem aw_irem {x y : Int32} (hd : decode (m_c M) pc = .ok (.irem, 1)) (hne : ¬ y = 0) (k : aw Γ M (pc + 1) ls (aI (x - x / y * y) :: st) μ Q) : aw Γ M pc ls (aI y :: aI x :: st) μ Q := aw_s k (fun _ h => List.forall_mem_cons.mpr ⟨trivial, (List.forall_mem_cons.mp (List.forall_mem_cons.mp h).2).2⟩) (fun hx hb hL kk => lv_irem hx hb hd hne kk)
theorem aw_ladd {x y : Int64} (hd : decode (m_c M) pc = .ok (.ladd, 1)) (k : aw Γ M (pc + 1) ls (aL (x + y) :: st) μ Q) : aw Γ M pc ls (aL y :: aL x :: st) μ Q := aw_s k (fun _ h => List.forall_mem_cons.mpr ⟨trivial, (List.forall_mem_cons.mp (List.forall_mem_cons.mp h).2).2⟩) (fun hx hb hL kk => lv_ladd hx hb hd kk)
theorem aw_lsub {x y : Int64} (hd : decode (m_c M) pc = .ok (.lsub, 1)) (k : aw Γ M (pc + 1) ls (aL (x - y) :: st) μ Q) : aw Γ M pc ls (aL y :: aL x :: st) μ Q := aw_s k (fun _ h => List.forall_mem_cons.mpr ⟨trivial, (List.forall_mem_cons.mp (List.forall_mem_cons.mp h).2).2⟩) (fun hx hb hL kk => lv_lsub hx hb hd kk)
theorem aw_lmul {x y : Int64} (hd : decode (m_c M) pc = .ok (.lmul, 1)) (k : aw Γ M (pc + 1) ls (aL (x * y) :: st) μ Q) : aw Γ M pc ls (aL y :: aL x :: st) μ Q := aw_s k (fun _ h => List.forall_mem_cons.mpr ⟨trivial, (List.forall_mem_cons.mp (List.forall_mem_cons.mp h).2).2⟩) (fun hx hb hL kk => lv_lmul hx hb hd kk)
theorem aw_lor {x y : Int64} (hd : decode (m_c M) pc = .ok (.lor, 1)) (k : aw Γ M (pc + 1) ls (aL (x ||| y) :: st) μ Q) : aw Γ M pc ls (aL y :: aL x :: st) μ Q := aw_s k (fun _ h => List.forall_mem_cons.mpr ⟨trivial, (List.forall_mem_cons.mp (List.forall_mem_cons.mp h).2).2⟩) (fun hx hb hL kk => lv_lor hx hb hd kk)
theorem aw_lshl {x : Int64} {y : Int32} (hd : decode (m_c M) pc = .ok (.lshl, 1)) (k : aw Γ M (pc + 1) ls (aL (x <<< (y.toInt64 &&& 63)) :: st) μ Q) : aw Γ M pc ls (aI y :: aL x :: st) μ Q := aw_s k (fun _ h => List.forall_mem_cons.mpr ⟨trivial, (List.forall_mem_cons.mp (List.forall_mem_cons.mp h).2).2⟩) (fun hx hb hL kk => lv_lshl hx hb hd rfl kk)
theorem aw_lcmp {x y : Int64} (hd : decode (m_c M) pc = .ok (.lcmp, 1)) (k : aw Γ M (pc + 1) ls (aI (lg_cmp x y) :: st) μ Q) : aw Γ M pc ls (aL y :: aL x :: st) μ Q := aw_s k (fun _ h => List.forall_mem_cons.mpr ⟨trivial, (List.forall_mem_cons.mp (List.forall_mem_cons.mp h).2).2⟩) (fun hx hb hL kk => W.lcmp hx hb hd kk)
theorem aw_i2l {x : Int32} (hd : decode (m_c M) pc = .ok (.i2l, 1)) (k : aw Γ M (pc + 1) ls (aL x.toInt64 :: st) μ Q) : aw Γ M pc ls (aI x :: st) μ Q := aw_s k (fun _ h => List.forall_mem_cons.mpr ⟨trivial, (List.forall_mem_cons.mp h).2⟩) (fun hx hb hL kk => lv_i2l hx hb hd rfl kk)
theorem aw_l2i {x : Int64} (hd : decode (m_c M) pc = .ok (.l2i, 1)) (k : aw Γ M (pc + 1) ls (aI x.toInt32 :: st) μ Q) : aw Γ M pc ls (aL x :: st) μ Q := aw_s k (fun _ h => List.forall_mem_cons.mpr ⟨trivial, (List.forall_mem_cons.mp h).2⟩) (fun hx hb hL kk => lv_l2i hx hb hd rfl kk)
theorem aw_i2b {x : Int32} (hd : decode (m_c M) pc = .ok (.i2b, 1)) (k : aw Γ M (pc + 1) ls (aI x.toInt8.toInt32 :: st) μ Q) : aw Γ M pc ls (aI x :: st) μ Q := aw_s k (fun _ h => List.forall_mem_cons.mpr ⟨trivial, (List.forall_mem_cons.mp h).2⟩) (fun hx hb hL kk => lv_i2b hx hb hd rfl kk)
theorem aw_i2c {x : Int32} (hd : decode (m_c M) pc = .ok (.i2c, 1)) (k : aw Γ M (pc + 1) ls (aI (x.toUInt32 % 65536).toInt32 :: st) μ Q) : aw Γ M pc ls (aI x :: st) μ Q := aw_s k (fun _ h => List.forall_mem_cons.mpr ⟨trivial, (List.forall_mem_cons.mp h).2⟩) (fun hx hb hL kk => lv_i2c hx hb hd rfl kk)
theorem aw_dup {v : aV} (hd : decode (m_c M) pc = .ok (.dup, 1)) (h1 : ∀ ad, (cv ad v).category = 1) (k : aw Γ M (pc + 1) ls (v :: v :: st) μ Q) : aw Γ M pc ls (v :: st) μ Q := aw_s k (fun _ h => List.forall_mem_cons.mpr ⟨(List.forall_mem_cons.mp h).1, h⟩) (fun hx hb hL kk => lv_dup hx hb hd (h1 _) kk)
theorem aw_dup2 {v w : aV} (hd : decode (m_c M) pc = .ok (.dup2, 1)) (h1 : ∀ ad, (cv ad v).category = 1) (h2 : ∀ ad, (cv ad w).category = 1) (k : aw Γ M (pc + 1) ls (v :: w :: v :: w :: st) μ Q) : aw Γ M pc ls (v :: w :: st) μ Q := aw_s k (fun _ h => List.forall_mem_cons.mpr ⟨(List.forall_mem_cons.mp h).1, List.forall_mem_cons.mpr ⟨(List.forall_mem_cons.mp (List.forall_mem_cons.mp h).2).1, h⟩⟩) (fun hx hb hL kk => lv_dup2_11 hx hb hd (h1 _) (h2 _) kk)
theorem aw_goto {off : Int} {tgt : Nat} (hd : decode (m_c M) pc = .ok (.goto off, 3)) (ht : (pc : Int) + off = (tgt : Int)) (k : aw Γ M tgt ls st μ Q) : aw Γ M pc ls st μ Q := aw_s k (fun _ h => h) (fun hx hb hL kk => lv_goto hx hb hd ht kk)
theorem aw_istore_n {n : Fin 4} {x : Int32} (hd : decode (m_c M) pc = .ok (.istore_n n, 1)) (hi : (n : Nat) < m_L M) (hn : lo_nl ls (n : Nat) = true) (he : ls.set (n : Nat) (aI x) = ls') (k : aw Γ M (pc + 1) ls' st μ Q) : aw Γ M pc ls (aI x :: st) μ Q := aw_l k hn he (fun _ _ => trivial) (fun h => (List.forall_mem_cons.mp h).2) (fun hx hb hL kk => lv_istore_n hx hb hd rfl hL hi rfl kk)
theorem aw_istore {n : Nat} {x : Int32} (hd : decode (m_c M) pc = .ok (.istore n, 2)) (hi : n < m_L M) (hn : lo_nl ls n = true) (he : ls.set n (aI x) = ls') (k : aw Γ M (pc + 2) ls' st μ Q) : aw Γ M pc ls (aI x :: st) μ Q := aw_l k hn he (fun _ _ => trivial) (fun h => (List.forall_mem_cons.mp h).2) (fun hx hb hL kk => lv_istore hx hb hd hL hi rfl kk)
theorem aw_astore_n {n : Fin 4} {K i : Nat} (hd : decode (m_c M) pc = .ok (.astore_n n, 1)) (hi : (n : Nat) < m_L M) (hn : lo_nl ls (n : Nat) = true) (he : ls.set (n : Nat) (aR K i) = ls') (k : aw Γ M (pc + 1) ls' st μ Q) : aw Γ M pc ls (aR K i :: st) μ Q := aw_l k hn he (fun h _ => (List.forall_mem_cons.mp h).1) (fun h => (List.forall_mem_cons.mp h).2) (fun hx hb hL kk => lv_astore_n hx hb hd rfl hL hi rfl kk)
theorem aw_astore_nQ {n : Fin 4} {K : Nat} {o : Option Nat} (hd : decode (m_c M) pc = .ok (.astore_n n, 1)) (hi : (n : Nat) < m_L M) (hn : lo_nl ls (n : Nat) = true) (he : ls.set (n : Nat) (aQ K o) = ls') (k : aw Γ M (pc + 1) ls' st μ Q) : aw Γ M pc ls (aQ K o :: st) μ Q := by
  cases o with
  | none => exact aw_l k hn he (fun _ _ => trivial) (fun h => (List.forall_mem_cons.mp h).2) (fun hx hb hL kk => lv_astore_nN hx hb hd rfl hL hi rfl kk)
  | some i => exact aw_astore_n hd hi hn he k
theorem aw_astore {n : Nat} {K i : Nat} (hd : decode (m_c M) pc = .ok (.astore n, 2)) (hi : n < m_L M) (hn : lo_nl ls n = true) (he : ls.set n (aR K i) = ls') (k : aw Γ M (pc + 2) ls' st μ Q) : aw Γ M pc ls (aR K i :: st) μ Q := aw_l k hn he (fun h _ => (List.forall_mem_cons.mp h).1) (fun h => (List.forall_mem_cons.mp h).2) (fun hx hb hL kk => lv_astore hx hb hd hL hi rfl kk)
theorem aw_astoreQ {n : Nat} {K : Nat} {o : Option Nat} (hd : decode (m_c M) pc = .ok (.astore n, 2)) (hi : n < m_L M) (hn : lo_nl ls n = true) (he : ls.set n (aQ K o) = ls') (k : aw Γ M (pc + 2) ls' st μ Q) : aw Γ M pc ls (aQ K o :: st) μ Q := by
  cases o with
  | none => exact aw_l k hn he (fun _ _ => trivial) (fun h => (List.forall_mem_cons.mp h).2) (fun hx hb hL kk => lv_astoreN hx hb hd hL hi rfl kk)
  | some i => exact aw_astore hd hi hn he k
theorem aw_lstore_n {n : Fin 4} {x : Int64} (hd : decode (m_c M) pc = .ok (.lstore_n n, 1)) (hi : (n : Nat) + 1 < m_L M) (hn : lo_nl ls (n : Nat) = true) (he : (ls.set (n : Nat) (aL x)).set ((n : Nat) + 1) aX = ls') (k : aw Γ M (pc + 1) ls' st μ Q) : aw Γ M pc ls (aL x :: st) μ Q := by
  intro X hB hR H locs arr hH hS hL hv hw
  have hk := fun arr' (hL' : lv_has arr' (m_L M) (lo_l (g_ad Γ) ls')) => k X hB hR H locs arr' hH hS hL' (liv_set (liv_set hv (show liv (aL x) from trivial) rfl) (show liv aX from trivial) he) (List.forall_mem_cons.mp hw).2
  obtain ⟨p, e, R, s, m, args, below, meth, c, cells, slots, QQ⟩ := X
  obtain ⟨hx, hb, -⟩ := hB
  exact lv_lstore_n hx hb hd rfl hL hi rfl (fun arr' h' => hk arr' (lo_setL h' hn he))
theorem aw_iinc {n : Nat} {d : Int} {x v : Int32} (hd : decode (m_c M) pc = .ok (.iinc n d, 3)) (hl : ls[n]? = some (aI x)) (hv : x + Int32.ofInt d = v) (hi : n < m_L M) (hn : lo_nl ls n = true) (he : ls.set n (aI v) = ls') (k : aw Γ M (pc + 3) ls' st μ Q) : aw Γ M pc ls st μ Q := aw_l k hn he (fun _ _ => trivial) (fun h => h) (fun hx hb hL kk => by
  obtain ⟨j, hj⟩ := List.getElem?_of_mem (lo_mem.mpr ⟨aI x, hl, by simp, rfl⟩ : (n, cv (g_ad Γ) (aI x)) ∈ lo_l (g_ad Γ) ls)
  exact lv_iinc hx hb hd hL hj hv hi rfl kk)
theorem aw_icmp_eq {x y : Int32} {off : Int} {tgt : Nat} (hd : decode (m_c M) pc = .ok (.if_icmp .eq off, 3)) (ht : (pc : Int) + off = (tgt : Int)) (kt : x = y → aw Γ M tgt ls st μ Q) (kf : ¬ x = y → aw Γ M (pc + 3) ls st μ Q) : aw Γ M pc ls (aI y :: aI x :: st) μ Q := by
  intro X hB hR H locs arr hH hS hL hv hw
  have hk := fun c => kt c X hB hR H locs arr hH hS hL hv (List.forall_mem_cons.mp (List.forall_mem_cons.mp hw).2).2
  have hj := fun c => kf c X hB hR H locs arr hH hS hL hv (List.forall_mem_cons.mp (List.forall_mem_cons.mp hw).2).2
  obtain ⟨p, e, R, s, m, args, below, meth, c, cells, slots, QQ⟩ := X
  obtain ⟨hx, hb, -⟩ := hB
  exact lv_icmp_eq hx hb hd ht hk hj
theorem aw_if_eq {x : Int32} {off : Int} {tgt : Nat} (hd : decode (m_c M) pc = .ok (.ifCond .eq off, 3)) (ht : (pc : Int) + off = (tgt : Int)) (kt : x = 0 → aw Γ M tgt ls st μ Q) (kf : ¬ x = 0 → aw Γ M (pc + 3) ls st μ Q) : aw Γ M pc ls (aI x :: st) μ Q := by
  intro X hB hR H locs arr hH hS hL hv hw
  have hk := fun c => kt c X hB hR H locs arr hH hS hL hv (List.forall_mem_cons.mp hw).2
  have hj := fun c => kf c X hB hR H locs arr hH hS hL hv (List.forall_mem_cons.mp hw).2
  obtain ⟨p, e, R, s, m, args, below, meth, c, cells, slots, QQ⟩ := X
  obtain ⟨hx, hb, -⟩ := hB
  exact lv_if_eq hx hb hd ht hk hj
theorem aw_icmp_ne {x y : Int32} {off : Int} {tgt : Nat} (hd : decode (m_c M) pc = .ok (.if_icmp .ne off, 3)) (ht : (pc : Int) + off = (tgt : Int)) (kt : ¬ x = y → aw Γ M tgt ls st μ Q) (kf : x = y → aw Γ M (pc + 3) ls st μ Q) : aw Γ M pc ls (aI y :: aI x :: st) μ Q := by
  intro X hB hR H locs arr hH hS hL hv hw
  have hk := fun c => kt c X hB hR H locs arr hH hS hL hv (List.forall_mem_cons.mp (List.forall_mem_cons.mp hw).2).2
  have hj := fun c => kf c X hB hR H locs arr hH hS hL hv (List.forall_mem_cons.mp (List.forall_mem_cons.mp hw).2).2
  obtain ⟨p, e, R, s, m, args, below, meth, c, cells, slots, QQ⟩ := X
  obtain ⟨hx, hb, -⟩ := hB
  exact lv_icmp_ne hx hb hd ht hk hj
theorem aw_if_ne {x : Int32} {off : Int} {tgt : Nat} (hd : decode (m_c M) pc = .ok (.ifCond .ne off, 3)) (ht : (pc : Int) + off = (tgt : Int)) (kt : ¬ x = 0 → aw Γ M tgt ls st μ Q) (kf : x = 0 → aw Γ M (pc + 3) ls st μ Q) : aw Γ M pc ls (aI x :: st) μ Q := by
  intro X hB hR H locs arr hH hS hL hv hw
  have hk := fun c => kt c X hB hR H locs arr hH hS hL hv (List.forall_mem_cons.mp hw).2
  have hj := fun c => kf c X hB hR H locs arr hH hS hL hv (List.forall_mem_cons.mp hw).2
  obtain ⟨p, e, R, s, m, args, below, meth, c, cells, slots, QQ⟩ := X
  obtain ⟨hx, hb, -⟩ := hB
  exact lv_if_ne hx hb hd ht hk hj
theorem aw_icmp_lt {x y : Int32} {off : Int} {tgt : Nat} (hd : decode (m_c M) pc = .ok (.if_icmp .lt off, 3)) (ht : (pc : Int) + off = (tgt : Int)) (kt : x < y → aw Γ M tgt ls st μ Q) (kf : ¬ x < y → aw Γ M (pc + 3) ls st μ Q) : aw Γ M pc ls (aI y :: aI x :: st) μ Q := by
  intro X hB hR H locs arr hH hS hL hv hw
  have hk := fun c => kt c X hB hR H locs arr hH hS hL hv (List.forall_mem_cons.mp (List.forall_mem_cons.mp hw).2).2
  have hj := fun c => kf c X hB hR H locs arr hH hS hL hv (List.forall_mem_cons.mp (List.forall_mem_cons.mp hw).2).2
  obtain ⟨p, e, R, s, m, args, below, meth, c, cells, slots, QQ⟩ := X
  obtain ⟨hx, hb, -⟩ := hB
  exact lv_icmp_lt hx hb hd ht hk hj
theorem aw_if_lt {x : Int32} {off : Int} {tgt : Nat} (hd : decode (m_c M) pc = .ok (.ifCond .lt off, 3)) (ht : (pc : Int) + off = (tgt : Int)) (kt : x < 0 → aw Γ M tgt ls st μ Q) (kf : ¬ x < 0 → aw Γ M (pc + 3) ls st μ Q) : aw Γ M pc ls (aI x :: st) μ Q := by
  intro X hB hR H locs arr hH hS hL hv hw
  have hk := fun c => kt c X hB hR H locs arr hH hS hL hv (List.forall_mem_cons.mp hw).2
  have hj := fun c => kf c X hB hR H locs arr hH hS hL hv (List.forall_mem_cons.mp hw).2
  obtain ⟨p, e, R, s, m, args, below, meth, c, cells, slots, QQ⟩ := X
  obtain ⟨hx, hb, -⟩ := hB
  exact lv_if_lt hx hb hd ht hk hj
theorem aw_icmp_ge {x y : Int32} {off : Int} {tgt : Nat} (hd : decode (m_c M) pc = .ok (.if_icmp .ge off, 3)) (ht : (pc : Int) + off = (tgt : Int)) (kt : y ≤ x → aw Γ M tgt ls st μ Q) (kf : ¬ y ≤ x → aw Γ M (pc + 3) ls st μ Q) : aw Γ M pc ls (aI y :: aI x :: st) μ Q := by
  intro X hB hR H locs arr hH hS hL hv hw
  have hk := fun c => kt c X hB hR H locs arr hH hS hL hv (List.forall_mem_cons.mp (List.forall_mem_cons.mp hw).2).2
  have hj := fun c => kf c X hB hR H locs arr hH hS hL hv (List.forall_mem_cons.mp (List.forall_mem_cons.mp hw).2).2
  obtain ⟨p, e, R, s, m, args, below, meth, c, cells, slots, QQ⟩ := X
  obtain ⟨hx, hb, -⟩ := hB
  exact lv_icmp_ge hx hb hd ht hk hj
theorem aw_if_ge {x : Int32} {off : Int} {tgt : Nat} (hd : decode (m_c M) pc = .ok (.ifCond .ge off, 3)) (ht : (pc : Int) + off = (tgt : Int)) (kt : 0 ≤ x → aw Γ M tgt ls st μ Q) (kf : ¬ 0 ≤ x → aw Γ M (pc + 3) ls st μ Q) : aw Γ M pc ls (aI x :: st) μ Q := by
  intro X hB hR H locs arr hH hS hL hv hw
  have hk := fun c => kt c X hB hR H locs arr hH hS hL hv (List.forall_mem_cons.mp hw).2
  have hj := fun c => kf c X hB hR H locs arr hH hS hL hv (List.forall_mem_cons.mp hw).2
  obtain ⟨p, e, R, s, m, args, below, meth, c, cells, slots, QQ⟩ := X
  obtain ⟨hx, hb, -⟩ := hB
  exact lv_if_ge hx hb hd ht hk hj
theorem aw_icmp_gt {x y : Int32} {off : Int} {tgt : Nat} (hd : decode (m_c M) pc = .ok (.if_icmp .gt off, 3)) (ht : (pc : Int) + off = (tgt : Int)) (kt : y < x → aw Γ M tgt ls st μ Q) (kf : ¬ y < x → aw Γ M (pc + 3) ls st μ Q) : aw Γ M pc ls (aI y :: aI x :: st) μ Q := by
  intro X hB hR H locs arr hH hS hL hv hw
  have hk := fun c => kt c X hB hR H locs arr hH hS hL hv (List.forall_mem_cons.mp (List.forall_mem_cons.mp hw).2).2
  have hj := fun c => kf c X hB hR H locs arr hH hS hL hv (List.forall_mem_cons.mp (List.forall_mem_cons.mp hw).2).2
  obtain ⟨p, e, R, s, m, args, below, meth, c, cells, slots, QQ⟩ := X
  obtain ⟨hx, hb, -⟩ := hB
  exact lv_icmp_gt hx hb hd ht hk hj
theorem aw_if_gt {x : Int32} {off : Int} {tgt : Nat} (hd : decode (m_c M) pc = .ok (.ifCond .gt off, 3)) (ht : (pc : Int) + off = (tgt : Int)) (kt : 0 < x → aw Γ M tgt ls st μ Q) (kf : ¬ 0 < x → aw Γ M (pc + 3) ls st μ Q) : aw Γ M pc ls (aI x :: st) μ Q := by
  intro X hB hR H locs arr hH hS hL hv hw
  have hk := fun c => kt c X hB hR H locs arr hH hS hL hv (List.forall_mem_cons.mp hw).2
  have hj := fun c => kf c X hB hR H locs arr hH hS hL hv (List.forall_mem_cons.mp hw).2
  obtain ⟨p, e, R, s, m, args, below, meth, c, cells, slots, QQ⟩ := X
  obtain ⟨hx, hb, -⟩ := hB
  exact lv_if_gt hx hb hd ht hk hj
theorem aw_icmp_le {x y : Int32} {off : Int} {tgt : Nat} (hd : decode (m_c M) pc = .ok (.if_icmp .le off, 3)) (ht : (pc : Int) + off = (tgt : Int)) (kt : x ≤ y → aw Γ M tgt ls st μ Q) (kf : ¬ x ≤ y → aw Γ M (pc + 3) ls st μ Q) : aw Γ M pc ls (aI y :: aI x :: st) μ Q := by
  intro X hB hR H locs arr hH hS hL hv hw
  have hk := fun c => kt c X hB hR H locs arr hH hS hL hv (List.forall_mem_cons.mp (List.forall_mem_cons.mp hw).2).2
  have hj := fun c => kf c X hB hR H locs arr hH hS hL hv (List.forall_mem_cons.mp (List.forall_mem_cons.mp hw).2).2
  obtain ⟨p, e, R, s, m, args, below, meth, c, cells, slots, QQ⟩ := X
  obtain ⟨hx, hb, -⟩ := hB
  exact lv_icmp_le hx hb hd ht hk hj
theorem aw_if_le {x : Int32} {off : Int} {tgt : Nat} (hd : decode (m_c M) pc = .ok (.ifCond .le off, 3)) (ht : (pc : Int) + off = (tgt : Int)) (kt : x ≤ 0 → aw Γ M tgt ls st μ Q) (kf : ¬ x ≤ 0 → aw Γ M (pc + 3) ls st μ Q) : aw Γ M pc ls (aI x :: st) μ Q := by
  intro X hB hR H locs arr hH hS hL hv hw
  have hk := fun c => kt c X hB hR H locs arr hH hS hL hv (List.forall_mem_cons.mp hw).2
  have hj := fun c => kf c X hB hR H locs arr hH hS hL hv (List.forall_mem_cons.mp hw).2
  obtain ⟨p, e, R, s, m, args, below, meth, c, cells, slots, QQ⟩ := X
  obtain ⟨hx, hb, -⟩ := hB
  exact lv_if_le hx hb hd ht hk hj
theorem aw_ifnull {K : Nat} {o : Option Nat} {off : Int} {tgt : Nat} (hd : decode (m_c M) pc = .ok (.ifnull off, 3)) (ht : (pc : Int) + off = (tgt : Int)) (kt : o = none → aw Γ M tgt ls st μ Q) (kf : ∀ i, o = some i → i < kn K → aw Γ M (pc + 3) ls st μ Q) : aw Γ M pc ls (aQ K o :: st) μ Q := by
  intro X hB hR H locs arr hH hS hL hv hw
  have hl := (List.forall_mem_cons.mp hw).1
  have hw := (List.forall_mem_cons.mp hw).2
  have hk := fun c => kt c X hB hR H locs arr hH hS hL hv hw
  have hj := fun i c h => kf i c h X hB hR H locs arr hH hS hL hv hw
  obtain ⟨p, e, R, s, m, args, below, meth, c, cells, slots, QQ⟩ := X
  obtain ⟨hx, hb, -⟩ := hB
  cases o with
  | none => exact lv_ifnullN hx hb hd ht (hk rfl)
  | some i => exact lv_ifnull hx hb hd (hj i rfl hl)
theorem aw_ifnonnull {K : Nat} {o : Option Nat} {off : Int} {tgt : Nat} (hd : decode (m_c M) pc = .ok (.ifnonnull off, 3)) (ht : (pc : Int) + off = (tgt : Int)) (kt : ∀ i, o = some i → i < kn K → aw Γ M tgt ls st μ Q) (kf : o = none → aw Γ M (pc + 3) ls st μ Q) : aw Γ M pc ls (aQ K o :: st) μ Q := by
  intro X hB hR H locs arr hH hS hL hv hw
  have hl := (List.forall_mem_cons.mp hw).1
  have hw := (List.forall_mem_cons.mp hw).2
  have hk := fun c => kf c X hB hR H locs arr hH hS hL hv hw
  have hj := fun i c h => kt i c h X hB hR H locs arr hH hS hL hv hw
  obtain ⟨p, e, R, s, m, args, below, meth, c, cells, slots, QQ⟩ := X
  obtain ⟨hx, hb, -⟩ := hB
  cases o with
  | none => exact lv_ifnonnullN hx hb hd (hk rfl)
  | some i => exact lv_ifnonnull hx hb hd ht (hj i rfl hl)
theorem aw_tableIn {dflt lo hi : Int} {offs : Array Int} {len : Nat} {x : Int32} {off : Int} {tgt : Nat} (hd : decode (m_c M) pc = .ok (.tableswitch dflt lo hi offs, len)) (h1 : ¬ x.toInt < lo) (h2 : ¬ hi < x.toInt) (ho : offs[(x.toInt - lo).toNat]? = some off) (ht : (pc : Int) + off = (tgt : Int)) (k : aw Γ M tgt ls st μ Q) : aw Γ M pc ls (aI x :: st) μ Q := aw_s k (fun _ h => (List.forall_mem_cons.mp h).2) (fun hx hb hL kk => lv_tableIn hx hb hd h1 h2 ho ht kk)
theorem aw_tableOut {dflt lo hi : Int} {offs : Array Int} {len : Nat} {x : Int32} {tgt : Nat} (hd : decode (m_c M) pc = .ok (.tableswitch dflt lo hi offs, len)) (h : x.toInt < lo ∨ hi < x.toInt) (ht : (pc : Int) + dflt = (tgt : Int)) (k : aw Γ M tgt ls st μ Q) : aw Γ M pc ls (aI x :: st) μ Q := aw_s k (fun _ h => (List.forall_mem_cons.mp h).2) (fun hx hb hL kk => lv_tableOut hx hb hd h ht kk)
theorem aw_lookup {dflt : Int} {ps : Array (Int × Int)} {len : Nat} {x : Int32} {off : Int} {tgt : Nat} (hd : decode (m_c M) pc = .ok (.lookupswitch dflt ps, len)) (hp : (ps.toList.zip (ps.toList.drop 1)).all (fun (a, next) => a.1 < next.1) = true) (ho : Op.lookupswitch.offset ps.toList dflt x.toInt = off) (ht : (pc : Int) + off = (tgt : Int)) (k : aw Γ M tgt ls st μ Q) : aw Γ M pc ls (aI x :: st) μ Q := aw_s k (fun _ h => (List.forall_mem_cons.mp h).2) (fun hx hb hL kk => lv_lookup hx hb hd hp ho ht kk)
end AW
end
section
theorem gw_lay (C : String) (T : u_T) (k : Nat) : goodWord (u_lay C T k) = true := by
  unfold u_lay
  split <;> rfl
theorem gw_ws {C : String} {T : u_T} {N : Nat} (h : ∀ w ∈ u_ws C T N, w ∈ lw_tbl) : ∀ w ∈ u_ws C T N, w ∈ tb_g := fun w hw => List.mem_filter.mpr ⟨h w hw, by
  obtain ⟨k, -, rfl⟩ := List.mem_map.mp hw
  exact gw_lay C T k⟩
def tyT (ci k : Nat) : FieldType := match ci with
  | 0 => tyX0 k | 1 => tyX1 k | 2 => tyX2 k | 3 => tyX3 k | 4 => tyX4 k | 5 => tyX5 k | 6 => tyX6 k | 7 => tyX7 k | 8 => tyX8 k | 9 => tyX9 k | 10 => tyX10 k | 11 => tyX11 k | _ => tyX12 k
theorem cls_ok : ∀ {ci : Nat} {r : vw_C}, vwCl[ci]? = some r → (∀ w ∈ u_ws r.1 r.2.1 r.2.2, w ∈ tb_g) ∧ (∀ k, k < r.2.2 → parseFieldDescriptor (r.2.1 k).2.2.1 = some (tyT ci k)) ∧ (∀ a, a < r.2.2 → ∀ b, b < r.2.2 → a ≠ b → (r.2.1 a).2.1 ≠ (r.2.1 b).2.1)
  | 0, r, h => by cases h; exact ⟨gw_ws inX0, tyX0_ok, nmX0⟩
  | 1, r, h => by cases h; exact ⟨gw_ws inX1, tyX1_ok, nmX1⟩
  | 2, r, h => by cases h; exact ⟨gw_ws inX2, tyX2_ok, nmX2⟩
  | 3, r, h => by cases h; exact ⟨gw_ws inX3, tyX3_ok, nmX3⟩
  | 4, r, h => by cases h; exact ⟨gw_ws inX4, tyX4_ok, nmX4⟩
  | 5, r, h => by cases h; exact ⟨gw_ws inX5, tyX5_ok, nmX5⟩
  | 6, r, h => by cases h; exact ⟨gw_ws inX6, tyX6_ok, nmX6⟩
  | 7, r, h => by cases h; exact ⟨gw_ws inX7, tyX7_ok, nmX7⟩
  | 8, r, h => by cases h; exact ⟨gw_ws inX8, tyX8_ok, nmX8⟩
  | 9, r, h => by cases h; exact ⟨gw_ws inX9, tyX9_ok, nmX9⟩
  | 10, r, h => by cases h; exact ⟨gw_ws inX10, tyX10_ok, nmX10⟩
  | 11, r, h => by cases h; exact ⟨gw_ws inX11, tyX11_ok, nmX11⟩
  | 12, r, h => by cases h; exact ⟨gw_ws inX12, tyX12_ok, nmX12⟩
  | n + 13, r, h => by simp [vwCl] at h
/-- a field of a class, as an entry of the pool of 'own' -/
def fk (own : String) (idx ci f : Nat) : Prop := ∃ r : vw_C, vwCl[ci]? = some r ∧ f < r.2.2 ∧ Cond.fieldLink own idx (r.2.1 f).1 (r.2.1 f).2.1 (r.2.1 f).2.2.1 ∈ tb_g
theorem cls_N : ∀ {ci : Nat} {r : vw_C}, vwCl[ci]? = some r → r.2.2 ≤ 100 := by
  intro ci r h
  have h2 := List.mem_of_getElem? h
  have : ∀ q ∈ vwCl.map (fun q => q.2.2), q ≤ 100 := by decide
  exact this _ (List.mem_map.mpr ⟨r, h2, rfl⟩)
section AH
variable {Γ : cx_T} {M : mt_T} {pc : Nat} {ls ls' st : List aV} {μ : mH} {Q : aV → mH → Prop}
theorem aw_get {K i ci f idx : Nat} {v : aV} (hd : decode (m_c M) pc = .ok (.getfield idx, 3)) (hk : kd K = some (.inl ci)) (hf : fk (m_y M).cls idx ci f) (hv : look μ K i f = v) (k : aw Γ M (pc + 3) ls (v :: st) μ Q) : aw Γ M pc ls (aR K i :: st) μ Q := by
  intro X hB hR H locs arr hH hS hL hl hw
  have hi : i < kn K := (List.forall_mem_cons.mp hw).1
  have hk' := k X hB hR H locs arr hH hS hL hl (List.forall_mem_cons.mpr ⟨by rw [← hv]; exact liv_look hi (fun ty n e => by rw [hk] at e; cases e), (List.forall_mem_cons.mp hw).2⟩)
  obtain ⟨p, e, R, s, m, args, below, meth, c, cells, slots, QQ⟩ := X
  obtain ⟨hx, hb, hml, hown, hvm, -⟩ := hB
  obtain ⟨r, hr, hfN, hlink⟩ := hf
  obtain ⟨r', hr', cell, q1, q2, q3, q4⟩ := rp_obj hH hi hk
  cases hr.symm.trans hr'
  obtain ⟨hSl, hfc, kC, hkC, hkind⟩ := hvm.2.2.2.1 ci r hr
  obtain ⟨cf, kf, fi, f', hi', hsl⟩ := hSl f hfN
  refine W.getf hx hb hown (hvm.2.1 _ hlink args) hi' (u_facts hfc hkC (u_lays (fun w h => hvm.2.1 w h args) (cls_ok hr).1 hfN) hi').1 q1 (by rw [q3]; exact fun h => by cases h) (v := cv (g_ad Γ) v) ?_ rfl rfl hd hk'
  rw [hsl, q4 f hfN, ← hv]
theorem aw_put {K i ci f idx : Nat} {v : aV} {μ' : mH} (hd : decode (m_c M) pc = .ok (.putfield idx, 3)) (hk : kd K = some (.inl ci)) (hf : fk (m_y M).cls idx ci f) (hfin : ∀ r : vw_C, vwCl[ci]? = some r → (r.2.1 f).2.2.2 = false) (hn : ∀ ad, narrow (tyT ci f) (cv ad v) = cv ad v) (hfit : ∀ ad, fits (tyT ci f) (cv ad v) = true) (hl1 : ∀ K' i' s', ¬ (K' = K ∧ i' = i) → look μ' K' i' s' = look μ K' i' s') (hl2 : ∀ s', s' < 100 → look μ' K i s' = if s' = f then v else look μ K i s') (k : aw Γ M (pc + 3) ls st μ' Q) : aw Γ M pc ls (v :: aR K i :: st) μ Q := by
  intro X hB hR H locs arr hH hS hL hl hw
  have hi : i < kn K := (List.forall_mem_cons.mp (List.forall_mem_cons.mp hw).2).1
  have hk' := fun H' locs' h1 h2 => k X hB hR H' locs' arr h1 h2 hL hl (List.forall_mem_cons.mp (List.forall_mem_cons.mp hw).2).2
  obtain ⟨p, e, R, s, m, args, below, meth, c, cells, slots, QQ⟩ := X
  obtain ⟨hx, hb, hml, hown, hvm, -⟩ := hB
  obtain ⟨r, hr, hfN, hlink⟩ := hf
  obtain ⟨r', hr', cell, q1, q2, q3, q4⟩ := rp_obj hH hi hk
  cases hr.symm.trans hr'
  obtain ⟨hin, hty, hnm⟩ := cls_ok hr
  have hts : ∀ w ∈ tb_g, w.before args s = true := fun w h => hvm.2.1 w h args
  obtain ⟨hSl, hfc, kC, hkC, hkind⟩ := hvm.2.2.2.1 ci r hr
  obtain ⟨cf, kf, fi, f', hi', hsl⟩ := hSl f hfN
  have hlay := hts _ (hin _ (u_in_lay hfN))
  unfold u_lay at hlay
  rw [if_neg (by rw [hfin r hr]; decide)] at hlay
  have hst := (u_facts hfc hkC (u_lays hts hin hfN) hi').1
  have h6 := u_store hfc hkC hkind hlay hi' (hty f hfN) (hn (g_ad Γ)) (hfit (g_ad Γ))
  have hap : ∀ x y, x < r.2.2 → y < r.2.2 → x ≠ y → (g_dI Γ ci) x ≠ (g_dI Γ ci) y := by
    intro x y hx hy hne
    obtain ⟨_, _, _, fa, hia, ea⟩ := hSl x hx
    obtain ⟨_, _, _, fb, hib, eb⟩ := hSl y hy
    rw [← ea, ← eb]
    refine u_apart (u_lays hts hin hx) (u_lays hts hin hy) hia hib ?_
    rw [(State.fieldFound?_type hia (hty x hx)).1, (State.fieldFound?_type hib (hty y hy)).1]
    exact hnm x hx y hy hne
  refine W.putK hx hb (f := f') ⟨hown, hts _ hlink, ⟨_, _, _, hi'⟩, hst⟩ (by rw [q2]; exact h6) q1 q3 (by rw [hsl]; exact k2_hasslot (q4 f hfN)) rfl rfl hd fun H' e1 e2 e3 => ?_
  rw [hsl] at e1 ⊢
  refine hk' H' _ (rp_set hvm.1 hH hi (by rw [hk]; simp) e2 e3 ?_ hl1) (hS.put e2 e3 (hvm.1.2 K i (by rw [hk]; simp) hi))
  unfold rp_c
  rw [hk]
  refine ⟨r, hr, t_OB.to (V := updV (fun s => cv (g_ad Γ) (look μ K i s)) f (cv (g_ad Γ) v)) ⟨_, e1, q2, q3, t_set q4 hap hfN _⟩ (fun j hj => ?_)⟩
  unfold updV
  dsimp only
  rw [hl2 j (Nat.lt_of_lt_of_le hj (cls_N hr))]
  by_cases hjf : j = f
  · rw [if_pos hjf, if_pos hjf]
  · rw [if_neg hjf, if_neg hjf]
theorem aw_putI {K i ci f idx : Nat} {x : Int32} (hd : decode (m_c M) pc = .ok (.putfield idx, 3)) (hk : kd K = some (.inl ci)) (hf : fk (m_y M).cls idx ci f) (hfin : ∀ r : vw_C, vwCl[ci]? = some r → (r.2.1 f).2.2.2 = false) (ht : tyT ci f = .int) (hI : isI K f = true) (k : aw Γ M (pc + 3) ls st (sto μ K i f x) Q) : aw Γ M pc ls (aI x :: aR K i :: st) μ Q :=
  aw_put hd hk hf hfin (fun _ => by rw [ht]; rfl) (fun _ => by rw [ht]; rfl) (fun K' i' s' h => by rw [look_sto hI, if_neg (fun q => h ⟨q.1, q.2.1⟩)]) (fun s' _ => by rw [look_sto hI]; by_cases e : s' = f <;> simp [e]) k
theorem nar_z {x : Int32} (h : x = 0 ∨ x = 1) : narrow .boolean (.int x) = .int x ∧ fits .boolean (.int x) = true := by
  rcases h with rfl | rfl <;> exact ⟨by decide, by decide⟩
theorem aw_putZ {K i ci f idx : Nat} {x : Int32} (hd : decode (m_c M) pc = .ok (.putfield idx, 3)) (hk : kd K = some (.inl ci)) (hf : fk (m_y M).cls idx ci f) (hfin : ∀ r : vw_C, vwCl[ci]? = some r → (r.2.1 f).2.2.2 = false) (ht : tyT ci f = .boolean) (hI : isI K f = true) (hz : x = 0 ∨ x = 1) (k : aw Γ M (pc + 3) ls st (sto μ K i f x) Q) : aw Γ M pc ls (aI x :: aR K i :: st) μ Q :=
  aw_put hd hk hf hfin (fun _ => by rw [ht]; exact (nar_z hz).1) (fun _ => by rw [ht]; exact (nar_z hz).2) (fun K' i' s' h => by rw [look_sto hI, if_neg (fun q => h ⟨q.1, q.2.1⟩)]) (fun s' _ => by rw [look_sto hI]; by_cases e : s' = f <;> simp [e]) k
/-- the one long: value of the reference -/
theorem look_L {μ : mH} {i : Nat} {x : Int64} (K' i' s' : Nat) : look (sto (sto μ 12 i 5 (hiL x)) 12 i 100 (loL x)) K' i' s' = if K' = 12 ∧ i' = i ∧ s' = 5 then aL x else if K' = 12 ∧ i' = i ∧ s' = 100 then aI (loL x) else look μ K' i' s' := by
  by_cases h1 : K' = 12 ∧ i' = i
  · obtain ⟨rfl, rfl⟩ := h1
    by_cases h2 : s' = 5
    · subst h2
      rw [if_pos ⟨rfl, rfl, rfl⟩]
      show aL (mkL (sto (sto μ 12 i' 5 (hiL x)) 12 i' 100 (loL x) 12 i' 5) (sto (sto μ 12 i' 5 (hiL x)) 12 i' 100 (loL x) 12 i' 100)) = aL x
      rw [sto_eq, sto_s (by decide), sto_eq, mkL_hl]
    · rw [if_neg (fun q => h2 q.2.2)]
      by_cases h3 : s' = 100
      · subst h3
        rw [if_pos ⟨rfl, rfl, rfl⟩]
        show aI (sto _ 12 i' 100 _ 12 i' 100) = _
        rw [sto_eq]
      · rw [if_neg (fun q => h3 q.2.2)]
        unfold look
        split
        · rfl
        · split
          · rename_i e; exact absurd e (by decide)
          · split
            · rename_i e; exact absurd e.2 h2
            · rw [sto_s h3, sto_s h2]
  · rw [if_neg (fun q => h1 ⟨q.1, q.2.1⟩), if_neg (fun q => h1 ⟨q.1, q.2.1⟩)]
    have hs : ∀ s, sto (sto μ 12 i 5 (hiL x)) 12 i 100 (loL x) K' i' s = μ K' i' s := fun s => by rw [sto_ne (fun q => h1 ⟨q.1, q.2.1⟩), sto_ne (fun q => h1 ⟨q.1, q.2.1⟩)]
    unfold look
    simp only [hs]
theorem aw_putL {i idx : Nat} {x : Int64} (hd : decode (m_c M) pc = .ok (.putfield idx, 3)) (hf : fk (m_y M).cls idx 12 5) (k : aw Γ M (pc + 3) ls st (sto (sto μ 12 i 5 (hiL x)) 12 i 100 (loL x)) Q) : aw Γ M pc ls (aL x :: aR 12 i :: st) μ Q :=
  aw_put hd rfl hf (fun r h => by cases h; rfl) (fun _ => rfl) (fun _ => rfl) (fun K' i' s' h => by rw [look_L, if_neg (fun q => h ⟨q.1, q.2.1⟩), if_neg (fun q => h ⟨q.1, q.2.1⟩)]) (fun s' h => by
    rw [look_L]
    by_cases e : s' = 5
    · rw [if_pos ⟨rfl, rfl, e⟩, if_pos e]
    · rw [if_neg (fun q => e q.2.2), if_neg e, if_neg (fun q => absurd q.2.2 (by omega))]) k
/-- arrays -/
theorem aw_iald {K i n : Nat} {x : Int32} (hd : decode (m_c M) pc = .ok (.iaload, 1)) (hk : kd K = some (.inr (.int, n))) (hI : ∀ s, isI K s = true) (hin : vp_in x n) (k : aw Γ M (pc + 1) ls (aI (μ K i x.toNatClampNeg) :: st) μ Q) : aw Γ M pc ls (aI x :: aR K i :: st) μ Q := by
  intro X hB hR H locs arr hH hS hL hl hw
  have hi : i < kn K := (List.forall_mem_cons.mp (List.forall_mem_cons.mp hw).2).1
  have hk' := k X hB hR H locs arr hH hS hL hl (List.forall_mem_cons.mpr ⟨trivial, (List.forall_mem_cons.mp (List.forall_mem_cons.mp hw).2).2⟩)
  obtain ⟨p, e, R, s, m, args, below, meth, c, cells, slots, QQ⟩ := X
  obtain ⟨hx, hb, hml, hown, hvm, -⟩ := hB
  have hlt : x.toNatClampNeg < n := Nat.not_le.mp fun q => hin (Or.inr q)
  exact W.iald (v := .int (μ K i x.toNatClampNeg)) hx hb (rp_arr hH hi hk) ((hvm.2.2.2.2.1 K _ n hk).1 n _) (fun q => by cases q) (by show ¬ (x < 0 ∨ (arrV _ _ _).slots.size ≤ _); rw [arrV_size]; exact hin) (by show (arrV _ _ _).slots[_]? = _; rw [arrV_read _ _ hlt, look_I (hI _)]; rfl) rfl rfl hd hk'
theorem aw_bald {K i n : Nat} {x : Int32} (hd : decode (m_c M) pc = .ok (.baload, 1)) (hk : kd K = some (.inr (.byte, n))) (hI : ∀ s, isI K s = true) (hin : vp_in x n) (k : aw Γ M (pc + 1) ls (aI (μ K i x.toNatClampNeg) :: st) μ Q) : aw Γ M pc ls (aI x :: aR K i :: st) μ Q := by
  intro X hB hR H locs arr hH hS hL hl hw
  have hi : i < kn K := (List.forall_mem_cons.mp (List.forall_mem_cons.mp hw).2).1
  have hk' := k X hB hR H locs arr hH hS hL hl (List.forall_mem_cons.mpr ⟨trivial, (List.forall_mem_cons.mp (List.forall_mem_cons.mp hw).2).2⟩)
  obtain ⟨p, e, R, s, m, args, below, meth, c, cells, slots, QQ⟩ := X
  obtain ⟨hx, hb, hml, hown, hvm, -⟩ := hB
  have hlt : x.toNatClampNeg < n := Nat.not_le.mp fun q => hin (Or.inr q)
  exact W.bald (v := .int (μ K i x.toNatClampNeg)) hx hb (rp_arr hH hi hk) ((hvm.2.2.2.2.1 K _ n hk).1 n _) (fun q => by cases q) (by show ¬ (x < 0 ∨ (arrV _ _ _).slots.size ≤ _); rw [arrV_size]; exact hin) (by show (arrV _ _ _).slots[_]? = _; rw [arrV_read _ _ hlt, look_I (hI _)]; rfl) rfl rfl hd hk'
theorem aw_zald {K i n : Nat} {x : Int32} (hd : decode (m_c M) pc = .ok (.baload, 1)) (hk : kd K = some (.inr (.boolean, n))) (hI : ∀ s, isI K s = true) (hin : vp_in x n) (k : aw Γ M (pc + 1) ls (aI (μ K i x.toNatClampNeg) :: st) μ Q) : aw Γ M pc ls (aI x :: aR K i :: st) μ Q := by
  intro X hB hR H locs arr hH hS hL hl hw
  have hi : i < kn K := (List.forall_mem_cons.mp (List.forall_mem_cons.mp hw).2).1
  have hk' := k X hB hR H locs arr hH hS hL hl (List.forall_mem_cons.mpr ⟨trivial, (List.forall_mem_cons.mp (List.forall_mem_cons.mp hw).2).2⟩)
  obtain ⟨p, e, R, s, m, args, below, meth, c, cells, slots, QQ⟩ := X
  obtain ⟨hx, hb, hml, hown, hvm, -⟩ := hB
  have hlt : x.toNatClampNeg < n := Nat.not_le.mp fun q => hin (Or.inr q)
  exact W.zald (v := .int (μ K i x.toNatClampNeg)) hx hb (rp_arr hH hi hk) ((hvm.2.2.2.2.1 K _ n hk).1 n _) (fun q => by cases q) (by show ¬ (x < 0 ∨ (arrV _ _ _).slots.size ≤ _); rw [arrV_size]; exact hin) (by show (arrV _ _ _).slots[_]? = _; rw [arrV_read _ _ hlt, look_I (hI _)]; rfl) rfl rfl hd hk'
theorem aw_aald {K i n : Nat} {ty : FieldType} {x : Int32} {v : aV} (hd : decode (m_c M) pc = .ok (.aaload, 1)) (hk : kd K = some (.inr (ty, n))) (hty : ty.isReference = true) (hin : vp_in x n) (hv : look μ K i x.toNatClampNeg = v) (k : aw Γ M (pc + 1) ls (v :: st) μ Q) : aw Γ M pc ls (aI x :: aR K i :: st) μ Q := by
  intro X hB hR H locs arr hH hS hL hl hw
  have hi : i < kn K := (List.forall_mem_cons.mp (List.forall_mem_cons.mp hw).2).1
  have hlt : x.toNatClampNeg < n := Nat.not_le.mp fun q => hin (Or.inr q)
  have hk' := k X hB hR H locs arr hH hS hL hl (List.forall_mem_cons.mpr ⟨by rw [← hv]; exact liv_look hi (fun ty n e => by rw [hk] at e; cases e; exact hlt), (List.forall_mem_cons.mp (List.forall_mem_cons.mp hw).2).2⟩)
  obtain ⟨p, e, R, s, m, args, below, meth, c, cells, slots, QQ⟩ := X
  obtain ⟨hx, hb, hml, hown, hvm, -⟩ := hB
  exact W.aald (v := cv (g_ad Γ) v) (ty := ty) hx hb (rp_arr hH hi hk) ((hvm.2.2.2.2.1 K _ n hk).1 n _) hty (fun q => by cases q) (by show ¬ (x < 0 ∨ (arrV _ _ _).slots.size ≤ _); rw [arrV_size]; exact hin) (by show (arrV _ _ _).slots[_]? = _; rw [arrV_read _ _ hlt, hv]) rfl rfl hd hk'
/-- an array's cell behind a store -/
theorem rp_ast {μ μ' : mH} {H H' : Heap} (hG : g_ok Γ) (h : rp_H Γ μ H) {K i n j : Nat} {ty : FieldType} {v : aV} (hi : i < kn K) (hk : kd K = some (.inr (ty, n))) (e1 : H'[g_ad Γ K i]? = some ((arrV (g_cA Γ K) n (fun j => cv (g_ad Γ) (look μ K i j))).setSlot j (cv (g_ad Γ) v))) (hz : H'.size = H.size) (oq : ∀ q : Nat, q ≠ g_ad Γ K i → H'[q]? = H[q]?) (hlk : ∀ K' i' s', look μ' K' i' s' = if K' = K ∧ i' = i ∧ s' = j then v else look μ K' i' s') : rp_H Γ μ' H' := by
  refine rp_set hG h hi (by rw [hk]; simp) hz oq ?_ (fun K' i' s' h => by rw [hlk, if_neg (fun q => h ⟨q.1, q.2.1⟩)])
  unfold rp_c
  rw [hk]
  show H'[g_ad Γ K i]? = _
  rw [e1, arrV_store]
  refine congrArg some (congrArg (arrV (g_cA Γ K) n) (funext fun q => ?_))
  unfold updV
  rw [hlk]
  by_cases hq : q = j
  · rw [if_pos hq, if_pos ⟨rfl, rfl, hq⟩]
  · rw [if_neg hq, if_neg (fun z => hq z.2.2)]
theorem aw_iast {K i n : Nat} {x y : Int32} (hd : decode (m_c M) pc = .ok (.iastore, 1)) (hk : kd K = some (.inr (.int, n))) (hI : ∀ s, isI K s = true) (hin : vp_in x n) (k : aw Γ M (pc + 1) ls st (sto μ K i x.toNatClampNeg y) Q) : aw Γ M pc ls (aI y :: aI x :: aR K i :: st) μ Q := by
  intro X hB hR H locs arr hH hS hL hl hw
  have hw := (List.forall_mem_cons.mp (List.forall_mem_cons.mp hw).2).2
  have hi : i < kn K := (List.forall_mem_cons.mp hw).1
  have hk' := fun H' locs' h1 h2 => k X hB hR H' locs' arr h1 h2 hL hl (List.forall_mem_cons.mp hw).2
  obtain ⟨p, e, R, s, m, args, below, meth, c, cells, slots, QQ⟩ := X
  obtain ⟨hx, hb, hml, hown, hvm, -⟩ := hB
  refine W.iast hx hb (rp_arr hH hi hk) ((hvm.2.2.2.2.1 K _ n hk).1 n _) (fun q => by cases q) (by show ¬ (x < 0 ∨ (arrV _ _ _).slots.size ≤ _); rw [arrV_size]; exact hin) rfl rfl hd fun H' e1 e2 e3 => ?_
  exact hk' H' _ (rp_ast hvm.1 hH hi hk (v := aI y) e1 e2 e3 (fun _ _ _ => look_sto (hI _))) (hS.put e2 e3 (hvm.1.2 K i (by rw [hk]; simp) hi))
theorem aw_bast {K i n : Nat} {x y : Int32} (hd : decode (m_c M) pc = .ok (.bastore, 1)) (hk : kd K = some (.inr (.byte, n))) (hI : ∀ s, isI K s = true) (hin : vp_in x n) (k : aw Γ M (pc + 1) ls st (sto μ K i x.toNatClampNeg y.toInt8.toInt32) Q) : aw Γ M pc ls (aI y :: aI x :: aR K i :: st) μ Q := by
  intro X hB hR H locs arr hH hS hL hl hw
  have hw := (List.forall_mem_cons.mp (List.forall_mem_cons.mp hw).2).2
  have hi : i < kn K := (List.forall_mem_cons.mp hw).1
  have hk' := fun H' locs' h1 h2 => k X hB hR H' locs' arr h1 h2 hL hl (List.forall_mem_cons.mp hw).2
  obtain ⟨p, e, R, s, m, args, below, meth, c, cells, slots, QQ⟩ := X
  obtain ⟨hx, hb, hml, hown, hvm, -⟩ := hB
  refine W.bast hx hb (rp_arr hH hi hk) ((hvm.2.2.2.2.1 K _ n hk).1 n _) (fun q => by cases q) (by show ¬ (x < 0 ∨ (arrV _ _ _).slots.size ≤ _); rw [arrV_size]; exact hin) rfl rfl hd fun H' e1 e2 e3 => ?_
  exact hk' H' _ (rp_ast hvm.1 hH hi hk (v := aI y.toInt8.toInt32) e1 e2 e3 (fun _ _ _ => look_sto (hI _))) (hS.put e2 e3 (hvm.1.2 K i (by rw [hk]; simp) hi))
theorem aw_zast {K i n : Nat} {x y : Int32} (hd : decode (m_c M) pc = .ok (.bastore, 1)) (hk : kd K = some (.inr (.boolean, n))) (hI : ∀ s, isI K s = true) (hin : vp_in x n) (k : aw Γ M (pc + 1) ls st (sto μ K i x.toNatClampNeg (y &&& 1)) Q) : aw Γ M pc ls (aI y :: aI x :: aR K i :: st) μ Q := by
  intro X hB hR H locs arr hH hS hL hl hw
  have hw := (List.forall_mem_cons.mp (List.forall_mem_cons.mp hw).2).2
  have hi : i < kn K := (List.forall_mem_cons.mp hw).1
  have hk' := fun H' locs' h1 h2 => k X hB hR H' locs' arr h1 h2 hL hl (List.forall_mem_cons.mp hw).2
  obtain ⟨p, e, R, s, m, args, below, meth, c, cells, slots, QQ⟩ := X
  obtain ⟨hx, hb, hml, hown, hvm, -⟩ := hB
  refine W.zast hx hb (rp_arr hH hi hk) ((hvm.2.2.2.2.1 K _ n hk).1 n _) (fun q => by cases q) (by show ¬ (x < 0 ∨ (arrV _ _ _).slots.size ≤ _); rw [arrV_size]; exact hin) rfl rfl hd fun H' e1 e2 e3 => ?_
  exact hk' H' _ (rp_ast hvm.1 hH hi hk (v := aI (y &&& 1)) e1 e2 e3 (fun _ _ _ => look_sto (hI _))) (hS.put e2 e3 (hvm.1.2 K i (by rw [hk]; simp) hi))
theorem look_cp {μ : mH} {i j s : Nat} (hj : j < 88) (K' i' s' : Nat) : look (sto μ 26 i s (nI (j + 1))) K' i' s' = if K' = 26 ∧ i' = i ∧ s' = s then aR 7 j else look μ K' i' s' := by
  by_cases h : K' = 26 ∧ i' = i ∧ s' = s
  · obtain ⟨rfl, rfl, rfl⟩ := h
    rw [if_pos ⟨rfl, rfl, rfl⟩]
    show aQ 7 (cpo (sto μ 26 i' s' (nI (j + 1)) 26 i' s')) = _
    rw [sto_eq]
    unfold cpo
    rw [nI_clamp (by omega), if_pos (by omega)]
    rfl
  · rw [if_neg h]
    unfold look
    split
    · rfl
    · split
      · rw [sto_ne h]
      · rename_i e
        split
        · rw [sto_K e, sto_K e]
        · rw [sto_K e]
theorem aw_aast {i j : Nat} {x : Int32} (hd : decode (m_c M) pc = .ok (.aastore, 1)) (hin : vp_in x 80) (k : aw Γ M (pc + 1) ls st (sto μ 26 i x.toNatClampNeg (nI (j + 1))) Q) : aw Γ M pc ls (aR 7 j :: aI x :: aR 26 i :: st) μ Q := by
  intro X hB hR H locs arr hH hS hL hl hw
  have hj : j < kn 7 := (List.forall_mem_cons.mp hw).1
  have hw := (List.forall_mem_cons.mp (List.forall_mem_cons.mp hw).2).2
  have hi : i < kn 26 := (List.forall_mem_cons.mp hw).1
  have hk' := fun H' locs' h1 h2 => k X hB hR H' locs' arr h1 h2 hL hl (List.forall_mem_cons.mp hw).2
  obtain ⟨p, e, R, s, m, args, below, meth, c, cells, slots, QQ⟩ := X
  obtain ⟨hx, hb, hml, hown, hvm, -⟩ := hB
  have hlt : x.toNatClampNeg < 80 := Nat.not_le.mp fun q => hin (Or.inr q)
  have h0 : ¬ x < 0 := fun q => hin (Or.inl q)
  obtain ⟨r, hr, cellV, g1, g2, g3, -⟩ := rp_obj hH hj (show kd 7 = some (.inl 7) from rfl)
  have hcls := (hvm.2.2.2.1 7 r hr).2
  cases hr
  obtain ⟨kA, comp, k1, k2, k3, -⟩ := (hvm.2.2.2.2.1 26 _ 80 rfl).2
  have hcomp : comp = g_dC Γ 7 := Option.some.inj (k3.symm.trans hcls.1)
  subst hcomp
  obtain ⟨kC, hkC, -⟩ := id hcls.2
  refine W.aast hx hb (rp_arr hH hi (show kd 26 = some (.inr (.object RX7, 80)) from rfl)) (fun q h => by cases h) (fun h => by cases h) k1 k2 rfl hkC ⟨h0, by show _ < (arrV _ _ _).slots.size; rw [arrV_size]; exact hlt⟩ g1 (fun q h => by rw [g3] at h; cases h) (by rw [g2]; exact hkC) (by rw [g2]; exact va_assign hcls) rfl rfl hd fun H' e1 e2 e3 => ?_
  exact hk' H' _ (rp_ast hvm.1 hH hi rfl (v := aR 7 j) e1 e2 e3 (look_cp hj)) (hS.put e2 e3 (hvm.1.2 26 i (by decide) hi))
theorem aw_alen {K i n : Nat} {ty : FieldType} {v : Int32} (hd : decode (m_c M) pc = .ok (.arraylength, 1)) (hk : kd K = some (.inr (ty, n))) (hv : n.toInt32 = v) (k : aw Γ M (pc + 1) ls (aI v :: st) μ Q) : aw Γ M pc ls (aR K i :: st) μ Q := by
  intro X hB hR H locs arr hH hS hL hl hw
  have hi : i < kn K := (List.forall_mem_cons.mp hw).1
  have hk' := k X hB hR H locs arr hH hS hL hl (List.forall_mem_cons.mpr ⟨trivial, (List.forall_mem_cons.mp hw).2⟩)
  obtain ⟨p, e, R, s, m, args, below, meth, c, cells, slots, QQ⟩ := X
  obtain ⟨hx, hb, hml, hown, hvm, -⟩ := hB
  exact W.alen hx hb (rp_arr hH hi hk) ((hvm.2.2.2.2.1 K _ n hk).1 n _) (by rw [arrV_size]; exact hv) rfl rfl hd hk'
end AH
end
section
section AC
variable {Γ : cx_T} {M : mt_T} {pc : Nat} {ls ls' st : List aV} {μ : mH} {Q : aV → mH → Prop}
theorem sh_S {p : Program} {e : Env} {R : Room} {s : State} {m : MethodId} {args : Array Value} {below : List Frame} {meth : Method} {c : Code} {cells slots : Nat} {QQ : State → Prop} (hB : in_B Γ M (p, e, R, s, m, args, below, meth, c, cells, slots, QQ)) {H : Heap} {locs : List Loc} (hH : rp_H Γ μ H) (hS : va_S (g_A Γ) (g_H0 Γ) H locs) : va_S (g_A Γ) s.heap H locs := by
  obtain ⟨-, -, -, -, -, -, -, -, -, h1, h2, -⟩ := hB
  refine ⟨by rw [hH.1]; exact h2, fun q hq hA => ?_, hS.2.2⟩
  have hq0 : q < (g_H0 Γ).size := Nat.not_le.mp hA
  rw [hS.2.1 q hq0 hA, h1.2.1 q hq0 hA]
theorem sh_K {p : Program} {e : Env} {R : Room} {s : State} {m : MethodId} {args : Array Value} {below : List Frame} {meth : Method} {c : Code} {cells slots : Nat} {QQ : State → Prop} (hB : in_B Γ M (p, e, R, s, m, args, below, meth, c, cells, slots, QQ)) : ∀ a : Nat, a < (g_H0 Γ).size → ¬ g_A Γ a → s.heap[a]? = (g_H0 Γ)[a]? := by
  obtain ⟨-, -, -, -, -, -, -, -, -, h1, h2, -⟩ := hB
  exact h1.2.1
theorem aw_ldc {idx : Nat} {v : Int32} (hd : decode (m_c M) pc = .ok (.ldc idx, 2)) (hc : Cond.constant (m_y M).cls idx v ∈ tb_g) (k : aw Γ M (pc + 2) ls (aI v :: st) μ Q) : aw Γ M pc ls st μ Q := by
  intro X hB hR H locs arr hH hS hL hl hw
  have hk' := k X hB hR H locs arr hH hS hL hl (List.forall_mem_cons.mpr ⟨trivial, hw⟩)
  obtain ⟨p, e, R, s, m, args, below, meth, c, cells, slots, QQ⟩ := X
  obtain ⟨hx, hb, hml, hown, hvm, -⟩ := hB
  exact lv_ldc hx hb hown (hvm.2.1 _ hc args) hd hk'
theorem aw_ldcw {idx : Nat} {v : Int32} (hd : decode (m_c M) pc = .ok (.ldc_w idx, 3)) (hc : Cond.constant (m_y M).cls idx v ∈ tb_g) (k : aw Γ M (pc + 3) ls (aI v :: st) μ Q) : aw Γ M pc ls st μ Q := by
  intro X hB hR H locs arr hH hS hL hl hw
  have hk' := k X hB hR H locs arr hH hS hL hl (List.forall_mem_cons.mpr ⟨trivial, hw⟩)
  obtain ⟨p, e, R, s, m, args, below, meth, c, cells, slots, QQ⟩ := X
  obtain ⟨hx, hb, hml, hown, hvm, -⟩ := hB
  exact lv_ldcw hx hb hown (hvm.2.1 _ hc args) hd hk'
theorem aw_ldc2 {idx : Nat} {v : Int64} (hd : decode (m_c M) pc = .ok (.ldc2_w idx, 3)) (hc : Cond.constantLong (m_y M).cls idx v ∈ tb_g) (k : aw Γ M (pc + 3) ls (aL v :: st) μ Q) : aw Γ M pc ls st μ Q := by
  intro X hB hR H locs arr hH hS hL hl hw
  have hk' := k X hB hR H locs arr hH hS hL hl (List.forall_mem_cons.mpr ⟨trivial, hw⟩)
  obtain ⟨p, e, R, s, m, args, below, meth, c, cells, slots, QQ⟩ := X
  obtain ⟨hx, hb, hml, hown, hvm, -⟩ := hB
  exact lv_ldc2 hx hb hown (hvm.2.1 _ hc args) hd hk'
theorem aw_ldcS {idx j : Nat} {tx : String} (hd : decode (m_c M) pc = .ok (.ldc idx, 2)) (hq : ((m_y M).cls, idx, tx, j) ∈ st_tab) (hj : j < 9) (k : aw Γ M (pc + 2) ls (aR 63 j :: st) μ Q) : aw Γ M pc ls st μ Q := by
  intro X hB hR H locs arr hH hS hL hl hw
  have hk' := k X hB hR H locs arr hH hS hL hl (List.forall_mem_cons.mpr ⟨hj, hw⟩)
  obtain ⟨p, e, R, s, m, args, below, meth, c, cells, slots, QQ⟩ := X
  obtain ⟨hx, hb, hml, hown, hvm, -⟩ := hB
  exact va_ldcS hx hb hown (hvm.2.2.2.2.2.2.1 _ hq) hd hk'
theorem aw_strV {idx j : Nat} (hd : decode (m_c M) pc = .ok (.getfield idx, 3)) (hf : Cond.fieldLink (m_y M).cls idx "java/lang/String" "value" "[B" ∈ tb_g) (k : aw Γ M (pc + 3) ls (aR 64 j :: st) μ Q) : aw Γ M pc ls (aR 63 j :: st) μ Q := by
  intro X hB hR H locs arr hH hS hL hl hw
  have hj : j < 9 := (List.forall_mem_cons.mp hw).1
  have hk' := k X hB hR H locs arr hH hS hL hl (List.forall_mem_cons.mpr ⟨hj, (List.forall_mem_cons.mp hw).2⟩)
  obtain ⟨p, e, R, s, m, args, below, meth, c, cells, slots, QQ⟩ := X
  have hS' := sh_S hB hH hS
  have hK' := sh_K hB
  obtain ⟨hx, hb, hml, hown, hvm, -⟩ := hB
  exact vk_getf hx hb ((hvm.2.2.2.2.2.1.1 j hj).2.2.1.kept hK') hS' hown (hvm.2.1 _ hf args) (fun _ h => h) hd hk'
theorem aw_strC {idx j : Nat} (hd : decode (m_c M) pc = .ok (.getfield idx, 3)) (hf : Cond.fieldLink (m_y M).cls idx "java/lang/String" "coder" "B" ∈ tb_g) (k : aw Γ M (pc + 3) ls (aI 0 :: st) μ Q) : aw Γ M pc ls (aR 63 j :: st) μ Q := by
  intro X hB hR H locs arr hH hS hL hl hw
  have hj : j < 9 := (List.forall_mem_cons.mp hw).1
  have hk' := k X hB hR H locs arr hH hS hL hl (List.forall_mem_cons.mpr ⟨trivial, (List.forall_mem_cons.mp hw).2⟩)
  obtain ⟨p, e, R, s, m, args, below, meth, c, cells, slots, QQ⟩ := X
  have hS' := sh_S hB hH hS
  have hK' := sh_K hB
  obtain ⟨hx, hb, hml, hown, hvm, -⟩ := hB
  exact vk_getf hx hb ((hvm.2.2.2.2.2.1.1 j hj).2.1.kept hK') hS' hown (hvm.2.1 _ hf args) (fun _ h => h) hd hk'
theorem aw_strB {j : Nat} {x : Int32} (hd : decode (m_c M) pc = .ok (.baload, 1)) (hin : vp_in x (lenS.getD j 0)) (k : aw Γ M (pc + 1) ls (aI ((bytS.getD j []).getD x.toNatClampNeg 0) :: st) μ Q) : aw Γ M pc ls (aI x :: aR 64 j :: st) μ Q := by
  intro X hB hR H locs arr hH hS hL hl hw
  have hw := (List.forall_mem_cons.mp hw).2
  have hj : j < 9 := (List.forall_mem_cons.mp hw).1
  have hk' := k X hB hR H locs arr hH hS hL hl (List.forall_mem_cons.mpr ⟨trivial, (List.forall_mem_cons.mp hw).2⟩)
  obtain ⟨p, e, R, s, m, args, below, meth, c, cells, slots, QQ⟩ := X
  have hS' := sh_S hB hH hS
  have hK' := sh_K hB
  obtain ⟨hx, hb, hml, hown, hvm, -⟩ := hB
  exact va_tb hx hb ((hvm.2.2.2.2.2.1.1 j hj).2.2.2.kept hK') hS' hin rfl hd hk'
theorem aw_strL {j : Nat} (hd : decode (m_c M) pc = .ok (.arraylength, 1)) (k : aw Γ M (pc + 1) ls (aI (Int32.ofNat (lenS.getD j 0)) :: st) μ Q) : aw Γ M pc ls (aR 64 j :: st) μ Q := by
  intro X hB hR H locs arr hH hS hL hl hw
  have hj : j < 9 := (List.forall_mem_cons.mp hw).1
  have hk' := k X hB hR H locs arr hH hS hL hl (List.forall_mem_cons.mpr ⟨trivial, (List.forall_mem_cons.mp hw).2⟩)
  obtain ⟨p, e, R, s, m, args, below, meth, c, cells, slots, QQ⟩ := X
  have hS' := sh_S hB hH hS
  have hK' := sh_K hB
  obtain ⟨hx, hb, hml, hown, hvm, -⟩ := hB
  exact va_tlen hx hb ((hvm.2.2.2.2.2.1.1 j hj).2.2.2.kept hK') hS' rfl hd hk'
theorem aw_compact {idx : Nat} (hd : decode (m_c M) pc = .ok (.getstatic idx, 3)) (hf : Cond.fieldLink (m_y M).cls idx "java/lang/String" "COMPACT_STRINGS" "Z" ∈ tb_g) (k : aw Γ M (pc + 3) ls (aI 1 :: st) μ Q) : aw Γ M pc ls st μ Q := by
  intro X hB hR H locs arr hH hS hL hl hw
  have hk' := k X hB hR H locs arr hH hS hL hl (List.forall_mem_cons.mpr ⟨trivial, hw⟩)
  obtain ⟨p, e, R, s, m, args, below, meth, c, cells, slots, QQ⟩ := X
  have hS' := sh_S hB hH hS
  have hK' := sh_K hB
  obtain ⟨hx, hb, hml, hown, hvm, -⟩ := hB
  exact va_gets hx hb (hvm.2.2.2.2.2.2.2.1.1.kept hK') hS' hown (hvm.2.1 _ hf args) (fun _ h => h) hd hk'
theorem aw_sio {idx : Nat} (hd : decode (m_c M) pc = .ok (.getstatic idx, 3)) (hf : Cond.fieldLink (m_y M).cls idx "jdk/internal/util/Preconditions" "SIOOBE_FORMATTER" "Ljava/util/function/BiFunction;" ∈ tb_g) (k : ∀ o, aw Γ M (pc + 3) ls (aQ 66 o :: st) μ Q) : aw Γ M pc ls st μ Q := by
  intro X hB hR H locs arr hH hS hL hl hw
  have hk0 := k none X hB hR H locs arr hH hS hL hl (List.forall_mem_cons.mpr ⟨trivial, hw⟩)
  have hk1 := k (some 0) X hB hR H locs arr hH hS hL hl (List.forall_mem_cons.mpr ⟨Nat.zero_lt_one, hw⟩)
  obtain ⟨p, e, R, s, m, args, below, meth, c, cells, slots, QQ⟩ := X
  have hS' := sh_S hB hH hS
  have hK' := sh_K hB
  obtain ⟨hx, hb, hml, hown, hvm, -⟩ := hB
  rcases hvm.2.2.2.2.2.2.2.1.2 with h | h
  · exact va_gets hx hb (h.kept hK') hS' hown (hvm.2.1 _ hf args) (fun _ h => h) hd hk0
  · exact va_gets hx hb (h.kept hK') hS' hown (hvm.2.1 _ hf args) (fun _ h => h) hd hk1
theorem aw_pop {x : Int32} (hd : decode (m_c M) pc = .ok (.pop, 1)) (k : aw Γ M (pc + 1) ls st μ Q) : aw Γ M pc ls (aI x :: st) μ Q := aw_s k (fun _ h => (List.forall_mem_cons.mp h).2) (fun hx hb hL kk => lv_pop hx hb hd rfl kk)
theorem aw_scL {i : Nat} (hd : decode (m_c M) pc = .ok (.arraylength, 1)) (hb0 : g_ad Γ 65 i = g_b Γ) (k : aw Γ M (pc + 1) ls (aI (Int32.ofNat (g_L Γ)) :: st) μ Q) : aw Γ M pc ls (aR 65 i :: st) μ Q := by
  intro X hB hR H locs arr hH hS hL hl hw
  have hk' := k X hB hR H locs arr hH hS hL hl (List.forall_mem_cons.mpr ⟨trivial, (List.forall_mem_cons.mp hw).2⟩)
  obtain ⟨p, e, R, s, m, args, below, meth, c, cells, slots, QQ⟩ := X
  obtain ⟨hx, hb, hml, hown, hvm, -⟩ := hB
  show W _ _ _ _ _ _ _ _ _ _ _ _ _ _ _ (F0 m pc arr (.ref (g_ad Γ 65 i) :: st.map (cv (g_ad Γ))))
  rw [hb0]
  exact va_slen hx hb hvm.2.2.2.2.2.2.2.2.1 hvm.2.2.2.2.2.2.2.2.2 (Nat.not_le.mpr hvm.2.2.2.2.2.2.2.2.2) hS hd hk'
theorem aw_scI {i : Nat} {x : Int32} (hd : decode (m_c M) pc = .ok (.iaload, 1)) (hb0 : g_ad Γ 65 i = g_b Γ) (hin : vp_in x (g_L Γ)) (k : aw Γ M (pc + 1) ls (aI (g_xs Γ x.toNatClampNeg) :: st) μ Q) : aw Γ M pc ls (aI x :: aR 65 i :: st) μ Q := by
  intro X hB hR H locs arr hH hS hL hl hw
  have hk' := k X hB hR H locs arr hH hS hL hl (List.forall_mem_cons.mpr ⟨trivial, (List.forall_mem_cons.mp (List.forall_mem_cons.mp hw).2).2⟩)
  obtain ⟨p, e, R, s, m, args, below, meth, c, cells, slots, QQ⟩ := X
  obtain ⟨hx, hb, hml, hown, hvm, -⟩ := hB
  show W _ _ _ _ _ _ _ _ _ _ _ _ _ _ _ (F0 m pc arr (.int x :: .ref (g_ad Γ 65 i) :: st.map (cv (g_ad Γ))))
  rw [hb0]
  exact va_sld hx hb hvm.2.2.2.2.2.2.2.2.1 hvm.2.2.2.2.2.2.2.2.2 (Nat.not_le.mpr hvm.2.2.2.2.2.2.2.2.2) hS hin hd hk'
/-! returns -/
theorem aw_iret {x : Int32} {ty : FieldType} (hd : decode (m_c M) pc = .ok (.ireturn, 1)) (hr : m_r M = some ty) (hn : narrow ty (.int x) = .int x) (h : Q (aI x) μ) : aw Γ M pc ls [aI x] μ Q := fun _ _ hR H locs arr hH hS _ _ _ => (hR (aI x) μ trivial h H locs pc arr hH hS).1 hd x ty rfl hr hn
theorem aw_lret {x : Int64} (hd : decode (m_c M) pc = .ok (.lreturn, 1)) (hr : m_r M = some .long) (h : Q (aL x) μ) : aw Γ M pc ls [aL x] μ Q := fun _ _ hR H locs arr hH hS _ _ _ => (hR (aL x) μ trivial h H locs pc arr hH hS).2.1 hd x rfl hr
theorem aw_aret {K : Nat} {o : Option Nat} (hd : decode (m_c M) pc = .ok (.areturn, 1)) (hr : m_r M = some (.array .int)) (h : Q (aQ K o) μ) : aw Γ M pc ls [aQ K o] μ Q := fun _ _ hR H locs arr hH hS _ _ hw => (hR (aQ K o) μ (List.forall_mem_cons.mp hw).1 h H locs pc arr hH hS).2.2.1 hd _ rfl hr
theorem aw_vret (hd : decode (m_c M) pc = .ok (.return_, 1)) (hr : m_r M = none) (h : Q aX μ) : aw Γ M pc ls [] μ Q := fun _ _ hR H locs arr hH hS _ _ _ => (hR aX μ trivial h H locs pc arr hH hS).2.2.2 hd rfl hr
/-! the entry -/
theorem lv_args_in : ∀ (vs : List Value) (j : Nat), (∀ v ∈ vs, v.category = 1) → ∀ (i : Nat) (v : Value), vs[i]? = some v → (j + i, v) ∈ lv_args j vs
  | [], _, _, i, v, h => by simp at h
  | w :: vs, j, hc, i, v, h => by
    have h1 := hc w List.mem_cons_self
    unfold lv_args
    cases i with
    | zero =>
      rw [List.getElem?_cons_zero] at h
      cases h
      exact List.mem_cons_self
    | succ i =>
      rw [List.getElem?_cons_succ] at h
      refine List.mem_cons_of_mem _ ?_
      rw [if_neg (by rw [h1]; decide), show j + (i + 1) = (j + 1) + i by omega]
      exact lv_args_in vs (j + 1) (fun v hv => hc v (List.mem_cons_of_mem _ hv)) i v h
theorem lg_sl_len : ∀ (vs : List Value), (∀ v ∈ vs, v.category = 1) → (lg_sl vs).length = vs.length
  | [], _ => rfl
  | v :: vs, hc => by
    have h := lg_sl_len vs (fun v hv => hc v (List.mem_cons_of_mem _ hv))
    have h1 := hc v List.mem_cons_self
    unfold lg_sl at h ⊢
    rw [List.flatMap_cons, List.length_append, h, if_neg (by rw [h1]; decide)]
    simp only [List.length_cons, List.length_nil]
    omega
theorem cw_of {vs : List aV} (hpl : plainName (m_y M).cls = true ∨ plainFor (m_y M) = true) (hc : ∀ v ∈ vs, ∀ ad, (cv ad v).category = 1) (hn : vs.length ≤ m_L M) (he : vs ++ List.replicate (m_L M - vs.length) aX = ls) (h : aw Γ M 0 ls [] μ Q) : cw Γ M vs μ Q := by
  unfold cw
  have key : ∀ p e s m args below meth c s₁, BodyLoose p (g_l Γ) (m_y M) (headSpec [.code (m_y M) (m_c M) (m_L M) (m_r M)] { frames := m_f M, cells := 0, slots := 0, locals := m_w M }) (m_c M) (m_L M) (m_r M) e s m args below meth c s₁ → c.maxLocals = m_L M → cw_P Γ vs μ args s → W p (g_l Γ) e (headSpec [.code (m_y M) (m_c M) (m_L M) (m_r M)] { frames := m_f M, cells := 0, slots := 0, locals := m_w M }).room s m args below meth c s.heap [] 0 0 (MQ below (cw_Q Γ M Q) args s 0 0 (g_A Γ)) (entryFrame m args (m_L M)) := ?_
  · rcases hpl with hpl | hpl
    · exact Met.ofW (cc := m_c M) (maxL := m_L M) (ret := m_r M) hpl rfl key
    · exact va_MetF (cc := m_c M) (maxL := m_L M) (ret := m_r M) hpl rfl key
  intro p e s m args below meth c s₁ B hml hv
  obtain ⟨rfl, hlv, hH, hS, hvm⟩ := hv
  have hcat : ∀ v ∈ vs.map (cv (g_ad Γ)), v.category = 1 := fun v hv => by
    obtain ⟨w, hw, rfl⟩ := List.mem_map.mp hv
    exact hc w hw _
  have hlen := lg_sl_len _ hcat
  rw [List.length_map] at hlen
  have hl := lv_entry (vs.map (cv (g_ad Γ))) (n := m_L M) (by rw [hlen]; exact hn)
  rw [lg_entry_eq]
  generalize (lg_sl (vs.map (cv (g_ad Γ))) ++ List.replicate (m_L M - (lg_sl (vs.map (cv (g_ad Γ)))).length) Slot.unset).toArray = arr at hl ⊢
  have hB : in_B Γ M (p, e, (headSpec [.code (m_y M) (m_c M) (m_L M) (m_r M)] { frames := m_f M, cells := 0, slots := 0, locals := m_w M }).room, s, m, (vs.map (cv (g_ad Γ))).toArray, below, meth, c, 0, 0, MQ below (cw_Q Γ M Q) (vs.map (cv (g_ad Γ))).toArray s 0 0 (g_A Γ)) :=
    ⟨B.exec, B.bytes, hml, findClass_of_methodNamed B.named, hvm, Nat.le_refl _, Nat.le_refl _, Nat.le_refl _, Nat.le_refl _, hS, Nat.le_of_eq hH.1, B.returns⟩
  have hlocks := B.notSynchronized
  refine h _ hB ?_ s.heap [] arr hH hS ⟨hl.1, hl.2.1, fun q hq => ?_⟩ ?_ (fun v hv => by cases hv)
  · intro r μ' hlr hq H locs pc arr hH hS
    have hfin : ∀ t : State, t.heap = H → cw_Q Γ M Q (vs.map (cv (g_ad Γ))).toArray s (cw_o Γ M r) t := fun t ht => ⟨r, μ', rfl, hlr, by rw [ht]; exact hH, ⟨by rw [ht]; exact hS.1, fun q h1 h2 => by rw [ht]; exact hS.2.1 q h1 h2, fun q hq => by cases hq⟩, hq⟩
    refine ⟨fun hd x ty hr hm hn => ?_, fun hd x hr hm => ?_, fun hd o hr hm => ?_, fun hd hr hm => ?_⟩
    · subst hr
      exact W.zret B.exec B.bytes (B.returns.trans hm) hn (fun t ht _ => by have := hfin t ht; unfold cw_o at this; rw [hm] at this; exact this) hS.2.2 hd hlocks
    · subst hr
      exact W.lret B.exec B.bytes (B.returns.trans hm) (fun t ht _ => by have := hfin t ht; unfold cw_o at this; rw [hm] at this; exact this) hS.2.2 hd hlocks
    · refine W.aret B.exec B.bytes (B.returns.trans hm) (Or.inr ⟨_, rfl⟩) ?_ (fun t ht _ => by have := hfin t ht; unfold cw_o at this; rw [hm] at this; exact this) hS.2.2 hd hlocks
      subst hr
      cases o with
      | none => exact Or.inl rfl
      | some q => exact Or.inr ⟨_, rfl⟩
    · exact W.vret B.exec B.bytes (B.returns.trans hm) (fun t ht _ => by have := hfin t ht; unfold cw_o at this; rw [hm] at this; exact this) hS.2.2 hd hlocks
  · obtain ⟨v, h1, h2, h3⟩ := lo_mem.mp hq
    subst he
    by_cases hi : q.1 < vs.length
    · rw [List.getElem?_append_left hi] at h1
      have := lv_args_in (vs.map (cv (g_ad Γ))) 0 hcat q.1 (cv (g_ad Γ) v) (by rw [List.getElem?_map, h1]; rfl)
      rw [Nat.zero_add] at this
      have h4 := hl.2.2 _ this
      rw [h3]
      exact h4
    · rw [List.getElem?_append_right (by omega)] at h1
      have := (List.mem_replicate.mp (List.mem_of_getElem? h1)).2
      exact absurd this h2
  · subst he
    intro v hv
    rcases List.mem_append.mp hv with h1 | h1
    · exact hlv v h1
    · rw [(List.mem_replicate.mp h1).2]; exact trivial
/-! calls -/
def mk_ok (M : mt_T) : Prop := Cond.code (m_y M) (m_c M) (m_L M) (m_r M) ∈ tb_g ∧ Cond.initialized (m_y M).cls ∈ tb_g ∧ (m_y M).cls ≠ "java/lang/invoke/MethodHandle" ∧ (m_y M).cls ≠ "java/lang/invoke/VarHandle"
def mi_ok (M : mt_T) : Prop := Cond.instanceMethod (m_y M) ∈ tb_g ∧ Cond.selects (m_y M).cls (m_y M) (m_y M) ∈ tb_g
def mp_n (M : mt_T) (n : Nat) : Prop := (parseMethodDescriptor (m_y M).desc).map (fun d => d.parameters.length) = some n
/-- the receiver's class -/
def rc_ok (K : Nat) (C : String) : Prop := (∃ (ci : Nat) (r : vw_C), kd K = some (.inl ci) ∧ vwCl[ci]? = some r ∧ r.1 = C) ∨ (K = 63 ∧ C = "java/lang/String")
def rm_ok (M M' : mt_T) : Prop := m_f M' + 1 ≤ m_f M ∧ 8 + (m_L M' + 11) + m_w M' ≤ m_w M
theorem cat_le {ad : Nat → Nat → Nat} : ∀ (st : List aV), ((st.map (cv ad)).map fun v => v.category).sum ≤ 2 * st.length
  | [] => Nat.zero_le _
  | v :: st => by
    have h := cat_le (ad := ad) st
    have h1 : (cv ad v).category ≤ 2 := by rcases lv_cat (cv ad v) with h | h <;> omega
    simp only [List.map_cons, List.sum_cons, List.length_cons]
    omega
theorem cw_blind {vs : List aV} : FrameBlind (cw_P Γ vs μ) := fun a U g mk h => ⟨h.1, h.2.1, h.2.2.1, h.2.2.2.1, vm_warm (s := U) (U := U.calling g mk a) (State.WarmedH.refl U) h.2.2.2.2⟩
theorem cb_of {p : Program} {e : Env} {R : Room} {s : State} {m : MethodId} {args : Array Value} {below : List Frame} {meth : Method} {c : Code} {cells slots : Nat} {QQ : State → Prop} (hB : in_B Γ M (p, e, R, s, m, args, below, meth, c, cells, slots, QQ)) {M' : mt_T} {idx n : Nat} (hm : mk_ok M') (hl : Cond.methodLink (m_y M).cls idx (m_y M') ∈ tb_g) (hp : mp_n M' n) (hr : rm_ok M M') :
    CallB R s args (m_y M).cls idx (m_y M') (m_c M') (m_L M') (m_r M') [.code (m_y M') (m_c M') (m_L M') (m_r M')] { frames := m_f M', cells := 0, slots := 0, locals := m_w M' } 0 0 n := by
  obtain ⟨hx, hb, hml, hown, hvm, hf, hw, -⟩ := hB
  refine ⟨rfl, rfl, Nat.le_trans hr.1 hf, Nat.le_trans hr.2 hw, fun w hw' a' U hW => ?_, List.mem_cons_self, hvm.2.1 _ hm.1 args, hvm.2.1 _ hm.2.1 args, hm.2.2, fun sig h => ?_, hvm.2.1 _ hl args⟩
  · rw [List.mem_singleton.mp hw']
    exact (vm_warm hW hvm).2.1 _ hm.1 a'
  · unfold mp_n at hp
    rw [h] at hp
    exact (Option.some.inj hp).symm
theorem cn_of {p : Program} {e : Env} {R : Room} {s : State} {m : MethodId} {args : Array Value} {below : List Frame} {meth : Method} {c : Code} {cells slots : Nat} {QQ : State → Prop} (hB : in_B Γ M (p, e, R, s, m, args, below, meth, c, cells, slots, QQ)) {M' : mt_T} {idx n : Nat} {host : String} (hm : mk_ok M') (hl : Cond.methodLinkNest (m_y M).cls idx (m_y M') host ∈ tb_n) (hp : mp_n M' n) (hr : rm_ok M M') :
    va_CN R s args (m_y M).cls idx (m_y M') host (m_c M') (m_L M') (m_r M') [.code (m_y M') (m_c M') (m_L M') (m_r M')] { frames := m_f M', cells := 0, slots := 0, locals := m_w M' } 0 0 n := by
  obtain ⟨hx, hb, hml, hown, hvm, hf, hw, -⟩ := hB
  refine ⟨⟨rfl, rfl, Nat.le_trans hr.1 hf, Nat.le_trans hr.2 hw, fun w hw' a' U hW => ?_, List.mem_cons_self⟩, hvm.2.1 _ hm.1 args, hvm.2.1 _ hm.2.1 args, hm.2.2, fun sig h => ?_, va_Nw.use rfl (hvm.2.2.1 _ hl)⟩
  · rw [List.mem_singleton.mp hw']
    exact (vm_warm hW hvm).2.1 _ hm.1 a'
  · unfold mp_n at hp
    rw [h] at hp
    exact (Option.some.inj hp).symm
theorem rc_cell {p : Program} {e : Env} {R : Room} {s : State} {m : MethodId} {args : Array Value} {below : List Frame} {meth : Method} {c : Code} {cells slots : Nat} {QQ : State → Prop} (hB : in_B Γ M (p, e, R, s, m, args, below, meth, c, cells, slots, QQ)) {H : Heap} {locs : List Loc} (hH : rp_H Γ μ H) (hS : va_S (g_A Γ) (g_H0 Γ) H locs) {K i : Nat} {C : String} (hi : i < kn K) (h : rc_ok K C) : ∃ cellB : Cell, H[g_ad Γ K i]? = some cellB ∧ cellB.vm.isStatics = false ∧ s.vm.findClass C = some cellB.cls := by
  have hS' := sh_S hB hH hS
  have hK' := sh_K hB
  obtain ⟨hx, hb, hml, hown, hvm, -⟩ := hB
  rcases h with ⟨ci, r, h1, h2, rfl⟩ | ⟨rfl, rfl⟩
  · obtain ⟨r', hr', cell, q1, q2, q3, q4⟩ := rp_obj hH hi h1
    cases h2.symm.trans hr'
    exact ⟨cell, q1, by rw [q3]; rfl, by rw [q2]; exact (hvm.2.2.2.1 ci r h2).2.1⟩
  · exact vk_recv (hvm.2.2.2.2.2.1.kept hK') hi hS'
/-- what a call leaves on the stack -/
def pu (M : mt_T) (r : aV) (st : List aV) : List aV := match m_r M with
  | none => st
  | some _ => r :: st
/-- behind any kind of call -/
theorem aw_run {M' : mt_T} {vs st0 : List aV} {a : Array Value} {Qk : aV → mH → Prop} (hk : ∀ r μ', Qk r μ' → aw Γ M (pc + 3) ls (pu M' r st) μ' Q) (X : mx_T) (hB : in_B Γ M X) (hR : rt_ok Γ M X Q) {H : Heap} {locs : List Loc} {arr : Array Slot} (hS : va_S (g_A Γ) (g_H0 Γ) H locs) (hL : lv_has arr (m_L M) (lo_l (g_ad Γ) ls)) (hl : ∀ v ∈ ls, liv v) (hw : ∀ v ∈ st, liv v)
    (hr : match X with | (p, e, R, s, m, args, below, meth, c, cells, slots, QQ) => va_Run p (g_l Γ) e R s m args below meth c H locs cells slots 0 0 (F0 m pc arr (st0.map (cv (g_ad Γ)))) (st.map (cv (g_ad Γ))) (cw_Q Γ M' Qk a) (g_A Γ)) : wx Γ X H locs pc arr (st0.map (cv (g_ad Γ))) := by
  have hk' := fun r μ' h H' locs' h1 h2 h3 => hk r μ' h X hB hR H' locs' arr h1 h2 hL hl h3
  obtain ⟨p, e, R, s, m, args, below, meth, c, cells, slots, QQ⟩ := X
  intro T hT Xs
  obtain ⟨v, st₀, t, T', L, h0, X', hL', e1, e2, ⟨r, μ', ho, hlr, hrp, hva, hq⟩, stp⟩ := hr T hT Xs
  have hS1 : va_S (g_A Γ) (g_H0 Γ) T'.heap (locs ++ L) := ⟨by rw [e1]; exact hva.1, fun q h1 h2 => by rw [e1]; exact hva.2.1 q h1 h2, fun q hq => by
    rcases List.mem_append.mp hq with h | h
    · exact hS.2.2 q h
    · exact hL' q h⟩
  have hst : ∀ w ∈ pu M' r st, liv w := by
    unfold pu
    split
    · exact hw
    · exact List.forall_mem_cons.mpr ⟨hlr, hw⟩
  obtain ⟨t2, a1, b1⟩ := hk' r μ' hq T'.heap (locs ++ L) (by rw [e1]; exact hrp) hS1 hst T' rfl X'
  refine ⟨t2, stp t2 ?_, b1⟩
  have : v.toList ++ st.map (cv (g_ad Γ)) = (pu M' r st).map (cv (g_ad Γ)) := by
    unfold cw_o at ho
    unfold pu
    split at ho
    · rename_i e; cases ho; rw [e]; rfl
    · rename_i e; cases ho; rw [e]; rfl
  rw [this]
  exact a1
theorem aw_callV {M' : mt_T} {idx K i : Nat} {vs st0 : List aV} (hd : decode (m_c M) pc = .ok (.invokevirtual idx, 3)) (hm : mk_ok M') (hI : mi_ok M') (hlk : Cond.methodLink (m_y M).cls idx (m_y M') ∈ tb_g) (hp : mp_n M' vs.length) (hrc : rc_ok K (m_y M').cls) (hr : rm_ok M M') (hst : st.length ≤ 4) (he : vs.reverse ++ aR K i :: st = st0) (k : cw Γ M' (aR K i :: vs) μ (fun r μ' => aw Γ M (pc + 3) ls (pu M' r st) μ' Q)) : aw Γ M pc ls st0 μ Q := by
  intro X hB hR H locs arr hH hS hL hl hw
  subst he
  have hw1 : ∀ v ∈ vs, liv v := fun v hv => hw v (List.mem_append_left _ (List.mem_reverse.mpr hv))
  have hw2 := fun v hv => hw v (List.mem_append_right _ hv)
  have hi : i < kn K := (List.forall_mem_cons.mp hw2).1
  refine aw_run (M' := M') (vs := vs) (Qk := fun r μ' => aw Γ M (pc + 3) ls (pu M' r st) μ' Q) (a := (Value.ref (g_ad Γ K i) :: vs.map (cv (g_ad Γ))).toArray) (fun _ _ h => h) X hB hR hS hL hl (List.forall_mem_cons.mp hw2).2 ?_
  obtain ⟨p, e, R, s, m, args, below, meth, c, cells, slots, QQ⟩ := X
  have hcb := cb_of hB hm hlk hp hr
  have hcell := rc_cell hB hH hS hi hrc
  obtain ⟨hx, hb, hml, hown, hvm, hf1, hf2, hf3, hf4, -⟩ := hB
  exact va_runV (Ts := []) (C := (m_y M').cls) (As := vs.map (cv (g_ad Γ))) ⟨hx, hb, hml, hown, fun w h => by cases h⟩ k ⟨hcb, hvm.2.1 _ hI.1 args, hvm.2.1 _ hI.2 args⟩ ⟨cw_blind, hcell, fun U hU hW => ⟨by simp [cv], List.forall_mem_cons.mpr ⟨hi, hw1⟩, by rw [hU]; exact hH, ⟨by rw [hU]; exact hS.1, fun q h1 h2 => by rw [hU]; exact hS.2.1 q h1 h2, fun q hq => by cases hq⟩, vm_warm hW hvm⟩⟩ rfl (by rw [List.length_map]) hL.1 (by simp [cv, List.map_reverse]) (lv_room (by have := cat_le (ad := g_ad Γ) st; omega)) hd ⟨hf3, hf4⟩
theorem aw_callVN {M' : mt_T} {idx K i : Nat} {host : String} {vs st0 : List aV} (hd : decode (m_c M) pc = .ok (.invokevirtual idx, 3)) (hm : mk_ok M') (hI : mi_ok M') (hlk : Cond.methodLinkNest (m_y M).cls idx (m_y M') host ∈ tb_n) (hp : mp_n M' vs.length) (hrc : rc_ok K (m_y M').cls) (hr : rm_ok M M') (hst : st.length ≤ 4) (he : vs.reverse ++ aR K i :: st = st0) (k : cw Γ M' (aR K i :: vs) μ (fun r μ' => aw Γ M (pc + 3) ls (pu M' r st) μ' Q)) : aw Γ M pc ls st0 μ Q := by
  intro X hB hR H locs arr hH hS hL hl hw
  subst he
  have hw1 : ∀ v ∈ vs, liv v := fun v hv => hw v (List.mem_append_left _ (List.mem_reverse.mpr hv))
  have hw2 := fun v hv => hw v (List.mem_append_right _ hv)
  have hi : i < kn K := (List.forall_mem_cons.mp hw2).1
  refine aw_run (M' := M') (vs := vs) (Qk := fun r μ' => aw Γ M (pc + 3) ls (pu M' r st) μ' Q) (a := (Value.ref (g_ad Γ K i) :: vs.map (cv (g_ad Γ))).toArray) (fun _ _ h => h) X hB hR hS hL hl (List.forall_mem_cons.mp hw2).2 ?_
  obtain ⟨p, e, R, s, m, args, below, meth, c, cells, slots, QQ⟩ := X
  have hcb := cn_of hB hm hlk hp hr
  have hcell := rc_cell hB hH hS hi hrc
  obtain ⟨hx, hb, hml, hown, hvm, hf1, hf2, hf3, hf4, -⟩ := hB
  exact va_runVN (Ts := []) (C := (m_y M').cls) (As := vs.map (cv (g_ad Γ))) ⟨hx, hb, hml, hown, fun w h => by cases h⟩ k ⟨hcb, hvm.2.1 _ hI.1 args, hvm.2.1 _ hI.2 args⟩ ⟨cw_blind, hcell, fun U hU hW => ⟨by simp [cv], List.forall_mem_cons.mpr ⟨hi, hw1⟩, by rw [hU]; exact hH, ⟨by rw [hU]; exact hS.1, fun q h1 h2 => by rw [hU]; exact hS.2.1 q h1 h2, fun q hq => by cases hq⟩, vm_warm hW hvm⟩⟩ rfl (by rw [List.length_map]) hL.1 (by simp [cv, List.map_reverse]) (lv_room (by have := cat_le (ad := g_ad Γ) st; omega)) hd ⟨hf3, hf4⟩
theorem aw_callS {M' : mt_T} {idx : Nat} {vs st0 : List aV} (hd : decode (m_c M) pc = .ok (.invokestatic idx, 3)) (hm : mk_ok M') (hI : Cond.static (m_y M') ∈ tb_g) (hlk : Cond.methodLink (m_y M).cls idx (m_y M') ∈ tb_g) (hp : mp_n M' vs.length) (hr : rm_ok M M') (hst : st.length ≤ 4) (he : vs.reverse ++ st = st0) (k : cw Γ M' vs μ (fun r μ' => aw Γ M (pc + 3) ls (pu M' r st) μ' Q)) : aw Γ M pc ls st0 μ Q := by
  intro X hB hR H locs arr hH hS hL hl hw
  subst he
  have hw1 : ∀ v ∈ vs, liv v := fun v hv => hw v (List.mem_append_left _ (List.mem_reverse.mpr hv))
  have hw2 := fun v hv => hw v (List.mem_append_right _ hv)
  refine aw_run (M' := M') (vs := vs) (Qk := fun r μ' => aw Γ M (pc + 3) ls (pu M' r st) μ' Q) (a := (vs.map (cv (g_ad Γ))).toArray) (fun _ _ h => h) X hB hR hS hL hl hw2 ?_
  obtain ⟨p, e, R, s, m, args, below, meth, c, cells, slots, QQ⟩ := X
  have hcb := cb_of hB hm hlk hp hr
  obtain ⟨hx, hb, hml, hown, hvm, hf1, hf2, hf3, hf4, -⟩ := hB
  exact va_runS (Ts := []) (As := vs.map (cv (g_ad Γ))) ⟨hx, hb, hml, hown, fun w h => by cases h⟩ k ⟨hcb, hvm.2.1 _ hI args⟩ ⟨cw_blind, fun U hU hW => ⟨rfl, hw1, by rw [hU]; exact hH, ⟨by rw [hU]; exact hS.1, fun q h1 h2 => by rw [hU]; exact hS.2.1 q h1 h2, fun q hq => by cases hq⟩, vm_warm hW hvm⟩⟩ rfl (by rw [List.length_map]) hL.1 (by simp [List.map_reverse]) (lv_room (by have := cat_le (ad := g_ad Γ) st; omega)) hd ⟨hf3, hf4⟩
theorem aw_callSN {M' : mt_T} {idx : Nat} {host : String} {vs st0 : List aV} (hd : decode (m_c M) pc = .ok (.invokestatic idx, 3)) (hm : mk_ok M') (hI : Cond.static (m_y M') ∈ tb_g) (hlk : Cond.methodLinkNest (m_y M).cls idx (m_y M') host ∈ tb_n) (hp : mp_n M' vs.length) (hr : rm_ok M M') (hst : st.length ≤ 4) (he : vs.reverse ++ st = st0) (k : cw Γ M' vs μ (fun r μ' => aw Γ M (pc + 3) ls (pu M' r st) μ' Q)) : aw Γ M pc ls st0 μ Q := by
  intro X hB hR H locs arr hH hS hL hl hw
  subst he
  have hw1 : ∀ v ∈ vs, liv v := fun v hv => hw v (List.mem_append_left _ (List.mem_reverse.mpr hv))
  have hw2 := fun v hv => hw v (List.mem_append_right _ hv)
  refine aw_run (M' := M') (vs := vs) (Qk := fun r μ' => aw Γ M (pc + 3) ls (pu M' r st) μ' Q) (a := (vs.map (cv (g_ad Γ))).toArray) (fun _ _ h => h) X hB hR hS hL hl hw2 ?_
  obtain ⟨p, e, R, s, m, args, below, meth, c, cells, slots, QQ⟩ := X
  have hcb := cn_of hB hm hlk hp hr
  obtain ⟨hx, hb, hml, hown, hvm, hf1, hf2, hf3, hf4, -⟩ := hB
  exact va_runSN (Ts := []) (As := vs.map (cv (g_ad Γ))) ⟨hx, hb, hml, hown, fun w h => by cases h⟩ k ⟨hcb, hvm.2.1 _ hI args, trivial⟩ ⟨cw_blind, fun U hU hW => ⟨rfl, hw1, by rw [hU]; exact hH, ⟨by rw [hU]; exact hS.1, fun q h1 h2 => by rw [hU]; exact hS.2.1 q h1 h2, fun q hq => by cases hq⟩, vm_warm hW hvm⟩⟩ rfl (by rw [List.length_map]) hL.1 (by simp [List.map_reverse]) (lv_room (by have := cat_le (ad := g_ad Γ) st; omega)) hd ⟨hf3, hf4⟩
end AC
end
section
/-- System.arraycopy among arrays of ints -/
def cpy (μ : mH) (K i K' i' sp dp n : Nat) : mH := fun A a s => if A = K' ∧ a = i' ∧ dp ≤ s ∧ s < dp + n then μ K i (sp + (s - dp)) else μ A a s
theorem look_cpy {μ : mH} {K i K' i' sp dp n : Nat} (hI : ∀ s, isI K' s = true) (A a s : Nat) : look (cpy μ K i K' i' sp dp n) A a s = if A = K' ∧ a = i' ∧ dp ≤ s ∧ s < dp + n then aI (μ K i (sp + (s - dp))) else look μ A a s := by
  by_cases h : A = K'
  · subst h
    rw [look_I (hI s), look_I (hI s)]
    unfold cpy
    split <;> rfl
  · rw [if_neg (fun q => h q.1)]
    have e : ∀ s, cpy μ K i K' i' sp dp n A a s = μ A a s := fun s => if_neg (fun q => h q.1)
    unfold look
    simp only [e]
section ACP
variable {Γ : cx_T} {M : mt_T} {pc : Nat} {ls ls' st : List aV} {μ : mH} {Q : aV → mH → Prop}
theorem aw_copy {K i n0 K' i' n1 idx : Nat} {sp dp n : Int32} (hd : decode (m_c M) pc = .ok (.invokestatic idx, 3)) (hlk : Cond.methodLink (m_y M).cls idx arraycopyName ∈ tb_g) (hw1 : Cond.native arraycopyName ∈ tb_g) (hw2 : Cond.static arraycopyName ∈ tb_g) (hw3 : Cond.initialized "java/lang/System" ∈ tb_g) (hk0 : kd K = some (.inr (.int, n0))) (hk1 : kd K' = some (.inr (.int, n1))) (hI0 : ∀ s, isI K s = true) (hI1 : ∀ s, isI K' s = true)
    (h1 : ¬ sp < 0) (h2 : ¬ dp < 0) (h3 : ¬ n < 0) (h4 : sp.toNatClampNeg + n.toNatClampNeg ≤ n0) (h5 : dp.toNatClampNeg + n.toNatClampNeg ≤ n1) (hf0 : 1 ≤ m_f M) (hm0 : 26 ≤ m_w M) (hst : st.length ≤ 4) (k : aw Γ M (pc + 3) ls st (cpy μ K i K' i' sp.toNatClampNeg dp.toNatClampNeg n.toNatClampNeg) Q) : aw Γ M pc ls (aI n :: aI dp :: aR K' i' :: aI sp :: aR K i :: st) μ Q := by
  intro X hB hR H locs arr hH hS hL hl hw
  have hw0 := (List.forall_mem_cons.mp (List.forall_mem_cons.mp hw).2).2
  have hi1 : i' < kn K' := (List.forall_mem_cons.mp hw0).1
  have hw0 := (List.forall_mem_cons.mp (List.forall_mem_cons.mp hw0).2).2
  have hi0 : i < kn K := (List.forall_mem_cons.mp hw0).1
  have hk' := fun H' locs' h1 h2 => k X hB hR H' locs' arr h1 h2 hL hl (List.forall_mem_cons.mp hw0).2
  obtain ⟨p, e, R, s, m, args, below, meth, c, cells, slots, QQ⟩ := X
  obtain ⟨hx, hb, hml, hown, hvm, hfr, hlo, -⟩ := hB
  have hcat := cat_le (ad := g_ad Γ) st
  have ef : (fun j => cv (g_ad Γ) (look μ K i j)) = fun j => Value.int (μ K i j) := funext fun j => by rw [look_I (hI0 j)]; rfl
  have eg : (fun j => cv (g_ad Γ) (look μ K' i' j)) = fun j => Value.int (μ K' i' j) := funext fun j => by rw [look_I (hI1 j)]; rfl
  have nn : ∀ z : Int32, ¬ z < 0 → z.toInt = (z.toNatClampNeg : Int) := by
    intro z hz
    have hz0 : (0 : Int) ≤ z.toInt := by
      have := Int32.not_lt.mp hz
      simpa using Int32.le_iff_toInt_le.mp this
    show z.toInt = ((z.toInt.toNat : Nat) : Int)
    omega
  intro T hT X
  have hc0 := rp_arr hH hi0 hk0
  have hc1 := rp_arr hH hi1 hk1
  rw [ef] at hc0
  rw [eg] at hc1
  obtain ⟨-, k0, hkk0, cm0, hkd0⟩ := (hvm.2.2.2.2.1 K _ n0 hk0).1 n0 (fun j => .int (μ K i j))
  obtain ⟨-, k1, hkk1, cm1, hkd1⟩ := (hvm.2.2.2.2.1 K' _ n1 hk1).1 n1 (fun j => .int (μ K' i' j))
  obtain ⟨vm', X', step⟩ := X.arraycopy hx hown (hvm.2.1 _ hlk args) (hvm.2.1 _ hw1 args) (hvm.2.1 _ hw2 args) (hvm.2.1 _ hw3 args) (src := g_ad Γ K i) (dst := g_ad Γ K' i') (cs := arrV (g_cA Γ K) n0 (fun j => .int (μ K i j))) (cd := arrV (g_cA Γ K') n1 (fun j => .int (μ K' i' j))) (srcPos := sp) (destPos := dp) (n := n) (by rw [hT]; exact hc0) (by rw [hT]; exact hc1)
    (fun _ h => by cases h) (fun _ h => by cases h) (fun h => by cases h) (fun h => by cases h) hkk0 hkk1 hkd0 hkd1 (by simp [refKind]) h1 h2 h3
    (by rw [nn sp h1, nn n h3, arrV_size]; omega)
    (by rw [nn dp h2, nn n h3, arrV_size]; omega)
    (fun vm₁ _ j hj => by
      have e : (arrV (g_cA Γ K) n0 (fun j => .int (μ K i j))).slots.getD (sp.toNatClampNeg + j) .null = .int (μ K i (sp.toNatClampNeg + j)) := by
        rw [Array.getD_eq_getD_getElem?, arrV_read _ _ (by omega)]
        rfl
      refine ⟨?_, ?_⟩
      · rw [e]
        rfl
      · rw [e]
        exact trivial)
    (g := F0 m pc arr ((aI n :: aI dp :: aR K' i' :: aI sp :: aR K i :: st).map (cv (g_ad Γ)))) rfl (by rw [hml]; exact hL.1) (rest := st.map (cv (g_ad Γ))) rfl (by rw [hb]; exact hd) (Nat.le_trans hf0 hfr) (by
      show 2 * 0 + ((st.map (cv (g_ad Γ))).map fun v => v.category).sum + (nativeFrameWords "java/lang/System" "arraycopy" 5 + 11) ≤ R.locals
      have : nativeFrameWords "java/lang/System" "arraycopy" 5 = 7 := by decide
      omega)
  have e1 : copied (arrV (g_cA Γ K) n0 (fun j => .int (μ K i j))) (arrV (g_cA Γ K') n1 (fun j => .int (μ K' i' j))) sp dp n = arrV (g_cA Γ K') n1 (fun j => .int (va_cpy (μ K i) (μ K' i') sp.toNatClampNeg dp.toNatClampNeg n.toNatClampNeg j)) := va_copied (fun z => .int z) _ _ (μ K i) (μ K' i') h4
  rw [e1] at X' step
  have hl : g_ad Γ K' i' < H.size := (Array.getElem?_eq_some_iff.mp hc1).1
  generalize hcell : arrV (g_cA Γ K') n1 (fun j => Value.int (va_cpy (μ K i) (μ K' i') sp.toNatClampNeg dp.toNatClampNeg n.toNatClampNeg j)) = cell at X' step
  have hheap : ((T.setVm vm').setCell (g_ad Γ K' i') cell).heap = H.setIfInBounds (g_ad Γ K' i') cell := by rw [← hT]; rfl
  have oq : ∀ q : Nat, q ≠ g_ad Γ K' i' → (H.setIfInBounds (g_ad Γ K' i') cell)[q]? = H[q]? := fun q hq => by simp [Array.getElem?_setIfInBounds, Ne.symm hq]
  have hA : g_A Γ (g_ad Γ K' i') := hvm.1.2 K' i' (by rw [hk1]; simp) hi1
  obtain ⟨t, a1, b1⟩ := hk' _ _ (rp_set (μ' := cpy μ K i K' i' sp.toNatClampNeg dp.toNatClampNeg n.toNatClampNeg) hvm.1 hH hi1 (by rw [hk1]; simp) (H' := H.setIfInBounds (g_ad Γ K' i') cell) (by simp) oq (by
      unfold rp_c
      rw [hk1]
      show (H.setIfInBounds (g_ad Γ K' i') cell)[g_ad Γ K' i']? = _
      rw [Array.getElem?_setIfInBounds, if_pos rfl, if_pos hl, ← hcell]
      refine congrArg some (congrArg (arrV (g_cA Γ K') n1) (funext fun q => ?_))
      rw [look_cpy hI1]
      unfold va_cpy
      by_cases hq : dp.toNatClampNeg ≤ q ∧ q < dp.toNatClampNeg + n.toNatClampNeg
      · rw [if_pos hq, if_pos ⟨rfl, rfl, hq⟩]
        rfl
      · rw [if_neg hq, if_neg (fun z => hq z.2.2), look_I (hI1 _)]
        rfl) (fun A a s h => by rw [look_cpy hI1, if_neg (fun z => h ⟨z.1, z.2.1⟩)])) ⟨by simp; exact hS.1, fun q g1 g2 => by
      rw [oq q (fun e => g2 (by rw [e]; exact hA))]
      exact hS.2.1 q g1 g2, fun q hq => by
      rcases List.mem_append.mp hq with h | h
      · exact hS.2.2 q h
      · obtain ⟨z, -, hz⟩ := List.mem_map.mp h
        rw [← hz]
        exact hA⟩ _ hheap X'
  exact ⟨t, step t a1, b1⟩
end ACP
end
section
abbrev tn (x : Int32) : Nat := x.toNatClampNeg
/-- what a method answers: an int, a long, nothing, a reference or null -/
abbrev rI (Q : Int32 → mH → Prop) : aV → mH → Prop := fun r μ => ∃ x, r = aI x ∧ Q x μ
abbrev rL (Q : Int64 → mH → Prop) : aV → mH → Prop := fun r μ => ∃ x, r = aL x ∧ Q x μ
abbrev rV (Q : mH → Prop) : aV → mH → Prop := fun _ μ => Q μ
abbrev rQ (K : Nat) (Q : Option Nat → mH → Prop) : aV → mH → Prop := fun r μ => ∃ o, r = aQ K o ∧ Q o μ
abbrev cwi (Γ : cx_T) (M : mt_T) (vs : List aV) (μ : mH) (Q : Int32 → mH → Prop) : Prop := cw Γ M vs μ (rI Q)
abbrev cwl (Γ : cx_T) (M : mt_T) (vs : List aV) (μ : mH) (Q : Int64 → mH → Prop) : Prop := cw Γ M vs μ (rL Q)
abbrev cwv (Γ : cx_T) (M : mt_T) (vs : List aV) (μ : mH) (Q : mH → Prop) : Prop := cw Γ M vs μ (rV Q)
abbrev cwq (K : Nat) (Γ : cx_T) (M : mt_T) (vs : List aV) (μ : mH) (Q : Option Nat → mH → Prop) : Prop := cw Γ M vs μ (rQ K Q)
theorem cwi_mono {Γ : cx_T} {M : mt_T} {vs : List aV} {μ : mH} {Q Q' : Int32 → mH → Prop} (h : cwi Γ M vs μ Q) (hQ : ∀ x μ', Q x μ' → Q' x μ') : cwi Γ M vs μ Q' := cw_mono h (fun _ μ' ⟨x, e, q⟩ => ⟨x, e, hQ x μ' q⟩)
theorem cwl_mono {Γ : cx_T} {M : mt_T} {vs : List aV} {μ : mH} {Q Q' : Int64 → mH → Prop} (h : cwl Γ M vs μ Q) (hQ : ∀ x μ', Q x μ' → Q' x μ') : cwl Γ M vs μ Q' := cw_mono h (fun _ μ' ⟨x, e, q⟩ => ⟨x, e, hQ x μ' q⟩)
theorem cwv_mono {Γ : cx_T} {M : mt_T} {vs : List aV} {μ : mH} {Q Q' : mH → Prop} (h : cwv Γ M vs μ Q) (hQ : ∀ μ', Q μ' → Q' μ') : cwv Γ M vs μ Q' := cw_mono h (fun _ μ' q => hQ μ' q)
theorem cwq_mono {K : Nat} {Γ : cx_T} {M : mt_T} {vs : List aV} {μ : mH} {Q Q' : Option Nat → mH → Prop} (h : cwq K Γ M vs μ Q) (hQ : ∀ o μ', Q o μ' → Q' o μ') : cwq K Γ M vs μ Q' := cw_mono h (fun _ μ' ⟨x, e, q⟩ => ⟨x, e, hQ x μ' q⟩)
def isC1 (v : aV) : Bool := match v with
  | .inr (.inl _) => false
  | _ => true
theorem isC1_cat {v : aV} (h : isC1 v = true) (ad : Nat → Nat → Nat) : (cv ad v).category = 1 := by
  rcases lv_cat (cv ad v) with h1 | h1
  · exact h1
  · obtain ⟨x, rfl⟩ := cv_cat h1
    cases h
def wkL : List aV → List aV → Prop
  | [], [] => True
  | a :: l, b :: r => (a = aX ∨ a = b) ∧ wkL l r
  | _, _ => False
section AU
variable {Γ : cx_T} {M : mt_T} {pc : Nat} {ls ls' st : List aV} {μ : mH} {Q : aV → mH → Prop}
theorem cw_ofU {vs : List aV} (hpl : plainName (m_y M).cls = true ∨ plainFor (m_y M) = true) (hc : vs.all isC1 = true) (hn : vs.length ≤ m_L M) (he : vs ++ List.replicate (m_L M - vs.length) aX = ls) (h : aw Γ M 0 ls [] μ Q) : cw Γ M vs μ Q :=
  cw_of hpl (fun v hv ad => isC1_cat (List.all_eq_true.mp hc v hv) ad) hn he h
theorem wk_at : ∀ (ls' ls : List aV), wkL ls' ls → ∀ (i : Nat) (v : aV), ls'[i]? = some v → v ≠ aX → ls[i]? = some v
  | [], [], _, i, v, h, _ => by simp at h
  | [], _ :: _, h0, _, _, _, _ => h0.elim
  | _ :: _, [], h0, _, _, _, _ => h0.elim
  | a :: l, b :: r, h0, 0, v, h, hv => by
    rw [List.getElem?_cons_zero] at h ⊢
    rcases h0.1 with e | e
    · rw [e] at h; cases h; exact absurd rfl hv
    · rw [← e]; exact h
  | a :: l, b :: r, h0, i + 1, v, h, hv => by
    rw [List.getElem?_cons_succ] at h ⊢
    exact wk_at l r h0.2 i v h hv
theorem aw_wk (h : wkL ls' ls) (k : aw Γ M pc ls' st μ Q) : aw Γ M pc ls st μ Q := aw_weak (wk_at ls' ls h) k
theorem look_R {K i s a b : Nat} (h : rs K s = true) (hq : rf K i s = (a, b)) : look μ K i s = aR a b := by
  unfold look
  rw [if_pos h, hq]
theorem look_cpo {i s j : Nat} (h : cpo (μ 26 i s) = some j) : look μ 26 i s = aR 7 j := by
  show aQ 7 (cpo (μ 26 i s)) = _
  rw [h]
  rfl
theorem aw_ia {K i n j : Nat} {x y : Int32} (hd : decode (m_c M) pc = .ok (.iaload, 1)) (hk : kd K = some (.inr (.int, n))) (hI : ∀ s, isI K s = true) (hin : vp_in x n) (hj : x.toNatClampNeg = j) (hv : μ K i j = y) (k : aw Γ M (pc + 1) ls (aI y :: st) μ Q) : aw Γ M pc ls (aI x :: aR K i :: st) μ Q := by
  subst hj; subst hv
  exact aw_iald hd hk hI hin k
theorem aw_ba {K i n j : Nat} {x y : Int32} (hd : decode (m_c M) pc = .ok (.baload, 1)) (hk : kd K = some (.inr (.byte, n))) (hI : ∀ s, isI K s = true) (hin : vp_in x n) (hj : x.toNatClampNeg = j) (hv : μ K i j = y) (k : aw Γ M (pc + 1) ls (aI y :: st) μ Q) : aw Γ M pc ls (aI x :: aR K i :: st) μ Q := by
  subst hj; subst hv
  exact aw_bald hd hk hI hin k
theorem aw_za {K i n j : Nat} {x y : Int32} (hd : decode (m_c M) pc = .ok (.baload, 1)) (hk : kd K = some (.inr (.boolean, n))) (hI : ∀ s, isI K s = true) (hin : vp_in x n) (hj : x.toNatClampNeg = j) (hv : μ K i j = y) (k : aw Γ M (pc + 1) ls (aI y :: st) μ Q) : aw Γ M pc ls (aI x :: aR K i :: st) μ Q := by
  subst hj; subst hv
  exact aw_zald hd hk hI hin k
theorem aw_is {K i n j : Nat} {x y : Int32} (hd : decode (m_c M) pc = .ok (.iastore, 1)) (hk : kd K = some (.inr (.int, n))) (hI : ∀ s, isI K s = true) (hin : vp_in x n) (hj : x.toNatClampNeg = j) (k : aw Γ M (pc + 1) ls st (sto μ K i j y) Q) : aw Γ M pc ls (aI y :: aI x :: aR K i :: st) μ Q := by
  subst hj
  exact aw_iast hd hk hI hin k
theorem aw_bs {K i n j : Nat} {x y : Int32} (hd : decode (m_c M) pc = .ok (.bastore, 1)) (hk : kd K = some (.inr (.byte, n))) (hI : ∀ s, isI K s = true) (hin : vp_in x n) (hj : x.toNatClampNeg = j) (k : aw Γ M (pc + 1) ls st (sto μ K i j y.toInt8.toInt32) Q) : aw Γ M pc ls (aI y :: aI x :: aR K i :: st) μ Q := by
  subst hj
  exact aw_bast hd hk hI hin k
theorem aw_zs {K i n j : Nat} {x y : Int32} (hd : decode (m_c M) pc = .ok (.bastore, 1)) (hk : kd K = some (.inr (.boolean, n))) (hI : ∀ s, isI K s = true) (hin : vp_in x n) (hj : x.toNatClampNeg = j) (k : aw Γ M (pc + 1) ls st (sto μ K i j (y &&& 1)) Q) : aw Γ M pc ls (aI y :: aI x :: aR K i :: st) μ Q := by
  subst hj
  exact aw_zast hd hk hI hin k
theorem le_trans2 {a b c : Nat} (h : a ≤ b) (h2 : b ≤ c) : a ≤ c := Nat.le_trans h h2
theorem cp_w1 : Cond.native arraycopyName ∈ tb_g := tb_gm 669 (by decide +kernel) (by decide +kernel)
theorem cp_w2 : Cond.static arraycopyName ∈ tb_g := tb_gm 668 (by decide +kernel) (by decide +kernel)
theorem cp_w3 : Cond.initialized "java/lang/System" ∈ tb_g := tb_gm 79 (by decide +kernel) (by decide +kernel)
theorem aw_copy0 {K i n0 K' i' n1 idx : Nat} {n : Int32} (hd : decode (m_c M) pc = .ok (.invokestatic idx, 3)) (hlk : Cond.methodLink (m_y M).cls idx arraycopyName ∈ tb_g) (hk0 : kd K = some (.inr (.int, n0))) (hk1 : kd K' = some (.inr (.int, n1))) (hI0 : ∀ s, isI K s = true) (hI1 : ∀ s, isI K' s = true)
    (h3 : ¬ n < 0) (h4 : n.toNatClampNeg ≤ n0) (h5 : n.toNatClampNeg ≤ n1) (hf0 : 1 ≤ m_f M) (hm0 : 26 ≤ m_w M) (k : aw Γ M (pc + 3) ls st (cpy μ K i K' i' 0 0 (tn n)) Q) (hst : st.length ≤ 4 := by decide) : aw Γ M pc ls (aI n :: aI (0 : Int32) :: aR K' i' :: aI (0 : Int32) :: aR K i :: st) μ Q :=
  aw_copy hd hlk cp_w1 cp_w2 cp_w3 hk0 hk1 hI0 hI1 (by decide) (by decide) h3 (by show 0 + _ ≤ _; omega) (by show 0 + _ ≤ _; omega) hf0 hm0 hst k
end AU
end
section
theorem cd_X0_write : Cond.code yX0_write cX0_write 4 none ∈ tb_g := tb_gm 852 (by decide +kernel) (by decide +kernel)
theorem cd_X0_add : Cond.code yX0_add cX0_add 3 none ∈ tb_g := tb_gm 861 (by decide +kernel) (by decide +kernel)
theorem cd_X0_holds : Cond.code yX0_holds cX0_holds 2 (some .boolean) ∈ tb_g := tb_gm 908 (by decide +kernel) (by decide +kernel)
theorem cd_X0_rowOf : Cond.code yX0_rowOf cX0_rowOf 2 (some (.array .int)) ∈ tb_g := tb_gm 869 (by decide +kernel) (by decide +kernel)
theorem cd_X0_walk : Cond.code yX0_walk cX0_walk 5 none ∈ tb_g := tb_gm 912 (by decide +kernel) (by decide +kernel)
theorem cd_X0_faultsBy : Cond.code yX0_faultsBy cX0_faultsBy 8 (some .int) ∈ tb_g := tb_gm 882 (by decide +kernel) (by decide +kernel)
theorem cd_X0_inFiles : Cond.code yX0_inFiles cX0_inFiles 5 (some .int) ∈ tb_g := tb_gm 948 (by decide +kernel) (by decide +kernel)
theorem cd_X0_lostOnes : Cond.code yX0_lostOnes cX0_lostOnes 4 (some .int) ∈ tb_g := tb_gm 891 (by decide +kernel) (by decide +kernel)
theorem cd_X0_findUnlike : Cond.code yX0_findUnlike cX0_findUnlike 2 (some .boolean) ∈ tb_g := tb_gm 873 (by decide +kernel) (by decide +kernel)
theorem cd_X0_join : Cond.code yX0_join cX0_join 6 none ∈ tb_g := tb_gm 877 (by decide +kernel) (by decide +kernel)
theorem cd_X0_choose : Cond.code yX0_choose cX0_choose 5 none ∈ tb_g := tb_gm 895 (by decide +kernel) (by decide +kernel)
theorem cd_X1_search : Cond.code yX1_search cX1_search 7 none ∈ tb_g := tb_gm 688 (by decide +kernel) (by decide +kernel)
theorem cd_X1_rightOnes : Cond.code yX1_rightOnes cX1_rightOnes 3 (some .int) ∈ tb_g := tb_gm 765 (by decide +kernel) (by decide +kernel)
theorem cd_X1_slipsOfRight : Cond.code yX1_slipsOfRight cX1_slipsOfRight 3 (some .int) ∈ tb_g := tb_gm 773 (by decide +kernel) (by decide +kernel)
theorem cd_X2_push : Cond.code yX2_push cX2_push 3 none ∈ tb_g := tb_gm 500 (by decide +kernel) (by decide +kernel)
theorem cd_X2_parse : Cond.code yX2_parse cX2_parse 4 (some .int) ∈ tb_g := tb_gm 515 (by decide +kernel) (by decide +kernel)
theorem cd_X2_lineBegun : Cond.code yX2_lineBegun cX2_lineBegun 1 (some .int) ∈ tb_g := tb_gm 539 (by decide +kernel) (by decide +kernel)
theorem cd_X2_takeRest : Cond.code yX2_takeRest cX2_takeRest 4 (some .boolean) ∈ tb_g := tb_gm 601 (by decide +kernel) (by decide +kernel)
theorem cd_X2_takeMark : Cond.code yX2_takeMark cX2_takeMark 2 (some .boolean) ∈ tb_g := tb_gm 609 (by decide +kernel) (by decide +kernel)
theorem cd_X2_takeSum : Cond.code yX2_takeSum cX2_takeSum 2 (some .boolean) ∈ tb_g := tb_gm 613 (by decide +kernel) (by decide +kernel)
theorem cd_X2_takeNumber : Cond.code yX2_takeNumber cX2_takeNumber 3 (some .boolean) ∈ tb_g := tb_gm 605 (by decide +kernel) (by decide +kernel)
theorem cd_X2_takeStop : Cond.code yX2_takeStop cX2_takeStop 1 (some .boolean) ∈ tb_g := tb_gm 621 (by decide +kernel) (by decide +kernel)
theorem cd_X2_isWord : Cond.code yX2_isWord cX2_isWord 3 (some .boolean) ∈ tb_g := tb_gm 544 (by decide +kernel) (by decide +kernel)
theorem cd_X2_step : Cond.code yX2_step cX2_step 1 none ∈ tb_g := tb_gm 523 (by decide +kernel) (by decide +kernel)
theorem cd_X2_isLong : Cond.code yX2_isLong cX2_isLong 1 (some .boolean) ∈ tb_g := tb_gm 531 (by decide +kernel) (by decide +kernel)
theorem cd_X2_kindAt : Cond.code yX2_kindAt cX2_kindAt 3 (some .int) ∈ tb_g := tb_gm 527 (by decide +kernel) (by decide +kernel)
theorem cd_X3_forget : Cond.code yX3_forget cX3_forget 1 none ∈ tb_g := tb_gm 634 (by decide +kernel) (by decide +kernel)
theorem cd_X3_judgeCluster : Cond.code yX3_judgeCluster cX3_judgeCluster 4 (some .int) ∈ tb_g := tb_gm 921 (by decide +kernel) (by decide +kernel)
theorem cd_X3_judge : Cond.code yX3_judge cX3_judge 5 none ∈ tb_g := tb_gm 785 (by decide +kernel) (by decide +kernel)
theorem cd_X3_vote : Cond.code yX3_vote cX3_vote 4 (some .int) ∈ tb_g := tb_gm 838 (by decide +kernel) (by decide +kernel)
theorem cd_X3_gather : Cond.code yX3_gather cX3_gather 6 none ∈ tb_g := tb_gm 789 (by decide +kernel) (by decide +kernel)
theorem cd_X3_rightAgree : Cond.code yX3_rightAgree cX3_rightAgree 4 (some .boolean) ∈ tb_g := tb_gm 794 (by decide +kernel) (by decide +kernel)
theorem cd_X3_mend : Cond.code yX3_mend cX3_mend 8 (some .boolean) ∈ tb_g := tb_gm 803 (by decide +kernel) (by decide +kernel)
theorem cd_X3_gatherKinds : Cond.code yX3_gatherKinds cX3_gatherKinds 6 (some .boolean) ∈ tb_g := tb_gm 808 (by decide +kernel) (by decide +kernel)
theorem cd_X3_hasKind : Cond.code yX3_hasKind cX3_hasKind 4 (some .boolean) ∈ tb_g := tb_gm 816 (by decide +kernel) (by decide +kernel)
theorem cd_X3_hasSum : Cond.code yX3_hasSum cX3_hasSum 3 (some .boolean) ∈ tb_g := tb_gm 822 (by decide +kernel) (by decide +kernel)
theorem cd_X3_keepRow : Cond.code yX3_keepRow cX3_keepRow 3 none ∈ tb_g := tb_gm 826 (by decide +kernel) (by decide +kernel)
theorem cd_X3_chooseAnother : Cond.code yX3_chooseAnother cX3_chooseAnother 3 (some .int) ∈ tb_g := tb_gm 830 (by decide +kernel) (by decide +kernel)
theorem cd_X4_clear : Cond.code yX4_clear cX4_clear 1 none ∈ tb_g := tb_gm 519 (by decide +kernel) (by decide +kernel)
theorem cd_X4_take : Cond.code yX4_take cX4_take 2 none ∈ tb_g := tb_gm 630 (by decide +kernel) (by decide +kernel)
theorem cd_X4_firstByte : Cond.code yX4_firstByte cX4_firstByte 3 (some .int) ∈ tb_g := tb_gm 701 (by decide +kernel) (by decide +kernel)
theorem cd_X4_secondByte : Cond.code yX4_secondByte cX4_secondByte 3 (some .int) ∈ tb_g := tb_gm 705 (by decide +kernel) (by decide +kernel)
theorem cd_X4_sumOfHead : Cond.code yX4_sumOfHead cX4_sumOfHead 4 (some .int) ∈ tb_g := tb_gm 714 (by decide +kernel) (by decide +kernel)
theorem cd_X4_sumOf : Cond.code yX4_sumOf cX4_sumOf 6 (some .int) ∈ tb_g := tb_gm 710 (by decide +kernel) (by decide +kernel)
theorem cd_X4_sumWith : Cond.code yX4_sumWith cX4_sumWith 5 (some .int) ∈ tb_g := tb_gm 719 (by decide +kernel) (by decide +kernel)
theorem cd_X5_fill : Cond.code yX5_fill cX5_fill 11 none ∈ tb_g := tb_gm 673 (by decide +kernel) (by decide +kernel)
theorem cd_X5_push : Cond.code yX5_push cX5_push 3 none ∈ tb_g := tb_gm 681 (by decide +kernel) (by decide +kernel)
theorem cd_X6_write : Cond.code yX6_write cX6_write 6 (some .boolean) ∈ tb_g := tb_gm 959 (by decide +kernel) (by decide +kernel)
theorem cd_X6_pushByte : Cond.code yX6_pushByte cX6_pushByte 4 none ∈ tb_g := tb_gm 968 (by decide +kernel) (by decide +kernel)
theorem cd_X6_pushBit : Cond.code yX6_pushBit cX6_pushBit 2 none ∈ tb_g := tb_gm 963 (by decide +kernel) (by decide +kernel)
theorem cd_X7_isRight : Cond.code yX7_isRight cX7_isRight 1 (some .boolean) ∈ tb_g := tb_gm 769 (by decide +kernel) (by decide +kernel)
theorem cd_X7_take : Cond.code yX7_take cX7_take 8 none ∈ tb_g := tb_gm 693 (by decide +kernel) (by decide +kernel)
theorem cd_X7_hasData : Cond.code yX7_hasData cX7_hasData 4 (some .boolean) ∈ tb_g := tb_gm 798 (by decide +kernel) (by decide +kernel)
theorem cd_X7_byteOrSum : Cond.code yX7_byteOrSum cX7_byteOrSum 3 (some .int) ∈ tb_g := tb_gm 812 (by decide +kernel) (by decide +kernel)
theorem cd_X7_byteAt : Cond.code yX7_byteAt cX7_byteAt 6 (some .int) ∈ tb_g := tb_gm 697 (by decide +kernel) (by decide +kernel)
theorem cd_X7_slipsIn : Cond.code yX7_slipsIn cX7_slipsIn 8 (some .int) ∈ tb_g := tb_gm 726 (by decide +kernel) (by decide +kernel)
theorem cd_X8_holds : Cond.code yX8_holds cX8_holds 2 (some .boolean) ∈ tb_g := tb_gm 742 (by decide +kernel) (by decide +kernel)
theorem cd_X8_put : Cond.code yX8_put cX8_put 6 none ∈ tb_g := tb_gm 662 (by decide +kernel) (by decide +kernel)
theorem cd_X8_tune : Cond.code yX8_tune cX8_tune 9 none ∈ tb_g := tb_gm 754 (by decide +kernel) (by decide +kernel)
theorem cd_X8_keepBetter : Cond.code yX8_keepBetter cX8_keepBetter 6 none ∈ tb_g := tb_gm 761 (by decide +kernel) (by decide +kernel)
theorem cd_X8_hopeOf : Cond.code yX8_hopeOf cX8_hopeOf 6 (some .int) ∈ tb_g := tb_gm 932 (by decide +kernel) (by decide +kernel)
theorem cd_X10_push : Cond.code yX10_push cX10_push 4 none ∈ tb_g := tb_gm 646 (by decide +kernel) (by decide +kernel)
theorem cd_X10_take : Cond.code yX10_take cX10_take 2 none ∈ tb_g := tb_gm 666 (by decide +kernel) (by decide +kernel)
theorem cd_X11_feed : Cond.code yX11_feed cX11_feed 6 (some .int) ∈ tb_g := tb_gm 496 (by decide +kernel) (by decide +kernel)
theorem cd_X11_end : Cond.code yX11_end cX11_end 2 (some .boolean) ∈ tb_g := tb_gm 507 (by decide +kernel) (by decide +kernel)
theorem cd_X11_fault : Cond.code yX11_fault cX11_fault 1 (some .int) ∈ tb_g := tb_gm 511 (by decide +kernel) (by decide +kernel)
theorem cd_X11_format : Cond.code yX11_format cX11_format 1 (some .int) ∈ tb_g := tb_gm 626 (by decide +kernel) (by decide +kernel)
theorem cd_X11_flux : Cond.code yX11_flux cX11_flux 7 (some .int) ∈ tb_g := tb_gm 638 (by decide +kernel) (by decide +kernel)
theorem cd_X11_wipe : Cond.code yX11_wipe cX11_wipe 2 (some .int) ∈ tb_g := tb_gm 651 (by decide +kernel) (by decide +kernel)
theorem cd_X11_read : Cond.code yX11_read cX11_read 2 (some .int) ∈ tb_g := tb_gm 655 (by decide +kernel) (by decide +kernel)
theorem cd_X11_raw : Cond.code yX11_raw cX11_raw 4 (some .int) ∈ tb_g := tb_gm 733 (by decide +kernel) (by decide +kernel)
theorem cd_X11_found : Cond.code yX11_found cX11_found 5 (some .int) ∈ tb_g := tb_gm 738 (by decide +kernel) (by decide +kernel)
theorem cd_X11_tuned : Cond.code yX11_tuned cX11_tuned 4 (some .int) ∈ tb_g := tb_gm 750 (by decide +kernel) (by decide +kernel)
theorem cd_X11_status : Cond.code yX11_status cX11_status 4 (some .int) ∈ tb_g := tb_gm 777 (by decide +kernel) (by decide +kernel)
theorem cd_X11_value : Cond.code yX11_value cX11_value 4 (some .int) ∈ tb_g := tb_gm 834 (by decide +kernel) (by decide +kernel)
theorem cd_X11_tell : Cond.code yX11_tell cX11_tell 4 (some .boolean) ∈ tb_g := tb_gm 845 (by decide +kernel) (by decide +kernel)
theorem cd_X11_file : Cond.code yX11_file cX11_file 3 (some .int) ∈ tb_g := tb_gm 857 (by decide +kernel) (by decide +kernel)
theorem cd_X11_mishaps : Cond.code yX11_mishaps cX11_mishaps 3 (some .int) ∈ tb_g := tb_gm 865 (by decide +kernel) (by decide +kernel)
theorem cd_X11_next : Cond.code yX11_next cX11_next 4 (some .int) ∈ tb_g := tb_gm 900 (by decide +kernel) (by decide +kernel)
theorem cd_X11_chain : Cond.code yX11_chain cX11_chain 5 (some .int) ∈ tb_g := tb_gm 904 (by decide +kernel) (by decide +kernel)
theorem cd_X11_gaps : Cond.code yX11_gaps cX11_gaps 5 (some .int) ∈ tb_g := tb_gm 917 (by decide +kernel) (by decide +kernel)
theorem cd_X11_hope : Cond.code yX11_hope cX11_hope 2 (some .int) ∈ tb_g := tb_gm 928 (by decide +kernel) (by decide +kernel)
theorem cd_X11_ask : Cond.code yX11_ask cX11_ask 2 (some .int) ∈ tb_g := tb_gm 936 (by decide +kernel) (by decide +kernel)
theorem cd_X11_written : Cond.code yX11_written cX11_written 4 (some .int) ∈ tb_g := tb_gm 955 (by decide +kernel) (by decide +kernel)
theorem cd_X11_count : Cond.code yX11_count cX11_count 2 (some .int) ∈ tb_g := tb_gm 975 (by decide +kernel) (by decide +kernel)
theorem cd_X11_ofSector : Cond.code yX11_ofSector cX11_ofSector 3 (some .int) ∈ tb_g := tb_gm 746 (by decide +kernel) (by decide +kernel)
theorem cd_X11_canJudge : Cond.code yX11_canJudge cX11_canJudge 3 (some .boolean) ∈ tb_g := tb_gm 781 (by decide +kernel) (by decide +kernel)
theorem cd_X11_bestDrive : Cond.code yX11_bestDrive cX11_bestDrive 5 (some .int) ∈ tb_g := tb_gm 940 (by decide +kernel) (by decide +kernel)
theorem cd_X11_worstTrack : Cond.code yX11_worstTrack cX11_worstTrack 9 (some .int) ∈ tb_g := tb_gm 944 (by decide +kernel) (by decide +kernel)
theorem cd_X11_isDrive : Cond.code yX11_isDrive cX11_isDrive 1 (some .boolean) ∈ tb_g := tb_gm 658 (by decide +kernel) (by decide +kernel)
theorem cd_X11_isCluster : Cond.code yX11_isCluster cX11_isCluster 1 (some .boolean) ∈ tb_g := tb_gm 848 (by decide +kernel) (by decide +kernel)
theorem cd_X11_soundStatus : Cond.code yX11_soundStatus cX11_soundStatus 1 (some .boolean) ∈ tb_g := tb_gm 841 (by decide +kernel) (by decide +kernel)
theorem cd_X11_byteOf : Cond.code yX11_byteOf cX11_byteOf 2 (some .int) ∈ tb_g := tb_gm 503 (by decide +kernel) (by decide +kernel)
theorem cd_X11_stepsIn : Cond.code yX11_stepsIn cX11_stepsIn 3 (some .int) ∈ tb_g := tb_gm 641 (by decide +kernel) (by decide +kernel)
theorem cd_X11_clockDue : Cond.code yX11_clockDue cX11_clockDue 2 (some .int) ∈ tb_g := tb_gm 729 (by decide +kernel) (by decide +kernel)
theorem cd_X12_in : Cond.code yX12_in cX12_in 3 (some .boolean) ∈ tb_g := tb_gm 1108 (by decide +kernel) (by decide +kernel)
theorem cd_X12_feed : Cond.code yX12_feed cX12_feed 8 (some .int) ∈ tb_g := tb_gm 1101 (by decide +kernel) (by decide +kernel)
theorem cd_X12_end : Cond.code yX12_end cX12_end 2 (some .boolean) ∈ tb_g := tb_gm 1105 (by decide +kernel) (by decide +kernel)
theorem cd_X12_isLetter : Cond.code yX12_isLetter cX12_isLetter 1 (some .boolean) ∈ tb_g := tb_gm 1119 (by decide +kernel) (by decide +kernel)
theorem cd_X12_isDigit : Cond.code yX12_isDigit cX12_isDigit 1 (some .boolean) ∈ tb_g := tb_gm 1122 (by decide +kernel) (by decide +kernel)
theorem cd_X12_leads : Cond.code yX12_leads cX12_leads 2 none ∈ tb_g := tb_gm 1116 (by decide +kernel) (by decide +kernel)
theorem cd_X12_packed : Cond.code yX12_packed cX12_packed 4 (some .long) ∈ tb_g := tb_gm 1137 (by decide +kernel) (by decide +kernel)
theorem cd_X12_isWord : Cond.code yX12_isWord cX12_isWord 2 (some .boolean) ∈ tb_g := tb_gm 1134 (by decide +kernel) (by decide +kernel)
theorem cd_X12_number : Cond.code yX12_number cX12_number 4 (some .boolean) ∈ tb_g := tb_gm 1148 (by decide +kernel) (by decide +kernel)
theorem cd_X12_closes : Cond.code yX12_closes cX12_closes 1 (some .boolean) ∈ tb_g := tb_gm 1160 (by decide +kernel) (by decide +kernel)
theorem cd_X12_sumHere : Cond.code yX12_sumHere cX12_sumHere 1 (some .boolean) ∈ tb_g := tb_gm 1152 (by decide +kernel) (by decide +kernel)
theorem cd_X12_line : Cond.code yX12_line cX12_line 3 (some .boolean) ∈ tb_g := tb_gm 1129 (by decide +kernel) (by decide +kernel)
theorem cd_X12_fault : Cond.code yX12_fault cX12_fault 2 (some .int) ∈ tb_g := tb_gm 1112 (by decide +kernel) (by decide +kernel)
theorem cd_X12_format : Cond.code yX12_format cX12_format 2 (some .int) ∈ tb_g := tb_gm 1164 (by decide +kernel) (by decide +kernel)
theorem cd_X12_flux : Cond.code yX12_flux cX12_flux 9 (some .int) ∈ tb_g := tb_gm 1169 (by decide +kernel) (by decide +kernel)
theorem cd_X12_byteOf : Cond.code yX12_byteOf cX12_byteOf 7 (some .int) ∈ tb_g := tb_gm 1172 (by decide +kernel) (by decide +kernel)
theorem cd_X12_wipe : Cond.code yX12_wipe cX12_wipe 2 (some .int) ∈ tb_g := tb_gm 1176 (by decide +kernel) (by decide +kernel)
theorem cd_X12_read : Cond.code yX12_read cX12_read 3 (some .int) ∈ tb_g := tb_gm 1180 (by decide +kernel) (by decide +kernel)
theorem cd_X12_turns : Cond.code yX12_turns cX12_turns 10 none ∈ tb_g := tb_gm 1188 (by decide +kernel) (by decide +kernel)
theorem cd_X12_raw : Cond.code yX12_raw cX12_raw 4 (some .int) ∈ tb_g := tb_gm 1184 (by decide +kernel) (by decide +kernel)
theorem cd_X12_many : Cond.code yX12_many cX12_many 1 (some .int) ∈ tb_g := tb_gm 1201 (by decide +kernel) (by decide +kernel)
theorem cd_X12_bitOf : Cond.code yX12_bitOf cX12_bitOf 2 (some .int) ∈ tb_g := tb_gm 1208 (by decide +kernel) (by decide +kernel)
theorem cd_X12_isMark : Cond.code yX12_isMark cX12_isMark 4 (some .boolean) ∈ tb_g := tb_gm 1205 (by decide +kernel) (by decide +kernel)
theorem cd_X12_finds : Cond.code yX12_finds cX12_finds 6 none ∈ tb_g := tb_gm 1197 (by decide +kernel) (by decide +kernel)
theorem cd_X12_takes : Cond.code yX12_takes cX12_takes 8 none ∈ tb_g := tb_gm 1212 (by decide +kernel) (by decide +kernel)
theorem cd_X12_sumOf : Cond.code yX12_sumOf cX12_sumOf 4 (some .int) ∈ tb_g := tb_gm 1232 (by decide +kernel) (by decide +kernel)
theorem cd_X12_sumOfSector : Cond.code yX12_sumOfSector cX12_sumOfSector 3 (some .int) ∈ tb_g := tb_gm 1228 (by decide +kernel) (by decide +kernel)
theorem cd_X12_told : Cond.code yX12_told cX12_told 2 (some .int) ∈ tb_g := tb_gm 1224 (by decide +kernel) (by decide +kernel)
theorem cd_X12_isRight : Cond.code yX12_isRight cX12_isRight 2 (some .boolean) ∈ tb_g := tb_gm 1242 (by decide +kernel) (by decide +kernel)
theorem cd_X12_trackOf : Cond.code yX12_trackOf cX12_trackOf 2 (some .int) ∈ tb_g := tb_gm 1216 (by decide +kernel) (by decide +kernel)
theorem cd_X12_numberOf : Cond.code yX12_numberOf cX12_numberOf 2 (some .int) ∈ tb_g := tb_gm 1220 (by decide +kernel) (by decide +kernel)
theorem cd_X12_found : Cond.code yX12_found cX12_found 4 (some .int) ∈ tb_g := tb_gm 1193 (by decide +kernel) (by decide +kernel)
theorem cd_X12_tuned : Cond.code yX12_tuned cX12_tuned 12 (some .int) ∈ tb_g := tb_gm 1236 (by decide +kernel) (by decide +kernel)
theorem cd_X12_gathers : Cond.code yX12_gathers cX12_gathers 6 none ∈ tb_g := tb_gm 1258 (by decide +kernel) (by decide +kernel)
theorem cd_X12_isAhead : Cond.code yX12_isAhead cX12_isAhead 4 (some .boolean) ∈ tb_g := tb_gm 1266 (by decide +kernel) (by decide +kernel)
theorem cd_X12_mends : Cond.code yX12_mends cX12_mends 6 (some .int) ∈ tb_g := tb_gm 1262 (by decide +kernel) (by decide +kernel)
theorem cd_X12_statusOf : Cond.code yX12_statusOf cX12_statusOf 7 (some .int) ∈ tb_g := tb_gm 1254 (by decide +kernel) (by decide +kernel)
theorem cd_X12_isWhole : Cond.code yX12_isWhole cX12_isWhole 1 (some .boolean) ∈ tb_g := tb_gm 1273 (by decide +kernel) (by decide +kernel)
theorem cd_X12_isSector : Cond.code yX12_isSector cX12_isSector 3 (some .boolean) ∈ tb_g := tb_gm 1250 (by decide +kernel) (by decide +kernel)
theorem cd_X12_status : Cond.code yX12_status cX12_status 7 (some .int) ∈ tb_g := tb_gm 1246 (by decide +kernel) (by decide +kernel)
theorem cd_X12_value : Cond.code yX12_value cX12_value 10 (some .int) ∈ tb_g := tb_gm 1270 (by decide +kernel) (by decide +kernel)
theorem cd_X12_isCluster : Cond.code yX12_isCluster cX12_isCluster 1 (some .boolean) ∈ tb_g := tb_gm 1280 (by decide +kernel) (by decide +kernel)
theorem cd_X12_tell : Cond.code yX12_tell cX12_tell 4 (some .boolean) ∈ tb_g := tb_gm 1277 (by decide +kernel) (by decide +kernel)
theorem cd_X12_file : Cond.code yX12_file cX12_file 3 (some .int) ∈ tb_g := tb_gm 1284 (by decide +kernel) (by decide +kernel)
theorem cd_X12_chains : Cond.code yX12_chains cX12_chains 4 none ∈ tb_g := tb_gm 1308 (by decide +kernel) (by decide +kernel)
theorem cd_X12_mishapsNow : Cond.code yX12_mishapsNow cX12_mishapsNow 5 (some .int) ∈ tb_g := tb_gm 1304 (by decide +kernel) (by decide +kernel)
theorem cd_X12_takesFrom : Cond.code yX12_takesFrom cX12_takesFrom 3 none ∈ tb_g := tb_gm 1297 (by decide +kernel) (by decide +kernel)
theorem cd_X12_ones : Cond.code yX12_ones cX12_ones 3 (some .int) ∈ tb_g := tb_gm 1300 (by decide +kernel) (by decide +kernel)
theorem cd_X12_asks : Cond.code yX12_asks cX12_asks 8 (some .boolean) ∈ tb_g := tb_gm 1292 (by decide +kernel) (by decide +kernel)
theorem cd_X12_mishaps : Cond.code yX12_mishaps cX12_mishaps 2 (some .int) ∈ tb_g := tb_gm 1288 (by decide +kernel) (by decide +kernel)
theorem cd_X12_next : Cond.code yX12_next cX12_next 3 (some .int) ∈ tb_g := tb_gm 1312 (by decide +kernel) (by decide +kernel)
theorem cd_X12_chain : Cond.code yX12_chain cX12_chain 4 (some .int) ∈ tb_g := tb_gm 1316 (by decide +kernel) (by decide +kernel)
theorem cd_X12_gaps : Cond.code yX12_gaps cX12_gaps 4 (some .int) ∈ tb_g := tb_gm 1320 (by decide +kernel) (by decide +kernel)
theorem cd_X12_hope : Cond.code yX12_hope cX12_hope 7 (some .int) ∈ tb_g := tb_gm 1324 (by decide +kernel) (by decide +kernel)
theorem cd_X12_ask : Cond.code yX12_ask cX12_ask 8 (some .int) ∈ tb_g := tb_gm 1328 (by decide +kernel) (by decide +kernel)
theorem cd_X12_lays : Cond.code yX12_lays cX12_lays 2 (some .boolean) ∈ tb_g := tb_gm 1341 (by decide +kernel) (by decide +kernel)
theorem cd_X12_writes : Cond.code yX12_writes cX12_writes 8 (some .boolean) ∈ tb_g := tb_gm 1337 (by decide +kernel) (by decide +kernel)
theorem cd_X12_written : Cond.code yX12_written cX12_written 4 (some .int) ∈ tb_g := tb_gm 1333 (by decide +kernel) (by decide +kernel)
theorem cd_X12_count : Cond.code yX12_count cX12_count 2 (some .int) ∈ tb_g := tb_gm 1345 (by decide +kernel) (by decide +kernel)
theorem cd_J6_bitCount_0f7a4 : Cond.code yJ6_bitCount_0f7a4 cJ6_bitCount_0f7a4 1 (some .int) ∈ tb_g := tb_gm 885 (by decide +kernel) (by decide +kernel)
theorem cd_J9_floorDiv_7cf53 : Cond.code yJ9_floorDiv_7cf53 cJ9_floorDiv_7cf53 3 (some .int) ∈ tb_g := tb_gm 684 (by decide +kernel) (by decide +kernel)
theorem cd_J9_max_7cf53 : Cond.code yJ9_max_7cf53 cJ9_max_7cf53 2 (some .int) ∈ tb_g := tb_gm 676 (by decide +kernel) (by decide +kernel)
theorem cd_J9_min_7cf53 : Cond.code yJ9_min_7cf53 cJ9_min_7cf53 2 (some .int) ∈ tb_g := tb_gm 535 (by decide +kernel) (by decide +kernel)
theorem cd_J0_length_8abf5 : Cond.code yJ0_length_8abf5 cJ0_length_8abf5 1 (some .int) ∈ tb_g := tb_gm 548 (by decide +kernel) (by decide +kernel)
theorem cd_J0_charAt_5068e : Cond.code yJ0_charAt_5068e cJ0_charAt_5068e 2 (some .char) ∈ tb_g := tb_gm 558 (by decide +kernel) (by decide +kernel)
theorem cd_J0_coder_7d493 : Cond.code yJ0_coder_7d493 cJ0_coder_7d493 1 (some .byte) ∈ tb_g := tb_gm 552 (by decide +kernel) (by decide +kernel)
theorem cd_J0_isLatin1_aae02 : Cond.code yJ0_isLatin1_aae02 cJ0_isLatin1_aae02 1 (some .boolean) ∈ tb_g := tb_gm 562 (by decide +kernel) (by decide +kernel)
theorem cd_J0_checkIndex_df160 : Cond.code yJ0_checkIndex_df160 cJ0_checkIndex_df160 2 none ∈ tb_g := tb_gm 568 (by decide +kernel) (by decide +kernel)
theorem cd_J1_charAt_3b067 : Cond.code yJ1_charAt_3b067 cJ1_charAt_3b067 2 (some .char) ∈ tb_g := tb_gm 565 (by decide +kernel) (by decide +kernel)
theorem cd_J7_fill_53178 : Cond.code yJ7_fill_53178 cJ7_fill_53178 4 none ∈ tb_g := tb_gm 346 (by decide +kernel) (by decide +kernel)
theorem cd_J3_checkIndex_8e157 : Cond.code yJ3_checkIndex_8e157 cJ3_checkIndex_8e157 3 (some .int) ∈ tb_g := tb_gm 573 (by decide +kernel) (by decide +kernel)
end
section
abbrev M_X0_write : mt_T := (yX0_write, cX0_write, 4, none, 1, 20)
theorem mk_X0_write : mk_ok M_X0_write := ⟨cd_X0_write, tb_gm 71 (by decide +kernel) (by decide +kernel), by decide, by decide⟩
theorem mi_X0_write : mi_ok M_X0_write := ⟨tb_gm 850 (by decide +kernel) (by decide +kernel), tb_gm 851 (by decide +kernel) (by decide +kernel)⟩
theorem mp_X0_write : mp_n M_X0_write 3 := by unfold mp_n; decide +kernel
abbrev M_X0_add : mt_T := (yX0_add, cX0_add, 3, none, 0, 0)
theorem mk_X0_add : mk_ok M_X0_add := ⟨cd_X0_add, tb_gm 71 (by decide +kernel) (by decide +kernel), by decide, by decide⟩
theorem mi_X0_add : mi_ok M_X0_add := ⟨tb_gm 859 (by decide +kernel) (by decide +kernel), tb_gm 860 (by decide +kernel) (by decide +kernel)⟩
theorem mp_X0_add : mp_n M_X0_add 2 := by unfold mp_n; decide +kernel
abbrev M_X0_holds : mt_T := (yX0_holds, cX0_holds, 2, some .boolean, 0, 0)
theorem mk_X0_holds : mk_ok M_X0_holds := ⟨cd_X0_holds, tb_gm 71 (by decide +kernel) (by decide +kernel), by decide, by decide⟩
theorem mi_X0_holds : mi_ok M_X0_holds := ⟨tb_gm 906 (by decide +kernel) (by decide +kernel), tb_gm 907 (by decide +kernel) (by decide +kernel)⟩
theorem mp_X0_holds : mp_n M_X0_holds 1 := by unfold mp_n; decide +kernel
abbrev M_X0_rowOf : mt_T := (yX0_rowOf, cX0_rowOf, 2, some (.array .int), 3, 75)
theorem mk_X0_rowOf : mk_ok M_X0_rowOf := ⟨cd_X0_rowOf, tb_gm 71 (by decide +kernel) (by decide +kernel), by decide, by decide⟩
theorem mi_X0_rowOf : mi_ok M_X0_rowOf := ⟨tb_gm 867 (by decide +kernel) (by decide +kernel), tb_gm 868 (by decide +kernel) (by decide +kernel)⟩
theorem mp_X0_rowOf : mp_n M_X0_rowOf 1 := by unfold mp_n; decide +kernel
abbrev M_X0_walk : mt_T := (yX0_walk, cX0_walk, 5, none, 1, 21)
theorem mk_X0_walk : mk_ok M_X0_walk := ⟨cd_X0_walk, tb_gm 71 (by decide +kernel) (by decide +kernel), by decide, by decide⟩
theorem mi_X0_walk : mi_ok M_X0_walk := ⟨tb_gm 910 (by decide +kernel) (by decide +kernel), tb_gm 911 (by decide +kernel) (by decide +kernel)⟩
theorem mp_X0_walk : mp_n M_X0_walk 2 := by unfold mp_n; decide +kernel
abbrev M_X0_faultsBy : mt_T := (yX0_faultsBy, cX0_faultsBy, 8, some .int, 1, 23)
theorem mk_X0_faultsBy : mk_ok M_X0_faultsBy := ⟨cd_X0_faultsBy, tb_gm 71 (by decide +kernel) (by decide +kernel), by decide, by decide⟩
theorem mi_X0_faultsBy : mi_ok M_X0_faultsBy := ⟨tb_gm 880 (by decide +kernel) (by decide +kernel), tb_gm 881 (by decide +kernel) (by decide +kernel)⟩
theorem mp_X0_faultsBy : mp_n M_X0_faultsBy 1 := by unfold mp_n; decide +kernel
abbrev M_X0_inFiles : mt_T := (yX0_inFiles, cX0_inFiles, 5, some .int, 4, 96)
theorem mk_X0_inFiles : mk_ok M_X0_inFiles := ⟨cd_X0_inFiles, tb_gm 71 (by decide +kernel) (by decide +kernel), by decide, by decide⟩
theorem mi_X0_inFiles : mi_ok M_X0_inFiles := ⟨tb_gm 946 (by decide +kernel) (by decide +kernel), tb_gm 947 (by decide +kernel) (by decide +kernel)⟩
theorem mp_X0_inFiles : mp_n M_X0_inFiles 0 := by unfold mp_n; decide +kernel
abbrev M_X0_lostOnes : mt_T := (yX0_lostOnes, cX0_lostOnes, 4, some .int, 0, 0)
theorem mk_X0_lostOnes : mk_ok M_X0_lostOnes := ⟨cd_X0_lostOnes, tb_gm 71 (by decide +kernel) (by decide +kernel), by decide, by decide⟩
theorem ms_X0_lostOnes : Cond.static (m_y M_X0_lostOnes) ∈ tb_g := tb_gm 890 (by decide +kernel) (by decide +kernel)
theorem mp_X0_lostOnes : mp_n M_X0_lostOnes 2 := by unfold mp_n; decide +kernel
abbrev M_X0_findUnlike : mt_T := (yX0_findUnlike, cX0_findUnlike, 2, some .boolean, 0, 0)
theorem mk_X0_findUnlike : mk_ok M_X0_findUnlike := ⟨cd_X0_findUnlike, tb_gm 71 (by decide +kernel) (by decide +kernel), by decide, by decide⟩
theorem mi_X0_findUnlike : mi_ok M_X0_findUnlike := ⟨tb_gm 872 (by decide +kernel) (by decide +kernel), tb_gm 24 (by decide +kernel) (by decide +kernel)⟩
theorem mp_X0_findUnlike : mp_n M_X0_findUnlike 0 := by unfold mp_n; decide +kernel
abbrev M_X0_join : mt_T := (yX0_join, cX0_join, 6, none, 2, 50)
theorem mk_X0_join : mk_ok M_X0_join := ⟨cd_X0_join, tb_gm 71 (by decide +kernel) (by decide +kernel), by decide, by decide⟩
theorem mi_X0_join : mi_ok M_X0_join := ⟨tb_gm 876 (by decide +kernel) (by decide +kernel), tb_gm 25 (by decide +kernel) (by decide +kernel)⟩
theorem mp_X0_join : mp_n M_X0_join 0 := by unfold mp_n; decide +kernel
abbrev M_X0_choose : mt_T := (yX0_choose, cX0_choose, 5, none, 0, 0)
theorem mk_X0_choose : mk_ok M_X0_choose := ⟨cd_X0_choose, tb_gm 71 (by decide +kernel) (by decide +kernel), by decide, by decide⟩
theorem mi_X0_choose : mi_ok M_X0_choose := ⟨tb_gm 894 (by decide +kernel) (by decide +kernel), tb_gm 26 (by decide +kernel) (by decide +kernel)⟩
theorem mp_X0_choose : mp_n M_X0_choose 2 := by unfold mp_n; decide +kernel
abbrev M_X1_search : mt_T := (yX1_search, cX1_search, 7, none, 4, 99)
theorem mk_X1_search : mk_ok M_X1_search := ⟨cd_X1_search, tb_gm 66 (by decide +kernel) (by decide +kernel), by decide, by decide⟩
theorem mi_X1_search : mi_ok M_X1_search := ⟨tb_gm 686 (by decide +kernel) (by decide +kernel), tb_gm 687 (by decide +kernel) (by decide +kernel)⟩
theorem mp_X1_search : mp_n M_X1_search 2 := by unfold mp_n; decide +kernel
abbrev M_X1_rightOnes : mt_T := (yX1_rightOnes, cX1_rightOnes, 3, some .int, 1, 20)
theorem mk_X1_rightOnes : mk_ok M_X1_rightOnes := ⟨cd_X1_rightOnes, tb_gm 66 (by decide +kernel) (by decide +kernel), by decide, by decide⟩
theorem mi_X1_rightOnes : mi_ok M_X1_rightOnes := ⟨tb_gm 763 (by decide +kernel) (by decide +kernel), tb_gm 764 (by decide +kernel) (by decide +kernel)⟩
theorem mp_X1_rightOnes : mp_n M_X1_rightOnes 0 := by unfold mp_n; decide +kernel
abbrev M_X1_slipsOfRight : mt_T := (yX1_slipsOfRight, cX1_slipsOfRight, 3, some .int, 1, 20)
theorem mk_X1_slipsOfRight : mk_ok M_X1_slipsOfRight := ⟨cd_X1_slipsOfRight, tb_gm 66 (by decide +kernel) (by decide +kernel), by decide, by decide⟩
theorem mi_X1_slipsOfRight : mi_ok M_X1_slipsOfRight := ⟨tb_gm 771 (by decide +kernel) (by decide +kernel), tb_gm 772 (by decide +kernel) (by decide +kernel)⟩
theorem mp_X1_slipsOfRight : mp_n M_X1_slipsOfRight 0 := by unfold mp_n; decide +kernel
abbrev M_X2_push : mt_T := (yX2_push, cX2_push, 3, none, 1, 21)
theorem mk_X2_push : mk_ok M_X2_push := ⟨cd_X2_push, tb_gm 61 (by decide +kernel) (by decide +kernel), by decide, by decide⟩
theorem mi_X2_push : mi_ok M_X2_push := ⟨tb_gm 498 (by decide +kernel) (by decide +kernel), tb_gm 499 (by decide +kernel) (by decide +kernel)⟩
theorem mp_X2_push : mp_n M_X2_push 1 := by unfold mp_n; decide +kernel
abbrev M_X2_parse : mt_T := (yX2_parse, cX2_parse, 4, some .int, 7, 151)
theorem mk_X2_parse : mk_ok M_X2_parse := ⟨cd_X2_parse, tb_gm 61 (by decide +kernel) (by decide +kernel), by decide, by decide⟩
theorem mi_X2_parse : mi_ok M_X2_parse := ⟨tb_gm 513 (by decide +kernel) (by decide +kernel), tb_gm 514 (by decide +kernel) (by decide +kernel)⟩
theorem mp_X2_parse : mp_n M_X2_parse 1 := by unfold mp_n; decide +kernel
abbrev M_X2_lineBegun : mt_T := (yX2_lineBegun, cX2_lineBegun, 1, some .int, 5, 107)
theorem mk_X2_lineBegun : mk_ok M_X2_lineBegun := ⟨cd_X2_lineBegun, tb_gm 61 (by decide +kernel) (by decide +kernel), by decide, by decide⟩
theorem mi_X2_lineBegun : mi_ok M_X2_lineBegun := ⟨tb_gm 538 (by decide +kernel) (by decide +kernel), tb_gm 3 (by decide +kernel) (by decide +kernel)⟩
theorem mp_X2_lineBegun : mp_n M_X2_lineBegun 0 := by unfold mp_n; decide +kernel
abbrev M_X2_takeRest : mt_T := (yX2_takeRest, cX2_takeRest, 4, some .boolean, 6, 128)
theorem mk_X2_takeRest : mk_ok M_X2_takeRest := ⟨cd_X2_takeRest, tb_gm 61 (by decide +kernel) (by decide +kernel), by decide, by decide⟩
theorem mi_X2_takeRest : mi_ok M_X2_takeRest := ⟨tb_gm 600 (by decide +kernel) (by decide +kernel), tb_gm 5 (by decide +kernel) (by decide +kernel)⟩
theorem mp_X2_takeRest : mp_n M_X2_takeRest 2 := by unfold mp_n; decide +kernel
abbrev M_X2_takeMark : mt_T := (yX2_takeMark, cX2_takeMark, 2, some .boolean, 3, 64)
theorem mk_X2_takeMark : mk_ok M_X2_takeMark := ⟨cd_X2_takeMark, tb_gm 61 (by decide +kernel) (by decide +kernel), by decide, by decide⟩
theorem mi_X2_takeMark : mi_ok M_X2_takeMark := ⟨tb_gm 608 (by decide +kernel) (by decide +kernel), tb_gm 7 (by decide +kernel) (by decide +kernel)⟩
theorem mp_X2_takeMark : mp_n M_X2_takeMark 1 := by unfold mp_n; decide +kernel
abbrev M_X2_takeSum : mt_T := (yX2_takeSum, cX2_takeSum, 2, some .boolean, 5, 107)
theorem mk_X2_takeSum : mk_ok M_X2_takeSum := ⟨cd_X2_takeSum, tb_gm 61 (by decide +kernel) (by decide +kernel), by decide, by decide⟩
theorem mi_X2_takeSum : mi_ok M_X2_takeSum := ⟨tb_gm 612 (by decide +kernel) (by decide +kernel), tb_gm 8 (by decide +kernel) (by decide +kernel)⟩
theorem mp_X2_takeSum : mp_n M_X2_takeSum 1 := by unfold mp_n; decide +kernel
abbrev M_X2_takeNumber : mt_T := (yX2_takeNumber, cX2_takeNumber, 3, some .boolean, 2, 42)
theorem mk_X2_takeNumber : mk_ok M_X2_takeNumber := ⟨cd_X2_takeNumber, tb_gm 61 (by decide +kernel) (by decide +kernel), by decide, by decide⟩
theorem mi_X2_takeNumber : mi_ok M_X2_takeNumber := ⟨tb_gm 604 (by decide +kernel) (by decide +kernel), tb_gm 6 (by decide +kernel) (by decide +kernel)⟩
theorem mp_X2_takeNumber : mp_n M_X2_takeNumber 2 := by unfold mp_n; decide +kernel
abbrev M_X2_takeStop : mt_T := (yX2_takeStop, cX2_takeStop, 1, some .boolean, 2, 42)
theorem mk_X2_takeStop : mk_ok M_X2_takeStop := ⟨cd_X2_takeStop, tb_gm 61 (by decide +kernel) (by decide +kernel), by decide, by decide⟩
theorem mi_X2_takeStop : mi_ok M_X2_takeStop := ⟨tb_gm 620 (by decide +kernel) (by decide +kernel), tb_gm 9 (by decide +kernel) (by decide +kernel)⟩
theorem mp_X2_takeStop : mp_n M_X2_takeStop 0 := by unfold mp_n; decide +kernel
abbrev M_X2_isWord : mt_T := (yX2_isWord, cX2_isWord, 3, some .boolean, 4, 85)
theorem mk_X2_isWord : mk_ok M_X2_isWord := ⟨cd_X2_isWord, tb_gm 61 (by decide +kernel) (by decide +kernel), by decide, by decide⟩
theorem mi_X2_isWord : mi_ok M_X2_isWord := ⟨tb_gm 543 (by decide +kernel) (by decide +kernel), tb_gm 4 (by decide +kernel) (by decide +kernel)⟩
theorem mp_X2_isWord : mp_n M_X2_isWord 1 := by unfold mp_n; decide +kernel
abbrev M_X2_step : mt_T := (yX2_step, cX2_step, 1, none, 1, 22)
theorem mk_X2_step : mk_ok M_X2_step := ⟨cd_X2_step, tb_gm 61 (by decide +kernel) (by decide +kernel), by decide, by decide⟩
theorem mi_X2_step : mi_ok M_X2_step := ⟨tb_gm 522 (by decide +kernel) (by decide +kernel), tb_gm 0 (by decide +kernel) (by decide +kernel)⟩
theorem mp_X2_step : mp_n M_X2_step 0 := by unfold mp_n; decide +kernel
abbrev M_X2_isLong : mt_T := (yX2_isLong, cX2_isLong, 1, some .boolean, 0, 0)
theorem mk_X2_isLong : mk_ok M_X2_isLong := ⟨cd_X2_isLong, tb_gm 61 (by decide +kernel) (by decide +kernel), by decide, by decide⟩
theorem mi_X2_isLong : mi_ok M_X2_isLong := ⟨tb_gm 530 (by decide +kernel) (by decide +kernel), tb_gm 2 (by decide +kernel) (by decide +kernel)⟩
theorem mp_X2_isLong : mp_n M_X2_isLong 0 := by unfold mp_n; decide +kernel
abbrev M_X2_kindAt : mt_T := (yX2_kindAt, cX2_kindAt, 3, some .int, 0, 0)
theorem mk_X2_kindAt : mk_ok M_X2_kindAt := ⟨cd_X2_kindAt, tb_gm 61 (by decide +kernel) (by decide +kernel), by decide, by decide⟩
theorem mi_X2_kindAt : mi_ok M_X2_kindAt := ⟨tb_gm 526 (by decide +kernel) (by decide +kernel), tb_gm 1 (by decide +kernel) (by decide +kernel)⟩
theorem mp_X2_kindAt : mp_n M_X2_kindAt 1 := by unfold mp_n; decide +kernel
abbrev M_X3_forget : mt_T := (yX3_forget, cX3_forget, 1, none, 1, 23)
theorem mk_X3_forget : mk_ok M_X3_forget := ⟨cd_X3_forget, tb_gm 69 (by decide +kernel) (by decide +kernel), by decide, by decide⟩
theorem mi_X3_forget : mi_ok M_X3_forget := ⟨tb_gm 632 (by decide +kernel) (by decide +kernel), tb_gm 633 (by decide +kernel) (by decide +kernel)⟩
theorem mp_X3_forget : mp_n M_X3_forget 0 := by unfold mp_n; decide +kernel
abbrev M_X3_judgeCluster : mt_T := (yX3_judgeCluster, cX3_judgeCluster, 4, some .int, 4, 99)
theorem mk_X3_judgeCluster : mk_ok M_X3_judgeCluster := ⟨cd_X3_judgeCluster, tb_gm 69 (by decide +kernel) (by decide +kernel), by decide, by decide⟩
theorem mi_X3_judgeCluster : mi_ok M_X3_judgeCluster := ⟨tb_gm 919 (by decide +kernel) (by decide +kernel), tb_gm 920 (by decide +kernel) (by decide +kernel)⟩
theorem mp_X3_judgeCluster : mp_n M_X3_judgeCluster 3 := by unfold mp_n; decide +kernel
abbrev M_X3_judge : mt_T := (yX3_judge, cX3_judge, 5, none, 3, 75)
theorem mk_X3_judge : mk_ok M_X3_judge := ⟨cd_X3_judge, tb_gm 69 (by decide +kernel) (by decide +kernel), by decide, by decide⟩
theorem mi_X3_judge : mi_ok M_X3_judge := ⟨tb_gm 783 (by decide +kernel) (by decide +kernel), tb_gm 784 (by decide +kernel) (by decide +kernel)⟩
theorem mp_X3_judge : mp_n M_X3_judge 4 := by unfold mp_n; decide +kernel
abbrev M_X3_vote : mt_T := (yX3_vote, cX3_vote, 4, some .int, 1, 23)
theorem mk_X3_vote : mk_ok M_X3_vote := ⟨cd_X3_vote, tb_gm 69 (by decide +kernel) (by decide +kernel), by decide, by decide⟩
theorem mi_X3_vote : mi_ok M_X3_vote := ⟨tb_gm 836 (by decide +kernel) (by decide +kernel), tb_gm 837 (by decide +kernel) (by decide +kernel)⟩
theorem mp_X3_vote : mp_n M_X3_vote 1 := by unfold mp_n; decide +kernel
abbrev M_X3_gather : mt_T := (yX3_gather, cX3_gather, 6, none, 1, 20)
theorem mk_X3_gather : mk_ok M_X3_gather := ⟨cd_X3_gather, tb_gm 69 (by decide +kernel) (by decide +kernel), by decide, by decide⟩
theorem mi_X3_gather : mi_ok M_X3_gather := ⟨tb_gm 788 (by decide +kernel) (by decide +kernel), tb_gm 16 (by decide +kernel) (by decide +kernel)⟩
theorem mp_X3_gather : mp_n M_X3_gather 1 := by unfold mp_n; decide +kernel
abbrev M_X3_rightAgree : mt_T := (yX3_rightAgree, cX3_rightAgree, 4, some .boolean, 1, 26)
theorem mk_X3_rightAgree : mk_ok M_X3_rightAgree := ⟨cd_X3_rightAgree, tb_gm 69 (by decide +kernel) (by decide +kernel), by decide, by decide⟩
theorem mi_X3_rightAgree : mi_ok M_X3_rightAgree := ⟨tb_gm 793 (by decide +kernel) (by decide +kernel), tb_gm 17 (by decide +kernel) (by decide +kernel)⟩
theorem mp_X3_rightAgree : mp_n M_X3_rightAgree 1 := by unfold mp_n; decide +kernel
abbrev M_X3_mend : mt_T := (yX3_mend, cX3_mend, 8, some .boolean, 2, 48)
theorem mk_X3_mend : mk_ok M_X3_mend := ⟨cd_X3_mend, tb_gm 69 (by decide +kernel) (by decide +kernel), by decide, by decide⟩
theorem mi_X3_mend : mi_ok M_X3_mend := ⟨tb_gm 802 (by decide +kernel) (by decide +kernel), tb_gm 18 (by decide +kernel) (by decide +kernel)⟩
theorem mp_X3_mend : mp_n M_X3_mend 1 := by unfold mp_n; decide +kernel
abbrev M_X3_gatherKinds : mt_T := (yX3_gatherKinds, cX3_gatherKinds, 6, some .boolean, 1, 23)
theorem mk_X3_gatherKinds : mk_ok M_X3_gatherKinds := ⟨cd_X3_gatherKinds, tb_gm 69 (by decide +kernel) (by decide +kernel), by decide, by decide⟩
theorem mi_X3_gatherKinds : mi_ok M_X3_gatherKinds := ⟨tb_gm 807 (by decide +kernel) (by decide +kernel), tb_gm 19 (by decide +kernel) (by decide +kernel)⟩
theorem mp_X3_gatherKinds : mp_n M_X3_gatherKinds 1 := by unfold mp_n; decide +kernel
abbrev M_X3_hasKind : mt_T := (yX3_hasKind, cX3_hasKind, 4, some .boolean, 0, 0)
theorem mk_X3_hasKind : mk_ok M_X3_hasKind := ⟨cd_X3_hasKind, tb_gm 69 (by decide +kernel) (by decide +kernel), by decide, by decide⟩
theorem mi_X3_hasKind : mi_ok M_X3_hasKind := ⟨tb_gm 815 (by decide +kernel) (by decide +kernel), tb_gm 20 (by decide +kernel) (by decide +kernel)⟩
theorem mp_X3_hasKind : mp_n M_X3_hasKind 2 := by unfold mp_n; decide +kernel
abbrev M_X3_hasSum : mt_T := (yX3_hasSum, cX3_hasSum, 3, some .boolean, 1, 23)
theorem mk_X3_hasSum : mk_ok M_X3_hasSum := ⟨cd_X3_hasSum, tb_gm 69 (by decide +kernel) (by decide +kernel), by decide, by decide⟩
theorem mi_X3_hasSum : mi_ok M_X3_hasSum := ⟨tb_gm 821 (by decide +kernel) (by decide +kernel), tb_gm 21 (by decide +kernel) (by decide +kernel)⟩
theorem mp_X3_hasSum : mp_n M_X3_hasSum 2 := by unfold mp_n; decide +kernel
abbrev M_X3_keepRow : mt_T := (yX3_keepRow, cX3_keepRow, 3, none, 0, 0)
theorem mk_X3_keepRow : mk_ok M_X3_keepRow := ⟨cd_X3_keepRow, tb_gm 69 (by decide +kernel) (by decide +kernel), by decide, by decide⟩
theorem mi_X3_keepRow : mi_ok M_X3_keepRow := ⟨tb_gm 825 (by decide +kernel) (by decide +kernel), tb_gm 22 (by decide +kernel) (by decide +kernel)⟩
theorem mp_X3_keepRow : mp_n M_X3_keepRow 1 := by unfold mp_n; decide +kernel
abbrev M_X3_chooseAnother : mt_T := (yX3_chooseAnother, cX3_chooseAnother, 3, some .int, 0, 0)
theorem mk_X3_chooseAnother : mk_ok M_X3_chooseAnother := ⟨cd_X3_chooseAnother, tb_gm 69 (by decide +kernel) (by decide +kernel), by decide, by decide⟩
theorem mi_X3_chooseAnother : mi_ok M_X3_chooseAnother := ⟨tb_gm 829 (by decide +kernel) (by decide +kernel), tb_gm 23 (by decide +kernel) (by decide +kernel)⟩
theorem mp_X3_chooseAnother : mp_n M_X3_chooseAnother 1 := by unfold mp_n; decide +kernel
abbrev M_X4_clear : mt_T := (yX4_clear, cX4_clear, 1, none, 0, 0)
theorem mk_X4_clear : mk_ok M_X4_clear := ⟨cd_X4_clear, tb_gm 62 (by decide +kernel) (by decide +kernel), by decide, by decide⟩
theorem mi_X4_clear : mi_ok M_X4_clear := ⟨tb_gm 517 (by decide +kernel) (by decide +kernel), tb_gm 518 (by decide +kernel) (by decide +kernel)⟩
theorem mp_X4_clear : mp_n M_X4_clear 0 := by unfold mp_n; decide +kernel
abbrev M_X4_take : mt_T := (yX4_take, cX4_take, 2, none, 0, 0)
theorem mk_X4_take : mk_ok M_X4_take := ⟨cd_X4_take, tb_gm 62 (by decide +kernel) (by decide +kernel), by decide, by decide⟩
theorem mi_X4_take : mi_ok M_X4_take := ⟨tb_gm 628 (by decide +kernel) (by decide +kernel), tb_gm 629 (by decide +kernel) (by decide +kernel)⟩
theorem mp_X4_take : mp_n M_X4_take 1 := by unfold mp_n; decide +kernel
abbrev M_X4_firstByte : mt_T := (yX4_firstByte, cX4_firstByte, 3, some .int, 0, 0)
theorem mk_X4_firstByte : mk_ok M_X4_firstByte := ⟨cd_X4_firstByte, tb_gm 62 (by decide +kernel) (by decide +kernel), by decide, by decide⟩
theorem mi_X4_firstByte : mi_ok M_X4_firstByte := ⟨tb_gm 699 (by decide +kernel) (by decide +kernel), tb_gm 700 (by decide +kernel) (by decide +kernel)⟩
theorem mp_X4_firstByte : mp_n M_X4_firstByte 2 := by unfold mp_n; decide +kernel
abbrev M_X4_secondByte : mt_T := (yX4_secondByte, cX4_secondByte, 3, some .int, 0, 0)
theorem mk_X4_secondByte : mk_ok M_X4_secondByte := ⟨cd_X4_secondByte, tb_gm 62 (by decide +kernel) (by decide +kernel), by decide, by decide⟩
theorem mi_X4_secondByte : mi_ok M_X4_secondByte := ⟨tb_gm 703 (by decide +kernel) (by decide +kernel), tb_gm 704 (by decide +kernel) (by decide +kernel)⟩
theorem mp_X4_secondByte : mp_n M_X4_secondByte 2 := by unfold mp_n; decide +kernel
abbrev M_X4_sumOfHead : mt_T := (yX4_sumOfHead, cX4_sumOfHead, 4, some .int, 1, 24)
theorem mk_X4_sumOfHead : mk_ok M_X4_sumOfHead := ⟨cd_X4_sumOfHead, tb_gm 62 (by decide +kernel) (by decide +kernel), by decide, by decide⟩
theorem mi_X4_sumOfHead : mi_ok M_X4_sumOfHead := ⟨tb_gm 712 (by decide +kernel) (by decide +kernel), tb_gm 713 (by decide +kernel) (by decide +kernel)⟩
theorem mp_X4_sumOfHead : mp_n M_X4_sumOfHead 2 := by unfold mp_n; decide +kernel
abbrev M_X4_sumOf : mt_T := (yX4_sumOf, cX4_sumOf, 6, some .int, 2, 47)
theorem mk_X4_sumOf : mk_ok M_X4_sumOf := ⟨cd_X4_sumOf, tb_gm 62 (by decide +kernel) (by decide +kernel), by decide, by decide⟩
theorem mi_X4_sumOf : mi_ok M_X4_sumOf := ⟨tb_gm 708 (by decide +kernel) (by decide +kernel), tb_gm 709 (by decide +kernel) (by decide +kernel)⟩
theorem mp_X4_sumOf : mp_n M_X4_sumOf 3 := by unfold mp_n; decide +kernel
abbrev M_X4_sumWith : mt_T := (yX4_sumWith, cX4_sumWith, 5, some .int, 0, 0)
theorem mk_X4_sumWith : mk_ok M_X4_sumWith := ⟨cd_X4_sumWith, tb_gm 62 (by decide +kernel) (by decide +kernel), by decide, by decide⟩
theorem mi_X4_sumWith : mi_ok M_X4_sumWith := ⟨tb_gm 717 (by decide +kernel) (by decide +kernel), tb_gm 718 (by decide +kernel) (by decide +kernel)⟩
theorem mp_X4_sumWith : mp_n M_X4_sumWith 2 := by unfold mp_n; decide +kernel
abbrev M_X5_fill : mt_T := (yX5_fill, cX5_fill, 11, none, 1, 22)
theorem mk_X5_fill : mk_ok M_X5_fill := ⟨cd_X5_fill, tb_gm 64 (by decide +kernel) (by decide +kernel), by decide, by decide⟩
theorem mi_X5_fill : mi_ok M_X5_fill := ⟨tb_gm 671 (by decide +kernel) (by decide +kernel), tb_gm 672 (by decide +kernel) (by decide +kernel)⟩
theorem mp_X5_fill : mp_n M_X5_fill 3 := by unfold mp_n; decide +kernel
abbrev M_X5_push : mt_T := (yX5_push, cX5_push, 3, none, 0, 0)
theorem mk_X5_push : mk_ok M_X5_push := ⟨cd_X5_push, tb_gm 64 (by decide +kernel) (by decide +kernel), by decide, by decide⟩
theorem mi_X5_push : mi_ok M_X5_push := ⟨tb_gm 680 (by decide +kernel) (by decide +kernel), tb_gm 10 (by decide +kernel) (by decide +kernel)⟩
theorem mp_X5_push : mp_n M_X5_push 1 := by unfold mp_n; decide +kernel
abbrev M_X6_write : mt_T := (yX6_write, cX6_write, 6, some .boolean, 3, 72)
theorem mk_X6_write : mk_ok M_X6_write := ⟨cd_X6_write, tb_gm 72 (by decide +kernel) (by decide +kernel), by decide, by decide⟩
theorem mi_X6_write : mi_ok M_X6_write := ⟨tb_gm 957 (by decide +kernel) (by decide +kernel), tb_gm 958 (by decide +kernel) (by decide +kernel)⟩
theorem mp_X6_write : mp_n M_X6_write 4 := by unfold mp_n; decide +kernel
abbrev M_X6_pushByte : mt_T := (yX6_pushByte, cX6_pushByte, 4, none, 1, 21)
theorem mk_X6_pushByte : mk_ok M_X6_pushByte := ⟨cd_X6_pushByte, tb_gm 72 (by decide +kernel) (by decide +kernel), by decide, by decide⟩
theorem mi_X6_pushByte : mi_ok M_X6_pushByte := ⟨tb_gm 967 (by decide +kernel) (by decide +kernel), tb_gm 30 (by decide +kernel) (by decide +kernel)⟩
theorem mp_X6_pushByte : mp_n M_X6_pushByte 1 := by unfold mp_n; decide +kernel
abbrev M_X6_pushBit : mt_T := (yX6_pushBit, cX6_pushBit, 2, none, 0, 0)
theorem mk_X6_pushBit : mk_ok M_X6_pushBit := ⟨cd_X6_pushBit, tb_gm 72 (by decide +kernel) (by decide +kernel), by decide, by decide⟩
theorem mi_X6_pushBit : mi_ok M_X6_pushBit := ⟨tb_gm 962 (by decide +kernel) (by decide +kernel), tb_gm 29 (by decide +kernel) (by decide +kernel)⟩
theorem mp_X6_pushBit : mp_n M_X6_pushBit 1 := by unfold mp_n; decide +kernel
abbrev M_X7_isRight : mt_T := (yX7_isRight, cX7_isRight, 1, some .boolean, 0, 0)
theorem mk_X7_isRight : mk_ok M_X7_isRight := ⟨cd_X7_isRight, tb_gm 67 (by decide +kernel) (by decide +kernel), by decide, by decide⟩
theorem mi_X7_isRight : mi_ok M_X7_isRight := ⟨tb_gm 767 (by decide +kernel) (by decide +kernel), tb_gm 768 (by decide +kernel) (by decide +kernel)⟩
theorem mp_X7_isRight : mp_n M_X7_isRight 0 := by unfold mp_n; decide +kernel
abbrev M_X7_take : mt_T := (yX7_take, cX7_take, 8, none, 3, 72)
theorem mk_X7_take : mk_ok M_X7_take := ⟨cd_X7_take, tb_gm 67 (by decide +kernel) (by decide +kernel), by decide, by decide⟩
theorem mi_X7_take : mi_ok M_X7_take := ⟨tb_gm 691 (by decide +kernel) (by decide +kernel), tb_gm 692 (by decide +kernel) (by decide +kernel)⟩
theorem mp_X7_take : mp_n M_X7_take 3 := by unfold mp_n; decide +kernel
abbrev M_X7_hasData : mt_T := (yX7_hasData, cX7_hasData, 4, some .boolean, 0, 0)
theorem mk_X7_hasData : mk_ok M_X7_hasData := ⟨cd_X7_hasData, tb_gm 67 (by decide +kernel) (by decide +kernel), by decide, by decide⟩
theorem mi_X7_hasData : mi_ok M_X7_hasData := ⟨tb_gm 796 (by decide +kernel) (by decide +kernel), tb_gm 797 (by decide +kernel) (by decide +kernel)⟩
theorem mp_X7_hasData : mp_n M_X7_hasData 2 := by unfold mp_n; decide +kernel
abbrev M_X7_byteOrSum : mt_T := (yX7_byteOrSum, cX7_byteOrSum, 3, some .int, 0, 0)
theorem mk_X7_byteOrSum : mk_ok M_X7_byteOrSum := ⟨cd_X7_byteOrSum, tb_gm 67 (by decide +kernel) (by decide +kernel), by decide, by decide⟩
theorem mi_X7_byteOrSum : mi_ok M_X7_byteOrSum := ⟨tb_gm 810 (by decide +kernel) (by decide +kernel), tb_gm 811 (by decide +kernel) (by decide +kernel)⟩
theorem mp_X7_byteOrSum : mp_n M_X7_byteOrSum 2 := by unfold mp_n; decide +kernel
abbrev M_X7_byteAt : mt_T := (yX7_byteAt, cX7_byteAt, 6, some .int, 0, 0)
theorem mk_X7_byteAt : mk_ok M_X7_byteAt := ⟨cd_X7_byteAt, tb_gm 67 (by decide +kernel) (by decide +kernel), by decide, by decide⟩
theorem mi_X7_byteAt : mi_ok M_X7_byteAt := ⟨tb_gm 696 (by decide +kernel) (by decide +kernel), tb_gm 11 (by decide +kernel) (by decide +kernel)⟩
theorem mp_X7_byteAt : mp_n M_X7_byteAt 2 := by unfold mp_n; decide +kernel
abbrev M_X7_slipsIn : mt_T := (yX7_slipsIn, cX7_slipsIn, 8, some .int, 1, 21)
theorem mk_X7_slipsIn : mk_ok M_X7_slipsIn := ⟨cd_X7_slipsIn, tb_gm 67 (by decide +kernel) (by decide +kernel), by decide, by decide⟩
theorem mi_X7_slipsIn : mi_ok M_X7_slipsIn := ⟨tb_gm 725 (by decide +kernel) (by decide +kernel), tb_gm 12 (by decide +kernel) (by decide +kernel)⟩
theorem mp_X7_slipsIn : mp_n M_X7_slipsIn 2 := by unfold mp_n; decide +kernel
abbrev M_X8_holds : mt_T := (yX8_holds, cX8_holds, 2, some .boolean, 0, 0)
theorem mk_X8_holds : mk_ok M_X8_holds := ⟨cd_X8_holds, tb_gm 65 (by decide +kernel) (by decide +kernel), by decide, by decide⟩
theorem mi_X8_holds : mi_ok M_X8_holds := ⟨tb_gm 740 (by decide +kernel) (by decide +kernel), tb_gm 741 (by decide +kernel) (by decide +kernel)⟩
theorem mp_X8_holds : mp_n M_X8_holds 1 := by unfold mp_n; decide +kernel
abbrev M_X8_put : mt_T := (yX8_put, cX8_put, 6, none, 5, 125)
theorem mk_X8_put : mk_ok M_X8_put := ⟨cd_X8_put, tb_gm 65 (by decide +kernel) (by decide +kernel), by decide, by decide⟩
theorem mi_X8_put : mi_ok M_X8_put := ⟨tb_gm 660 (by decide +kernel) (by decide +kernel), tb_gm 661 (by decide +kernel) (by decide +kernel)⟩
theorem mp_X8_put : mp_n M_X8_put 4 := by unfold mp_n; decide +kernel
abbrev M_X8_tune : mt_T := (yX8_tune, cX8_tune, 9, none, 5, 125)
theorem mk_X8_tune : mk_ok M_X8_tune := ⟨cd_X8_tune, tb_gm 65 (by decide +kernel) (by decide +kernel), by decide, by decide⟩
theorem mi_X8_tune : mi_ok M_X8_tune := ⟨tb_gm 752 (by decide +kernel) (by decide +kernel), tb_gm 753 (by decide +kernel) (by decide +kernel)⟩
theorem mp_X8_tune : mp_n M_X8_tune 3 := by unfold mp_n; decide +kernel
abbrev M_X8_keepBetter : mt_T := (yX8_keepBetter, cX8_keepBetter, 6, none, 2, 42)
theorem mk_X8_keepBetter : mk_ok M_X8_keepBetter := ⟨cd_X8_keepBetter, tb_gm 65 (by decide +kernel) (by decide +kernel), by decide, by decide⟩
theorem mi_X8_keepBetter : mi_ok M_X8_keepBetter := ⟨tb_gm 760 (by decide +kernel) (by decide +kernel), tb_gm 14 (by decide +kernel) (by decide +kernel)⟩
theorem mp_X8_keepBetter : mp_n M_X8_keepBetter 3 := by unfold mp_n; decide +kernel
abbrev M_X8_hopeOf : mt_T := (yX8_hopeOf, cX8_hopeOf, 6, some .int, 2, 42)
theorem mk_X8_hopeOf : mk_ok M_X8_hopeOf := ⟨cd_X8_hopeOf, tb_gm 65 (by decide +kernel) (by decide +kernel), by decide, by decide⟩
theorem mi_X8_hopeOf : mi_ok M_X8_hopeOf := ⟨tb_gm 930 (by decide +kernel) (by decide +kernel), tb_gm 931 (by decide +kernel) (by decide +kernel)⟩
theorem mp_X8_hopeOf : mp_n M_X8_hopeOf 1 := by unfold mp_n; decide +kernel
abbrev M_X10_push : mt_T := (yX10_push, cX10_push, 4, none, 1, 21)
theorem mk_X10_push : mk_ok M_X10_push := ⟨cd_X10_push, tb_gm 63 (by decide +kernel) (by decide +kernel), by decide, by decide⟩
theorem mi_X10_push : mi_ok M_X10_push := ⟨tb_gm 644 (by decide +kernel) (by decide +kernel), tb_gm 645 (by decide +kernel) (by decide +kernel)⟩
theorem mp_X10_push : mp_n M_X10_push 1 := by unfold mp_n; decide +kernel
abbrev M_X10_take : mt_T := (yX10_take, cX10_take, 2, none, 1, 26)
theorem mk_X10_take : mk_ok M_X10_take := ⟨cd_X10_take, tb_gm 63 (by decide +kernel) (by decide +kernel), by decide, by decide⟩
theorem mi_X10_take : mi_ok M_X10_take := ⟨tb_gm 664 (by decide +kernel) (by decide +kernel), tb_gm 665 (by decide +kernel) (by decide +kernel)⟩
theorem mp_X10_take : mp_n M_X10_take 1 := by unfold mp_n; decide +kernel
abbrev M_X11_feed : mt_T := (yX11_feed, cX11_feed, 6, some .int, 2, 43)
theorem mk_X11_feed : mk_ok M_X11_feed := ⟨cd_X11_feed, tb_gm 60 (by decide +kernel) (by decide +kernel), by decide, by decide⟩
theorem mi_X11_feed : mi_ok M_X11_feed := ⟨tb_gm 494 (by decide +kernel) (by decide +kernel), tb_gm 495 (by decide +kernel) (by decide +kernel)⟩
theorem mp_X11_feed : mp_n M_X11_feed 5 := by unfold mp_n; decide +kernel
abbrev M_X11_end : mt_T := (yX11_end, cX11_end, 2, some .boolean, 0, 0)
theorem mk_X11_end : mk_ok M_X11_end := ⟨cd_X11_end, tb_gm 60 (by decide +kernel) (by decide +kernel), by decide, by decide⟩
theorem mi_X11_end : mi_ok M_X11_end := ⟨tb_gm 505 (by decide +kernel) (by decide +kernel), tb_gm 506 (by decide +kernel) (by decide +kernel)⟩
theorem mp_X11_end : mp_n M_X11_end 1 := by unfold mp_n; decide +kernel
abbrev M_X11_fault : mt_T := (yX11_fault, cX11_fault, 1, some .int, 8, 174)
theorem mk_X11_fault : mk_ok M_X11_fault := ⟨cd_X11_fault, tb_gm 60 (by decide +kernel) (by decide +kernel), by decide, by decide⟩
theorem mi_X11_fault : mi_ok M_X11_fault := ⟨tb_gm 509 (by decide +kernel) (by decide +kernel), tb_gm 510 (by decide +kernel) (by decide +kernel)⟩
theorem mp_X11_fault : mp_n M_X11_fault 0 := by unfold mp_n; decide +kernel
abbrev M_X11_format : mt_T := (yX11_format, cX11_format, 1, some .int, 8, 174)
theorem mk_X11_format : mk_ok M_X11_format := ⟨cd_X11_format, tb_gm 60 (by decide +kernel) (by decide +kernel), by decide, by decide⟩
theorem mi_X11_format : mi_ok M_X11_format := ⟨tb_gm 624 (by decide +kernel) (by decide +kernel), tb_gm 625 (by decide +kernel) (by decide +kernel)⟩
theorem mp_X11_format : mp_n M_X11_format 0 := by unfold mp_n; decide +kernel
abbrev M_X11_flux : mt_T := (yX11_flux, cX11_flux, 7, some .int, 2, 44)
theorem mk_X11_flux : mk_ok M_X11_flux := ⟨cd_X11_flux, tb_gm 60 (by decide +kernel) (by decide +kernel), by decide, by decide⟩
theorem mi_X11_flux : mi_ok M_X11_flux := ⟨tb_gm 636 (by decide +kernel) (by decide +kernel), tb_gm 637 (by decide +kernel) (by decide +kernel)⟩
theorem mp_X11_flux : mp_n M_X11_flux 5 := by unfold mp_n; decide +kernel
abbrev M_X11_wipe : mt_T := (yX11_wipe, cX11_wipe, 2, some .int, 0, 0)
theorem mk_X11_wipe : mk_ok M_X11_wipe := ⟨cd_X11_wipe, tb_gm 60 (by decide +kernel) (by decide +kernel), by decide, by decide⟩
theorem mi_X11_wipe : mi_ok M_X11_wipe := ⟨tb_gm 649 (by decide +kernel) (by decide +kernel), tb_gm 650 (by decide +kernel) (by decide +kernel)⟩
theorem mp_X11_wipe : mp_n M_X11_wipe 0 := by unfold mp_n; decide +kernel
abbrev M_X11_read : mt_T := (yX11_read, cX11_read, 2, some .int, 6, 150)
theorem mk_X11_read : mk_ok M_X11_read := ⟨cd_X11_read, tb_gm 60 (by decide +kernel) (by decide +kernel), by decide, by decide⟩
theorem mi_X11_read : mi_ok M_X11_read := ⟨tb_gm 653 (by decide +kernel) (by decide +kernel), tb_gm 654 (by decide +kernel) (by decide +kernel)⟩
theorem mp_X11_read : mp_n M_X11_read 1 := by unfold mp_n; decide +kernel
abbrev M_X11_raw : mt_T := (yX11_raw, cX11_raw, 4, some .int, 2, 52)
theorem mk_X11_raw : mk_ok M_X11_raw := ⟨cd_X11_raw, tb_gm 60 (by decide +kernel) (by decide +kernel), by decide, by decide⟩
theorem mi_X11_raw : mi_ok M_X11_raw := ⟨tb_gm 731 (by decide +kernel) (by decide +kernel), tb_gm 732 (by decide +kernel) (by decide +kernel)⟩
theorem mp_X11_raw : mp_n M_X11_raw 3 := by unfold mp_n; decide +kernel
abbrev M_X11_found : mt_T := (yX11_found, cX11_found, 5, some .int, 1, 22)
theorem mk_X11_found : mk_ok M_X11_found := ⟨cd_X11_found, tb_gm 60 (by decide +kernel) (by decide +kernel), by decide, by decide⟩
theorem mi_X11_found : mi_ok M_X11_found := ⟨tb_gm 736 (by decide +kernel) (by decide +kernel), tb_gm 737 (by decide +kernel) (by decide +kernel)⟩
theorem mp_X11_found : mp_n M_X11_found 3 := by unfold mp_n; decide +kernel
abbrev M_X11_tuned : mt_T := (yX11_tuned, cX11_tuned, 4, some .int, 6, 153)
theorem mk_X11_tuned : mk_ok M_X11_tuned := ⟨cd_X11_tuned, tb_gm 60 (by decide +kernel) (by decide +kernel), by decide, by decide⟩
theorem mi_X11_tuned : mi_ok M_X11_tuned := ⟨tb_gm 748 (by decide +kernel) (by decide +kernel), tb_gm 749 (by decide +kernel) (by decide +kernel)⟩
theorem mp_X11_tuned : mp_n M_X11_tuned 2 := by unfold mp_n; decide +kernel
abbrev M_X11_status : mt_T := (yX11_status, cX11_status, 4, some .int, 4, 99)
theorem mk_X11_status : mk_ok M_X11_status := ⟨cd_X11_status, tb_gm 60 (by decide +kernel) (by decide +kernel), by decide, by decide⟩
theorem mi_X11_status : mi_ok M_X11_status := ⟨tb_gm 775 (by decide +kernel) (by decide +kernel), tb_gm 776 (by decide +kernel) (by decide +kernel)⟩
theorem mp_X11_status : mp_n M_X11_status 3 := by unfold mp_n; decide +kernel
abbrev M_X11_value : mt_T := (yX11_value, cX11_value, 4, some .int, 4, 99)
theorem mk_X11_value : mk_ok M_X11_value := ⟨cd_X11_value, tb_gm 60 (by decide +kernel) (by decide +kernel), by decide, by decide⟩
theorem mi_X11_value : mi_ok M_X11_value := ⟨tb_gm 832 (by decide +kernel) (by decide +kernel), tb_gm 833 (by decide +kernel) (by decide +kernel)⟩
theorem mp_X11_value : mp_n M_X11_value 3 := by unfold mp_n; decide +kernel
abbrev M_X11_tell : mt_T := (yX11_tell, cX11_tell, 4, some .boolean, 2, 43)
theorem mk_X11_tell : mk_ok M_X11_tell := ⟨cd_X11_tell, tb_gm 60 (by decide +kernel) (by decide +kernel), by decide, by decide⟩
theorem mi_X11_tell : mi_ok M_X11_tell := ⟨tb_gm 843 (by decide +kernel) (by decide +kernel), tb_gm 844 (by decide +kernel) (by decide +kernel)⟩
theorem mp_X11_tell : mp_n M_X11_tell 3 := by unfold mp_n; decide +kernel
abbrev M_X11_file : mt_T := (yX11_file, cX11_file, 3, some .int, 1, 22)
theorem mk_X11_file : mk_ok M_X11_file := ⟨cd_X11_file, tb_gm 60 (by decide +kernel) (by decide +kernel), by decide, by decide⟩
theorem mi_X11_file : mi_ok M_X11_file := ⟨tb_gm 855 (by decide +kernel) (by decide +kernel), tb_gm 856 (by decide +kernel) (by decide +kernel)⟩
theorem mp_X11_file : mp_n M_X11_file 2 := by unfold mp_n; decide +kernel
abbrev M_X11_mishaps : mt_T := (yX11_mishaps, cX11_mishaps, 3, some .int, 4, 96)
theorem mk_X11_mishaps : mk_ok M_X11_mishaps := ⟨cd_X11_mishaps, tb_gm 60 (by decide +kernel) (by decide +kernel), by decide, by decide⟩
theorem mi_X11_mishaps : mi_ok M_X11_mishaps := ⟨tb_gm 863 (by decide +kernel) (by decide +kernel), tb_gm 864 (by decide +kernel) (by decide +kernel)⟩
theorem mp_X11_mishaps : mp_n M_X11_mishaps 1 := by unfold mp_n; decide +kernel
abbrev M_X11_next : mt_T := (yX11_next, cX11_next, 4, some .int, 4, 96)
theorem mk_X11_next : mk_ok M_X11_next := ⟨cd_X11_next, tb_gm 60 (by decide +kernel) (by decide +kernel), by decide, by decide⟩
theorem mi_X11_next : mi_ok M_X11_next := ⟨tb_gm 898 (by decide +kernel) (by decide +kernel), tb_gm 899 (by decide +kernel) (by decide +kernel)⟩
theorem mp_X11_next : mp_n M_X11_next 2 := by unfold mp_n; decide +kernel
abbrev M_X11_chain : mt_T := (yX11_chain, cX11_chain, 5, some .int, 4, 96)
theorem mk_X11_chain : mk_ok M_X11_chain := ⟨cd_X11_chain, tb_gm 60 (by decide +kernel) (by decide +kernel), by decide, by decide⟩
theorem mi_X11_chain : mi_ok M_X11_chain := ⟨tb_gm 902 (by decide +kernel) (by decide +kernel), tb_gm 903 (by decide +kernel) (by decide +kernel)⟩
theorem mp_X11_chain : mp_n M_X11_chain 3 := by unfold mp_n; decide +kernel
abbrev M_X11_gaps : mt_T := (yX11_gaps, cX11_gaps, 5, some .int, 5, 122)
theorem mk_X11_gaps : mk_ok M_X11_gaps := ⟨cd_X11_gaps, tb_gm 60 (by decide +kernel) (by decide +kernel), by decide, by decide⟩
theorem mi_X11_gaps : mi_ok M_X11_gaps := ⟨tb_gm 915 (by decide +kernel) (by decide +kernel), tb_gm 916 (by decide +kernel) (by decide +kernel)⟩
theorem mp_X11_gaps : mp_n M_X11_gaps 1 := by unfold mp_n; decide +kernel
abbrev M_X11_hope : mt_T := (yX11_hope, cX11_hope, 2, some .int, 3, 67)
theorem mk_X11_hope : mk_ok M_X11_hope := ⟨cd_X11_hope, tb_gm 60 (by decide +kernel) (by decide +kernel), by decide, by decide⟩
theorem mi_X11_hope : mi_ok M_X11_hope := ⟨tb_gm 926 (by decide +kernel) (by decide +kernel), tb_gm 927 (by decide +kernel) (by decide +kernel)⟩
theorem mp_X11_hope : mp_n M_X11_hope 1 := by unfold mp_n; decide +kernel
abbrev M_X11_ask : mt_T := (yX11_ask, cX11_ask, 2, some .int, 6, 150)
theorem mk_X11_ask : mk_ok M_X11_ask := ⟨cd_X11_ask, tb_gm 60 (by decide +kernel) (by decide +kernel), by decide, by decide⟩
theorem mi_X11_ask : mi_ok M_X11_ask := ⟨tb_gm 934 (by decide +kernel) (by decide +kernel), tb_gm 935 (by decide +kernel) (by decide +kernel)⟩
theorem mp_X11_ask : mp_n M_X11_ask 1 := by unfold mp_n; decide +kernel
abbrev M_X11_written : mt_T := (yX11_written, cX11_written, 4, some .int, 4, 99)
theorem mk_X11_written : mk_ok M_X11_written := ⟨cd_X11_written, tb_gm 60 (by decide +kernel) (by decide +kernel), by decide, by decide⟩
theorem mi_X11_written : mi_ok M_X11_written := ⟨tb_gm 953 (by decide +kernel) (by decide +kernel), tb_gm 954 (by decide +kernel) (by decide +kernel)⟩
theorem mp_X11_written : mp_n M_X11_written 3 := by unfold mp_n; decide +kernel
abbrev M_X11_count : mt_T := (yX11_count, cX11_count, 2, some .int, 0, 0)
theorem mk_X11_count : mk_ok M_X11_count := ⟨cd_X11_count, tb_gm 60 (by decide +kernel) (by decide +kernel), by decide, by decide⟩
theorem mi_X11_count : mi_ok M_X11_count := ⟨tb_gm 973 (by decide +kernel) (by decide +kernel), tb_gm 974 (by decide +kernel) (by decide +kernel)⟩
theorem mp_X11_count : mp_n M_X11_count 1 := by unfold mp_n; decide +kernel
abbrev M_X11_ofSector : mt_T := (yX11_ofSector, cX11_ofSector, 3, some .int, 0, 0)
theorem mk_X11_ofSector : mk_ok M_X11_ofSector := ⟨cd_X11_ofSector, tb_gm 60 (by decide +kernel) (by decide +kernel), by decide, by decide⟩
theorem mi_X11_ofSector : mi_ok M_X11_ofSector := ⟨tb_gm 745 (by decide +kernel) (by decide +kernel), tb_gm 13 (by decide +kernel) (by decide +kernel)⟩
theorem mp_X11_ofSector : mp_n M_X11_ofSector 2 := by unfold mp_n; decide +kernel
abbrev M_X11_canJudge : mt_T := (yX11_canJudge, cX11_canJudge, 3, some .boolean, 0, 0)
theorem mk_X11_canJudge : mk_ok M_X11_canJudge := ⟨cd_X11_canJudge, tb_gm 60 (by decide +kernel) (by decide +kernel), by decide, by decide⟩
theorem mi_X11_canJudge : mi_ok M_X11_canJudge := ⟨tb_gm 780 (by decide +kernel) (by decide +kernel), tb_gm 15 (by decide +kernel) (by decide +kernel)⟩
theorem mp_X11_canJudge : mp_n M_X11_canJudge 2 := by unfold mp_n; decide +kernel
abbrev M_X11_bestDrive : mt_T := (yX11_bestDrive, cX11_bestDrive, 5, some .int, 3, 67)
theorem mk_X11_bestDrive : mk_ok M_X11_bestDrive := ⟨cd_X11_bestDrive, tb_gm 60 (by decide +kernel) (by decide +kernel), by decide, by decide⟩
theorem mi_X11_bestDrive : mi_ok M_X11_bestDrive := ⟨tb_gm 939 (by decide +kernel) (by decide +kernel), tb_gm 27 (by decide +kernel) (by decide +kernel)⟩
theorem mp_X11_bestDrive : mp_n M_X11_bestDrive 0 := by unfold mp_n; decide +kernel
abbrev M_X11_worstTrack : mt_T := (yX11_worstTrack, cX11_worstTrack, 9, some .int, 5, 122)
theorem mk_X11_worstTrack : mk_ok M_X11_worstTrack := ⟨cd_X11_worstTrack, tb_gm 60 (by decide +kernel) (by decide +kernel), by decide, by decide⟩
theorem mi_X11_worstTrack : mi_ok M_X11_worstTrack := ⟨tb_gm 943 (by decide +kernel) (by decide +kernel), tb_gm 28 (by decide +kernel) (by decide +kernel)⟩
theorem mp_X11_worstTrack : mp_n M_X11_worstTrack 0 := by unfold mp_n; decide +kernel
abbrev M_X11_isDrive : mt_T := (yX11_isDrive, cX11_isDrive, 1, some .boolean, 0, 0)
theorem mk_X11_isDrive : mk_ok M_X11_isDrive := ⟨cd_X11_isDrive, tb_gm 60 (by decide +kernel) (by decide +kernel), by decide, by decide⟩
theorem ms_X11_isDrive : Cond.static (m_y M_X11_isDrive) ∈ tb_g := tb_gm 657 (by decide +kernel) (by decide +kernel)
theorem mp_X11_isDrive : mp_n M_X11_isDrive 1 := by unfold mp_n; decide +kernel
abbrev M_X11_isCluster : mt_T := (yX11_isCluster, cX11_isCluster, 1, some .boolean, 0, 0)
theorem mk_X11_isCluster : mk_ok M_X11_isCluster := ⟨cd_X11_isCluster, tb_gm 60 (by decide +kernel) (by decide +kernel), by decide, by decide⟩
theorem ms_X11_isCluster : Cond.static (m_y M_X11_isCluster) ∈ tb_g := tb_gm 847 (by decide +kernel) (by decide +kernel)
theorem mp_X11_isCluster : mp_n M_X11_isCluster 1 := by unfold mp_n; decide +kernel
abbrev M_X11_soundStatus : mt_T := (yX11_soundStatus, cX11_soundStatus, 1, some .boolean, 0, 0)
theorem mk_X11_soundStatus : mk_ok M_X11_soundStatus := ⟨cd_X11_soundStatus, tb_gm 60 (by decide +kernel) (by decide +kernel), by decide, by decide⟩
theorem ms_X11_soundStatus : Cond.static (m_y M_X11_soundStatus) ∈ tb_g := tb_gm 840 (by decide +kernel) (by decide +kernel)
theorem mp_X11_soundStatus : mp_n M_X11_soundStatus 1 := by unfold mp_n; decide +kernel
abbrev M_X11_byteOf : mt_T := (yX11_byteOf, cX11_byteOf, 2, some .int, 0, 0)
theorem mk_X11_byteOf : mk_ok M_X11_byteOf := ⟨cd_X11_byteOf, tb_gm 60 (by decide +kernel) (by decide +kernel), by decide, by decide⟩
theorem ms_X11_byteOf : Cond.static (m_y M_X11_byteOf) ∈ tb_g := tb_gm 502 (by decide +kernel) (by decide +kernel)
theorem mp_X11_byteOf : mp_n M_X11_byteOf 2 := by unfold mp_n; decide +kernel
abbrev M_X11_stepsIn : mt_T := (yX11_stepsIn, cX11_stepsIn, 3, some .int, 1, 21)
theorem mk_X11_stepsIn : mk_ok M_X11_stepsIn := ⟨cd_X11_stepsIn, tb_gm 60 (by decide +kernel) (by decide +kernel), by decide, by decide⟩
theorem ms_X11_stepsIn : Cond.static (m_y M_X11_stepsIn) ∈ tb_g := tb_gm 640 (by decide +kernel) (by decide +kernel)
theorem mp_X11_stepsIn : mp_n M_X11_stepsIn 1 := by unfold mp_n; decide +kernel
abbrev M_X11_clockDue : mt_T := (yX11_clockDue, cX11_clockDue, 2, some .int, 0, 0)
theorem mk_X11_clockDue : mk_ok M_X11_clockDue := ⟨cd_X11_clockDue, tb_gm 60 (by decide +kernel) (by decide +kernel), by decide, by decide⟩
theorem ms_X11_clockDue : Cond.static (m_y M_X11_clockDue) ∈ tb_g := tb_gm 728 (by decide +kernel) (by decide +kernel)
theorem mp_X11_clockDue : mp_n M_X11_clockDue 2 := by unfold mp_n; decide +kernel
abbrev M_X12_in : mt_T := (yX12_in, cX12_in, 3, some .boolean, 0, 0)
theorem mk_X12_in : mk_ok M_X12_in := ⟨cd_X12_in, tb_gm 73 (by decide +kernel) (by decide +kernel), by decide, by decide⟩
theorem ms_X12_in : Cond.static (m_y M_X12_in) ∈ tb_g := tb_gm 1107 (by decide +kernel) (by decide +kernel)
theorem mp_X12_in : mp_n M_X12_in 3 := by unfold mp_n; decide +kernel
abbrev M_X12_feed : mt_T := (yX12_feed, cX12_feed, 8, some .int, 0, 0)
theorem mk_X12_feed : mk_ok M_X12_feed := ⟨cd_X12_feed, tb_gm 73 (by decide +kernel) (by decide +kernel), by decide, by decide⟩
theorem mi_X12_feed : mi_ok M_X12_feed := ⟨tb_gm 1099 (by decide +kernel) (by decide +kernel), tb_gm 1100 (by decide +kernel) (by decide +kernel)⟩
theorem mp_X12_feed : mp_n M_X12_feed 5 := by unfold mp_n; decide +kernel
abbrev M_X12_end : mt_T := (yX12_end, cX12_end, 2, some .boolean, 1, 22)
theorem mk_X12_end : mk_ok M_X12_end := ⟨cd_X12_end, tb_gm 73 (by decide +kernel) (by decide +kernel), by decide, by decide⟩
theorem mi_X12_end : mi_ok M_X12_end := ⟨tb_gm 1103 (by decide +kernel) (by decide +kernel), tb_gm 1104 (by decide +kernel) (by decide +kernel)⟩
theorem mp_X12_end : mp_n M_X12_end 1 := by unfold mp_n; decide +kernel
abbrev M_X12_isLetter : mt_T := (yX12_isLetter, cX12_isLetter, 1, some .boolean, 0, 0)
theorem mk_X12_isLetter : mk_ok M_X12_isLetter := ⟨cd_X12_isLetter, tb_gm 73 (by decide +kernel) (by decide +kernel), by decide, by decide⟩
theorem ms_X12_isLetter : Cond.static (m_y M_X12_isLetter) ∈ tb_g := tb_gm 1118 (by decide +kernel) (by decide +kernel)
theorem mp_X12_isLetter : mp_n M_X12_isLetter 1 := by unfold mp_n; decide +kernel
abbrev M_X12_isDigit : mt_T := (yX12_isDigit, cX12_isDigit, 1, some .boolean, 0, 0)
theorem mk_X12_isDigit : mk_ok M_X12_isDigit := ⟨cd_X12_isDigit, tb_gm 73 (by decide +kernel) (by decide +kernel), by decide, by decide⟩
theorem ms_X12_isDigit : Cond.static (m_y M_X12_isDigit) ∈ tb_g := tb_gm 1121 (by decide +kernel) (by decide +kernel)
theorem mp_X12_isDigit : mp_n M_X12_isDigit 1 := by unfold mp_n; decide +kernel
abbrev M_X12_leads : mt_T := (yX12_leads, cX12_leads, 2, none, 1, 20)
theorem mk_X12_leads : mk_ok M_X12_leads := ⟨cd_X12_leads, tb_gm 73 (by decide +kernel) (by decide +kernel), by decide, by decide⟩
theorem mi_X12_leads : mi_ok M_X12_leads := ⟨tb_gm 1115 (by decide +kernel) (by decide +kernel), tb_gm 31 (by decide +kernel) (by decide +kernel)⟩
theorem mp_X12_leads : mp_n M_X12_leads 0 := by unfold mp_n; decide +kernel
abbrev M_X12_packed : mt_T := (yX12_packed, cX12_packed, 4, some .long, 4, 85)
theorem mk_X12_packed : mk_ok M_X12_packed := ⟨cd_X12_packed, tb_gm 73 (by decide +kernel) (by decide +kernel), by decide, by decide⟩
theorem ms_X12_packed : Cond.static (m_y M_X12_packed) ∈ tb_g := tb_gm 1136 (by decide +kernel) (by decide +kernel)
theorem mp_X12_packed : mp_n M_X12_packed 1 := by unfold mp_n; decide +kernel
abbrev M_X12_isWord : mt_T := (yX12_isWord, cX12_isWord, 2, some .boolean, 5, 108)
theorem mk_X12_isWord : mk_ok M_X12_isWord := ⟨cd_X12_isWord, tb_gm 73 (by decide +kernel) (by decide +kernel), by decide, by decide⟩
theorem mi_X12_isWord : mi_ok M_X12_isWord := ⟨tb_gm 1133 (by decide +kernel) (by decide +kernel), tb_gm 33 (by decide +kernel) (by decide +kernel)⟩
theorem mp_X12_isWord : mp_n M_X12_isWord 1 := by unfold mp_n; decide +kernel
abbrev M_X12_number : mt_T := (yX12_number, cX12_number, 4, some .boolean, 2, 41)
theorem mk_X12_number : mk_ok M_X12_number := ⟨cd_X12_number, tb_gm 73 (by decide +kernel) (by decide +kernel), by decide, by decide⟩
theorem mi_X12_number : mi_ok M_X12_number := ⟨tb_gm 1147 (by decide +kernel) (by decide +kernel), tb_gm 34 (by decide +kernel) (by decide +kernel)⟩
theorem mp_X12_number : mp_n M_X12_number 3 := by unfold mp_n; decide +kernel
abbrev M_X12_closes : mt_T := (yX12_closes, cX12_closes, 1, some .boolean, 2, 41)
theorem mk_X12_closes : mk_ok M_X12_closes := ⟨cd_X12_closes, tb_gm 73 (by decide +kernel) (by decide +kernel), by decide, by decide⟩
theorem mi_X12_closes : mi_ok M_X12_closes := ⟨tb_gm 1159 (by decide +kernel) (by decide +kernel), tb_gm 36 (by decide +kernel) (by decide +kernel)⟩
theorem mp_X12_closes : mp_n M_X12_closes 0 := by unfold mp_n; decide +kernel
abbrev M_X12_sumHere : mt_T := (yX12_sumHere, cX12_sumHere, 1, some .boolean, 6, 129)
theorem mk_X12_sumHere : mk_ok M_X12_sumHere := ⟨cd_X12_sumHere, tb_gm 73 (by decide +kernel) (by decide +kernel), by decide, by decide⟩
theorem mi_X12_sumHere : mi_ok M_X12_sumHere := ⟨tb_gm 1151 (by decide +kernel) (by decide +kernel), tb_gm 35 (by decide +kernel) (by decide +kernel)⟩
theorem mp_X12_sumHere : mp_n M_X12_sumHere 0 := by unfold mp_n; decide +kernel
abbrev M_X12_line : mt_T := (yX12_line, cX12_line, 3, some .boolean, 7, 149)
theorem mk_X12_line : mk_ok M_X12_line := ⟨cd_X12_line, tb_gm 73 (by decide +kernel) (by decide +kernel), by decide, by decide⟩
theorem mi_X12_line : mi_ok M_X12_line := ⟨tb_gm 1128 (by decide +kernel) (by decide +kernel), tb_gm 32 (by decide +kernel) (by decide +kernel)⟩
theorem mp_X12_line : mp_n M_X12_line 0 := by unfold mp_n; decide +kernel
abbrev M_X12_fault : mt_T := (yX12_fault, cX12_fault, 2, some .int, 8, 171)
theorem mk_X12_fault : mk_ok M_X12_fault := ⟨cd_X12_fault, tb_gm 73 (by decide +kernel) (by decide +kernel), by decide, by decide⟩
theorem mi_X12_fault : mi_ok M_X12_fault := ⟨tb_gm 1110 (by decide +kernel) (by decide +kernel), tb_gm 1111 (by decide +kernel) (by decide +kernel)⟩
theorem mp_X12_fault : mp_n M_X12_fault 0 := by unfold mp_n; decide +kernel
abbrev M_X12_format : mt_T := (yX12_format, cX12_format, 2, some .int, 9, 192)
theorem mk_X12_format : mk_ok M_X12_format := ⟨cd_X12_format, tb_gm 73 (by decide +kernel) (by decide +kernel), by decide, by decide⟩
theorem mi_X12_format : mi_ok M_X12_format := ⟨tb_gm 1162 (by decide +kernel) (by decide +kernel), tb_gm 1163 (by decide +kernel) (by decide +kernel)⟩
theorem mp_X12_format : mp_n M_X12_format 0 := by unfold mp_n; decide +kernel
abbrev M_X12_flux : mt_T := (yX12_flux, cX12_flux, 9, some .int, 1, 26)
theorem mk_X12_flux : mk_ok M_X12_flux := ⟨cd_X12_flux, tb_gm 73 (by decide +kernel) (by decide +kernel), by decide, by decide⟩
theorem mi_X12_flux : mi_ok M_X12_flux := ⟨tb_gm 1167 (by decide +kernel) (by decide +kernel), tb_gm 1168 (by decide +kernel) (by decide +kernel)⟩
theorem mp_X12_flux : mp_n M_X12_flux 5 := by unfold mp_n; decide +kernel
abbrev M_X12_byteOf : mt_T := (yX12_byteOf, cX12_byteOf, 7, some .int, 0, 0)
theorem mk_X12_byteOf : mk_ok M_X12_byteOf := ⟨cd_X12_byteOf, tb_gm 73 (by decide +kernel) (by decide +kernel), by decide, by decide⟩
theorem ms_X12_byteOf : Cond.static (m_y M_X12_byteOf) ∈ tb_g := tb_gm 1171 (by decide +kernel) (by decide +kernel)
theorem mp_X12_byteOf : mp_n M_X12_byteOf 6 := by unfold mp_n; decide +kernel
abbrev M_X12_wipe : mt_T := (yX12_wipe, cX12_wipe, 2, some .int, 0, 0)
theorem mk_X12_wipe : mk_ok M_X12_wipe := ⟨cd_X12_wipe, tb_gm 73 (by decide +kernel) (by decide +kernel), by decide, by decide⟩
theorem mi_X12_wipe : mi_ok M_X12_wipe := ⟨tb_gm 1174 (by decide +kernel) (by decide +kernel), tb_gm 1175 (by decide +kernel) (by decide +kernel)⟩
theorem mp_X12_wipe : mp_n M_X12_wipe 0 := by unfold mp_n; decide +kernel
abbrev M_X12_read : mt_T := (yX12_read, cX12_read, 3, some .int, 1, 22)
theorem mk_X12_read : mk_ok M_X12_read := ⟨cd_X12_read, tb_gm 73 (by decide +kernel) (by decide +kernel), by decide, by decide⟩
theorem mi_X12_read : mi_ok M_X12_read := ⟨tb_gm 1178 (by decide +kernel) (by decide +kernel), tb_gm 1179 (by decide +kernel) (by decide +kernel)⟩
theorem mp_X12_read : mp_n M_X12_read 1 := by unfold mp_n; decide +kernel
abbrev M_X12_turns : mt_T := (yX12_turns, cX12_turns, 10, none, 1, 22)
theorem mk_X12_turns : mk_ok M_X12_turns := ⟨cd_X12_turns, tb_gm 73 (by decide +kernel) (by decide +kernel), by decide, by decide⟩
theorem mi_X12_turns : mi_ok M_X12_turns := ⟨tb_gm 1187 (by decide +kernel) (by decide +kernel), tb_gm 37 (by decide +kernel) (by decide +kernel)⟩
theorem mp_X12_turns : mp_n M_X12_turns 3 := by unfold mp_n; decide +kernel
abbrev M_X12_raw : mt_T := (yX12_raw, cX12_raw, 4, some .int, 2, 51)
theorem mk_X12_raw : mk_ok M_X12_raw := ⟨cd_X12_raw, tb_gm 73 (by decide +kernel) (by decide +kernel), by decide, by decide⟩
theorem mi_X12_raw : mi_ok M_X12_raw := ⟨tb_gm 1182 (by decide +kernel) (by decide +kernel), tb_gm 1183 (by decide +kernel) (by decide +kernel)⟩
theorem mp_X12_raw : mp_n M_X12_raw 3 := by unfold mp_n; decide +kernel
abbrev M_X12_many : mt_T := (yX12_many, cX12_many, 1, some .int, 0, 0)
theorem mk_X12_many : mk_ok M_X12_many := ⟨cd_X12_many, tb_gm 73 (by decide +kernel) (by decide +kernel), by decide, by decide⟩
theorem mi_X12_many : mi_ok M_X12_many := ⟨tb_gm 1200 (by decide +kernel) (by decide +kernel), tb_gm 39 (by decide +kernel) (by decide +kernel)⟩
theorem mp_X12_many : mp_n M_X12_many 0 := by unfold mp_n; decide +kernel
abbrev M_X12_bitOf : mt_T := (yX12_bitOf, cX12_bitOf, 2, some .int, 0, 0)
theorem mk_X12_bitOf : mk_ok M_X12_bitOf := ⟨cd_X12_bitOf, tb_gm 73 (by decide +kernel) (by decide +kernel), by decide, by decide⟩
theorem ms_X12_bitOf : Cond.static (m_y M_X12_bitOf) ∈ tb_g := tb_gm 1207 (by decide +kernel) (by decide +kernel)
theorem mp_X12_bitOf : mp_n M_X12_bitOf 2 := by unfold mp_n; decide +kernel
abbrev M_X12_isMark : mt_T := (yX12_isMark, cX12_isMark, 4, some .boolean, 1, 21)
theorem mk_X12_isMark : mk_ok M_X12_isMark := ⟨cd_X12_isMark, tb_gm 73 (by decide +kernel) (by decide +kernel), by decide, by decide⟩
theorem mi_X12_isMark : mi_ok M_X12_isMark := ⟨tb_gm 1204 (by decide +kernel) (by decide +kernel), tb_gm 40 (by decide +kernel) (by decide +kernel)⟩
theorem mp_X12_isMark : mp_n M_X12_isMark 1 := by unfold mp_n; decide +kernel
abbrev M_X12_finds : mt_T := (yX12_finds, cX12_finds, 6, none, 2, 51)
theorem mk_X12_finds : mk_ok M_X12_finds := ⟨cd_X12_finds, tb_gm 73 (by decide +kernel) (by decide +kernel), by decide, by decide⟩
theorem mi_X12_finds : mi_ok M_X12_finds := ⟨tb_gm 1196 (by decide +kernel) (by decide +kernel), tb_gm 38 (by decide +kernel) (by decide +kernel)⟩
theorem mp_X12_finds : mp_n M_X12_finds 3 := by unfold mp_n; decide +kernel
abbrev M_X12_takes : mt_T := (yX12_takes, cX12_takes, 8, none, 1, 21)
theorem mk_X12_takes : mk_ok M_X12_takes := ⟨cd_X12_takes, tb_gm 73 (by decide +kernel) (by decide +kernel), by decide, by decide⟩
theorem mi_X12_takes : mi_ok M_X12_takes := ⟨tb_gm 1211 (by decide +kernel) (by decide +kernel), tb_gm 41 (by decide +kernel) (by decide +kernel)⟩
theorem mp_X12_takes : mp_n M_X12_takes 1 := by unfold mp_n; decide +kernel
abbrev M_X12_sumOf : mt_T := (yX12_sumOf, cX12_sumOf, 4, some .int, 1, 21)
theorem mk_X12_sumOf : mk_ok M_X12_sumOf := ⟨cd_X12_sumOf, tb_gm 73 (by decide +kernel) (by decide +kernel), by decide, by decide⟩
theorem mi_X12_sumOf : mi_ok M_X12_sumOf := ⟨tb_gm 1231 (by decide +kernel) (by decide +kernel), tb_gm 46 (by decide +kernel) (by decide +kernel)⟩
theorem mp_X12_sumOf : mp_n M_X12_sumOf 0 := by unfold mp_n; decide +kernel
abbrev M_X12_sumOfSector : mt_T := (yX12_sumOfSector, cX12_sumOfSector, 3, some .int, 2, 44)
theorem mk_X12_sumOfSector : mk_ok M_X12_sumOfSector := ⟨cd_X12_sumOfSector, tb_gm 73 (by decide +kernel) (by decide +kernel), by decide, by decide⟩
theorem mi_X12_sumOfSector : mi_ok M_X12_sumOfSector := ⟨tb_gm 1227 (by decide +kernel) (by decide +kernel), tb_gm 45 (by decide +kernel) (by decide +kernel)⟩
theorem mp_X12_sumOfSector : mp_n M_X12_sumOfSector 1 := by unfold mp_n; decide +kernel
abbrev M_X12_told : mt_T := (yX12_told, cX12_told, 2, some .int, 1, 20)
theorem mk_X12_told : mk_ok M_X12_told := ⟨cd_X12_told, tb_gm 73 (by decide +kernel) (by decide +kernel), by decide, by decide⟩
theorem mi_X12_told : mi_ok M_X12_told := ⟨tb_gm 1223 (by decide +kernel) (by decide +kernel), tb_gm 44 (by decide +kernel) (by decide +kernel)⟩
theorem mp_X12_told : mp_n M_X12_told 1 := by unfold mp_n; decide +kernel
abbrev M_X12_isRight : mt_T := (yX12_isRight, cX12_isRight, 2, some .boolean, 3, 66)
theorem mk_X12_isRight : mk_ok M_X12_isRight := ⟨cd_X12_isRight, tb_gm 73 (by decide +kernel) (by decide +kernel), by decide, by decide⟩
theorem mi_X12_isRight : mi_ok M_X12_isRight := ⟨tb_gm 1241 (by decide +kernel) (by decide +kernel), tb_gm 47 (by decide +kernel) (by decide +kernel)⟩
theorem mp_X12_isRight : mp_n M_X12_isRight 1 := by unfold mp_n; decide +kernel
abbrev M_X12_trackOf : mt_T := (yX12_trackOf, cX12_trackOf, 2, some .int, 0, 0)
theorem mk_X12_trackOf : mk_ok M_X12_trackOf := ⟨cd_X12_trackOf, tb_gm 73 (by decide +kernel) (by decide +kernel), by decide, by decide⟩
theorem mi_X12_trackOf : mi_ok M_X12_trackOf := ⟨tb_gm 1215 (by decide +kernel) (by decide +kernel), tb_gm 42 (by decide +kernel) (by decide +kernel)⟩
theorem mp_X12_trackOf : mp_n M_X12_trackOf 1 := by unfold mp_n; decide +kernel
abbrev M_X12_numberOf : mt_T := (yX12_numberOf, cX12_numberOf, 2, some .int, 0, 0)
theorem mk_X12_numberOf : mk_ok M_X12_numberOf := ⟨cd_X12_numberOf, tb_gm 73 (by decide +kernel) (by decide +kernel), by decide, by decide⟩
theorem mi_X12_numberOf : mi_ok M_X12_numberOf := ⟨tb_gm 1219 (by decide +kernel) (by decide +kernel), tb_gm 43 (by decide +kernel) (by decide +kernel)⟩
theorem mp_X12_numberOf : mp_n M_X12_numberOf 1 := by unfold mp_n; decide +kernel
abbrev M_X12_found : mt_T := (yX12_found, cX12_found, 4, some .int, 3, 76)
theorem mk_X12_found : mk_ok M_X12_found := ⟨cd_X12_found, tb_gm 73 (by decide +kernel) (by decide +kernel), by decide, by decide⟩
theorem mi_X12_found : mi_ok M_X12_found := ⟨tb_gm 1191 (by decide +kernel) (by decide +kernel), tb_gm 1192 (by decide +kernel) (by decide +kernel)⟩
theorem mp_X12_found : mp_n M_X12_found 3 := by unfold mp_n; decide +kernel
abbrev M_X12_tuned : mt_T := (yX12_tuned, cX12_tuned, 12, some .int, 4, 87)
theorem mk_X12_tuned : mk_ok M_X12_tuned := ⟨cd_X12_tuned, tb_gm 73 (by decide +kernel) (by decide +kernel), by decide, by decide⟩
theorem mi_X12_tuned : mi_ok M_X12_tuned := ⟨tb_gm 1234 (by decide +kernel) (by decide +kernel), tb_gm 1235 (by decide +kernel) (by decide +kernel)⟩
theorem mp_X12_tuned : mp_n M_X12_tuned 2 := by unfold mp_n; decide +kernel
abbrev M_X12_gathers : mt_T := (yX12_gathers, cX12_gathers, 6, none, 4, 87)
theorem mk_X12_gathers : mk_ok M_X12_gathers := ⟨cd_X12_gathers, tb_gm 73 (by decide +kernel) (by decide +kernel), by decide, by decide⟩
theorem mi_X12_gathers : mi_ok M_X12_gathers := ⟨tb_gm 1257 (by decide +kernel) (by decide +kernel), tb_gm 50 (by decide +kernel) (by decide +kernel)⟩
theorem mp_X12_gathers : mp_n M_X12_gathers 2 := by unfold mp_n; decide +kernel
abbrev M_X12_isAhead : mt_T := (yX12_isAhead, cX12_isAhead, 4, some .boolean, 0, 0)
theorem mk_X12_isAhead : mk_ok M_X12_isAhead := ⟨cd_X12_isAhead, tb_gm 73 (by decide +kernel) (by decide +kernel), by decide, by decide⟩
theorem mi_X12_isAhead : mi_ok M_X12_isAhead := ⟨tb_gm 1265 (by decide +kernel) (by decide +kernel), tb_gm 52 (by decide +kernel) (by decide +kernel)⟩
theorem mp_X12_isAhead : mp_n M_X12_isAhead 2 := by unfold mp_n; decide +kernel
abbrev M_X12_mends : mt_T := (yX12_mends, cX12_mends, 6, some .int, 2, 44)
theorem mk_X12_mends : mk_ok M_X12_mends := ⟨cd_X12_mends, tb_gm 73 (by decide +kernel) (by decide +kernel), by decide, by decide⟩
theorem mi_X12_mends : mi_ok M_X12_mends := ⟨tb_gm 1261 (by decide +kernel) (by decide +kernel), tb_gm 51 (by decide +kernel) (by decide +kernel)⟩
theorem mp_X12_mends : mp_n M_X12_mends 0 := by unfold mp_n; decide +kernel
abbrev M_X12_statusOf : mt_T := (yX12_statusOf, cX12_statusOf, 7, some .int, 5, 112)
theorem mk_X12_statusOf : mk_ok M_X12_statusOf := ⟨cd_X12_statusOf, tb_gm 73 (by decide +kernel) (by decide +kernel), by decide, by decide⟩
theorem mi_X12_statusOf : mi_ok M_X12_statusOf := ⟨tb_gm 1253 (by decide +kernel) (by decide +kernel), tb_gm 49 (by decide +kernel) (by decide +kernel)⟩
theorem mp_X12_statusOf : mp_n M_X12_statusOf 2 := by unfold mp_n; decide +kernel
abbrev M_X12_isWhole : mt_T := (yX12_isWhole, cX12_isWhole, 1, some .boolean, 0, 0)
theorem mk_X12_isWhole : mk_ok M_X12_isWhole := ⟨cd_X12_isWhole, tb_gm 73 (by decide +kernel) (by decide +kernel), by decide, by decide⟩
theorem ms_X12_isWhole : Cond.static (m_y M_X12_isWhole) ∈ tb_g := tb_gm 1272 (by decide +kernel) (by decide +kernel)
theorem mp_X12_isWhole : mp_n M_X12_isWhole 1 := by unfold mp_n; decide +kernel
abbrev M_X12_isSector : mt_T := (yX12_isSector, cX12_isSector, 3, some .boolean, 1, 22)
theorem mk_X12_isSector : mk_ok M_X12_isSector := ⟨cd_X12_isSector, tb_gm 73 (by decide +kernel) (by decide +kernel), by decide, by decide⟩
theorem mi_X12_isSector : mi_ok M_X12_isSector := ⟨tb_gm 1249 (by decide +kernel) (by decide +kernel), tb_gm 48 (by decide +kernel) (by decide +kernel)⟩
theorem mp_X12_isSector : mp_n M_X12_isSector 2 := by unfold mp_n; decide +kernel
abbrev M_X12_status : mt_T := (yX12_status, cX12_status, 7, some .int, 6, 138)
theorem mk_X12_status : mk_ok M_X12_status := ⟨cd_X12_status, tb_gm 73 (by decide +kernel) (by decide +kernel), by decide, by decide⟩
theorem mi_X12_status : mi_ok M_X12_status := ⟨tb_gm 1244 (by decide +kernel) (by decide +kernel), tb_gm 1245 (by decide +kernel) (by decide +kernel)⟩
theorem mp_X12_status : mp_n M_X12_status 3 := by unfold mp_n; decide +kernel
abbrev M_X12_value : mt_T := (yX12_value, cX12_value, 10, some .int, 6, 138)
theorem mk_X12_value : mk_ok M_X12_value := ⟨cd_X12_value, tb_gm 73 (by decide +kernel) (by decide +kernel), by decide, by decide⟩
theorem mi_X12_value : mi_ok M_X12_value := ⟨tb_gm 1268 (by decide +kernel) (by decide +kernel), tb_gm 1269 (by decide +kernel) (by decide +kernel)⟩
theorem mp_X12_value : mp_n M_X12_value 3 := by unfold mp_n; decide +kernel
abbrev M_X12_isCluster : mt_T := (yX12_isCluster, cX12_isCluster, 1, some .boolean, 1, 22)
theorem mk_X12_isCluster : mk_ok M_X12_isCluster := ⟨cd_X12_isCluster, tb_gm 73 (by decide +kernel) (by decide +kernel), by decide, by decide⟩
theorem ms_X12_isCluster : Cond.static (m_y M_X12_isCluster) ∈ tb_g := tb_gm 1279 (by decide +kernel) (by decide +kernel)
theorem mp_X12_isCluster : mp_n M_X12_isCluster 1 := by unfold mp_n; decide +kernel
abbrev M_X12_tell : mt_T := (yX12_tell, cX12_tell, 4, some .boolean, 2, 42)
theorem mk_X12_tell : mk_ok M_X12_tell := ⟨cd_X12_tell, tb_gm 73 (by decide +kernel) (by decide +kernel), by decide, by decide⟩
theorem mi_X12_tell : mi_ok M_X12_tell := ⟨tb_gm 1275 (by decide +kernel) (by decide +kernel), tb_gm 1276 (by decide +kernel) (by decide +kernel)⟩
theorem mp_X12_tell : mp_n M_X12_tell 3 := by unfold mp_n; decide +kernel
abbrev M_X12_file : mt_T := (yX12_file, cX12_file, 3, some .int, 2, 42)
theorem mk_X12_file : mk_ok M_X12_file := ⟨cd_X12_file, tb_gm 73 (by decide +kernel) (by decide +kernel), by decide, by decide⟩
theorem mi_X12_file : mi_ok M_X12_file := ⟨tb_gm 1282 (by decide +kernel) (by decide +kernel), tb_gm 1283 (by decide +kernel) (by decide +kernel)⟩
theorem mp_X12_file : mp_n M_X12_file 2 := by unfold mp_n; decide +kernel
abbrev M_X12_chains : mt_T := (yX12_chains, cX12_chains, 4, none, 2, 42)
theorem mk_X12_chains : mk_ok M_X12_chains := ⟨cd_X12_chains, tb_gm 73 (by decide +kernel) (by decide +kernel), by decide, by decide⟩
theorem mi_X12_chains : mi_ok M_X12_chains := ⟨tb_gm 1307 (by decide +kernel) (by decide +kernel), tb_gm 56 (by decide +kernel) (by decide +kernel)⟩
theorem mp_X12_chains : mp_n M_X12_chains 1 := by unfold mp_n; decide +kernel
abbrev M_X12_mishapsNow : mt_T := (yX12_mishapsNow, cX12_mishapsNow, 5, some .int, 3, 65)
theorem mk_X12_mishapsNow : mk_ok M_X12_mishapsNow := ⟨cd_X12_mishapsNow, tb_gm 73 (by decide +kernel) (by decide +kernel), by decide, by decide⟩
theorem mi_X12_mishapsNow : mi_ok M_X12_mishapsNow := ⟨tb_gm 1303 (by decide +kernel) (by decide +kernel), tb_gm 55 (by decide +kernel) (by decide +kernel)⟩
theorem mp_X12_mishapsNow : mp_n M_X12_mishapsNow 0 := by unfold mp_n; decide +kernel
abbrev M_X12_takesFrom : mt_T := (yX12_takesFrom, cX12_takesFrom, 3, none, 0, 0)
theorem mk_X12_takesFrom : mk_ok M_X12_takesFrom := ⟨cd_X12_takesFrom, tb_gm 73 (by decide +kernel) (by decide +kernel), by decide, by decide⟩
theorem mi_X12_takesFrom : mi_ok M_X12_takesFrom := ⟨tb_gm 1296 (by decide +kernel) (by decide +kernel), tb_gm 54 (by decide +kernel) (by decide +kernel)⟩
theorem mp_X12_takesFrom : mp_n M_X12_takesFrom 1 := by unfold mp_n; decide +kernel
abbrev M_X12_ones : mt_T := (yX12_ones, cX12_ones, 3, some .int, 0, 0)
theorem mk_X12_ones : mk_ok M_X12_ones := ⟨cd_X12_ones, tb_gm 73 (by decide +kernel) (by decide +kernel), by decide, by decide⟩
theorem ms_X12_ones : Cond.static (m_y M_X12_ones) ∈ tb_g := tb_gm 1299 (by decide +kernel) (by decide +kernel)
theorem mp_X12_ones : mp_n M_X12_ones 1 := by unfold mp_n; decide +kernel
abbrev M_X12_asks : mt_T := (yX12_asks, cX12_asks, 8, some .boolean, 4, 89)
theorem mk_X12_asks : mk_ok M_X12_asks := ⟨cd_X12_asks, tb_gm 73 (by decide +kernel) (by decide +kernel), by decide, by decide⟩
theorem mi_X12_asks : mi_ok M_X12_asks := ⟨tb_gm 1291 (by decide +kernel) (by decide +kernel), tb_gm 53 (by decide +kernel) (by decide +kernel)⟩
theorem mp_X12_asks : mp_n M_X12_asks 1 := by unfold mp_n; decide +kernel
abbrev M_X12_mishaps : mt_T := (yX12_mishaps, cX12_mishaps, 2, some .int, 5, 116)
theorem mk_X12_mishaps : mk_ok M_X12_mishaps := ⟨cd_X12_mishaps, tb_gm 73 (by decide +kernel) (by decide +kernel), by decide, by decide⟩
theorem mi_X12_mishaps : mi_ok M_X12_mishaps := ⟨tb_gm 1286 (by decide +kernel) (by decide +kernel), tb_gm 1287 (by decide +kernel) (by decide +kernel)⟩
theorem mp_X12_mishaps : mp_n M_X12_mishaps 1 := by unfold mp_n; decide +kernel
abbrev M_X12_next : mt_T := (yX12_next, cX12_next, 3, some .int, 5, 116)
theorem mk_X12_next : mk_ok M_X12_next := ⟨cd_X12_next, tb_gm 73 (by decide +kernel) (by decide +kernel), by decide, by decide⟩
theorem mi_X12_next : mi_ok M_X12_next := ⟨tb_gm 1310 (by decide +kernel) (by decide +kernel), tb_gm 1311 (by decide +kernel) (by decide +kernel)⟩
theorem mp_X12_next : mp_n M_X12_next 2 := by unfold mp_n; decide +kernel
abbrev M_X12_chain : mt_T := (yX12_chain, cX12_chain, 4, some .int, 5, 116)
theorem mk_X12_chain : mk_ok M_X12_chain := ⟨cd_X12_chain, tb_gm 73 (by decide +kernel) (by decide +kernel), by decide, by decide⟩
theorem mi_X12_chain : mi_ok M_X12_chain := ⟨tb_gm 1314 (by decide +kernel) (by decide +kernel), tb_gm 1315 (by decide +kernel) (by decide +kernel)⟩
theorem mp_X12_chain : mp_n M_X12_chain 3 := by unfold mp_n; decide +kernel
abbrev M_X12_gaps : mt_T := (yX12_gaps, cX12_gaps, 4, some .int, 6, 138)
theorem mk_X12_gaps : mk_ok M_X12_gaps := ⟨cd_X12_gaps, tb_gm 73 (by decide +kernel) (by decide +kernel), by decide, by decide⟩
theorem mi_X12_gaps : mi_ok M_X12_gaps := ⟨tb_gm 1318 (by decide +kernel) (by decide +kernel), tb_gm 1319 (by decide +kernel) (by decide +kernel)⟩
theorem mp_X12_gaps : mp_n M_X12_gaps 1 := by unfold mp_n; decide +kernel
abbrev M_X12_hope : mt_T := (yX12_hope, cX12_hope, 7, some .int, 4, 87)
theorem mk_X12_hope : mk_ok M_X12_hope := ⟨cd_X12_hope, tb_gm 73 (by decide +kernel) (by decide +kernel), by decide, by decide⟩
theorem mi_X12_hope : mi_ok M_X12_hope := ⟨tb_gm 1322 (by decide +kernel) (by decide +kernel), tb_gm 1323 (by decide +kernel) (by decide +kernel)⟩
theorem mp_X12_hope : mp_n M_X12_hope 1 := by unfold mp_n; decide +kernel
abbrev M_X12_ask : mt_T := (yX12_ask, cX12_ask, 8, some .int, 6, 138)
theorem mk_X12_ask : mk_ok M_X12_ask := ⟨cd_X12_ask, tb_gm 73 (by decide +kernel) (by decide +kernel), by decide, by decide⟩
theorem mi_X12_ask : mi_ok M_X12_ask := ⟨tb_gm 1326 (by decide +kernel) (by decide +kernel), tb_gm 1327 (by decide +kernel) (by decide +kernel)⟩
theorem mp_X12_ask : mp_n M_X12_ask 1 := by unfold mp_n; decide +kernel
abbrev M_X12_lays : mt_T := (yX12_lays, cX12_lays, 2, some .boolean, 0, 0)
theorem mk_X12_lays : mk_ok M_X12_lays := ⟨cd_X12_lays, tb_gm 73 (by decide +kernel) (by decide +kernel), by decide, by decide⟩
theorem mi_X12_lays : mi_ok M_X12_lays := ⟨tb_gm 1340 (by decide +kernel) (by decide +kernel), tb_gm 58 (by decide +kernel) (by decide +kernel)⟩
theorem mp_X12_lays : mp_n M_X12_lays 1 := by unfold mp_n; decide +kernel
abbrev M_X12_writes : mt_T := (yX12_writes, cX12_writes, 8, some .boolean, 2, 44)
theorem mk_X12_writes : mk_ok M_X12_writes := ⟨cd_X12_writes, tb_gm 73 (by decide +kernel) (by decide +kernel), by decide, by decide⟩
theorem mi_X12_writes : mi_ok M_X12_writes := ⟨tb_gm 1336 (by decide +kernel) (by decide +kernel), tb_gm 57 (by decide +kernel) (by decide +kernel)⟩
theorem mp_X12_writes : mp_n M_X12_writes 0 := by unfold mp_n; decide +kernel
abbrev M_X12_written : mt_T := (yX12_written, cX12_written, 4, some .int, 6, 138)
theorem mk_X12_written : mk_ok M_X12_written := ⟨cd_X12_written, tb_gm 73 (by decide +kernel) (by decide +kernel), by decide, by decide⟩
theorem mi_X12_written : mi_ok M_X12_written := ⟨tb_gm 1331 (by decide +kernel) (by decide +kernel), tb_gm 1332 (by decide +kernel) (by decide +kernel)⟩
theorem mp_X12_written : mp_n M_X12_written 3 := by unfold mp_n; decide +kernel
abbrev M_X12_count : mt_T := (yX12_count, cX12_count, 2, some .int, 0, 0)
theorem mk_X12_count : mk_ok M_X12_count := ⟨cd_X12_count, tb_gm 73 (by decide +kernel) (by decide +kernel), by decide, by decide⟩
theorem mi_X12_count : mi_ok M_X12_count := ⟨tb_gm 1343 (by decide +kernel) (by decide +kernel), tb_gm 1344 (by decide +kernel) (by decide +kernel)⟩
theorem mp_X12_count : mp_n M_X12_count 1 := by unfold mp_n; decide +kernel
abbrev M_J6_bitCount_0f7a4 : mt_T := (yJ6_bitCount_0f7a4, cJ6_bitCount_0f7a4, 1, some .int, 0, 0)
theorem mk_J6_bitCount_0f7a4 : mk_ok M_J6_bitCount_0f7a4 := ⟨cd_J6_bitCount_0f7a4, tb_gm 80 (by decide +kernel) (by decide +kernel), by decide, by decide⟩
theorem ms_J6_bitCount_0f7a4 : Cond.static (m_y M_J6_bitCount_0f7a4) ∈ tb_g := tb_gm 884 (by decide +kernel) (by decide +kernel)
theorem mp_J6_bitCount_0f7a4 : mp_n M_J6_bitCount_0f7a4 1 := by unfold mp_n; decide +kernel
abbrev M_J9_floorDiv_7cf53 : mt_T := (yJ9_floorDiv_7cf53, cJ9_floorDiv_7cf53, 3, some .int, 0, 0)
theorem mk_J9_floorDiv_7cf53 : mk_ok M_J9_floorDiv_7cf53 := ⟨cd_J9_floorDiv_7cf53, tb_gm 74 (by decide +kernel) (by decide +kernel), by decide, by decide⟩
theorem ms_J9_floorDiv_7cf53 : Cond.static (m_y M_J9_floorDiv_7cf53) ∈ tb_g := tb_gm 683 (by decide +kernel) (by decide +kernel)
theorem mp_J9_floorDiv_7cf53 : mp_n M_J9_floorDiv_7cf53 2 := by unfold mp_n; decide +kernel
abbrev M_J9_max_7cf53 : mt_T := (yJ9_max_7cf53, cJ9_max_7cf53, 2, some .int, 0, 0)
theorem mk_J9_max_7cf53 : mk_ok M_J9_max_7cf53 := ⟨cd_J9_max_7cf53, tb_gm 74 (by decide +kernel) (by decide +kernel), by decide, by decide⟩
theorem ms_J9_max_7cf53 : Cond.static (m_y M_J9_max_7cf53) ∈ tb_g := tb_gm 675 (by decide +kernel) (by decide +kernel)
theorem mp_J9_max_7cf53 : mp_n M_J9_max_7cf53 2 := by unfold mp_n; decide +kernel
abbrev M_J9_min_7cf53 : mt_T := (yJ9_min_7cf53, cJ9_min_7cf53, 2, some .int, 0, 0)
theorem mk_J9_min_7cf53 : mk_ok M_J9_min_7cf53 := ⟨cd_J9_min_7cf53, tb_gm 74 (by decide +kernel) (by decide +kernel), by decide, by decide⟩
theorem ms_J9_min_7cf53 : Cond.static (m_y M_J9_min_7cf53) ∈ tb_g := tb_gm 534 (by decide +kernel) (by decide +kernel)
theorem mp_J9_min_7cf53 : mp_n M_J9_min_7cf53 2 := by unfold mp_n; decide +kernel
abbrev M_J0_length_8abf5 : mt_T := (yJ0_length_8abf5, cJ0_length_8abf5, 1, some .int, 1, 20)
theorem mk_J0_length_8abf5 : mk_ok M_J0_length_8abf5 := ⟨cd_J0_length_8abf5, tb_gm 75 (by decide +kernel) (by decide +kernel), by decide, by decide⟩
theorem mi_J0_length_8abf5 : mi_ok M_J0_length_8abf5 := ⟨tb_gm 546 (by decide +kernel) (by decide +kernel), tb_gm 547 (by decide +kernel) (by decide +kernel)⟩
theorem mp_J0_length_8abf5 : mp_n M_J0_length_8abf5 0 := by unfold mp_n; decide +kernel
abbrev M_J0_charAt_5068e : mt_T := (yJ0_charAt_5068e, cJ0_charAt_5068e, 2, some .char, 3, 64)
theorem mk_J0_charAt_5068e : mk_ok M_J0_charAt_5068e := ⟨cd_J0_charAt_5068e, tb_gm 75 (by decide +kernel) (by decide +kernel), by decide, by decide⟩
theorem mi_J0_charAt_5068e : mi_ok M_J0_charAt_5068e := ⟨tb_gm 556 (by decide +kernel) (by decide +kernel), tb_gm 557 (by decide +kernel) (by decide +kernel)⟩
theorem mp_J0_charAt_5068e : mp_n M_J0_charAt_5068e 1 := by unfold mp_n; decide +kernel
abbrev M_J0_coder_7d493 : mt_T := (yJ0_coder_7d493, cJ0_coder_7d493, 1, some .byte, 0, 0)
theorem mk_J0_coder_7d493 : mk_ok M_J0_coder_7d493 := ⟨cd_J0_coder_7d493, tb_gm 75 (by decide +kernel) (by decide +kernel), by decide, by decide⟩
theorem mi_J0_coder_7d493 : mi_ok M_J0_coder_7d493 := ⟨tb_gm 550 (by decide +kernel) (by decide +kernel), tb_gm 551 (by decide +kernel) (by decide +kernel)⟩
theorem mp_J0_coder_7d493 : mp_n M_J0_coder_7d493 0 := by unfold mp_n; decide +kernel
abbrev M_J0_isLatin1_aae02 : mt_T := (yJ0_isLatin1_aae02, cJ0_isLatin1_aae02, 1, some .boolean, 0, 0)
theorem mk_J0_isLatin1_aae02 : mk_ok M_J0_isLatin1_aae02 := ⟨cd_J0_isLatin1_aae02, tb_gm 75 (by decide +kernel) (by decide +kernel), by decide, by decide⟩
theorem mi_J0_isLatin1_aae02 : mi_ok M_J0_isLatin1_aae02 := ⟨tb_gm 560 (by decide +kernel) (by decide +kernel), tb_gm 561 (by decide +kernel) (by decide +kernel)⟩
theorem mp_J0_isLatin1_aae02 : mp_n M_J0_isLatin1_aae02 0 := by unfold mp_n; decide +kernel
abbrev M_J0_checkIndex_df160 : mt_T := (yJ0_checkIndex_df160, cJ0_checkIndex_df160, 2, none, 1, 22)
theorem mk_J0_checkIndex_df160 : mk_ok M_J0_checkIndex_df160 := ⟨cd_J0_checkIndex_df160, tb_gm 75 (by decide +kernel) (by decide +kernel), by decide, by decide⟩
theorem ms_J0_checkIndex_df160 : Cond.static (m_y M_J0_checkIndex_df160) ∈ tb_g := tb_gm 567 (by decide +kernel) (by decide +kernel)
theorem mp_J0_checkIndex_df160 : mp_n M_J0_checkIndex_df160 2 := by unfold mp_n; decide +kernel
abbrev M_J1_charAt_3b067 : mt_T := (yJ1_charAt_3b067, cJ1_charAt_3b067, 2, some .char, 2, 43)
theorem mk_J1_charAt_3b067 : mk_ok M_J1_charAt_3b067 := ⟨cd_J1_charAt_3b067, tb_gm 76 (by decide +kernel) (by decide +kernel), by decide, by decide⟩
theorem ms_J1_charAt_3b067 : Cond.static (m_y M_J1_charAt_3b067) ∈ tb_g := tb_gm 564 (by decide +kernel) (by decide +kernel)
theorem mp_J1_charAt_3b067 : mp_n M_J1_charAt_3b067 2 := by unfold mp_n; decide +kernel
abbrev M_J7_fill_53178 : mt_T := (yJ7_fill_53178, cJ7_fill_53178, 4, none, 0, 0)
theorem mk_J7_fill_53178 : mk_ok M_J7_fill_53178 := ⟨cd_J7_fill_53178, tb_gm 70 (by decide +kernel) (by decide +kernel), by decide, by decide⟩
theorem ms_J7_fill_53178 : Cond.static (m_y M_J7_fill_53178) ∈ tb_g := tb_gm 345 (by decide +kernel) (by decide +kernel)
theorem mp_J7_fill_53178 : mp_n M_J7_fill_53178 2 := by unfold mp_n; decide +kernel
abbrev M_J3_checkIndex_8e157 : mt_T := (yJ3_checkIndex_8e157, cJ3_checkIndex_8e157, 3, some .int, 0, 0)
theorem mk_J3_checkIndex_8e157 : mk_ok M_J3_checkIndex_8e157 := ⟨cd_J3_checkIndex_8e157, tb_gm 77 (by decide +kernel) (by decide +kernel), by decide, by decide⟩
theorem ms_J3_checkIndex_8e157 : Cond.static (m_y M_J3_checkIndex_8e157) ∈ tb_g := tb_gm 572 (by decide +kernel) (by decide +kernel)
theorem mp_J3_checkIndex_8e157 : mp_n M_J3_checkIndex_8e157 3 := by unfold mp_n; decide +kernel
abbrev M_L_law : mt_T := (x, code, 4, some .boolean, 13, 470)
theorem rm_J0_charAt_5068e__J0_isLatin1_aae02 : rm_ok M_J0_charAt_5068e M_J0_isLatin1_aae02 := ⟨by decide, by decide⟩
theorem rm_J0_charAt_5068e__J1_charAt_3b067 : rm_ok M_J0_charAt_5068e M_J1_charAt_3b067 := ⟨by decide, by decide⟩
theorem rm_J0_checkIndex_df160__J3_checkIndex_8e157 : rm_ok M_J0_checkIndex_df160 M_J3_checkIndex_8e157 := ⟨by decide, by decide⟩
theorem rm_J0_length_8abf5__J0_coder_7d493 : rm_ok M_J0_length_8abf5 M_J0_coder_7d493 := ⟨by decide, by decide⟩
theorem rm_J1_charAt_3b067__J0_checkIndex_df160 : rm_ok M_J1_charAt_3b067 M_J0_checkIndex_df160 := ⟨by decide, by decide⟩
theorem rm_L_law__X11_ask : rm_ok M_L_law M_X11_ask := ⟨by decide, by decide⟩
theorem rm_L_law__X11_chain : rm_ok M_L_law M_X11_chain := ⟨by decide, by decide⟩
theorem rm_L_law__X11_count : rm_ok M_L_law M_X11_count := ⟨by decide, by decide⟩
theorem rm_L_law__X11_end : rm_ok M_L_law M_X11_end := ⟨by decide, by decide⟩
theorem rm_L_law__X11_fault : rm_ok M_L_law M_X11_fault := ⟨by decide, by decide⟩
theorem rm_L_law__X11_feed : rm_ok M_L_law M_X11_feed := ⟨by decide, by decide⟩
theorem rm_L_law__X11_file : rm_ok M_L_law M_X11_file := ⟨by decide, by decide⟩
theorem rm_L_law__X11_flux : rm_ok M_L_law M_X11_flux := ⟨by decide, by decide⟩
theorem rm_L_law__X11_format : rm_ok M_L_law M_X11_format := ⟨by decide, by decide⟩
theorem rm_L_law__X11_found : rm_ok M_L_law M_X11_found := ⟨by decide, by decide⟩
theorem rm_L_law__X11_gaps : rm_ok M_L_law M_X11_gaps := ⟨by decide, by decide⟩
theorem rm_L_law__X11_hope : rm_ok M_L_law M_X11_hope := ⟨by decide, by decide⟩
theorem rm_L_law__X11_mishaps : rm_ok M_L_law M_X11_mishaps := ⟨by decide, by decide⟩
theorem rm_L_law__X11_next : rm_ok M_L_law M_X11_next := ⟨by decide, by decide⟩
theorem rm_L_law__X11_raw : rm_ok M_L_law M_X11_raw := ⟨by decide, by decide⟩
theorem rm_L_law__X11_read : rm_ok M_L_law M_X11_read := ⟨by decide, by decide⟩
theorem rm_L_law__X11_status : rm_ok M_L_law M_X11_status := ⟨by decide, by decide⟩
theorem rm_L_law__X11_tell : rm_ok M_L_law M_X11_tell := ⟨by decide, by decide⟩
theorem rm_L_law__X11_tuned : rm_ok M_L_law M_X11_tuned := ⟨by decide, by decide⟩
theorem rm_L_law__X11_value : rm_ok M_L_law M_X11_value := ⟨by decide, by decide⟩
theorem rm_L_law__X11_wipe : rm_ok M_L_law M_X11_wipe := ⟨by decide, by decide⟩
theorem rm_L_law__X11_written : rm_ok M_L_law M_X11_written := ⟨by decide, by decide⟩
theorem rm_L_law__X12_ask : rm_ok M_L_law M_X12_ask := ⟨by decide, by decide⟩
theorem rm_L_law__X12_chain : rm_ok M_L_law M_X12_chain := ⟨by decide, by decide⟩
theorem rm_L_law__X12_count : rm_ok M_L_law M_X12_count := ⟨by decide, by decide⟩
theorem rm_L_law__X12_end : rm_ok M_L_law M_X12_end := ⟨by decide, by decide⟩
theorem rm_L_law__X12_fault : rm_ok M_L_law M_X12_fault := ⟨by decide, by decide⟩
theorem rm_L_law__X12_feed : rm_ok M_L_law M_X12_feed := ⟨by decide, by decide⟩
theorem rm_L_law__X12_file : rm_ok M_L_law M_X12_file := ⟨by decide, by decide⟩
theorem rm_L_law__X12_flux : rm_ok M_L_law M_X12_flux := ⟨by decide, by decide⟩
theorem rm_L_law__X12_format : rm_ok M_L_law M_X12_format := ⟨by decide, by decide⟩
theorem rm_L_law__X12_found : rm_ok M_L_law M_X12_found := ⟨by decide, by decide⟩
theorem rm_L_law__X12_gaps : rm_ok M_L_law M_X12_gaps := ⟨by decide, by decide⟩
theorem rm_L_law__X12_hope : rm_ok M_L_law M_X12_hope := ⟨by decide, by decide⟩
theorem rm_L_law__X12_mishaps : rm_ok M_L_law M_X12_mishaps := ⟨by decide, by decide⟩
theorem rm_L_law__X12_next : rm_ok M_L_law M_X12_next := ⟨by decide, by decide⟩
theorem rm_L_law__X12_raw : rm_ok M_L_law M_X12_raw := ⟨by decide, by decide⟩
theorem rm_L_law__X12_read : rm_ok M_L_law M_X12_read := ⟨by decide, by decide⟩
theorem rm_L_law__X12_status : rm_ok M_L_law M_X12_status := ⟨by decide, by decide⟩
theorem rm_L_law__X12_tell : rm_ok M_L_law M_X12_tell := ⟨by decide, by decide⟩
theorem rm_L_law__X12_tuned : rm_ok M_L_law M_X12_tuned := ⟨by decide, by decide⟩
theorem rm_L_law__X12_value : rm_ok M_L_law M_X12_value := ⟨by decide, by decide⟩
theorem rm_L_law__X12_wipe : rm_ok M_L_law M_X12_wipe := ⟨by decide, by decide⟩
theorem rm_L_law__X12_written : rm_ok M_L_law M_X12_written := ⟨by decide, by decide⟩
theorem rm_X0_faultsBy__J6_bitCount_0f7a4 : rm_ok M_X0_faultsBy M_J6_bitCount_0f7a4 := ⟨by decide, by decide⟩
theorem rm_X0_faultsBy__X0_lostOnes : rm_ok M_X0_faultsBy M_X0_lostOnes := ⟨by decide, by decide⟩
theorem rm_X0_faultsBy__X11_isCluster : rm_ok M_X0_faultsBy M_X11_isCluster := ⟨by decide, by decide⟩
theorem rm_X0_inFiles__X0_rowOf : rm_ok M_X0_inFiles M_X0_rowOf := ⟨by decide, by decide⟩
theorem rm_X0_inFiles__X0_walk : rm_ok M_X0_inFiles M_X0_walk := ⟨by decide, by decide⟩
theorem rm_X0_join__J6_bitCount_0f7a4 : rm_ok M_X0_join M_J6_bitCount_0f7a4 := ⟨by decide, by decide⟩
theorem rm_X0_join__X0_choose : rm_ok M_X0_join M_X0_choose := ⟨by decide, by decide⟩
theorem rm_X0_join__X0_faultsBy : rm_ok M_X0_join M_X0_faultsBy := ⟨by decide, by decide⟩
theorem rm_X0_rowOf__X0_findUnlike : rm_ok M_X0_rowOf M_X0_findUnlike := ⟨by decide, by decide⟩
theorem rm_X0_rowOf__X0_join : rm_ok M_X0_rowOf M_X0_join := ⟨by decide, by decide⟩
theorem rm_X0_walk__X0_holds : rm_ok M_X0_walk M_X0_holds := ⟨by decide, by decide⟩
theorem rm_X0_walk__X11_isCluster : rm_ok M_X0_walk M_X11_isCluster := ⟨by decide, by decide⟩
theorem rm_X0_write__X11_isCluster : rm_ok M_X0_write M_X11_isCluster := ⟨by decide, by decide⟩
theorem rm_X10_push__X11_byteOf : rm_ok M_X10_push M_X11_byteOf := ⟨by decide, by decide⟩
theorem rm_X11_ask__X11_bestDrive : rm_ok M_X11_ask M_X11_bestDrive := ⟨by decide, by decide⟩
theorem rm_X11_ask__X11_worstTrack : rm_ok M_X11_ask M_X11_worstTrack := ⟨by decide, by decide⟩
theorem rm_X11_bestDrive__X8_hopeOf : rm_ok M_X11_bestDrive M_X8_hopeOf := ⟨by decide, by decide⟩
theorem rm_X11_chain__X0_holds : rm_ok M_X11_chain M_X0_holds := ⟨by decide, by decide⟩
theorem rm_X11_chain__X0_rowOf : rm_ok M_X11_chain M_X0_rowOf := ⟨by decide, by decide⟩
theorem rm_X11_chain__X0_walk : rm_ok M_X11_chain M_X0_walk := ⟨by decide, by decide⟩
theorem rm_X11_fault__X2_parse : rm_ok M_X11_fault M_X2_parse := ⟨by decide, by decide⟩
theorem rm_X11_feed__X2_push : rm_ok M_X11_feed M_X2_push := ⟨by decide, by decide⟩
theorem rm_X11_file__X0_add : rm_ok M_X11_file M_X0_add := ⟨by decide, by decide⟩
theorem rm_X11_file__X11_isCluster : rm_ok M_X11_file M_X11_isCluster := ⟨by decide, by decide⟩
theorem rm_X11_flux__X10_push : rm_ok M_X11_flux M_X10_push := ⟨by decide, by decide⟩
theorem rm_X11_flux__X11_stepsIn : rm_ok M_X11_flux M_X11_stepsIn := ⟨by decide, by decide⟩
theorem rm_X11_format__X2_parse : rm_ok M_X11_format M_X2_parse := ⟨by decide, by decide⟩
theorem rm_X11_format__X3_forget : rm_ok M_X11_format M_X3_forget := ⟨by decide, by decide⟩
theorem rm_X11_format__X4_take : rm_ok M_X11_format M_X4_take := ⟨by decide, by decide⟩
theorem rm_X11_found__X11_ofSector : rm_ok M_X11_found M_X11_ofSector := ⟨by decide, by decide⟩
theorem rm_X11_found__X8_holds : rm_ok M_X11_found M_X8_holds := ⟨by decide, by decide⟩
theorem rm_X11_gaps__X0_holds : rm_ok M_X11_gaps M_X0_holds := ⟨by decide, by decide⟩
theorem rm_X11_gaps__X0_rowOf : rm_ok M_X11_gaps M_X0_rowOf := ⟨by decide, by decide⟩
theorem rm_X11_gaps__X0_walk : rm_ok M_X11_gaps M_X0_walk := ⟨by decide, by decide⟩
theorem rm_X11_gaps__X11_soundStatus : rm_ok M_X11_gaps M_X11_soundStatus := ⟨by decide, by decide⟩
theorem rm_X11_gaps__X3_judgeCluster : rm_ok M_X11_gaps M_X3_judgeCluster := ⟨by decide, by decide⟩
theorem rm_X11_hope__X11_isDrive : rm_ok M_X11_hope M_X11_isDrive := ⟨by decide, by decide⟩
theorem rm_X11_hope__X8_hopeOf : rm_ok M_X11_hope M_X8_hopeOf := ⟨by decide, by decide⟩
theorem rm_X11_mishaps__X0_faultsBy : rm_ok M_X11_mishaps M_X0_faultsBy := ⟨by decide, by decide⟩
theorem rm_X11_mishaps__X0_rowOf : rm_ok M_X11_mishaps M_X0_rowOf := ⟨by decide, by decide⟩
theorem rm_X11_next__X0_rowOf : rm_ok M_X11_next M_X0_rowOf := ⟨by decide, by decide⟩
theorem rm_X11_next__X11_isCluster : rm_ok M_X11_next M_X11_isCluster := ⟨by decide, by decide⟩
theorem rm_X11_raw__X5_fill : rm_ok M_X11_raw M_X5_fill := ⟨by decide, by decide⟩
theorem rm_X11_read__X11_isDrive : rm_ok M_X11_read M_X11_isDrive := ⟨by decide, by decide⟩
theorem rm_X11_read__X3_forget : rm_ok M_X11_read M_X3_forget := ⟨by decide, by decide⟩
theorem rm_X11_read__X8_put : rm_ok M_X11_read M_X8_put := ⟨by decide, by decide⟩
theorem rm_X11_status__X11_canJudge : rm_ok M_X11_status M_X11_canJudge := ⟨by decide, by decide⟩
theorem rm_X11_status__X3_judge : rm_ok M_X11_status M_X3_judge := ⟨by decide, by decide⟩
theorem rm_X11_stepsIn__X11_byteOf : rm_ok M_X11_stepsIn M_X11_byteOf := ⟨by decide, by decide⟩
theorem rm_X11_tell__X0_write : rm_ok M_X11_tell M_X0_write := ⟨by decide, by decide⟩
theorem rm_X11_tell__X11_isCluster : rm_ok M_X11_tell M_X11_isCluster := ⟨by decide, by decide⟩
theorem rm_X11_tuned__X8_holds : rm_ok M_X11_tuned M_X8_holds := ⟨by decide, by decide⟩
theorem rm_X11_tuned__X8_tune : rm_ok M_X11_tuned M_X8_tune := ⟨by decide, by decide⟩
theorem rm_X11_value__X11_canJudge : rm_ok M_X11_value M_X11_canJudge := ⟨by decide, by decide⟩
theorem rm_X11_value__X3_judge : rm_ok M_X11_value M_X3_judge := ⟨by decide, by decide⟩
theorem rm_X11_value__X3_vote : rm_ok M_X11_value M_X3_vote := ⟨by decide, by decide⟩
theorem rm_X11_worstTrack__X0_inFiles : rm_ok M_X11_worstTrack M_X0_inFiles := ⟨by decide, by decide⟩
theorem rm_X11_worstTrack__X11_soundStatus : rm_ok M_X11_worstTrack M_X11_soundStatus := ⟨by decide, by decide⟩
theorem rm_X11_worstTrack__X3_judgeCluster : rm_ok M_X11_worstTrack M_X3_judgeCluster := ⟨by decide, by decide⟩
theorem rm_X11_written__X11_canJudge : rm_ok M_X11_written M_X11_canJudge := ⟨by decide, by decide⟩
theorem rm_X11_written__X11_soundStatus : rm_ok M_X11_written M_X11_soundStatus := ⟨by decide, by decide⟩
theorem rm_X11_written__X3_judge : rm_ok M_X11_written M_X3_judge := ⟨by decide, by decide⟩
theorem rm_X11_written__X6_write : rm_ok M_X11_written M_X6_write := ⟨by decide, by decide⟩
theorem rm_X12_ask__X12_asks : rm_ok M_X12_ask M_X12_asks := ⟨by decide, by decide⟩
theorem rm_X12_ask__X12_chains : rm_ok M_X12_ask M_X12_chains := ⟨by decide, by decide⟩
theorem rm_X12_ask__X12_hope : rm_ok M_X12_ask M_X12_hope := ⟨by decide, by decide⟩
theorem rm_X12_ask__X12_in : rm_ok M_X12_ask M_X12_in := ⟨by decide, by decide⟩
theorem rm_X12_ask__X12_isWhole : rm_ok M_X12_ask M_X12_isWhole := ⟨by decide, by decide⟩
theorem rm_X12_ask__X12_statusOf : rm_ok M_X12_ask M_X12_statusOf := ⟨by decide, by decide⟩
theorem rm_X12_asks__X12_in : rm_ok M_X12_asks M_X12_in := ⟨by decide, by decide⟩
theorem rm_X12_asks__X12_mishapsNow : rm_ok M_X12_asks M_X12_mishapsNow := ⟨by decide, by decide⟩
theorem rm_X12_asks__X12_ones : rm_ok M_X12_asks M_X12_ones := ⟨by decide, by decide⟩
theorem rm_X12_asks__X12_takesFrom : rm_ok M_X12_asks M_X12_takesFrom := ⟨by decide, by decide⟩
theorem rm_X12_chain__X12_asks : rm_ok M_X12_chain M_X12_asks := ⟨by decide, by decide⟩
theorem rm_X12_chain__X12_chains : rm_ok M_X12_chain M_X12_chains := ⟨by decide, by decide⟩
theorem rm_X12_chain__X12_in : rm_ok M_X12_chain M_X12_in := ⟨by decide, by decide⟩
theorem rm_X12_chains__X12_isCluster : rm_ok M_X12_chains M_X12_isCluster := ⟨by decide, by decide⟩
theorem rm_X12_closes__X12_leads : rm_ok M_X12_closes M_X12_leads := ⟨by decide, by decide⟩
theorem rm_X12_end__X12_in : rm_ok M_X12_end M_X12_in := ⟨by decide, by decide⟩
theorem rm_X12_fault__X12_leads : rm_ok M_X12_fault M_X12_leads := ⟨by decide, by decide⟩
theorem rm_X12_fault__X12_line : rm_ok M_X12_fault M_X12_line := ⟨by decide, by decide⟩
theorem rm_X12_file__X12_in : rm_ok M_X12_file M_X12_in := ⟨by decide, by decide⟩
theorem rm_X12_file__X12_isCluster : rm_ok M_X12_file M_X12_isCluster := ⟨by decide, by decide⟩
theorem rm_X12_finds__X12_isMark : rm_ok M_X12_finds M_X12_isMark := ⟨by decide, by decide⟩
theorem rm_X12_finds__X12_many : rm_ok M_X12_finds M_X12_many := ⟨by decide, by decide⟩
theorem rm_X12_finds__X12_takes : rm_ok M_X12_finds M_X12_takes := ⟨by decide, by decide⟩
theorem rm_X12_finds__X12_turns : rm_ok M_X12_finds M_X12_turns := ⟨by decide, by decide⟩
theorem rm_X12_flux__X12_byteOf : rm_ok M_X12_flux M_X12_byteOf := ⟨by decide, by decide⟩
theorem rm_X12_format__X12_fault : rm_ok M_X12_format M_X12_fault := ⟨by decide, by decide⟩
theorem rm_X12_found__X12_finds : rm_ok M_X12_found M_X12_finds := ⟨by decide, by decide⟩
theorem rm_X12_found__X12_in : rm_ok M_X12_found M_X12_in := ⟨by decide, by decide⟩
theorem rm_X12_found__X12_numberOf : rm_ok M_X12_found M_X12_numberOf := ⟨by decide, by decide⟩
theorem rm_X12_found__X12_sumOfSector : rm_ok M_X12_found M_X12_sumOfSector := ⟨by decide, by decide⟩
theorem rm_X12_found__X12_told : rm_ok M_X12_found M_X12_told := ⟨by decide, by decide⟩
theorem rm_X12_found__X12_trackOf : rm_ok M_X12_found M_X12_trackOf := ⟨by decide, by decide⟩
theorem rm_X12_gaps__X12_asks : rm_ok M_X12_gaps M_X12_asks := ⟨by decide, by decide⟩
theorem rm_X12_gaps__X12_chains : rm_ok M_X12_gaps M_X12_chains := ⟨by decide, by decide⟩
theorem rm_X12_gaps__X12_in : rm_ok M_X12_gaps M_X12_in := ⟨by decide, by decide⟩
theorem rm_X12_gaps__X12_isWhole : rm_ok M_X12_gaps M_X12_isWhole := ⟨by decide, by decide⟩
theorem rm_X12_gaps__X12_statusOf : rm_ok M_X12_gaps M_X12_statusOf := ⟨by decide, by decide⟩
theorem rm_X12_gathers__X12_finds : rm_ok M_X12_gathers M_X12_finds := ⟨by decide, by decide⟩
theorem rm_X12_gathers__X12_isRight : rm_ok M_X12_gathers M_X12_isRight := ⟨by decide, by decide⟩
theorem rm_X12_gathers__X12_many : rm_ok M_X12_gathers M_X12_many := ⟨by decide, by decide⟩
theorem rm_X12_gathers__X12_numberOf : rm_ok M_X12_gathers M_X12_numberOf := ⟨by decide, by decide⟩
theorem rm_X12_gathers__X12_trackOf : rm_ok M_X12_gathers M_X12_trackOf := ⟨by decide, by decide⟩
theorem rm_X12_hope__X12_finds : rm_ok M_X12_hope M_X12_finds := ⟨by decide, by decide⟩
theorem rm_X12_hope__X12_in : rm_ok M_X12_hope M_X12_in := ⟨by decide, by decide⟩
theorem rm_X12_hope__X12_isRight : rm_ok M_X12_hope M_X12_isRight := ⟨by decide, by decide⟩
theorem rm_X12_isCluster__X12_in : rm_ok M_X12_isCluster M_X12_in := ⟨by decide, by decide⟩
theorem rm_X12_isMark__X12_bitOf : rm_ok M_X12_isMark M_X12_bitOf := ⟨by decide, by decide⟩
theorem rm_X12_isRight__X12_sumOfSector : rm_ok M_X12_isRight M_X12_sumOfSector := ⟨by decide, by decide⟩
theorem rm_X12_isRight__X12_told : rm_ok M_X12_isRight M_X12_told := ⟨by decide, by decide⟩
theorem rm_X12_isSector__X12_in : rm_ok M_X12_isSector M_X12_in := ⟨by decide, by decide⟩
theorem rm_X12_isWord__X12_packed : rm_ok M_X12_isWord M_X12_packed := ⟨by decide, by decide⟩
theorem rm_X12_leads__X12_isDigit : rm_ok M_X12_leads M_X12_isDigit := ⟨by decide, by decide⟩
theorem rm_X12_leads__X12_isLetter : rm_ok M_X12_leads M_X12_isLetter := ⟨by decide, by decide⟩
theorem rm_X12_line__X12_closes : rm_ok M_X12_line M_X12_closes := ⟨by decide, by decide⟩
theorem rm_X12_line__X12_isWord : rm_ok M_X12_line M_X12_isWord := ⟨by decide, by decide⟩
theorem rm_X12_line__X12_leads : rm_ok M_X12_line M_X12_leads := ⟨by decide, by decide⟩
theorem rm_X12_line__X12_number : rm_ok M_X12_line M_X12_number := ⟨by decide, by decide⟩
theorem rm_X12_line__X12_sumHere : rm_ok M_X12_line M_X12_sumHere := ⟨by decide, by decide⟩
theorem rm_X12_mends__X12_isAhead : rm_ok M_X12_mends M_X12_isAhead := ⟨by decide, by decide⟩
theorem rm_X12_mends__X12_many : rm_ok M_X12_mends M_X12_many := ⟨by decide, by decide⟩
theorem rm_X12_mends__X12_sumOf : rm_ok M_X12_mends M_X12_sumOf := ⟨by decide, by decide⟩
theorem rm_X12_mishaps__X12_asks : rm_ok M_X12_mishaps M_X12_asks := ⟨by decide, by decide⟩
theorem rm_X12_mishaps__X12_mishapsNow : rm_ok M_X12_mishaps M_X12_mishapsNow := ⟨by decide, by decide⟩
theorem rm_X12_mishapsNow__X12_chains : rm_ok M_X12_mishapsNow M_X12_chains := ⟨by decide, by decide⟩
theorem rm_X12_next__X12_asks : rm_ok M_X12_next M_X12_asks := ⟨by decide, by decide⟩
theorem rm_X12_next__X12_isCluster : rm_ok M_X12_next M_X12_isCluster := ⟨by decide, by decide⟩
theorem rm_X12_number__X12_leads : rm_ok M_X12_number M_X12_leads := ⟨by decide, by decide⟩
theorem rm_X12_packed__J0_charAt_5068e : rm_ok M_X12_packed M_J0_charAt_5068e := ⟨by decide, by decide⟩
theorem rm_X12_packed__J0_length_8abf5 : rm_ok M_X12_packed M_J0_length_8abf5 := ⟨by decide, by decide⟩
theorem rm_X12_raw__X12_in : rm_ok M_X12_raw M_X12_in := ⟨by decide, by decide⟩
theorem rm_X12_raw__X12_turns : rm_ok M_X12_raw M_X12_turns := ⟨by decide, by decide⟩
theorem rm_X12_read__X12_in : rm_ok M_X12_read M_X12_in := ⟨by decide, by decide⟩
theorem rm_X12_status__X12_in : rm_ok M_X12_status M_X12_in := ⟨by decide, by decide⟩
theorem rm_X12_status__X12_isSector : rm_ok M_X12_status M_X12_isSector := ⟨by decide, by decide⟩
theorem rm_X12_status__X12_statusOf : rm_ok M_X12_status M_X12_statusOf := ⟨by decide, by decide⟩
theorem rm_X12_statusOf__X12_gathers : rm_ok M_X12_statusOf M_X12_gathers := ⟨by decide, by decide⟩
theorem rm_X12_statusOf__X12_many : rm_ok M_X12_statusOf M_X12_many := ⟨by decide, by decide⟩
theorem rm_X12_statusOf__X12_mends : rm_ok M_X12_statusOf M_X12_mends := ⟨by decide, by decide⟩
theorem rm_X12_sumHere__X12_isWord : rm_ok M_X12_sumHere M_X12_isWord := ⟨by decide, by decide⟩
theorem rm_X12_sumHere__X12_leads : rm_ok M_X12_sumHere M_X12_leads := ⟨by decide, by decide⟩
theorem rm_X12_sumHere__X12_number : rm_ok M_X12_sumHere M_X12_number := ⟨by decide, by decide⟩
theorem rm_X12_sumOf__X12_bitOf : rm_ok M_X12_sumOf M_X12_bitOf := ⟨by decide, by decide⟩
theorem rm_X12_sumOf__X12_many : rm_ok M_X12_sumOf M_X12_many := ⟨by decide, by decide⟩
theorem rm_X12_sumOfSector__X12_many : rm_ok M_X12_sumOfSector M_X12_many := ⟨by decide, by decide⟩
theorem rm_X12_sumOfSector__X12_sumOf : rm_ok M_X12_sumOfSector M_X12_sumOf := ⟨by decide, by decide⟩
theorem rm_X12_takes__X12_bitOf : rm_ok M_X12_takes M_X12_bitOf := ⟨by decide, by decide⟩
theorem rm_X12_takes__X12_many : rm_ok M_X12_takes M_X12_many := ⟨by decide, by decide⟩
theorem rm_X12_tell__X12_in : rm_ok M_X12_tell M_X12_in := ⟨by decide, by decide⟩
theorem rm_X12_tell__X12_isCluster : rm_ok M_X12_tell M_X12_isCluster := ⟨by decide, by decide⟩
theorem rm_X12_told__X12_many : rm_ok M_X12_told M_X12_many := ⟨by decide, by decide⟩
theorem rm_X12_tuned__J9_max_7cf53 : rm_ok M_X12_tuned M_J9_max_7cf53 := ⟨by decide, by decide⟩
theorem rm_X12_tuned__J9_min_7cf53 : rm_ok M_X12_tuned M_J9_min_7cf53 := ⟨by decide, by decide⟩
theorem rm_X12_tuned__X12_finds : rm_ok M_X12_tuned M_X12_finds := ⟨by decide, by decide⟩
theorem rm_X12_tuned__X12_in : rm_ok M_X12_tuned M_X12_in := ⟨by decide, by decide⟩
theorem rm_X12_tuned__X12_isRight : rm_ok M_X12_tuned M_X12_isRight := ⟨by decide, by decide⟩
theorem rm_X12_turns__J9_floorDiv_7cf53 : rm_ok M_X12_turns M_J9_floorDiv_7cf53 := ⟨by decide, by decide⟩
theorem rm_X12_value__X12_in : rm_ok M_X12_value M_X12_in := ⟨by decide, by decide⟩
theorem rm_X12_value__X12_isSector : rm_ok M_X12_value M_X12_isSector := ⟨by decide, by decide⟩
theorem rm_X12_value__X12_isWhole : rm_ok M_X12_value M_X12_isWhole := ⟨by decide, by decide⟩
theorem rm_X12_value__X12_statusOf : rm_ok M_X12_value M_X12_statusOf := ⟨by decide, by decide⟩
theorem rm_X12_writes__X12_bitOf : rm_ok M_X12_writes M_X12_bitOf := ⟨by decide, by decide⟩
theorem rm_X12_writes__X12_lays : rm_ok M_X12_writes M_X12_lays := ⟨by decide, by decide⟩
theorem rm_X12_writes__X12_many : rm_ok M_X12_writes M_X12_many := ⟨by decide, by decide⟩
theorem rm_X12_writes__X12_sumOf : rm_ok M_X12_writes M_X12_sumOf := ⟨by decide, by decide⟩
theorem rm_X12_written__X12_in : rm_ok M_X12_written M_X12_in := ⟨by decide, by decide⟩
theorem rm_X12_written__X12_isSector : rm_ok M_X12_written M_X12_isSector := ⟨by decide, by decide⟩
theorem rm_X12_written__X12_isWhole : rm_ok M_X12_written M_X12_isWhole := ⟨by decide, by decide⟩
theorem rm_X12_written__X12_statusOf : rm_ok M_X12_written M_X12_statusOf := ⟨by decide, by decide⟩
theorem rm_X12_written__X12_writes : rm_ok M_X12_written M_X12_writes := ⟨by decide, by decide⟩
theorem rm_X1_rightOnes__X7_isRight : rm_ok M_X1_rightOnes M_X7_isRight := ⟨by decide, by decide⟩
theorem rm_X1_search__X7_take : rm_ok M_X1_search M_X7_take := ⟨by decide, by decide⟩
theorem rm_X1_slipsOfRight__X7_isRight : rm_ok M_X1_slipsOfRight M_X7_isRight := ⟨by decide, by decide⟩
theorem rm_X2_isWord__J0_charAt_5068e : rm_ok M_X2_isWord M_J0_charAt_5068e := ⟨by decide, by decide⟩
theorem rm_X2_isWord__J0_length_8abf5 : rm_ok M_X2_isWord M_J0_length_8abf5 := ⟨by decide, by decide⟩
theorem rm_X2_lineBegun__X2_isWord : rm_ok M_X2_lineBegun M_X2_isWord := ⟨by decide, by decide⟩
theorem rm_X2_parse__X2_lineBegun : rm_ok M_X2_parse M_X2_lineBegun := ⟨by decide, by decide⟩
theorem rm_X2_parse__X2_step : rm_ok M_X2_parse M_X2_step := ⟨by decide, by decide⟩
theorem rm_X2_parse__X2_takeRest : rm_ok M_X2_parse M_X2_takeRest := ⟨by decide, by decide⟩
theorem rm_X2_parse__X2_takeStop : rm_ok M_X2_parse M_X2_takeStop := ⟨by decide, by decide⟩
theorem rm_X2_parse__X4_clear : rm_ok M_X2_parse M_X4_clear := ⟨by decide, by decide⟩
theorem rm_X2_push__X11_byteOf : rm_ok M_X2_push M_X11_byteOf := ⟨by decide, by decide⟩
theorem rm_X2_step__J9_min_7cf53 : rm_ok M_X2_step M_J9_min_7cf53 := ⟨by decide, by decide⟩
theorem rm_X2_step__X2_isLong : rm_ok M_X2_step M_X2_isLong := ⟨by decide, by decide⟩
theorem rm_X2_step__X2_kindAt : rm_ok M_X2_step M_X2_kindAt := ⟨by decide, by decide⟩
theorem rm_X2_takeMark__X2_takeNumber : rm_ok M_X2_takeMark M_X2_takeNumber := ⟨by decide, by decide⟩
theorem rm_X2_takeNumber__X2_step : rm_ok M_X2_takeNumber M_X2_step := ⟨by decide, by decide⟩
theorem rm_X2_takeRest__X2_takeMark : rm_ok M_X2_takeRest M_X2_takeMark := ⟨by decide, by decide⟩
theorem rm_X2_takeRest__X2_takeNumber : rm_ok M_X2_takeRest M_X2_takeNumber := ⟨by decide, by decide⟩
theorem rm_X2_takeRest__X2_takeSum : rm_ok M_X2_takeRest M_X2_takeSum := ⟨by decide, by decide⟩
theorem rm_X2_takeStop__X2_step : rm_ok M_X2_takeStop M_X2_step := ⟨by decide, by decide⟩
theorem rm_X2_takeSum__X2_isWord : rm_ok M_X2_takeSum M_X2_isWord := ⟨by decide, by decide⟩
theorem rm_X2_takeSum__X2_step : rm_ok M_X2_takeSum M_X2_step := ⟨by decide, by decide⟩
theorem rm_X2_takeSum__X2_takeNumber : rm_ok M_X2_takeSum M_X2_takeNumber := ⟨by decide, by decide⟩
theorem rm_X3_forget__J7_fill_53178 : rm_ok M_X3_forget M_J7_fill_53178 := ⟨by decide, by decide⟩
theorem rm_X3_gather__X7_isRight : rm_ok M_X3_gather M_X7_isRight := ⟨by decide, by decide⟩
theorem rm_X3_gatherKinds__X3_hasKind : rm_ok M_X3_gatherKinds M_X3_hasKind := ⟨by decide, by decide⟩
theorem rm_X3_gatherKinds__X7_byteOrSum : rm_ok M_X3_gatherKinds M_X7_byteOrSum := ⟨by decide, by decide⟩
theorem rm_X3_hasSum__X3_hasKind : rm_ok M_X3_hasSum M_X3_hasKind := ⟨by decide, by decide⟩
theorem rm_X3_judge__X3_gather : rm_ok M_X3_judge M_X3_gather := ⟨by decide, by decide⟩
theorem rm_X3_judge__X3_mend : rm_ok M_X3_judge M_X3_mend := ⟨by decide, by decide⟩
theorem rm_X3_judge__X3_rightAgree : rm_ok M_X3_judge M_X3_rightAgree := ⟨by decide, by decide⟩
theorem rm_X3_judgeCluster__X11_isCluster : rm_ok M_X3_judgeCluster M_X11_isCluster := ⟨by decide, by decide⟩
theorem rm_X3_judgeCluster__X3_judge : rm_ok M_X3_judgeCluster M_X3_judge := ⟨by decide, by decide⟩
theorem rm_X3_mend__J9_min_7cf53 : rm_ok M_X3_mend M_J9_min_7cf53 := ⟨by decide, by decide⟩
theorem rm_X3_mend__X3_chooseAnother : rm_ok M_X3_mend M_X3_chooseAnother := ⟨by decide, by decide⟩
theorem rm_X3_mend__X3_gatherKinds : rm_ok M_X3_mend M_X3_gatherKinds := ⟨by decide, by decide⟩
theorem rm_X3_mend__X3_hasSum : rm_ok M_X3_mend M_X3_hasSum := ⟨by decide, by decide⟩
theorem rm_X3_mend__X3_keepRow : rm_ok M_X3_mend M_X3_keepRow := ⟨by decide, by decide⟩
theorem rm_X3_mend__X4_sumOfHead : rm_ok M_X3_mend M_X4_sumOfHead := ⟨by decide, by decide⟩
theorem rm_X3_mend__X4_sumWith : rm_ok M_X3_mend M_X4_sumWith := ⟨by decide, by decide⟩
theorem rm_X3_rightAgree__X7_hasData : rm_ok M_X3_rightAgree M_X7_hasData := ⟨by decide, by decide⟩
theorem rm_X3_rightAgree__X7_isRight : rm_ok M_X3_rightAgree M_X7_isRight := ⟨by decide, by decide⟩
theorem rm_X3_vote__J7_fill_53178 : rm_ok M_X3_vote M_J7_fill_53178 := ⟨by decide, by decide⟩
theorem rm_X3_vote__X11_soundStatus : rm_ok M_X3_vote M_X11_soundStatus := ⟨by decide, by decide⟩
theorem rm_X4_sumOf__X4_sumOfHead : rm_ok M_X4_sumOf M_X4_sumOfHead := ⟨by decide, by decide⟩
theorem rm_X4_sumOf__X4_sumWith : rm_ok M_X4_sumOf M_X4_sumWith := ⟨by decide, by decide⟩
theorem rm_X4_sumOfHead__X4_firstByte : rm_ok M_X4_sumOfHead M_X4_firstByte := ⟨by decide, by decide⟩
theorem rm_X4_sumOfHead__X4_secondByte : rm_ok M_X4_sumOfHead M_X4_secondByte := ⟨by decide, by decide⟩
theorem rm_X4_sumOfHead__X4_sumWith : rm_ok M_X4_sumOfHead M_X4_sumWith := ⟨by decide, by decide⟩
theorem rm_X5_fill__J9_floorDiv_7cf53 : rm_ok M_X5_fill M_J9_floorDiv_7cf53 := ⟨by decide, by decide⟩
theorem rm_X5_fill__J9_max_7cf53 : rm_ok M_X5_fill M_J9_max_7cf53 := ⟨by decide, by decide⟩
theorem rm_X5_fill__J9_min_7cf53 : rm_ok M_X5_fill M_J9_min_7cf53 := ⟨by decide, by decide⟩
theorem rm_X5_fill__X5_push : rm_ok M_X5_fill M_X5_push := ⟨by decide, by decide⟩
theorem rm_X6_pushByte__X11_clockDue : rm_ok M_X6_pushByte M_X11_clockDue := ⟨by decide, by decide⟩
theorem rm_X6_pushByte__X6_pushBit : rm_ok M_X6_pushByte M_X6_pushBit := ⟨by decide, by decide⟩
theorem rm_X6_write__X4_firstByte : rm_ok M_X6_write M_X4_firstByte := ⟨by decide, by decide⟩
theorem rm_X6_write__X4_secondByte : rm_ok M_X6_write M_X4_secondByte := ⟨by decide, by decide⟩
theorem rm_X6_write__X4_sumOf : rm_ok M_X6_write M_X4_sumOf := ⟨by decide, by decide⟩
theorem rm_X6_write__X6_pushBit : rm_ok M_X6_write M_X6_pushBit := ⟨by decide, by decide⟩
theorem rm_X6_write__X6_pushByte : rm_ok M_X6_write M_X6_pushByte := ⟨by decide, by decide⟩
theorem rm_X7_slipsIn__X11_clockDue : rm_ok M_X7_slipsIn M_X11_clockDue := ⟨by decide, by decide⟩
theorem rm_X7_take__J9_min_7cf53 : rm_ok M_X7_take M_J9_min_7cf53 := ⟨by decide, by decide⟩
theorem rm_X7_take__X4_firstByte : rm_ok M_X7_take M_X4_firstByte := ⟨by decide, by decide⟩
theorem rm_X7_take__X4_secondByte : rm_ok M_X7_take M_X4_secondByte := ⟨by decide, by decide⟩
theorem rm_X7_take__X4_sumOf : rm_ok M_X7_take M_X4_sumOf := ⟨by decide, by decide⟩
theorem rm_X7_take__X7_byteAt : rm_ok M_X7_take M_X7_byteAt := ⟨by decide, by decide⟩
theorem rm_X7_take__X7_slipsIn : rm_ok M_X7_take M_X7_slipsIn := ⟨by decide, by decide⟩
theorem rm_X8_hopeOf__X1_rightOnes : rm_ok M_X8_hopeOf M_X1_rightOnes := ⟨by decide, by decide⟩
theorem rm_X8_keepBetter__X1_rightOnes : rm_ok M_X8_keepBetter M_X1_rightOnes := ⟨by decide, by decide⟩
theorem rm_X8_keepBetter__X1_slipsOfRight : rm_ok M_X8_keepBetter M_X1_slipsOfRight := ⟨by decide, by decide⟩
theorem rm_X8_put__X10_take : rm_ok M_X8_put M_X10_take := ⟨by decide, by decide⟩
theorem rm_X8_put__X1_search : rm_ok M_X8_put M_X1_search := ⟨by decide, by decide⟩
theorem rm_X8_put__X5_fill : rm_ok M_X8_put M_X5_fill := ⟨by decide, by decide⟩
theorem rm_X8_tune__J9_max_7cf53 : rm_ok M_X8_tune M_J9_max_7cf53 := ⟨by decide, by decide⟩
theorem rm_X8_tune__J9_min_7cf53 : rm_ok M_X8_tune M_J9_min_7cf53 := ⟨by decide, by decide⟩
theorem rm_X8_tune__X1_search : rm_ok M_X8_tune M_X1_search := ⟨by decide, by decide⟩
theorem rm_X8_tune__X5_fill : rm_ok M_X8_tune M_X5_fill := ⟨by decide, by decide⟩
theorem rm_X8_tune__X8_holds : rm_ok M_X8_tune M_X8_holds := ⟨by decide, by decide⟩
theorem rm_X8_tune__X8_keepBetter : rm_ok M_X8_tune M_X8_keepBetter := ⟨by decide, by decide⟩
theorem rc_0 : rc_ok 0 RX0 := Or.inl ⟨0, _, rfl, rfl, rfl⟩
theorem rc_1 : rc_ok 1 RX1 := Or.inl ⟨1, _, rfl, rfl, rfl⟩
theorem rc_2 : rc_ok 2 RX2 := Or.inl ⟨2, _, rfl, rfl, rfl⟩
theorem rc_3 : rc_ok 3 RX3 := Or.inl ⟨3, _, rfl, rfl, rfl⟩
theorem rc_4 : rc_ok 4 RX4 := Or.inl ⟨4, _, rfl, rfl, rfl⟩
theorem rc_5 : rc_ok 5 RX5 := Or.inl ⟨5, _, rfl, rfl, rfl⟩
theorem rc_6 : rc_ok 6 RX6 := Or.inl ⟨6, _, rfl, rfl, rfl⟩
theorem rc_7 : rc_ok 7 RX7 := Or.inl ⟨7, _, rfl, rfl, rfl⟩
theorem rc_8 : rc_ok 8 RX8 := Or.inl ⟨8, _, rfl, rfl, rfl⟩
theorem rc_9 : rc_ok 9 RX9 := Or.inl ⟨9, _, rfl, rfl, rfl⟩
theorem rc_10 : rc_ok 10 RX10 := Or.inl ⟨10, _, rfl, rfl, rfl⟩
theorem rc_11 : rc_ok 11 RX11 := Or.inl ⟨11, _, rfl, rfl, rfl⟩
theorem rc_12 : rc_ok 12 RX12 := Or.inl ⟨12, _, rfl, rfl, rfl⟩
theorem rc_63 : rc_ok 63 RJ0 := Or.inr ⟨rfl, rfl⟩
theorem fk_RX11_10 : fk RX11 10 11 0 := ⟨_, rfl, by decide, tb_gm 465 (by decide +kernel) (by decide +kernel)⟩
theorem fk_RX11_19 : fk RX11 19 11 1 := ⟨_, rfl, by decide, tb_gm 466 (by decide +kernel) (by decide +kernel)⟩
theorem fk_RX11_23 : fk RX11 23 11 2 := ⟨_, rfl, by decide, tb_gm 467 (by decide +kernel) (by decide +kernel)⟩
theorem fk_RX11_29 : fk RX11 29 11 3 := ⟨_, rfl, by decide, tb_gm 468 (by decide +kernel) (by decide +kernel)⟩
theorem fk_RX11_36 : fk RX11 36 11 4 := ⟨_, rfl, by decide, tb_gm 469 (by decide +kernel) (by decide +kernel)⟩
theorem fk_RX11_43 : fk RX11 43 11 5 := ⟨_, rfl, by decide, tb_gm 470 (by decide +kernel) (by decide +kernel)⟩
theorem fk_RX11_50 : fk RX11 50 11 6 := ⟨_, rfl, by decide, tb_gm 471 (by decide +kernel) (by decide +kernel)⟩
theorem fk_RX11_57 : fk RX11 57 11 7 := ⟨_, rfl, by decide, tb_gm 472 (by decide +kernel) (by decide +kernel)⟩
theorem fk_RX11_64 : fk RX11 64 11 8 := ⟨_, rfl, by decide, tb_gm 473 (by decide +kernel) (by decide +kernel)⟩
theorem fk_RX11_68 : fk RX11 68 2 1 := ⟨_, rfl, by decide, tb_gm 96 (by decide +kernel) (by decide +kernel)⟩
theorem fk_RX11_84 : fk RX11 84 10 1 := ⟨_, rfl, by decide, tb_gm 188 (by decide +kernel) (by decide +kernel)⟩
theorem fk_RX11_85 : fk RX11 85 8 1 := ⟨_, rfl, by decide, tb_gm 325 (by decide +kernel) (by decide +kernel)⟩
theorem fk_RX11_89 : fk RX11 89 4 4 := ⟨_, rfl, by decide, tb_gm 149 (by decide +kernel) (by decide +kernel)⟩
theorem fk_RX11_95 : fk RX11 95 4 0 := ⟨_, rfl, by decide, tb_gm 129 (by decide +kernel) (by decide +kernel)⟩
theorem fk_RX11_111 : fk RX11 111 5 1 := ⟨_, rfl, by decide, tb_gm 207 (by decide +kernel) (by decide +kernel)⟩
theorem fk_RX11_112 : fk RX11 112 5 0 := ⟨_, rfl, by decide, tb_gm 203 (by decide +kernel) (by decide +kernel)⟩
theorem fk_RX11_119 : fk RX11 119 8 0 := ⟨_, rfl, by decide, tb_gm 323 (by decide +kernel) (by decide +kernel)⟩
theorem fk_RX11_123 : fk RX11 123 9 1 := ⟨_, rfl, by decide, tb_gm 293 (by decide +kernel) (by decide +kernel)⟩
theorem fk_RX11_129 : fk RX11 129 1 1 := ⟨_, rfl, by decide, tb_gm 273 (by decide +kernel) (by decide +kernel)⟩
theorem fk_RX11_132 : fk RX11 132 1 0 := ⟨_, rfl, by decide, tb_gm 269 (by decide +kernel) (by decide +kernel)⟩
theorem fk_RX11_144 : fk RX11 144 9 4 := ⟨_, rfl, by decide, tb_gm 297 (by decide +kernel) (by decide +kernel)⟩
theorem fk_RX11_147 : fk RX11 147 9 5 := ⟨_, rfl, by decide, tb_gm 299 (by decide +kernel) (by decide +kernel)⟩
theorem fk_RX11_150 : fk RX11 150 9 6 := ⟨_, rfl, by decide, tb_gm 301 (by decide +kernel) (by decide +kernel)⟩
theorem fk_RX11_153 : fk RX11 153 9 7 := ⟨_, rfl, by decide, tb_gm 303 (by decide +kernel) (by decide +kernel)⟩
theorem fk_RX11_164 : fk RX11 164 3 2 := ⟨_, rfl, by decide, tb_gm 352 (by decide +kernel) (by decide +kernel)⟩
theorem fk_RX11_167 : fk RX11 167 3 0 := ⟨_, rfl, by decide, tb_gm 348 (by decide +kernel) (by decide +kernel)⟩
theorem fk_RX11_168 : fk RX11 168 3 1 := ⟨_, rfl, by decide, tb_gm 350 (by decide +kernel) (by decide +kernel)⟩
theorem fk_RX11_181 : fk RX11 181 0 0 := ⟨_, rfl, by decide, tb_gm 399 (by decide +kernel) (by decide +kernel)⟩
theorem fk_RX11_201 : fk RX11 201 0 1 := ⟨_, rfl, by decide, tb_gm 401 (by decide +kernel) (by decide +kernel)⟩
theorem fk_RX11_204 : fk RX11 204 0 2 := ⟨_, rfl, by decide, tb_gm 403 (by decide +kernel) (by decide +kernel)⟩
theorem fk_RX11_224 : fk RX11 224 3 3 := ⟨_, rfl, by decide, tb_gm 354 (by decide +kernel) (by decide +kernel)⟩
theorem fk_RX11_230 : fk RX11 230 6 1 := ⟨_, rfl, by decide, tb_gm 447 (by decide +kernel) (by decide +kernel)⟩
theorem fk_RX11_231 : fk RX11 231 6 0 := ⟨_, rfl, by decide, tb_gm 445 (by decide +kernel) (by decide +kernel)⟩
theorem fk_RX11_234 : fk RX11 234 4 1 := ⟨_, rfl, by decide, tb_gm 134 (by decide +kernel) (by decide +kernel)⟩
theorem fk_RX11_237 : fk RX11 237 4 2 := ⟨_, rfl, by decide, tb_gm 138 (by decide +kernel) (by decide +kernel)⟩
theorem fk_RX11_240 : fk RX11 240 7 0 := ⟨_, rfl, by decide, tb_gm 235 (by decide +kernel) (by decide +kernel)⟩
theorem fk_RX11_245 : fk RX11 245 7 1 := ⟨_, rfl, by decide, tb_gm 238 (by decide +kernel) (by decide +kernel)⟩
theorem fk_RX11_248 : fk RX11 248 7 2 := ⟨_, rfl, by decide, tb_gm 241 (by decide +kernel) (by decide +kernel)⟩
theorem fk_RX11_251 : fk RX11 251 7 3 := ⟨_, rfl, by decide, tb_gm 243 (by decide +kernel) (by decide +kernel)⟩
theorem fk_RX11_254 : fk RX11 254 7 4 := ⟨_, rfl, by decide, tb_gm 245 (by decide +kernel) (by decide +kernel)⟩
theorem fk_RX11_257 : fk RX11 257 7 5 := ⟨_, rfl, by decide, tb_gm 248 (by decide +kernel) (by decide +kernel)⟩
theorem fk_RX11_260 : fk RX11 260 7 6 := ⟨_, rfl, by decide, tb_gm 251 (by decide +kernel) (by decide +kernel)⟩
theorem fk_RX0_9 : fk RX0 9 0 2 := ⟨_, rfl, by decide, tb_gm 402 (by decide +kernel) (by decide +kernel)⟩
theorem fk_RX0_15 : fk RX0 15 0 3 := ⟨_, rfl, by decide, tb_gm 404 (by decide +kernel) (by decide +kernel)⟩
theorem fk_RX0_18 : fk RX0 18 0 4 := ⟨_, rfl, by decide, tb_gm 405 (by decide +kernel) (by decide +kernel)⟩
theorem fk_RX0_21 : fk RX0 21 0 5 := ⟨_, rfl, by decide, tb_gm 406 (by decide +kernel) (by decide +kernel)⟩
theorem fk_RX0_24 : fk RX0 24 0 6 := ⟨_, rfl, by decide, tb_gm 407 (by decide +kernel) (by decide +kernel)⟩
theorem fk_RX0_27 : fk RX0 27 0 10 := ⟨_, rfl, by decide, tb_gm 411 (by decide +kernel) (by decide +kernel)⟩
theorem fk_RX0_30 : fk RX0 30 0 11 := ⟨_, rfl, by decide, tb_gm 412 (by decide +kernel) (by decide +kernel)⟩
theorem fk_RX0_43 : fk RX0 43 0 8 := ⟨_, rfl, by decide, tb_gm 409 (by decide +kernel) (by decide +kernel)⟩
theorem fk_RX0_47 : fk RX0 47 0 0 := ⟨_, rfl, by decide, tb_gm 398 (by decide +kernel) (by decide +kernel)⟩
theorem fk_RX0_55 : fk RX0 55 0 9 := ⟨_, rfl, by decide, tb_gm 410 (by decide +kernel) (by decide +kernel)⟩
theorem fk_RX0_61 : fk RX0 61 0 1 := ⟨_, rfl, by decide, tb_gm 400 (by decide +kernel) (by decide +kernel)⟩
theorem fk_RX0_85 : fk RX0 85 0 7 := ⟨_, rfl, by decide, tb_gm 408 (by decide +kernel) (by decide +kernel)⟩
theorem fk_RX1_11 : fk RX1 11 1 0 := ⟨_, rfl, by decide, tb_gm 267 (by decide +kernel) (by decide +kernel)⟩
theorem fk_RX1_18 : fk RX1 18 1 1 := ⟨_, rfl, by decide, tb_gm 270 (by decide +kernel) (by decide +kernel)⟩
theorem fk_RX1_22 : fk RX1 22 4 4 := ⟨_, rfl, by decide, tb_gm 144 (by decide +kernel) (by decide +kernel)⟩
theorem fk_RX1_25 : fk RX1 25 5 1 := ⟨_, rfl, by decide, tb_gm 205 (by decide +kernel) (by decide +kernel)⟩
theorem fk_RX1_28 : fk RX1 28 5 0 := ⟨_, rfl, by decide, tb_gm 201 (by decide +kernel) (by decide +kernel)⟩
theorem fk_RX1_33 : fk RX1 33 4 3 := ⟨_, rfl, by decide, tb_gm 141 (by decide +kernel) (by decide +kernel)⟩
theorem fk_RX1_44 : fk RX1 44 7 5 := ⟨_, rfl, by decide, tb_gm 247 (by decide +kernel) (by decide +kernel)⟩
theorem fk_RX2_11 : fk RX2 11 2 0 := ⟨_, rfl, by decide, tb_gm 95 (by decide +kernel) (by decide +kernel)⟩
theorem fk_RX2_15 : fk RX2 15 2 1 := ⟨_, rfl, by decide, tb_gm 97 (by decide +kernel) (by decide +kernel)⟩
theorem fk_RX2_28 : fk RX2 28 2 7 := ⟨_, rfl, by decide, tb_gm 103 (by decide +kernel) (by decide +kernel)⟩
theorem fk_RX2_31 : fk RX2 31 2 4 := ⟨_, rfl, by decide, tb_gm 100 (by decide +kernel) (by decide +kernel)⟩
theorem fk_RX2_37 : fk RX2 37 2 2 := ⟨_, rfl, by decide, tb_gm 98 (by decide +kernel) (by decide +kernel)⟩
theorem fk_RX2_44 : fk RX2 44 2 3 := ⟨_, rfl, by decide, tb_gm 99 (by decide +kernel) (by decide +kernel)⟩
theorem fk_RX2_75 : fk RX2 75 2 6 := ⟨_, rfl, by decide, tb_gm 102 (by decide +kernel) (by decide +kernel)⟩
theorem fk_RX2_78 : fk RX2 78 4 1 := ⟨_, rfl, by decide, tb_gm 133 (by decide +kernel) (by decide +kernel)⟩
theorem fk_RX2_80 : fk RX2 80 4 2 := ⟨_, rfl, by decide, tb_gm 137 (by decide +kernel) (by decide +kernel)⟩
theorem fk_RX2_86 : fk RX2 86 4 4 := ⟨_, rfl, by decide, tb_gm 150 (by decide +kernel) (by decide +kernel)⟩
theorem fk_RX2_90 : fk RX2 90 4 8 := ⟨_, rfl, by decide, tb_gm 158 (by decide +kernel) (by decide +kernel)⟩
theorem fk_RX2_94 : fk RX2 94 4 3 := ⟨_, rfl, by decide, tb_gm 142 (by decide +kernel) (by decide +kernel)⟩
theorem fk_RX2_98 : fk RX2 98 4 5 := ⟨_, rfl, by decide, tb_gm 152 (by decide +kernel) (by decide +kernel)⟩
theorem fk_RX2_106 : fk RX2 106 4 6 := ⟨_, rfl, by decide, tb_gm 154 (by decide +kernel) (by decide +kernel)⟩
theorem fk_RX2_109 : fk RX2 109 4 7 := ⟨_, rfl, by decide, tb_gm 156 (by decide +kernel) (by decide +kernel)⟩
theorem fk_RX2_112 : fk RX2 112 2 5 := ⟨_, rfl, by decide, tb_gm 101 (by decide +kernel) (by decide +kernel)⟩
theorem fk_RX3_9 : fk RX3 9 3 3 := ⟨_, rfl, by decide, tb_gm 353 (by decide +kernel) (by decide +kernel)⟩
theorem fk_RX3_17 : fk RX3 17 3 4 := ⟨_, rfl, by decide, tb_gm 355 (by decide +kernel) (by decide +kernel)⟩
theorem fk_RX3_21 : fk RX3 21 3 5 := ⟨_, rfl, by decide, tb_gm 356 (by decide +kernel) (by decide +kernel)⟩
theorem fk_RX3_25 : fk RX3 25 3 6 := ⟨_, rfl, by decide, tb_gm 357 (by decide +kernel) (by decide +kernel)⟩
theorem fk_RX3_28 : fk RX3 28 3 7 := ⟨_, rfl, by decide, tb_gm 358 (by decide +kernel) (by decide +kernel)⟩
theorem fk_RX3_33 : fk RX3 33 3 8 := ⟨_, rfl, by decide, tb_gm 359 (by decide +kernel) (by decide +kernel)⟩
theorem fk_RX3_36 : fk RX3 36 3 9 := ⟨_, rfl, by decide, tb_gm 360 (by decide +kernel) (by decide +kernel)⟩
theorem fk_RX3_39 : fk RX3 39 3 10 := ⟨_, rfl, by decide, tb_gm 361 (by decide +kernel) (by decide +kernel)⟩
theorem fk_RX3_42 : fk RX3 42 3 11 := ⟨_, rfl, by decide, tb_gm 362 (by decide +kernel) (by decide +kernel)⟩
theorem fk_RX3_45 : fk RX3 45 3 12 := ⟨_, rfl, by decide, tb_gm 363 (by decide +kernel) (by decide +kernel)⟩
theorem fk_RX3_62 : fk RX3 62 3 2 := ⟨_, rfl, by decide, tb_gm 351 (by decide +kernel) (by decide +kernel)⟩
theorem fk_RX3_69 : fk RX3 69 3 0 := ⟨_, rfl, by decide, tb_gm 347 (by decide +kernel) (by decide +kernel)⟩
theorem fk_RX3_72 : fk RX3 72 3 1 := ⟨_, rfl, by decide, tb_gm 349 (by decide +kernel) (by decide +kernel)⟩
theorem fk_RX3_75 : fk RX3 75 4 4 := ⟨_, rfl, by decide, tb_gm 148 (by decide +kernel) (by decide +kernel)⟩
theorem fk_RX3_88 : fk RX3 88 7 6 := ⟨_, rfl, by decide, tb_gm 250 (by decide +kernel) (by decide +kernel)⟩
theorem fk_RX3_89 : fk RX3 89 8 1 := ⟨_, rfl, by decide, tb_gm 326 (by decide +kernel) (by decide +kernel)⟩
theorem fk_RX3_92 : fk RX3 92 8 0 := ⟨_, rfl, by decide, tb_gm 322 (by decide +kernel) (by decide +kernel)⟩
theorem fk_RX3_96 : fk RX3 96 9 1 := ⟨_, rfl, by decide, tb_gm 292 (by decide +kernel) (by decide +kernel)⟩
theorem fk_RX3_102 : fk RX3 102 1 1 := ⟨_, rfl, by decide, tb_gm 271 (by decide +kernel) (by decide +kernel)⟩
theorem fk_RX3_105 : fk RX3 105 1 0 := ⟨_, rfl, by decide, tb_gm 268 (by decide +kernel) (by decide +kernel)⟩
theorem fk_RX3_108 : fk RX3 108 7 1 := ⟨_, rfl, by decide, tb_gm 237 (by decide +kernel) (by decide +kernel)⟩
theorem fk_RX3_109 : fk RX3 109 7 2 := ⟨_, rfl, by decide, tb_gm 240 (by decide +kernel) (by decide +kernel)⟩
theorem fk_RX4_9 : fk RX4 9 4 0 := ⟨_, rfl, by decide, tb_gm 128 (by decide +kernel) (by decide +kernel)⟩
theorem fk_RX4_15 : fk RX4 15 4 1 := ⟨_, rfl, by decide, tb_gm 130 (by decide +kernel) (by decide +kernel)⟩
theorem fk_RX4_19 : fk RX4 19 4 2 := ⟨_, rfl, by decide, tb_gm 135 (by decide +kernel) (by decide +kernel)⟩
theorem fk_RX4_22 : fk RX4 22 4 3 := ⟨_, rfl, by decide, tb_gm 139 (by decide +kernel) (by decide +kernel)⟩
theorem fk_RX4_25 : fk RX4 25 4 4 := ⟨_, rfl, by decide, tb_gm 145 (by decide +kernel) (by decide +kernel)⟩
theorem fk_RX4_28 : fk RX4 28 4 5 := ⟨_, rfl, by decide, tb_gm 151 (by decide +kernel) (by decide +kernel)⟩
theorem fk_RX4_31 : fk RX4 31 4 6 := ⟨_, rfl, by decide, tb_gm 153 (by decide +kernel) (by decide +kernel)⟩
theorem fk_RX4_34 : fk RX4 34 4 7 := ⟨_, rfl, by decide, tb_gm 155 (by decide +kernel) (by decide +kernel)⟩
theorem fk_RX4_37 : fk RX4 37 4 8 := ⟨_, rfl, by decide, tb_gm 157 (by decide +kernel) (by decide +kernel)⟩
theorem fk_RX5_9 : fk RX5 9 5 0 := ⟨_, rfl, by decide, tb_gm 200 (by decide +kernel) (by decide +kernel)⟩
theorem fk_RX5_15 : fk RX5 15 5 1 := ⟨_, rfl, by decide, tb_gm 204 (by decide +kernel) (by decide +kernel)⟩
theorem fk_RX5_25 : fk RX5 25 10 1 := ⟨_, rfl, by decide, tb_gm 187 (by decide +kernel) (by decide +kernel)⟩
theorem fk_RX5_28 : fk RX5 28 10 0 := ⟨_, rfl, by decide, tb_gm 185 (by decide +kernel) (by decide +kernel)⟩
theorem fk_RX6_11 : fk RX6 11 6 0 := ⟨_, rfl, by decide, tb_gm 444 (by decide +kernel) (by decide +kernel)⟩
theorem fk_RX6_15 : fk RX6 15 6 1 := ⟨_, rfl, by decide, tb_gm 446 (by decide +kernel) (by decide +kernel)⟩
theorem fk_RX6_19 : fk RX6 19 6 3 := ⟨_, rfl, by decide, tb_gm 449 (by decide +kernel) (by decide +kernel)⟩
theorem fk_RX6_22 : fk RX6 22 4 1 := ⟨_, rfl, by decide, tb_gm 131 (by decide +kernel) (by decide +kernel)⟩
theorem fk_RX6_27 : fk RX6 27 6 2 := ⟨_, rfl, by decide, tb_gm 448 (by decide +kernel) (by decide +kernel)⟩
theorem fk_RX6_28 : fk RX6 28 6 5 := ⟨_, rfl, by decide, tb_gm 451 (by decide +kernel) (by decide +kernel)⟩
theorem fk_RX6_36 : fk RX6 36 4 3 := ⟨_, rfl, by decide, tb_gm 140 (by decide +kernel) (by decide +kernel)⟩
theorem fk_RX6_39 : fk RX6 39 6 4 := ⟨_, rfl, by decide, tb_gm 450 (by decide +kernel) (by decide +kernel)⟩
theorem fk_RX6_52 : fk RX6 52 4 4 := ⟨_, rfl, by decide, tb_gm 146 (by decide +kernel) (by decide +kernel)⟩
theorem fk_RX7_9 : fk RX7 9 7 6 := ⟨_, rfl, by decide, tb_gm 249 (by decide +kernel) (by decide +kernel)⟩
theorem fk_RX7_15 : fk RX7 15 7 3 := ⟨_, rfl, by decide, tb_gm 242 (by decide +kernel) (by decide +kernel)⟩
theorem fk_RX7_19 : fk RX7 19 7 4 := ⟨_, rfl, by decide, tb_gm 244 (by decide +kernel) (by decide +kernel)⟩
theorem fk_RX7_22 : fk RX7 22 7 0 := ⟨_, rfl, by decide, tb_gm 234 (by decide +kernel) (by decide +kernel)⟩
theorem fk_RX7_35 : fk RX7 35 7 1 := ⟨_, rfl, by decide, tb_gm 236 (by decide +kernel) (by decide +kernel)⟩
theorem fk_RX7_41 : fk RX7 41 7 2 := ⟨_, rfl, by decide, tb_gm 239 (by decide +kernel) (by decide +kernel)⟩
theorem fk_RX7_44 : fk RX7 44 4 4 := ⟨_, rfl, by decide, tb_gm 147 (by decide +kernel) (by decide +kernel)⟩
theorem fk_RX7_60 : fk RX7 60 7 5 := ⟨_, rfl, by decide, tb_gm 246 (by decide +kernel) (by decide +kernel)⟩
theorem fk_RX7_63 : fk RX7 63 5 1 := ⟨_, rfl, by decide, tb_gm 206 (by decide +kernel) (by decide +kernel)⟩
theorem fk_RX7_66 : fk RX7 66 5 0 := ⟨_, rfl, by decide, tb_gm 202 (by decide +kernel) (by decide +kernel)⟩
theorem fk_RX7_69 : fk RX7 69 4 3 := ⟨_, rfl, by decide, tb_gm 143 (by decide +kernel) (by decide +kernel)⟩
theorem fk_RX8_11 : fk RX8 11 8 0 := ⟨_, rfl, by decide, tb_gm 321 (by decide +kernel) (by decide +kernel)⟩
theorem fk_RX8_20 : fk RX8 20 8 2 := ⟨_, rfl, by decide, tb_gm 327 (by decide +kernel) (by decide +kernel)⟩
theorem fk_RX8_25 : fk RX8 25 8 1 := ⟨_, rfl, by decide, tb_gm 324 (by decide +kernel) (by decide +kernel)⟩
theorem fk_RX8_29 : fk RX8 29 9 0 := ⟨_, rfl, by decide, tb_gm 289 (by decide +kernel) (by decide +kernel)⟩
theorem fk_RX8_39 : fk RX8 39 9 2 := ⟨_, rfl, by decide, tb_gm 294 (by decide +kernel) (by decide +kernel)⟩
theorem fk_RX8_42 : fk RX8 42 9 3 := ⟨_, rfl, by decide, tb_gm 295 (by decide +kernel) (by decide +kernel)⟩
theorem fk_RX8_46 : fk RX8 46 4 1 := ⟨_, rfl, by decide, tb_gm 132 (by decide +kernel) (by decide +kernel)⟩
theorem fk_RX8_51 : fk RX8 51 4 2 := ⟨_, rfl, by decide, tb_gm 136 (by decide +kernel) (by decide +kernel)⟩
theorem fk_RX8_60 : fk RX8 60 9 1 := ⟨_, rfl, by decide, tb_gm 291 (by decide +kernel) (by decide +kernel)⟩
theorem fk_RX8_71 : fk RX8 71 9 6 := ⟨_, rfl, by decide, tb_gm 300 (by decide +kernel) (by decide +kernel)⟩
theorem fk_RX8_94 : fk RX8 94 9 7 := ⟨_, rfl, by decide, tb_gm 302 (by decide +kernel) (by decide +kernel)⟩
theorem fk_RX8_97 : fk RX8 97 9 4 := ⟨_, rfl, by decide, tb_gm 296 (by decide +kernel) (by decide +kernel)⟩
theorem fk_RX8_100 : fk RX8 100 9 5 := ⟨_, rfl, by decide, tb_gm 298 (by decide +kernel) (by decide +kernel)⟩
theorem fk_RX8_103 : fk RX8 103 1 1 := ⟨_, rfl, by decide, tb_gm 272 (by decide +kernel) (by decide +kernel)⟩
theorem fk_RX10_9 : fk RX10 9 10 0 := ⟨_, rfl, by decide, tb_gm 184 (by decide +kernel) (by decide +kernel)⟩
theorem fk_RX10_19 : fk RX10 19 10 1 := ⟨_, rfl, by decide, tb_gm 186 (by decide +kernel) (by decide +kernel)⟩
theorem fk_RX12_9 : fk RX12 9 12 0 := ⟨_, rfl, by decide, tb_gm 982 (by decide +kernel) (by decide +kernel)⟩
theorem fk_RX12_13 : fk RX12 13 12 6 := ⟨_, rfl, by decide, tb_gm 988 (by decide +kernel) (by decide +kernel)⟩
theorem fk_RX12_17 : fk RX12 17 12 7 := ⟨_, rfl, by decide, tb_gm 989 (by decide +kernel) (by decide +kernel)⟩
theorem fk_RX12_20 : fk RX12 20 12 10 := ⟨_, rfl, by decide, tb_gm 992 (by decide +kernel) (by decide +kernel)⟩
theorem fk_RX12_23 : fk RX12 23 12 12 := ⟨_, rfl, by decide, tb_gm 994 (by decide +kernel) (by decide +kernel)⟩
theorem fk_RX12_26 : fk RX12 26 12 13 := ⟨_, rfl, by decide, tb_gm 995 (by decide +kernel) (by decide +kernel)⟩
theorem fk_RX12_29 : fk RX12 29 12 14 := ⟨_, rfl, by decide, tb_gm 996 (by decide +kernel) (by decide +kernel)⟩
theorem fk_RX12_32 : fk RX12 32 12 15 := ⟨_, rfl, by decide, tb_gm 997 (by decide +kernel) (by decide +kernel)⟩
theorem fk_RX12_35 : fk RX12 35 12 17 := ⟨_, rfl, by decide, tb_gm 999 (by decide +kernel) (by decide +kernel)⟩
theorem fk_RX12_38 : fk RX12 38 12 18 := ⟨_, rfl, by decide, tb_gm 1000 (by decide +kernel) (by decide +kernel)⟩
theorem fk_RX12_41 : fk RX12 41 12 19 := ⟨_, rfl, by decide, tb_gm 1001 (by decide +kernel) (by decide +kernel)⟩
theorem fk_RX12_45 : fk RX12 45 12 22 := ⟨_, rfl, by decide, tb_gm 1004 (by decide +kernel) (by decide +kernel)⟩
theorem fk_RX12_48 : fk RX12 48 12 23 := ⟨_, rfl, by decide, tb_gm 1005 (by decide +kernel) (by decide +kernel)⟩
theorem fk_RX12_51 : fk RX12 51 12 24 := ⟨_, rfl, by decide, tb_gm 1006 (by decide +kernel) (by decide +kernel)⟩
theorem fk_RX12_54 : fk RX12 54 12 25 := ⟨_, rfl, by decide, tb_gm 1007 (by decide +kernel) (by decide +kernel)⟩
theorem fk_RX12_57 : fk RX12 57 12 27 := ⟨_, rfl, by decide, tb_gm 1009 (by decide +kernel) (by decide +kernel)⟩
theorem fk_RX12_60 : fk RX12 60 12 28 := ⟨_, rfl, by decide, tb_gm 1010 (by decide +kernel) (by decide +kernel)⟩
theorem fk_RX12_63 : fk RX12 63 12 29 := ⟨_, rfl, by decide, tb_gm 1011 (by decide +kernel) (by decide +kernel)⟩
theorem fk_RX12_66 : fk RX12 66 12 30 := ⟨_, rfl, by decide, tb_gm 1012 (by decide +kernel) (by decide +kernel)⟩
theorem fk_RX12_69 : fk RX12 69 12 31 := ⟨_, rfl, by decide, tb_gm 1013 (by decide +kernel) (by decide +kernel)⟩
theorem fk_RX12_72 : fk RX12 72 12 32 := ⟨_, rfl, by decide, tb_gm 1014 (by decide +kernel) (by decide +kernel)⟩
theorem fk_RX12_75 : fk RX12 75 12 33 := ⟨_, rfl, by decide, tb_gm 1015 (by decide +kernel) (by decide +kernel)⟩
theorem fk_RX12_78 : fk RX12 78 12 35 := ⟨_, rfl, by decide, tb_gm 1017 (by decide +kernel) (by decide +kernel)⟩
theorem fk_RX12_81 : fk RX12 81 12 1 := ⟨_, rfl, by decide, tb_gm 983 (by decide +kernel) (by decide +kernel)⟩
theorem fk_RX12_89 : fk RX12 89 12 2 := ⟨_, rfl, by decide, tb_gm 984 (by decide +kernel) (by decide +kernel)⟩
theorem fk_RX12_92 : fk RX12 92 12 4 := ⟨_, rfl, by decide, tb_gm 986 (by decide +kernel) (by decide +kernel)⟩
theorem fk_RX12_95 : fk RX12 95 12 5 := ⟨_, rfl, by decide, tb_gm 987 (by decide +kernel) (by decide +kernel)⟩
theorem fk_RX12_99 : fk RX12 99 12 3 := ⟨_, rfl, by decide, tb_gm 985 (by decide +kernel) (by decide +kernel)⟩
theorem fk_RX12_171 : fk RX12 171 12 8 := ⟨_, rfl, by decide, tb_gm 990 (by decide +kernel) (by decide +kernel)⟩
theorem fk_RX12_175 : fk RX12 175 12 11 := ⟨_, rfl, by decide, tb_gm 993 (by decide +kernel) (by decide +kernel)⟩
theorem fk_RX12_178 : fk RX12 178 12 9 := ⟨_, rfl, by decide, tb_gm 991 (by decide +kernel) (by decide +kernel)⟩
theorem fk_RX12_185 : fk RX12 185 12 20 := ⟨_, rfl, by decide, tb_gm 1002 (by decide +kernel) (by decide +kernel)⟩
theorem fk_RX12_201 : fk RX12 201 12 21 := ⟨_, rfl, by decide, tb_gm 1003 (by decide +kernel) (by decide +kernel)⟩
theorem fk_RX12_242 : fk RX12 242 12 26 := ⟨_, rfl, by decide, tb_gm 1008 (by decide +kernel) (by decide +kernel)⟩
theorem fk_RX12_268 : fk RX12 268 12 16 := ⟨_, rfl, by decide, tb_gm 998 (by decide +kernel) (by decide +kernel)⟩
theorem fk_RX12_271 : fk RX12 271 12 34 := ⟨_, rfl, by decide, tb_gm 1016 (by decide +kernel) (by decide +kernel)⟩
theorem fk_RX12_293 : fk RX12 293 12 37 := ⟨_, rfl, by decide, tb_gm 1019 (by decide +kernel) (by decide +kernel)⟩
theorem fk_RX12_296 : fk RX12 296 12 36 := ⟨_, rfl, by decide, tb_gm 1018 (by decide +kernel) (by decide +kernel)⟩
theorem sf_RJ0_9 : Cond.fieldLink RJ0 9 "java/lang/String" "value" "[B" ∈ tb_g := tb_gm 1346 (by decide +kernel) (by decide +kernel)
theorem sf_RJ0_15 : Cond.fieldLink RJ0 15 "java/lang/String" "coder" "B" ∈ tb_g := tb_gm 1347 (by decide +kernel) (by decide +kernel)
theorem sf_RJ0_38 : Cond.fieldLink RJ0 38 "java/lang/String" "COMPACT_STRINGS" "Z" ∈ tb_g := tb_gm 553 (by decide +kernel) (by decide +kernel)
theorem sf_RJ0_1053 : Cond.fieldLink RJ0 1053 "jdk/internal/util/Preconditions" "SIOOBE_FORMATTER" "Ljava/util/function/BiFunction;" ∈ tb_g := tb_gm 569 (by decide +kernel) (by decide +kernel)
theorem ml_RX11_72 : Cond.methodLink RX11 72 yX2_push ∈ tb_g := tb_gm 497 (by decide +kernel) (by decide +kernel)
theorem ml_RX11_76 : Cond.methodLink RX11 76 yX2_parse ∈ tb_g := tb_gm 512 (by decide +kernel) (by decide +kernel)
theorem ml_RX11_80 : Cond.methodLink RX11 80 yX4_take ∈ tb_g := tb_gm 627 (by decide +kernel) (by decide +kernel)
theorem ml_RX11_86 : Cond.methodLink RX11 86 yX3_forget ∈ tb_g := tb_gm 631 (by decide +kernel) (by decide +kernel)
theorem ml_RX11_90 : Cond.methodLink RX11 90 yX11_stepsIn ∈ tb_g := tb_gm 639 (by decide +kernel) (by decide +kernel)
theorem ml_RX11_94 : Cond.methodLink RX11 94 yX10_push ∈ tb_g := tb_gm 643 (by decide +kernel) (by decide +kernel)
theorem ml_RX11_99 : Cond.methodLink RX11 99 yX11_isDrive ∈ tb_g := tb_gm 656 (by decide +kernel) (by decide +kernel)
theorem ml_RX11_103 : Cond.methodLink RX11 103 yX8_put ∈ tb_g := tb_gm 659 (by decide +kernel) (by decide +kernel)
theorem ml_RX11_107 : Cond.methodLink RX11 107 yX5_fill ∈ tb_g := tb_gm 734 (by decide +kernel) (by decide +kernel)
theorem ml_RX11_116 : Cond.methodLink RX11 116 yX8_holds ∈ tb_g := tb_gm 739 (by decide +kernel) (by decide +kernel)
theorem ml_RX11_136 : Cond.methodLink RX11 136 yX11_ofSector ∈ tb_g := tb_gm 743 (by decide +kernel) (by decide +kernel)
theorem ml_RX11_140 : Cond.methodLink RX11 140 yX8_tune ∈ tb_g := tb_gm 751 (by decide +kernel) (by decide +kernel)
theorem ml_RX11_156 : Cond.methodLink RX11 156 yX11_canJudge ∈ tb_g := tb_gm 778 (by decide +kernel) (by decide +kernel)
theorem ml_RX11_160 : Cond.methodLink RX11 160 yX3_judge ∈ tb_g := tb_gm 782 (by decide +kernel) (by decide +kernel)
theorem ml_RX11_171 : Cond.methodLink RX11 171 yX3_vote ∈ tb_g := tb_gm 835 (by decide +kernel) (by decide +kernel)
theorem ml_RX11_174 : Cond.methodLink RX11 174 yX11_isCluster ∈ tb_g := tb_gm 846 (by decide +kernel) (by decide +kernel)
theorem ml_RX11_177 : Cond.methodLink RX11 177 yX0_write ∈ tb_g := tb_gm 849 (by decide +kernel) (by decide +kernel)
theorem ml_RX11_184 : Cond.methodLink RX11 184 yX0_add ∈ tb_g := tb_gm 858 (by decide +kernel) (by decide +kernel)
theorem ml_RX11_188 : Cond.methodLink RX11 188 yX0_rowOf ∈ tb_g := tb_gm 866 (by decide +kernel) (by decide +kernel)
theorem ml_RX11_192 : Cond.methodLink RX11 192 yX0_faultsBy ∈ tb_g := tb_gm 896 (by decide +kernel) (by decide +kernel)
theorem ml_RX11_196 : Cond.methodLink RX11 196 yX0_holds ∈ tb_g := tb_gm 905 (by decide +kernel) (by decide +kernel)
theorem ml_RX11_197 : Cond.methodLink RX11 197 yX0_walk ∈ tb_g := tb_gm 909 (by decide +kernel) (by decide +kernel)
theorem ml_RX11_207 : Cond.methodLink RX11 207 yX3_judgeCluster ∈ tb_g := tb_gm 918 (by decide +kernel) (by decide +kernel)
theorem ml_RX11_211 : Cond.methodLink RX11 211 yX11_soundStatus ∈ tb_g := tb_gm 924 (by decide +kernel) (by decide +kernel)
theorem ml_RX11_214 : Cond.methodLink RX11 214 yX8_hopeOf ∈ tb_g := tb_gm 929 (by decide +kernel) (by decide +kernel)
theorem ml_RX11_217 : Cond.methodLink RX11 217 yX11_bestDrive ∈ tb_g := tb_gm 937 (by decide +kernel) (by decide +kernel)
theorem ml_RX11_221 : Cond.methodLink RX11 221 yX11_worstTrack ∈ tb_g := tb_gm 941 (by decide +kernel) (by decide +kernel)
theorem ml_RX11_227 : Cond.methodLink RX11 227 yX6_write ∈ tb_g := tb_gm 956 (by decide +kernel) (by decide +kernel)
theorem ml_RX11_261 : Cond.methodLink RX11 261 yX0_inFiles ∈ tb_g := tb_gm 945 (by decide +kernel) (by decide +kernel)
theorem ml_RX11_264 : Cond.methodLink RX11 264 yX11_byteOf ∈ tb_g := tb_gm 642 (by decide +kernel) (by decide +kernel)
theorem ml_RX0_33 : Cond.methodLink RX0 33 yJ7_fill_53178 ∈ tb_g := tb_gm 397 (by decide +kernel) (by decide +kernel)
theorem ml_RX0_39 : Cond.methodLinkNest RX0 39 yX11_isCluster "ClickingDisk" ∈ tb_n := tb_nm 853 (by decide +kernel) (by decide +kernel)
theorem ml_RX0_51 : Cond.methodLink RX0 51 yX0_findUnlike ∈ tb_g := tb_gm 870 (by decide +kernel) (by decide +kernel)
theorem ml_RX0_58 : Cond.methodLink RX0 58 yX0_join ∈ tb_g := tb_gm 874 (by decide +kernel) (by decide +kernel)
theorem ml_RX0_64 : Cond.methodLink RX0 64 yX0_holds ∈ tb_g := tb_gm 913 (by decide +kernel) (by decide +kernel)
theorem ml_RX0_67 : Cond.methodLink RX0 67 yJ6_bitCount_0f7a4 ∈ tb_g := tb_gm 883 (by decide +kernel) (by decide +kernel)
theorem ml_RX0_73 : Cond.methodLink RX0 73 yX0_lostOnes ∈ tb_g := tb_gm 889 (by decide +kernel) (by decide +kernel)
theorem ml_RX0_77 : Cond.methodLink RX0 77 yX0_rowOf ∈ tb_g := tb_gm 949 (by decide +kernel) (by decide +kernel)
theorem ml_RX0_82 : Cond.methodLink RX0 82 yX0_walk ∈ tb_g := tb_gm 951 (by decide +kernel) (by decide +kernel)
theorem ml_RX0_88 : Cond.methodLink RX0 88 arraycopyName ∈ tb_g := tb_gm 878 (by decide +kernel) (by decide +kernel)
theorem ml_RX0_94 : Cond.methodLink RX0 94 yX0_faultsBy ∈ tb_g := tb_gm 879 (by decide +kernel) (by decide +kernel)
theorem ml_RX0_98 : Cond.methodLink RX0 98 yX0_choose ∈ tb_g := tb_gm 892 (by decide +kernel) (by decide +kernel)
theorem ml_RX1_36 : Cond.methodLink RX1 36 yX7_take ∈ tb_g := tb_gm 690 (by decide +kernel) (by decide +kernel)
theorem ml_RX1_40 : Cond.methodLink RX1 40 yX7_isRight ∈ tb_g := tb_gm 766 (by decide +kernel) (by decide +kernel)
theorem ml_RX2_19 : Cond.methodLinkNest RX2 19 yX11_byteOf "ClickingDisk" ∈ tb_n := tb_nm 501 (by decide +kernel) (by decide +kernel)
theorem ml_RX2_23 : Cond.methodLink RX2 23 yX4_clear ∈ tb_g := tb_gm 516 (by decide +kernel) (by decide +kernel)
theorem ml_RX2_34 : Cond.methodLink RX2 34 yX2_step ∈ tb_g := tb_gm 520 (by decide +kernel) (by decide +kernel)
theorem ml_RX2_40 : Cond.methodLink RX2 40 yX2_lineBegun ∈ tb_g := tb_gm 536 (by decide +kernel) (by decide +kernel)
theorem ml_RX2_47 : Cond.methodLink RX2 47 yX2_takeRest ∈ tb_g := tb_gm 598 (by decide +kernel) (by decide +kernel)
theorem ml_RX2_51 : Cond.methodLink RX2 51 yX2_takeStop ∈ tb_g := tb_gm 618 (by decide +kernel) (by decide +kernel)
theorem ml_RX2_57 : Cond.methodLink RX2 57 yX2_isWord ∈ tb_g := tb_gm 541 (by decide +kernel) (by decide +kernel)
theorem ml_RX2_71 : Cond.methodLink RX2 71 yX2_takeNumber ∈ tb_g := tb_gm 602 (by decide +kernel) (by decide +kernel)
theorem ml_RX2_82 : Cond.methodLink RX2 82 yX2_takeMark ∈ tb_g := tb_gm 606 (by decide +kernel) (by decide +kernel)
theorem ml_RX2_87 : Cond.methodLink RX2 87 yX2_takeSum ∈ tb_g := tb_gm 610 (by decide +kernel) (by decide +kernel)
theorem ml_RX2_115 : Cond.methodLink RX2 115 yJ0_length_8abf5 ∈ tb_g := tb_gm 545 (by decide +kernel) (by decide +kernel)
theorem ml_RX2_120 : Cond.methodLink RX2 120 yJ0_charAt_5068e ∈ tb_g := tb_gm 555 (by decide +kernel) (by decide +kernel)
theorem ml_RX2_124 : Cond.methodLink RX2 124 yX2_kindAt ∈ tb_g := tb_gm 524 (by decide +kernel) (by decide +kernel)
theorem ml_RX2_128 : Cond.methodLink RX2 128 yX2_isLong ∈ tb_g := tb_gm 528 (by decide +kernel) (by decide +kernel)
theorem ml_RX2_132 : Cond.methodLink RX2 132 yJ9_min_7cf53 ∈ tb_g := tb_gm 533 (by decide +kernel) (by decide +kernel)
theorem ml_RX3_48 : Cond.methodLink RX3 48 yJ7_fill_53178 ∈ tb_g := tb_gm 344 (by decide +kernel) (by decide +kernel)
theorem ml_RX3_54 : Cond.methodLinkNest RX3 54 yX11_isCluster "ClickingDisk" ∈ tb_n := tb_nm 922 (by decide +kernel) (by decide +kernel)
theorem ml_RX3_58 : Cond.methodLink RX3 58 yX3_judge ∈ tb_g := tb_gm 923 (by decide +kernel) (by decide +kernel)
theorem ml_RX3_65 : Cond.methodLink RX3 65 yX3_gather ∈ tb_g := tb_gm 786 (by decide +kernel) (by decide +kernel)
theorem ml_RX3_78 : Cond.methodLink RX3 78 yX3_rightAgree ∈ tb_g := tb_gm 791 (by decide +kernel) (by decide +kernel)
theorem ml_RX3_81 : Cond.methodLink RX3 81 yX3_mend ∈ tb_g := tb_gm 800 (by decide +kernel) (by decide +kernel)
theorem ml_RX3_85 : Cond.methodLinkNest RX3 85 yX11_soundStatus "ClickingDisk" ∈ tb_n := tb_nm 839 (by decide +kernel) (by decide +kernel)
theorem ml_RX3_110 : Cond.methodLink RX3 110 yX7_isRight ∈ tb_g := tb_gm 790 (by decide +kernel) (by decide +kernel)
theorem ml_RX3_114 : Cond.methodLink RX3 114 yX7_hasData ∈ tb_g := tb_gm 795 (by decide +kernel) (by decide +kernel)
theorem ml_RX3_118 : Cond.methodLink RX3 118 arraycopyName ∈ tb_g := tb_gm 799 (by decide +kernel) (by decide +kernel)
theorem ml_RX3_124 : Cond.methodLink RX3 124 yJ9_min_7cf53 ∈ tb_g := tb_gm 804 (by decide +kernel) (by decide +kernel)
theorem ml_RX3_130 : Cond.methodLink RX3 130 yX3_gatherKinds ∈ tb_g := tb_gm 805 (by decide +kernel) (by decide +kernel)
theorem ml_RX3_133 : Cond.methodLink RX3 133 yX4_sumOfHead ∈ tb_g := tb_gm 817 (by decide +kernel) (by decide +kernel)
theorem ml_RX3_136 : Cond.methodLink RX3 136 yX4_sumWith ∈ tb_g := tb_gm 818 (by decide +kernel) (by decide +kernel)
theorem ml_RX3_139 : Cond.methodLink RX3 139 yX3_hasSum ∈ tb_g := tb_gm 819 (by decide +kernel) (by decide +kernel)
theorem ml_RX3_143 : Cond.methodLink RX3 143 yX3_keepRow ∈ tb_g := tb_gm 823 (by decide +kernel) (by decide +kernel)
theorem ml_RX3_147 : Cond.methodLink RX3 147 yX3_chooseAnother ∈ tb_g := tb_gm 827 (by decide +kernel) (by decide +kernel)
theorem ml_RX3_151 : Cond.methodLink RX3 151 yX7_byteOrSum ∈ tb_g := tb_gm 809 (by decide +kernel) (by decide +kernel)
theorem ml_RX3_154 : Cond.methodLink RX3 154 yX3_hasKind ∈ tb_g := tb_gm 813 (by decide +kernel) (by decide +kernel)
theorem ml_RX4_40 : Cond.methodLink RX4 40 yX4_firstByte ∈ tb_g := tb_gm 715 (by decide +kernel) (by decide +kernel)
theorem ml_RX4_44 : Cond.methodLink RX4 44 yX4_sumWith ∈ tb_g := tb_gm 716 (by decide +kernel) (by decide +kernel)
theorem ml_RX4_47 : Cond.methodLink RX4 47 yX4_secondByte ∈ tb_g := tb_gm 722 (by decide +kernel) (by decide +kernel)
theorem ml_RX4_50 : Cond.methodLink RX4 50 yX4_sumOfHead ∈ tb_g := tb_gm 711 (by decide +kernel) (by decide +kernel)
theorem ml_RX5_19 : Cond.methodLink RX5 19 yJ9_max_7cf53 ∈ tb_g := tb_gm 674 (by decide +kernel) (by decide +kernel)
theorem ml_RX5_31 : Cond.methodLink RX5 31 yJ9_min_7cf53 ∈ tb_g := tb_gm 677 (by decide +kernel) (by decide +kernel)
theorem ml_RX5_34 : Cond.methodLink RX5 34 yX5_push ∈ tb_g := tb_gm 678 (by decide +kernel) (by decide +kernel)
theorem ml_RX5_38 : Cond.methodLink RX5 38 yJ9_floorDiv_7cf53 ∈ tb_g := tb_gm 682 (by decide +kernel) (by decide +kernel)
theorem ml_RX6_32 : Cond.methodLink RX6 32 yX6_pushBit ∈ tb_g := tb_gm 960 (by decide +kernel) (by decide +kernel)
theorem ml_RX6_42 : Cond.methodLink RX6 42 yX4_firstByte ∈ tb_g := tb_gm 964 (by decide +kernel) (by decide +kernel)
theorem ml_RX6_46 : Cond.methodLink RX6 46 yX6_pushByte ∈ tb_g := tb_gm 965 (by decide +kernel) (by decide +kernel)
theorem ml_RX6_49 : Cond.methodLink RX6 49 yX4_secondByte ∈ tb_g := tb_gm 970 (by decide +kernel) (by decide +kernel)
theorem ml_RX6_53 : Cond.methodLink RX6 53 yX4_sumOf ∈ tb_g := tb_gm 971 (by decide +kernel) (by decide +kernel)
theorem ml_RX6_57 : Cond.methodLinkNest RX6 57 yX11_clockDue "ClickingDisk" ∈ tb_n := tb_nm 969 (by decide +kernel) (by decide +kernel)
theorem ml_RX7_25 : Cond.methodLink RX7 25 yX7_byteAt ∈ tb_g := tb_gm 694 (by decide +kernel) (by decide +kernel)
theorem ml_RX7_29 : Cond.methodLink RX7 29 yX4_firstByte ∈ tb_g := tb_gm 698 (by decide +kernel) (by decide +kernel)
theorem ml_RX7_38 : Cond.methodLink RX7 38 yX4_secondByte ∈ tb_g := tb_gm 702 (by decide +kernel) (by decide +kernel)
theorem ml_RX7_47 : Cond.methodLink RX7 47 yJ9_min_7cf53 ∈ tb_g := tb_gm 706 (by decide +kernel) (by decide +kernel)
theorem ml_RX7_52 : Cond.methodLink RX7 52 yX4_sumOf ∈ tb_g := tb_gm 707 (by decide +kernel) (by decide +kernel)
theorem ml_RX7_56 : Cond.methodLink RX7 56 yX7_slipsIn ∈ tb_g := tb_gm 723 (by decide +kernel) (by decide +kernel)
theorem ml_RX7_72 : Cond.methodLinkNest RX7 72 yX11_clockDue "ClickingDisk" ∈ tb_n := tb_nm 727 (by decide +kernel) (by decide +kernel)
theorem ml_RX8_33 : Cond.methodLink RX8 33 yX10_take ∈ tb_g := tb_gm 663 (by decide +kernel) (by decide +kernel)
theorem ml_RX8_54 : Cond.methodLink RX8 54 yX5_fill ∈ tb_g := tb_gm 670 (by decide +kernel) (by decide +kernel)
theorem ml_RX8_63 : Cond.methodLink RX8 63 yX1_search ∈ tb_g := tb_gm 685 (by decide +kernel) (by decide +kernel)
theorem ml_RX8_67 : Cond.methodLink RX8 67 yX8_holds ∈ tb_g := tb_gm 755 (by decide +kernel) (by decide +kernel)
theorem ml_RX8_74 : Cond.methodLink RX8 74 yJ9_max_7cf53 ∈ tb_g := tb_gm 756 (by decide +kernel) (by decide +kernel)
theorem ml_RX8_80 : Cond.methodLink RX8 80 yJ9_min_7cf53 ∈ tb_g := tb_gm 757 (by decide +kernel) (by decide +kernel)
theorem ml_RX8_83 : Cond.methodLink RX8 83 yX8_keepBetter ∈ tb_g := tb_gm 758 (by decide +kernel) (by decide +kernel)
theorem ml_RX8_87 : Cond.methodLink RX8 87 yX1_rightOnes ∈ tb_g := tb_gm 762 (by decide +kernel) (by decide +kernel)
theorem ml_RX8_91 : Cond.methodLink RX8 91 yX1_slipsOfRight ∈ tb_g := tb_gm 770 (by decide +kernel) (by decide +kernel)
theorem ml_RX10_15 : Cond.methodLinkNest RX10 15 yX11_byteOf "ClickingDisk" ∈ tb_n := tb_nm 647 (by decide +kernel) (by decide +kernel)
theorem ml_RX10_23 : Cond.methodLink RX10 23 arraycopyName ∈ tb_g := tb_gm 667 (by decide +kernel) (by decide +kernel)
theorem ml_RL_13 : Cond.methodLink RL 13 yX11_feed ∈ tb_g := tb_gm 493 (by decide +kernel) (by decide +kernel)
theorem ml_RL_17 : Cond.methodLink RL 17 yX12_feed ∈ tb_g := tb_gm 1098 (by decide +kernel) (by decide +kernel)
theorem ml_RL_18 : Cond.methodLink RL 18 yX11_end ∈ tb_g := tb_gm 504 (by decide +kernel) (by decide +kernel)
theorem ml_RL_22 : Cond.methodLink RL 22 yX12_end ∈ tb_g := tb_gm 1102 (by decide +kernel) (by decide +kernel)
theorem ml_RL_23 : Cond.methodLink RL 23 yX11_fault ∈ tb_g := tb_gm 508 (by decide +kernel) (by decide +kernel)
theorem ml_RL_27 : Cond.methodLink RL 27 yX12_fault ∈ tb_g := tb_gm 1109 (by decide +kernel) (by decide +kernel)
theorem ml_RL_28 : Cond.methodLink RL 28 yX11_format ∈ tb_g := tb_gm 623 (by decide +kernel) (by decide +kernel)
theorem ml_RL_31 : Cond.methodLink RL 31 yX12_format ∈ tb_g := tb_gm 1161 (by decide +kernel) (by decide +kernel)
theorem ml_RL_32 : Cond.methodLink RL 32 yX11_flux ∈ tb_g := tb_gm 635 (by decide +kernel) (by decide +kernel)
theorem ml_RL_35 : Cond.methodLink RL 35 yX12_flux ∈ tb_g := tb_gm 1166 (by decide +kernel) (by decide +kernel)
theorem ml_RL_36 : Cond.methodLink RL 36 yX11_wipe ∈ tb_g := tb_gm 648 (by decide +kernel) (by decide +kernel)
theorem ml_RL_39 : Cond.methodLink RL 39 yX12_wipe ∈ tb_g := tb_gm 1173 (by decide +kernel) (by decide +kernel)
theorem ml_RL_40 : Cond.methodLink RL 40 yX11_read ∈ tb_g := tb_gm 652 (by decide +kernel) (by decide +kernel)
theorem ml_RL_44 : Cond.methodLink RL 44 yX12_read ∈ tb_g := tb_gm 1177 (by decide +kernel) (by decide +kernel)
theorem ml_RL_45 : Cond.methodLink RL 45 yX11_raw ∈ tb_g := tb_gm 730 (by decide +kernel) (by decide +kernel)
theorem ml_RL_49 : Cond.methodLink RL 49 yX12_raw ∈ tb_g := tb_gm 1181 (by decide +kernel) (by decide +kernel)
theorem ml_RL_50 : Cond.methodLink RL 50 yX11_found ∈ tb_g := tb_gm 735 (by decide +kernel) (by decide +kernel)
theorem ml_RL_53 : Cond.methodLink RL 53 yX12_found ∈ tb_g := tb_gm 1190 (by decide +kernel) (by decide +kernel)
theorem ml_RL_54 : Cond.methodLink RL 54 yX11_tuned ∈ tb_g := tb_gm 747 (by decide +kernel) (by decide +kernel)
theorem ml_RL_58 : Cond.methodLink RL 58 yX12_tuned ∈ tb_g := tb_gm 1233 (by decide +kernel) (by decide +kernel)
theorem ml_RL_59 : Cond.methodLink RL 59 yX11_status ∈ tb_g := tb_gm 774 (by decide +kernel) (by decide +kernel)
theorem ml_RL_62 : Cond.methodLink RL 62 yX12_status ∈ tb_g := tb_gm 1243 (by decide +kernel) (by decide +kernel)
theorem ml_RL_63 : Cond.methodLink RL 63 yX11_value ∈ tb_g := tb_gm 831 (by decide +kernel) (by decide +kernel)
theorem ml_RL_66 : Cond.methodLink RL 66 yX12_value ∈ tb_g := tb_gm 1267 (by decide +kernel) (by decide +kernel)
theorem ml_RL_67 : Cond.methodLink RL 67 yX11_tell ∈ tb_g := tb_gm 842 (by decide +kernel) (by decide +kernel)
theorem ml_RL_71 : Cond.methodLink RL 71 yX12_tell ∈ tb_g := tb_gm 1274 (by decide +kernel) (by decide +kernel)
theorem ml_RL_72 : Cond.methodLink RL 72 yX11_file ∈ tb_g := tb_gm 854 (by decide +kernel) (by decide +kernel)
theorem ml_RL_75 : Cond.methodLink RL 75 yX12_file ∈ tb_g := tb_gm 1281 (by decide +kernel) (by decide +kernel)
theorem ml_RL_76 : Cond.methodLink RL 76 yX11_mishaps ∈ tb_g := tb_gm 862 (by decide +kernel) (by decide +kernel)
theorem ml_RL_79 : Cond.methodLink RL 79 yX12_mishaps ∈ tb_g := tb_gm 1285 (by decide +kernel) (by decide +kernel)
theorem ml_RL_80 : Cond.methodLink RL 80 yX11_next ∈ tb_g := tb_gm 897 (by decide +kernel) (by decide +kernel)
theorem ml_RL_83 : Cond.methodLink RL 83 yX12_next ∈ tb_g := tb_gm 1309 (by decide +kernel) (by decide +kernel)
theorem ml_RL_84 : Cond.methodLink RL 84 yX11_chain ∈ tb_g := tb_gm 901 (by decide +kernel) (by decide +kernel)
theorem ml_RL_87 : Cond.methodLink RL 87 yX12_chain ∈ tb_g := tb_gm 1313 (by decide +kernel) (by decide +kernel)
theorem ml_RL_88 : Cond.methodLink RL 88 yX11_gaps ∈ tb_g := tb_gm 914 (by decide +kernel) (by decide +kernel)
theorem ml_RL_91 : Cond.methodLink RL 91 yX12_gaps ∈ tb_g := tb_gm 1317 (by decide +kernel) (by decide +kernel)
theorem ml_RL_92 : Cond.methodLink RL 92 yX11_hope ∈ tb_g := tb_gm 925 (by decide +kernel) (by decide +kernel)
theorem ml_RL_95 : Cond.methodLink RL 95 yX12_hope ∈ tb_g := tb_gm 1321 (by decide +kernel) (by decide +kernel)
theorem ml_RL_96 : Cond.methodLink RL 96 yX11_ask ∈ tb_g := tb_gm 933 (by decide +kernel) (by decide +kernel)
theorem ml_RL_99 : Cond.methodLink RL 99 yX12_ask ∈ tb_g := tb_gm 1325 (by decide +kernel) (by decide +kernel)
theorem ml_RL_100 : Cond.methodLink RL 100 yX11_written ∈ tb_g := tb_gm 952 (by decide +kernel) (by decide +kernel)
theorem ml_RL_103 : Cond.methodLink RL 103 yX12_written ∈ tb_g := tb_gm 1330 (by decide +kernel) (by decide +kernel)
theorem ml_RL_104 : Cond.methodLink RL 104 yX11_count ∈ tb_g := tb_gm 972 (by decide +kernel) (by decide +kernel)
theorem ml_RL_107 : Cond.methodLink RL 107 yX12_count ∈ tb_g := tb_gm 1342 (by decide +kernel) (by decide +kernel)
theorem ml_RX12_85 : Cond.methodLink RX12 85 yX12_in ∈ tb_g := tb_gm 1106 (by decide +kernel) (by decide +kernel)
theorem ml_RX12_102 : Cond.methodLink RX12 102 yX12_isLetter ∈ tb_g := tb_gm 1117 (by decide +kernel) (by decide +kernel)
theorem ml_RX12_106 : Cond.methodLink RX12 106 yX12_isDigit ∈ tb_g := tb_gm 1120 (by decide +kernel) (by decide +kernel)
theorem ml_RX12_115 : Cond.methodLink RX12 115 yJ0_length_8abf5 ∈ tb_g := tb_gm 1138 (by decide +kernel) (by decide +kernel)
theorem ml_RX12_121 : Cond.methodLink RX12 121 yJ0_charAt_5068e ∈ tb_g := tb_gm 1139 (by decide +kernel) (by decide +kernel)
theorem ml_RX12_125 : Cond.methodLink RX12 125 yX12_packed ∈ tb_g := tb_gm 1135 (by decide +kernel) (by decide +kernel)
theorem ml_RX12_129 : Cond.methodLink RX12 129 yX12_leads ∈ tb_g := tb_gm 1113 (by decide +kernel) (by decide +kernel)
theorem ml_RX12_134 : Cond.methodLink RX12 134 yX12_isWord ∈ tb_g := tb_gm 1131 (by decide +kernel) (by decide +kernel)
theorem ml_RX12_143 : Cond.methodLink RX12 143 yX12_number ∈ tb_g := tb_gm 1145 (by decide +kernel) (by decide +kernel)
theorem ml_RX12_158 : Cond.methodLink RX12 158 yX12_sumHere ∈ tb_g := tb_gm 1149 (by decide +kernel) (by decide +kernel)
theorem ml_RX12_162 : Cond.methodLink RX12 162 yX12_closes ∈ tb_g := tb_gm 1157 (by decide +kernel) (by decide +kernel)
theorem ml_RX12_165 : Cond.methodLink RX12 165 yX12_line ∈ tb_g := tb_gm 1126 (by decide +kernel) (by decide +kernel)
theorem ml_RX12_168 : Cond.methodLink RX12 168 yX12_fault ∈ tb_g := tb_gm 1165 (by decide +kernel) (by decide +kernel)
theorem ml_RX12_181 : Cond.methodLink RX12 181 yX12_byteOf ∈ tb_g := tb_gm 1170 (by decide +kernel) (by decide +kernel)
theorem ml_RX12_188 : Cond.methodLink RX12 188 yJ9_floorDiv_7cf53 ∈ tb_g := tb_gm 1189 (by decide +kernel) (by decide +kernel)
theorem ml_RX12_194 : Cond.methodLink RX12 194 yX12_turns ∈ tb_g := tb_gm 1185 (by decide +kernel) (by decide +kernel)
theorem ml_RX12_198 : Cond.methodLink RX12 198 yX12_bitOf ∈ tb_g := tb_gm 1206 (by decide +kernel) (by decide +kernel)
theorem ml_RX12_204 : Cond.methodLink RX12 204 yX12_many ∈ tb_g := tb_gm 1198 (by decide +kernel) (by decide +kernel)
theorem ml_RX12_207 : Cond.methodLink RX12 207 yX12_isMark ∈ tb_g := tb_gm 1202 (by decide +kernel) (by decide +kernel)
theorem ml_RX12_210 : Cond.methodLink RX12 210 yX12_takes ∈ tb_g := tb_gm 1209 (by decide +kernel) (by decide +kernel)
theorem ml_RX12_214 : Cond.methodLink RX12 214 yX12_sumOf ∈ tb_g := tb_gm 1229 (by decide +kernel) (by decide +kernel)
theorem ml_RX12_217 : Cond.methodLink RX12 217 yX12_sumOfSector ∈ tb_g := tb_gm 1225 (by decide +kernel) (by decide +kernel)
theorem ml_RX12_221 : Cond.methodLink RX12 221 yX12_told ∈ tb_g := tb_gm 1221 (by decide +kernel) (by decide +kernel)
theorem ml_RX12_224 : Cond.methodLink RX12 224 yX12_finds ∈ tb_g := tb_gm 1194 (by decide +kernel) (by decide +kernel)
theorem ml_RX12_227 : Cond.methodLink RX12 227 yX12_trackOf ∈ tb_g := tb_gm 1213 (by decide +kernel) (by decide +kernel)
theorem ml_RX12_230 : Cond.methodLink RX12 230 yX12_numberOf ∈ tb_g := tb_gm 1217 (by decide +kernel) (by decide +kernel)
theorem ml_RX12_233 : Cond.methodLink RX12 233 yJ9_max_7cf53 ∈ tb_g := tb_gm 1237 (by decide +kernel) (by decide +kernel)
theorem ml_RX12_236 : Cond.methodLink RX12 236 yJ9_min_7cf53 ∈ tb_g := tb_gm 1238 (by decide +kernel) (by decide +kernel)
theorem ml_RX12_239 : Cond.methodLink RX12 239 yX12_isRight ∈ tb_g := tb_gm 1239 (by decide +kernel) (by decide +kernel)
theorem ml_RX12_245 : Cond.methodLink RX12 245 yX12_isAhead ∈ tb_g := tb_gm 1263 (by decide +kernel) (by decide +kernel)
theorem ml_RX12_249 : Cond.methodLink RX12 249 yX12_gathers ∈ tb_g := tb_gm 1255 (by decide +kernel) (by decide +kernel)
theorem ml_RX12_253 : Cond.methodLink RX12 253 yX12_mends ∈ tb_g := tb_gm 1259 (by decide +kernel) (by decide +kernel)
theorem ml_RX12_256 : Cond.methodLink RX12 256 yX12_isSector ∈ tb_g := tb_gm 1247 (by decide +kernel) (by decide +kernel)
theorem ml_RX12_259 : Cond.methodLink RX12 259 yX12_statusOf ∈ tb_g := tb_gm 1251 (by decide +kernel) (by decide +kernel)
theorem ml_RX12_262 : Cond.methodLink RX12 262 yX12_isWhole ∈ tb_g := tb_gm 1271 (by decide +kernel) (by decide +kernel)
theorem ml_RX12_265 : Cond.methodLink RX12 265 yX12_isCluster ∈ tb_g := tb_gm 1278 (by decide +kernel) (by decide +kernel)
theorem ml_RX12_274 : Cond.methodLink RX12 274 yX12_chains ∈ tb_g := tb_gm 1305 (by decide +kernel) (by decide +kernel)
theorem ml_RX12_278 : Cond.methodLink RX12 278 yX12_takesFrom ∈ tb_g := tb_gm 1294 (by decide +kernel) (by decide +kernel)
theorem ml_RX12_281 : Cond.methodLink RX12 281 yX12_ones ∈ tb_g := tb_gm 1298 (by decide +kernel) (by decide +kernel)
theorem ml_RX12_284 : Cond.methodLink RX12 284 yX12_mishapsNow ∈ tb_g := tb_gm 1301 (by decide +kernel) (by decide +kernel)
theorem ml_RX12_287 : Cond.methodLink RX12 287 yX12_asks ∈ tb_g := tb_gm 1289 (by decide +kernel) (by decide +kernel)
theorem ml_RX12_290 : Cond.methodLink RX12 290 yX12_hope ∈ tb_g := tb_gm 1329 (by decide +kernel) (by decide +kernel)
theorem ml_RX12_299 : Cond.methodLink RX12 299 yX12_lays ∈ tb_g := tb_gm 1338 (by decide +kernel) (by decide +kernel)
theorem ml_RX12_302 : Cond.methodLink RX12 302 yX12_writes ∈ tb_g := tb_gm 1334 (by decide +kernel) (by decide +kernel)
theorem ml_RJ0_335 : Cond.methodLink RJ0 335 yJ0_coder_7d493 ∈ tb_g := tb_gm 549 (by decide +kernel) (by decide +kernel)
theorem ml_RJ0_492 : Cond.methodLink RJ0 492 yJ0_isLatin1_aae02 ∈ tb_g := tb_gm 559 (by decide +kernel) (by decide +kernel)
theorem ml_RJ0_495 : Cond.methodLink RJ0 495 yJ1_charAt_3b067 ∈ tb_g := tb_gm 563 (by decide +kernel) (by decide +kernel)
theorem ml_RJ0_1059 : Cond.methodLink RJ0 1059 yJ3_checkIndex_8e157 ∈ tb_g := tb_gm 571 (by decide +kernel) (by decide +kernel)
theorem ml_RJ1_9 : Cond.methodLink RJ1 9 yJ0_checkIndex_df160 ∈ tb_g := tb_gm 566 (by decide +kernel) (by decide +kernel)
theorem kc_RX0_81 : Cond.constant RX0 81 (16777215) ∈ tb_g := tb_gm 950 (by decide +kernel) (by decide +kernel)
theorem kc_RX1_32 : Cond.constant RX1 32 (65535) ∈ tb_g := tb_gm 689 (by decide +kernel) (by decide +kernel)
theorem kc_RX2_105 : Cond.constant RX2 105 (65535) ∈ tb_g := tb_gm 617 (by decide +kernel) (by decide +kernel)
theorem kc_RX2_131 : Cond.constant RX2 131 (1000000) ∈ tb_g := tb_gm 532 (by decide +kernel) (by decide +kernel)
theorem kc_RX4_53 : Cond.constant RX4 53 (65535) ∈ tb_g := tb_gm 720 (by decide +kernel) (by decide +kernel)
theorem kc_RX4_54 : Cond.constant RX4 54 (32768) ∈ tb_g := tb_gm 721 (by decide +kernel) (by decide +kernel)
theorem kc_RX12_109 : Cond.constantLong RX12 109 (99999) ∈ tb_g := tb_gm 1123 (by decide +kernel) (by decide +kernel)
theorem kc_RX12_111 : Cond.constantLong RX12 111 (10) ∈ tb_g := tb_gm 1124 (by decide +kernel) (by decide +kernel)
theorem kc_RX12_113 : Cond.constantLong RX12 113 (48) ∈ tb_g := tb_gm 1125 (by decide +kernel) (by decide +kernel)
theorem kc_RX12_142 : Cond.constant RX12 142 (65535) ∈ tb_g := tb_gm 1156 (by decide +kernel) (by decide +kernel)
theorem kc_RX12_277 : Cond.constant RX12 277 (16777215) ∈ tb_g := tb_gm 1293 (by decide +kernel) (by decide +kernel)
theorem kc_RJ6_265 : Cond.constant RJ6 265 (1431655765) ∈ tb_g := tb_gm 886 (by decide +kernel) (by decide +kernel)
theorem kc_RJ6_266 : Cond.constant RJ6 266 (858993459) ∈ tb_g := tb_gm 887 (by decide +kernel) (by decide +kernel)
theorem kc_RJ6_267 : Cond.constant RJ6 267 (252645135) ∈ tb_g := tb_gm 888 (by decide +kernel) (by decide +kernel)
end
section
theorem dJ6_bitCount_0f7a4_0 : decode cJ6_bitCount_0f7a4 0 = .ok (.iload_n 0, 1) := by decide +kernel
theorem dJ6_bitCount_0f7a4_1 : decode cJ6_bitCount_0f7a4 1 = .ok (.iload_n 0, 1) := by decide +kernel
theorem dJ6_bitCount_0f7a4_2 : decode cJ6_bitCount_0f7a4 2 = .ok (.iconst 1, 1) := by decide +kernel
theorem dJ6_bitCount_0f7a4_3 : decode cJ6_bitCount_0f7a4 3 = .ok (.iushr, 1) := by decide +kernel
theorem dJ6_bitCount_0f7a4_4 : decode cJ6_bitCount_0f7a4 4 = .ok (.ldc_w 265, 3) := by decide +kernel
theorem dJ6_bitCount_0f7a4_7 : decode cJ6_bitCount_0f7a4 7 = .ok (.iand, 1) := by decide +kernel
theorem dJ6_bitCount_0f7a4_8 : decode cJ6_bitCount_0f7a4 8 = .ok (.isub, 1) := by decide +kernel
theorem dJ6_bitCount_0f7a4_9 : decode cJ6_bitCount_0f7a4 9 = .ok (.istore_n 0, 1) := by decide +kernel
theorem dJ6_bitCount_0f7a4_10 : decode cJ6_bitCount_0f7a4 10 = .ok (.iload_n 0, 1) := by decide +kernel
theorem dJ6_bitCount_0f7a4_11 : decode cJ6_bitCount_0f7a4 11 = .ok (.ldc_w 266, 3) := by decide +kernel
theorem dJ6_bitCount_0f7a4_14 : decode cJ6_bitCount_0f7a4 14 = .ok (.iand, 1) := by decide +kernel
theorem dJ6_bitCount_0f7a4_15 : decode cJ6_bitCount_0f7a4 15 = .ok (.iload_n 0, 1) := by decide +kernel
theorem dJ6_bitCount_0f7a4_16 : decode cJ6_bitCount_0f7a4 16 = .ok (.iconst 2, 1) := by decide +kernel
theorem dJ6_bitCount_0f7a4_17 : decode cJ6_bitCount_0f7a4 17 = .ok (.iushr, 1) := by decide +kernel
theorem dJ6_bitCount_0f7a4_18 : decode cJ6_bitCount_0f7a4 18 = .ok (.ldc_w 266, 3) := by decide +kernel
theorem dJ6_bitCount_0f7a4_21 : decode cJ6_bitCount_0f7a4 21 = .ok (.iand, 1) := by decide +kernel
theorem dJ6_bitCount_0f7a4_22 : decode cJ6_bitCount_0f7a4 22 = .ok (.iadd, 1) := by decide +kernel
theorem dJ6_bitCount_0f7a4_23 : decode cJ6_bitCount_0f7a4 23 = .ok (.istore_n 0, 1) := by decide +kernel
theorem dJ6_bitCount_0f7a4_24 : decode cJ6_bitCount_0f7a4 24 = .ok (.iload_n 0, 1) := by decide +kernel
theorem dJ6_bitCount_0f7a4_25 : decode cJ6_bitCount_0f7a4 25 = .ok (.iload_n 0, 1) := by decide +kernel
theorem dJ6_bitCount_0f7a4_26 : decode cJ6_bitCount_0f7a4 26 = .ok (.iconst 4, 1) := by decide +kernel
theorem dJ6_bitCount_0f7a4_27 : decode cJ6_bitCount_0f7a4 27 = .ok (.iushr, 1) := by decide +kernel
theorem dJ6_bitCount_0f7a4_28 : decode cJ6_bitCount_0f7a4 28 = .ok (.iadd, 1) := by decide +kernel
theorem dJ6_bitCount_0f7a4_29 : decode cJ6_bitCount_0f7a4 29 = .ok (.ldc_w 267, 3) := by decide +kernel
theorem dJ6_bitCount_0f7a4_32 : decode cJ6_bitCount_0f7a4 32 = .ok (.iand, 1) := by decide +kernel
theorem dJ6_bitCount_0f7a4_33 : decode cJ6_bitCount_0f7a4 33 = .ok (.istore_n 0, 1) := by decide +kernel
theorem dJ6_bitCount_0f7a4_34 : decode cJ6_bitCount_0f7a4 34 = .ok (.iload_n 0, 1) := by decide +kernel
theorem dJ6_bitCount_0f7a4_35 : decode cJ6_bitCount_0f7a4 35 = .ok (.iload_n 0, 1) := by decide +kernel
theorem dJ6_bitCount_0f7a4_36 : decode cJ6_bitCount_0f7a4 36 = .ok (.bipush 8, 2) := by decide +kernel
theorem dJ6_bitCount_0f7a4_38 : decode cJ6_bitCount_0f7a4 38 = .ok (.iushr, 1) := by decide +kernel
theorem dJ6_bitCount_0f7a4_39 : decode cJ6_bitCount_0f7a4 39 = .ok (.iadd, 1) := by decide +kernel
theorem dJ6_bitCount_0f7a4_40 : decode cJ6_bitCount_0f7a4 40 = .ok (.istore_n 0, 1) := by decide +kernel
theorem dJ6_bitCount_0f7a4_41 : decode cJ6_bitCount_0f7a4 41 = .ok (.iload_n 0, 1) := by decide +kernel
theorem dJ6_bitCount_0f7a4_42 : decode cJ6_bitCount_0f7a4 42 = .ok (.iload_n 0, 1) := by decide +kernel
theorem dJ6_bitCount_0f7a4_43 : decode cJ6_bitCount_0f7a4 43 = .ok (.bipush 16, 2) := by decide +kernel
theorem dJ6_bitCount_0f7a4_45 : decode cJ6_bitCount_0f7a4 45 = .ok (.iushr, 1) := by decide +kernel
theorem dJ6_bitCount_0f7a4_46 : decode cJ6_bitCount_0f7a4 46 = .ok (.iadd, 1) := by decide +kernel
theorem dJ6_bitCount_0f7a4_47 : decode cJ6_bitCount_0f7a4 47 = .ok (.istore_n 0, 1) := by decide +kernel
theorem dJ6_bitCount_0f7a4_48 : decode cJ6_bitCount_0f7a4 48 = .ok (.iload_n 0, 1) := by decide +kernel
theorem dJ6_bitCount_0f7a4_49 : decode cJ6_bitCount_0f7a4 49 = .ok (.bipush 63, 2) := by decide +kernel
theorem dJ6_bitCount_0f7a4_51 : decode cJ6_bitCount_0f7a4 51 = .ok (.iand, 1) := by decide +kernel
theorem dJ6_bitCount_0f7a4_52 : decode cJ6_bitCount_0f7a4 52 = .ok (.ireturn, 1) := by decide +kernel
theorem dJ9_floorDiv_7cf53_0 : decode cJ9_floorDiv_7cf53 0 = .ok (.iload_n 0, 1) := by decide +kernel
theorem dJ9_floorDiv_7cf53_1 : decode cJ9_floorDiv_7cf53 1 = .ok (.iload_n 1, 1) := by decide +kernel
theorem dJ9_floorDiv_7cf53_2 : decode cJ9_floorDiv_7cf53 2 = .ok (.idiv, 1) := by decide +kernel
theorem dJ9_floorDiv_7cf53_3 : decode cJ9_floorDiv_7cf53 3 = .ok (.istore_n 2, 1) := by decide +kernel
theorem dJ9_floorDiv_7cf53_4 : decode cJ9_floorDiv_7cf53 4 = .ok (.iload_n 0, 1) := by decide +kernel
theorem dJ9_floorDiv_7cf53_5 : decode cJ9_floorDiv_7cf53 5 = .ok (.iload_n 1, 1) := by decide +kernel
theorem dJ9_floorDiv_7cf53_6 : decode cJ9_floorDiv_7cf53 6 = .ok (.ixor, 1) := by decide +kernel
theorem dJ9_floorDiv_7cf53_7 : decode cJ9_floorDiv_7cf53 7 = .ok (.ifCond .ge 14, 3) := by decide +kernel
theorem dJ9_floorDiv_7cf53_10 : decode cJ9_floorDiv_7cf53 10 = .ok (.iload_n 2, 1) := by decide +kernel
theorem dJ9_floorDiv_7cf53_11 : decode cJ9_floorDiv_7cf53 11 = .ok (.iload_n 1, 1) := by decide +kernel
theorem dJ9_floorDiv_7cf53_12 : decode cJ9_floorDiv_7cf53 12 = .ok (.imul, 1) := by decide +kernel
theorem dJ9_floorDiv_7cf53_13 : decode cJ9_floorDiv_7cf53 13 = .ok (.iload_n 0, 1) := by decide +kernel
theorem dJ9_floorDiv_7cf53_14 : decode cJ9_floorDiv_7cf53 14 = .ok (.if_icmp .eq 7, 3) := by decide +kernel
theorem dJ9_floorDiv_7cf53_17 : decode cJ9_floorDiv_7cf53 17 = .ok (.iload_n 2, 1) := by decide +kernel
theorem dJ9_floorDiv_7cf53_18 : decode cJ9_floorDiv_7cf53 18 = .ok (.iconst 1, 1) := by decide +kernel
theorem dJ9_floorDiv_7cf53_19 : decode cJ9_floorDiv_7cf53 19 = .ok (.isub, 1) := by decide +kernel
theorem dJ9_floorDiv_7cf53_20 : decode cJ9_floorDiv_7cf53 20 = .ok (.ireturn, 1) := by decide +kernel
theorem dJ9_floorDiv_7cf53_21 : decode cJ9_floorDiv_7cf53 21 = .ok (.iload_n 2, 1) := by decide +kernel
theorem dJ9_floorDiv_7cf53_22 : decode cJ9_floorDiv_7cf53 22 = .ok (.ireturn, 1) := by decide +kernel
theorem dJ9_max_7cf53_0 : decode cJ9_max_7cf53 0 = .ok (.iload_n 0, 1) := by decide +kernel
theorem dJ9_max_7cf53_1 : decode cJ9_max_7cf53 1 = .ok (.iload_n 1, 1) := by decide +kernel
theorem dJ9_max_7cf53_2 : decode cJ9_max_7cf53 2 = .ok (.if_icmp .lt 7, 3) := by decide +kernel
theorem dJ9_max_7cf53_5 : decode cJ9_max_7cf53 5 = .ok (.iload_n 0, 1) := by decide +kernel
theorem dJ9_max_7cf53_6 : decode cJ9_max_7cf53 6 = .ok (.goto 4, 3) := by decide +kernel
theorem dJ9_max_7cf53_9 : decode cJ9_max_7cf53 9 = .ok (.iload_n 1, 1) := by decide +kernel
theorem dJ9_max_7cf53_10 : decode cJ9_max_7cf53 10 = .ok (.ireturn, 1) := by decide +kernel
theorem dJ9_min_7cf53_0 : decode cJ9_min_7cf53 0 = .ok (.iload_n 0, 1) := by decide +kernel
theorem dJ9_min_7cf53_1 : decode cJ9_min_7cf53 1 = .ok (.iload_n 1, 1) := by decide +kernel
theorem dJ9_min_7cf53_2 : decode cJ9_min_7cf53 2 = .ok (.if_icmp .gt 7, 3) := by decide +kernel
theorem dJ9_min_7cf53_5 : decode cJ9_min_7cf53 5 = .ok (.iload_n 0, 1) := by decide +kernel
theorem dJ9_min_7cf53_6 : decode cJ9_min_7cf53 6 = .ok (.goto 4, 3) := by decide +kernel
theorem dJ9_min_7cf53_9 : decode cJ9_min_7cf53 9 = .ok (.iload_n 1, 1) := by decide +kernel
theorem dJ9_min_7cf53_10 : decode cJ9_min_7cf53 10 = .ok (.ireturn, 1) := by decide +kernel
theorem dJ0_length_8abf5_0 : decode cJ0_length_8abf5 0 = .ok (.aload_n 0, 1) := by decide +kernel
theorem dJ0_length_8abf5_1 : decode cJ0_length_8abf5 1 = .ok (.getfield 9, 3) := by decide +kernel
theorem dJ0_length_8abf5_4 : decode cJ0_length_8abf5 4 = .ok (.arraylength, 1) := by decide +kernel
theorem dJ0_length_8abf5_5 : decode cJ0_length_8abf5 5 = .ok (.aload_n 0, 1) := by decide +kernel
theorem dJ0_length_8abf5_6 : decode cJ0_length_8abf5 6 = .ok (.invokevirtual 335, 3) := by decide +kernel
theorem dJ0_length_8abf5_9 : decode cJ0_length_8abf5 9 = .ok (.ishr, 1) := by decide +kernel
theorem dJ0_length_8abf5_10 : decode cJ0_length_8abf5 10 = .ok (.ireturn, 1) := by decide +kernel
theorem dJ0_charAt_5068e_0 : decode cJ0_charAt_5068e 0 = .ok (.aload_n 0, 1) := by decide +kernel
theorem dJ0_charAt_5068e_1 : decode cJ0_charAt_5068e 1 = .ok (.invokevirtual 492, 3) := by decide +kernel
theorem dJ0_charAt_5068e_4 : decode cJ0_charAt_5068e 4 = .ok (.ifCond .eq 12, 3) := by decide +kernel
theorem dJ0_charAt_5068e_7 : decode cJ0_charAt_5068e 7 = .ok (.aload_n 0, 1) := by decide +kernel
theorem dJ0_charAt_5068e_8 : decode cJ0_charAt_5068e 8 = .ok (.getfield 9, 3) := by decide +kernel
theorem dJ0_charAt_5068e_11 : decode cJ0_charAt_5068e 11 = .ok (.iload_n 1, 1) := by decide +kernel
theorem dJ0_charAt_5068e_12 : decode cJ0_charAt_5068e 12 = .ok (.invokestatic 495, 3) := by decide +kernel
theorem dJ0_charAt_5068e_15 : decode cJ0_charAt_5068e 15 = .ok (.ireturn, 1) := by decide +kernel
theorem dJ0_charAt_5068e_16 : decode cJ0_charAt_5068e 16 = .ok (.aload_n 0, 1) := by decide +kernel
theorem dJ0_charAt_5068e_17 : decode cJ0_charAt_5068e 17 = .ok (.getfield 9, 3) := by decide +kernel
theorem dJ0_charAt_5068e_20 : decode cJ0_charAt_5068e 20 = .ok (.iload_n 1, 1) := by decide +kernel
theorem dJ0_charAt_5068e_21 : decode cJ0_charAt_5068e 21 = .ok (.invokestatic 498, 3) := by decide +kernel
theorem dJ0_charAt_5068e_24 : decode cJ0_charAt_5068e 24 = .ok (.ireturn, 1) := by decide +kernel
theorem dJ0_coder_7d493_0 : decode cJ0_coder_7d493 0 = .ok (.getstatic 38, 3) := by decide +kernel
theorem dJ0_coder_7d493_3 : decode cJ0_coder_7d493 3 = .ok (.ifCond .eq 10, 3) := by decide +kernel
theorem dJ0_coder_7d493_6 : decode cJ0_coder_7d493 6 = .ok (.aload_n 0, 1) := by decide +kernel
theorem dJ0_coder_7d493_7 : decode cJ0_coder_7d493 7 = .ok (.getfield 15, 3) := by decide +kernel
theorem dJ0_coder_7d493_10 : decode cJ0_coder_7d493 10 = .ok (.goto 4, 3) := by decide +kernel
theorem dJ0_coder_7d493_13 : decode cJ0_coder_7d493 13 = .ok (.iconst 1, 1) := by decide +kernel
theorem dJ0_coder_7d493_14 : decode cJ0_coder_7d493 14 = .ok (.ireturn, 1) := by decide +kernel
theorem dJ0_isLatin1_aae02_0 : decode cJ0_isLatin1_aae02 0 = .ok (.getstatic 38, 3) := by decide +kernel
theorem dJ0_isLatin1_aae02_3 : decode cJ0_isLatin1_aae02 3 = .ok (.ifCond .eq 14, 3) := by decide +kernel
theorem dJ0_isLatin1_aae02_6 : decode cJ0_isLatin1_aae02 6 = .ok (.aload_n 0, 1) := by decide +kernel
theorem dJ0_isLatin1_aae02_7 : decode cJ0_isLatin1_aae02 7 = .ok (.getfield 15, 3) := by decide +kernel
theorem dJ0_isLatin1_aae02_10 : decode cJ0_isLatin1_aae02 10 = .ok (.ifCond .ne 7, 3) := by decide +kernel
theorem dJ0_isLatin1_aae02_13 : decode cJ0_isLatin1_aae02 13 = .ok (.iconst 1, 1) := by decide +kernel
theorem dJ0_isLatin1_aae02_14 : decode cJ0_isLatin1_aae02 14 = .ok (.goto 4, 3) := by decide +kernel
theorem dJ0_isLatin1_aae02_17 : decode cJ0_isLatin1_aae02 17 = .ok (.iconst 0, 1) := by decide +kernel
theorem dJ0_isLatin1_aae02_18 : decode cJ0_isLatin1_aae02 18 = .ok (.ireturn, 1) := by decide +kernel
theorem dJ0_checkIndex_df160_0 : decode cJ0_checkIndex_df160 0 = .ok (.iload_n 0, 1) := by decide +kernel
theorem dJ0_checkIndex_df160_1 : decode cJ0_checkIndex_df160 1 = .ok (.iload_n 1, 1) := by decide +kernel
theorem dJ0_checkIndex_df160_2 : decode cJ0_checkIndex_df160 2 = .ok (.getstatic 1053, 3) := by decide +kernel
theorem dJ0_checkIndex_df160_5 : decode cJ0_checkIndex_df160 5 = .ok (.invokestatic 1059, 3) := by decide +kernel
theorem dJ0_checkIndex_df160_8 : decode cJ0_checkIndex_df160 8 = .ok (.pop, 1) := by decide +kernel
theorem dJ0_checkIndex_df160_9 : decode cJ0_checkIndex_df160 9 = .ok (.return_, 1) := by decide +kernel
theorem dJ1_charAt_3b067_0 : decode cJ1_charAt_3b067 0 = .ok (.iload_n 1, 1) := by decide +kernel
theorem dJ1_charAt_3b067_1 : decode cJ1_charAt_3b067 1 = .ok (.aload_n 0, 1) := by decide +kernel
theorem dJ1_charAt_3b067_2 : decode cJ1_charAt_3b067 2 = .ok (.arraylength, 1) := by decide +kernel
theorem dJ1_charAt_3b067_3 : decode cJ1_charAt_3b067 3 = .ok (.invokestatic 9, 3) := by decide +kernel
theorem dJ1_charAt_3b067_6 : decode cJ1_charAt_3b067 6 = .ok (.aload_n 0, 1) := by decide +kernel
theorem dJ1_charAt_3b067_7 : decode cJ1_charAt_3b067 7 = .ok (.iload_n 1, 1) := by decide +kernel
theorem dJ1_charAt_3b067_8 : decode cJ1_charAt_3b067 8 = .ok (.baload, 1) := by decide +kernel
theorem dJ1_charAt_3b067_9 : decode cJ1_charAt_3b067 9 = .ok (.sipush 255, 3) := by decide +kernel
theorem dJ1_charAt_3b067_12 : decode cJ1_charAt_3b067 12 = .ok (.iand, 1) := by decide +kernel
theorem dJ1_charAt_3b067_13 : decode cJ1_charAt_3b067 13 = .ok (.i2c, 1) := by decide +kernel
theorem dJ1_charAt_3b067_14 : decode cJ1_charAt_3b067 14 = .ok (.ireturn, 1) := by decide +kernel
theorem dJ7_fill_53178_0 : decode cJ7_fill_53178 0 = .ok (.iconst 0, 1) := by decide +kernel
theorem dJ7_fill_53178_1 : decode cJ7_fill_53178 1 = .ok (.istore_n 2, 1) := by decide +kernel
theorem dJ7_fill_53178_2 : decode cJ7_fill_53178 2 = .ok (.aload_n 0, 1) := by decide +kernel
theorem dJ7_fill_53178_3 : decode cJ7_fill_53178 3 = .ok (.arraylength, 1) := by decide +kernel
theorem dJ7_fill_53178_4 : decode cJ7_fill_53178 4 = .ok (.istore_n 3, 1) := by decide +kernel
theorem dJ7_fill_53178_5 : decode cJ7_fill_53178 5 = .ok (.iload_n 2, 1) := by decide +kernel
theorem dJ7_fill_53178_6 : decode cJ7_fill_53178 6 = .ok (.iload_n 3, 1) := by decide +kernel
theorem dJ7_fill_53178_7 : decode cJ7_fill_53178 7 = .ok (.if_icmp .ge 13, 3) := by decide +kernel
theorem dJ7_fill_53178_10 : decode cJ7_fill_53178 10 = .ok (.aload_n 0, 1) := by decide +kernel
theorem dJ7_fill_53178_11 : decode cJ7_fill_53178 11 = .ok (.iload_n 2, 1) := by decide +kernel
theorem dJ7_fill_53178_12 : decode cJ7_fill_53178 12 = .ok (.iload_n 1, 1) := by decide +kernel
theorem dJ7_fill_53178_13 : decode cJ7_fill_53178 13 = .ok (.iastore, 1) := by decide +kernel
theorem dJ7_fill_53178_14 : decode cJ7_fill_53178 14 = .ok (.iinc 2 1, 3) := by decide +kernel
theorem dJ7_fill_53178_17 : decode cJ7_fill_53178 17 = .ok (.goto (-12), 3) := by decide +kernel
theorem dJ7_fill_53178_20 : decode cJ7_fill_53178 20 = .ok (.return_, 1) := by decide +kernel
theorem dJ3_checkIndex_8e157_0 : decode cJ3_checkIndex_8e157 0 = .ok (.iload_n 0, 1) := by decide +kernel
theorem dJ3_checkIndex_8e157_1 : decode cJ3_checkIndex_8e157 1 = .ok (.ifCond .lt 8, 3) := by decide +kernel
theorem dJ3_checkIndex_8e157_4 : decode cJ3_checkIndex_8e157 4 = .ok (.iload_n 0, 1) := by decide +kernel
theorem dJ3_checkIndex_8e157_5 : decode cJ3_checkIndex_8e157 5 = .ok (.iload_n 1, 1) := by decide +kernel
theorem dJ3_checkIndex_8e157_6 : decode cJ3_checkIndex_8e157 6 = .ok (.if_icmp .lt 10, 3) := by decide +kernel
theorem dJ3_checkIndex_8e157_9 : decode cJ3_checkIndex_8e157 9 = .ok (.aload_n 2, 1) := by decide +kernel
theorem dJ3_checkIndex_8e157_10 : decode cJ3_checkIndex_8e157 10 = .ok (.iload_n 0, 1) := by decide +kernel
theorem dJ3_checkIndex_8e157_11 : decode cJ3_checkIndex_8e157 11 = .ok (.iload_n 1, 1) := by decide +kernel
theorem dJ3_checkIndex_8e157_12 : decode cJ3_checkIndex_8e157 12 = .ok (.invokestatic 95, 3) := by decide +kernel
theorem dJ3_checkIndex_8e157_15 : decode cJ3_checkIndex_8e157 15 = .ok (.athrow, 1) := by decide +kernel
theorem dJ3_checkIndex_8e157_16 : decode cJ3_checkIndex_8e157 16 = .ok (.iload_n 0, 1) := by decide +kernel
theorem dJ3_checkIndex_8e157_17 : decode cJ3_checkIndex_8e157 17 = .ok (.ireturn, 1) := by decide +kernel
end
section
theorem u_J6_bitCount {Γ : cx_T} {μ : mH} {x0 : Int32} {Q : Int32 → mH → Prop} (h : Q ((((((((x0 - (((x0.toUInt32 >>> ((1 : Int32).toUInt32 &&& Int32.toUInt32 31)).toInt32) &&& (1431655765 : Int32))) &&& (858993459 : Int32)) + ((((x0 - (((x0.toUInt32 >>> ((1 : Int32).toUInt32 &&& Int32.toUInt32 31)).toInt32) &&& (1431655765 : Int32))).toUInt32 >>> ((2 : Int32).toUInt32 &&& Int32.toUInt32 31)).toInt32) &&& (858993459 : Int32))) + (((((x0 - (((x0.toUInt32 >>> ((1 : Int32).toUInt32 &&& Int32.toUInt32 31)).toInt32) &&& (1431655765 : Int32))) &&& (858993459 : Int32)) + ((((x0 - (((x0.toUInt32 >>> ((1 : Int32).toUInt32 &&& Int32.toUInt32 31)).toInt32) &&& (1431655765 : Int32))).toUInt32 >>> ((2 : Int32).toUInt32 &&& Int32.toUInt32 31)).toInt32) &&& (858993459 : Int32))).toUInt32 >>> ((4 : Int32).toUInt32 &&& Int32.toUInt32 31)).toInt32)) &&& (252645135 : Int32)) + (((((((x0 - (((x0.toUInt32 >>> ((1 : Int32).toUInt32 &&& Int32.toUInt32 31)).toInt32) &&& (1431655765 : Int32))) &&& (858993459 : Int32)) + ((((x0 - (((x0.toUInt32 >>> ((1 : Int32).toUInt32 &&& Int32.toUInt32 31)).toInt32) &&& (1431655765 : Int32))).toUInt32 >>> ((2 : Int32).toUInt32 &&& Int32.toUInt32 31)).toInt32) &&& (858993459 : Int32))) + (((((x0 - (((x0.toUInt32 >>> ((1 : Int32).toUInt32 &&& Int32.toUInt32 31)).toInt32) &&& (1431655765 : Int32))) &&& (858993459 : Int32)) + ((((x0 - (((x0.toUInt32 >>> ((1 : Int32).toUInt32 &&& Int32.toUInt32 31)).toInt32) &&& (1431655765 : Int32))).toUInt32 >>> ((2 : Int32).toUInt32 &&& Int32.toUInt32 31)).toInt32) &&& (858993459 : Int32))).toUInt32 >>> ((4 : Int32).toUInt32 &&& Int32.toUInt32 31)).toInt32)) &&& (252645135 : Int32)).toUInt32 >>> ((8 : Int32).toUInt32 &&& Int32.toUInt32 31)).toInt32)) + ((((((((x0 - (((x0.toUInt32 >>> ((1 : Int32).toUInt32 &&& Int32.toUInt32 31)).toInt32) &&& (1431655765 : Int32))) &&& (858993459 : Int32)) + ((((x0 - (((x0.toUInt32 >>> ((1 : Int32).toUInt32 &&& Int32.toUInt32 31)).toInt32) &&& (1431655765 : Int32))).toUInt32 >>> ((2 : Int32).toUInt32 &&& Int32.toUInt32 31)).toInt32) &&& (858993459 : Int32))) + (((((x0 - (((x0.toUInt32 >>> ((1 : Int32).toUInt32 &&& Int32.toUInt32 31)).toInt32) &&& (1431655765 : Int32))) &&& (858993459 : Int32)) + ((((x0 - (((x0.toUInt32 >>> ((1 : Int32).toUInt32 &&& Int32.toUInt32 31)).toInt32) &&& (1431655765 : Int32))).toUInt32 >>> ((2 : Int32).toUInt32 &&& Int32.toUInt32 31)).toInt32) &&& (858993459 : Int32))).toUInt32 >>> ((4 : Int32).toUInt32 &&& Int32.toUInt32 31)).toInt32)) &&& (252645135 : Int32)) + (((((((x0 - (((x0.toUInt32 >>> ((1 : Int32).toUInt32 &&& Int32.toUInt32 31)).toInt32) &&& (1431655765 : Int32))) &&& (858993459 : Int32)) + ((((x0 - (((x0.toUInt32 >>> ((1 : Int32).toUInt32 &&& Int32.toUInt32 31)).toInt32) &&& (1431655765 : Int32))).toUInt32 >>> ((2 : Int32).toUInt32 &&& Int32.toUInt32 31)).toInt32) &&& (858993459 : Int32))) + (((((x0 - (((x0.toUInt32 >>> ((1 : Int32).toUInt32 &&& Int32.toUInt32 31)).toInt32) &&& (1431655765 : Int32))) &&& (858993459 : Int32)) + ((((x0 - (((x0.toUInt32 >>> ((1 : Int32).toUInt32 &&& Int32.toUInt32 31)).toInt32) &&& (1431655765 : Int32))).toUInt32 >>> ((2 : Int32).toUInt32 &&& Int32.toUInt32 31)).toInt32) &&& (858993459 : Int32))).toUInt32 >>> ((4 : Int32).toUInt32 &&& Int32.toUInt32 31)).toInt32)) &&& (252645135 : Int32)).toUInt32 >>> ((8 : Int32).toUInt32 &&& Int32.toUInt32 31)).toInt32)).toUInt32 >>> ((16 : Int32).toUInt32 &&& Int32.toUInt32 31)).toInt32)) &&& (63 : Int32)) μ) : cwi Γ M_J6_bitCount_0f7a4 [aI x0] μ Q := by
  refine cw_ofU (ls := [aI x0]) (Or.inr (by decide +kernel)) rfl (Nat.le_of_ble_eq_true rfl) rfl ?_
  refine aw_iload_n dJ6_bitCount_0f7a4_0 rfl ?_
  refine aw_iload_n dJ6_bitCount_0f7a4_1 rfl ?_
  refine aw_iconst (v := (1 : Int32)) dJ6_bitCount_0f7a4_2 rfl ?_
  refine aw_iushr dJ6_bitCount_0f7a4_3 ?_
  refine aw_ldcw (v := (1431655765 : Int32)) dJ6_bitCount_0f7a4_4 kc_RJ6_265 ?_
  refine aw_iand dJ6_bitCount_0f7a4_7 ?_
  refine aw_isub dJ6_bitCount_0f7a4_8 ?_
  refine aw_istore_n (ls' := [aI (x0 - (((x0.toUInt32 >>> ((1 : Int32).toUInt32 &&& Int32.toUInt32 31)).toInt32) &&& (1431655765 : Int32)))]) dJ6_bitCount_0f7a4_9 (by decide) rfl rfl ?_
  refine aw_iload_n dJ6_bitCount_0f7a4_10 rfl ?_
  refine aw_ldcw (v := (858993459 : Int32)) dJ6_bitCount_0f7a4_11 kc_RJ6_266 ?_
  refine aw_iand dJ6_bitCount_0f7a4_14 ?_
  refine aw_iload_n dJ6_bitCount_0f7a4_15 rfl ?_
  refine aw_iconst (v := (2 : Int32)) dJ6_bitCount_0f7a4_16 rfl ?_
  refine aw_iushr dJ6_bitCount_0f7a4_17 ?_
  refine aw_ldcw (v := (858993459 : Int32)) dJ6_bitCount_0f7a4_18 kc_RJ6_266 ?_
  refine aw_iand dJ6_bitCount_0f7a4_21 ?_
  refine aw_iadd dJ6_bitCount_0f7a4_22 ?_
  refine aw_istore_n (ls' := [aI (((x0 - (((x0.toUInt32 >>> ((1 : Int32).toUInt32 &&& Int32.toUInt32 31)).toInt32) &&& (1431655765 : Int32))) &&& (858993459 : Int32)) + ((((x0 - (((x0.toUInt32 >>> ((1 : Int32).toUInt32 &&& Int32.toUInt32 31)).toInt32) &&& (1431655765 : Int32))).toUInt32 >>> ((2 : Int32).toUInt32 &&& Int32.toUInt32 31)).toInt32) &&& (858993459 : Int32)))]) dJ6_bitCount_0f7a4_23 (by decide) rfl rfl ?_
  refine aw_iload_n dJ6_bitCount_0f7a4_24 rfl ?_
  refine aw_iload_n dJ6_bitCount_0f7a4_25 rfl ?_
  refine aw_iconst (v := (4 : Int32)) dJ6_bitCount_0f7a4_26 rfl ?_
  refine aw_iushr dJ6_bitCount_0f7a4_27 ?_
  refine aw_iadd dJ6_bitCount_0f7a4_28 ?_
  refine aw_ldcw (v := (252645135 : Int32)) dJ6_bitCount_0f7a4_29 kc_RJ6_267 ?_
  refine aw_iand dJ6_bitCount_0f7a4_32 ?_
  refine aw_istore_n (ls' := [aI (((((x0 - (((x0.toUInt32 >>> ((1 : Int32).toUInt32 &&& Int32.toUInt32 31)).toInt32) &&& (1431655765 : Int32))) &&& (858993459 : Int32)) + ((((x0 - (((x0.toUInt32 >>> ((1 : Int32).toUInt32 &&& Int32.toUInt32 31)).toInt32) &&& (1431655765 : Int32))).toUInt32 >>> ((2 : Int32).toUInt32 &&& Int32.toUInt32 31)).toInt32) &&& (858993459 : Int32))) + (((((x0 - (((x0.toUInt32 >>> ((1 : Int32).toUInt32 &&& Int32.toUInt32 31)).toInt32) &&& (1431655765 : Int32))) &&& (858993459 : Int32)) + ((((x0 - (((x0.toUInt32 >>> ((1 : Int32).toUInt32 &&& Int32.toUInt32 31)).toInt32) &&& (1431655765 : Int32))).toUInt32 >>> ((2 : Int32).toUInt32 &&& Int32.toUInt32 31)).toInt32) &&& (858993459 : Int32))).toUInt32 >>> ((4 : Int32).toUInt32 &&& Int32.toUInt32 31)).toInt32)) &&& (252645135 : Int32))]) dJ6_bitCount_0f7a4_33 (by decide) rfl rfl ?_
  refine aw_iload_n dJ6_bitCount_0f7a4_34 rfl ?_
  refine aw_iload_n dJ6_bitCount_0f7a4_35 rfl ?_
  refine aw_bipush (v := (8 : Int32)) dJ6_bitCount_0f7a4_36 rfl ?_
  refine aw_iushr dJ6_bitCount_0f7a4_38 ?_
  refine aw_iadd dJ6_bitCount_0f7a4_39 ?_
  refine aw_istore_n (ls' := [aI ((((((x0 - (((x0.toUInt32 >>> ((1 : Int32).toUInt32 &&& Int32.toUInt32 31)).toInt32) &&& (1431655765 : Int32))) &&& (858993459 : Int32)) + ((((x0 - (((x0.toUInt32 >>> ((1 : Int32).toUInt32 &&& Int32.toUInt32 31)).toInt32) &&& (1431655765 : Int32))).toUInt32 >>> ((2 : Int32).toUInt32 &&& Int32.toUInt32 31)).toInt32) &&& (858993459 : Int32))) + (((((x0 - (((x0.toUInt32 >>> ((1 : Int32).toUInt32 &&& Int32.toUInt32 31)).toInt32) &&& (1431655765 : Int32))) &&& (858993459 : Int32)) + ((((x0 - (((x0.toUInt32 >>> ((1 : Int32).toUInt32 &&& Int32.toUInt32 31)).toInt32) &&& (1431655765 : Int32))).toUInt32 >>> ((2 : Int32).toUInt32 &&& Int32.toUInt32 31)).toInt32) &&& (858993459 : Int32))).toUInt32 >>> ((4 : Int32).toUInt32 &&& Int32.toUInt32 31)).toInt32)) &&& (252645135 : Int32)) + (((((((x0 - (((x0.toUInt32 >>> ((1 : Int32).toUInt32 &&& Int32.toUInt32 31)).toInt32) &&& (1431655765 : Int32))) &&& (858993459 : Int32)) + ((((x0 - (((x0.toUInt32 >>> ((1 : Int32).toUInt32 &&& Int32.toUInt32 31)).toInt32) &&& (1431655765 : Int32))).toUInt32 >>> ((2 : Int32).toUInt32 &&& Int32.toUInt32 31)).toInt32) &&& (858993459 : Int32))) + (((((x0 - (((x0.toUInt32 >>> ((1 : Int32).toUInt32 &&& Int32.toUInt32 31)).toInt32) &&& (1431655765 : Int32))) &&& (858993459 : Int32)) + ((((x0 - (((x0.toUInt32 >>> ((1 : Int32).toUInt32 &&& Int32.toUInt32 31)).toInt32) &&& (1431655765 : Int32))).toUInt32 >>> ((2 : Int32).toUInt32 &&& Int32.toUInt32 31)).toInt32) &&& (858993459 : Int32))).toUInt32 >>> ((4 : Int32).toUInt32 &&& Int32.toUInt32 31)).toInt32)) &&& (252645135 : Int32)).toUInt32 >>> ((8 : Int32).toUInt32 &&& Int32.toUInt32 31)).toInt32))]) dJ6_bitCount_0f7a4_40 (by decide) rfl rfl ?_
  refine aw_iload_n dJ6_bitCount_0f7a4_41 rfl ?_
  refine aw_iload_n dJ6_bitCount_0f7a4_42 rfl ?_
  refine aw_bipush (v := (16 : Int32)) dJ6_bitCount_0f7a4_43 rfl ?_
  refine aw_iushr dJ6_bitCount_0f7a4_45 ?_
  refine aw_iadd dJ6_bitCount_0f7a4_46 ?_
  refine aw_istore_n (ls' := [aI (((((((x0 - (((x0.toUInt32 >>> ((1 : Int32).toUInt32 &&& Int32.toUInt32 31)).toInt32) &&& (1431655765 : Int32))) &&& (858993459 : Int32)) + ((((x0 - (((x0.toUInt32 >>> ((1 : Int32).toUInt32 &&& Int32.toUInt32 31)).toInt32) &&& (1431655765 : Int32))).toUInt32 >>> ((2 : Int32).toUInt32 &&& Int32.toUInt32 31)).toInt32) &&& (858993459 : Int32))) + (((((x0 - (((x0.toUInt32 >>> ((1 : Int32).toUInt32 &&& Int32.toUInt32 31)).toInt32) &&& (1431655765 : Int32))) &&& (858993459 : Int32)) + ((((x0 - (((x0.toUInt32 >>> ((1 : Int32).toUInt32 &&& Int32.toUInt32 31)).toInt32) &&& (1431655765 : Int32))).toUInt32 >>> ((2 : Int32).toUInt32 &&& Int32.toUInt32 31)).toInt32) &&& (858993459 : Int32))).toUInt32 >>> ((4 : Int32).toUInt32 &&& Int32.toUInt32 31)).toInt32)) &&& (252645135 : Int32)) + (((((((x0 - (((x0.toUInt32 >>> ((1 : Int32).toUInt32 &&& Int32.toUInt32 31)).toInt32) &&& (1431655765 : Int32))) &&& (858993459 : Int32)) + ((((x0 - (((x0.toUInt32 >>> ((1 : Int32).toUInt32 &&& Int32.toUInt32 31)).toInt32) &&& (1431655765 : Int32))).toUInt32 >>> ((2 : Int32).toUInt32 &&& Int32.toUInt32 31)).toInt32) &&& (858993459 : Int32))) + (((((x0 - (((x0.toUInt32 >>> ((1 : Int32).toUInt32 &&& Int32.toUInt32 31)).toInt32) &&& (1431655765 : Int32))) &&& (858993459 : Int32)) + ((((x0 - (((x0.toUInt32 >>> ((1 : Int32).toUInt32 &&& Int32.toUInt32 31)).toInt32) &&& (1431655765 : Int32))).toUInt32 >>> ((2 : Int32).toUInt32 &&& Int32.toUInt32 31)).toInt32) &&& (858993459 : Int32))).toUInt32 >>> ((4 : Int32).toUInt32 &&& Int32.toUInt32 31)).toInt32)) &&& (252645135 : Int32)).toUInt32 >>> ((8 : Int32).toUInt32 &&& Int32.toUInt32 31)).toInt32)) + ((((((((x0 - (((x0.toUInt32 >>> ((1 : Int32).toUInt32 &&& Int32.toUInt32 31)).toInt32) &&& (1431655765 : Int32))) &&& (858993459 : Int32)) + ((((x0 - (((x0.toUInt32 >>> ((1 : Int32).toUInt32 &&& Int32.toUInt32 31)).toInt32) &&& (1431655765 : Int32))).toUInt32 >>> ((2 : Int32).toUInt32 &&& Int32.toUInt32 31)).toInt32) &&& (858993459 : Int32))) + (((((x0 - (((x0.toUInt32 >>> ((1 : Int32).toUInt32 &&& Int32.toUInt32 31)).toInt32) &&& (1431655765 : Int32))) &&& (858993459 : Int32)) + ((((x0 - (((x0.toUInt32 >>> ((1 : Int32).toUInt32 &&& Int32.toUInt32 31)).toInt32) &&& (1431655765 : Int32))).toUInt32 >>> ((2 : Int32).toUInt32 &&& Int32.toUInt32 31)).toInt32) &&& (858993459 : Int32))).toUInt32 >>> ((4 : Int32).toUInt32 &&& Int32.toUInt32 31)).toInt32)) &&& (252645135 : Int32)) + (((((((x0 - (((x0.toUInt32 >>> ((1 : Int32).toUInt32 &&& Int32.toUInt32 31)).toInt32) &&& (1431655765 : Int32))) &&& (858993459 : Int32)) + ((((x0 - (((x0.toUInt32 >>> ((1 : Int32).toUInt32 &&& Int32.toUInt32 31)).toInt32) &&& (1431655765 : Int32))).toUInt32 >>> ((2 : Int32).toUInt32 &&& Int32.toUInt32 31)).toInt32) &&& (858993459 : Int32))) + (((((x0 - (((x0.toUInt32 >>> ((1 : Int32).toUInt32 &&& Int32.toUInt32 31)).toInt32) &&& (1431655765 : Int32))) &&& (858993459 : Int32)) + ((((x0 - (((x0.toUInt32 >>> ((1 : Int32).toUInt32 &&& Int32.toUInt32 31)).toInt32) &&& (1431655765 : Int32))).toUInt32 >>> ((2 : Int32).toUInt32 &&& Int32.toUInt32 31)).toInt32) &&& (858993459 : Int32))).toUInt32 >>> ((4 : Int32).toUInt32 &&& Int32.toUInt32 31)).toInt32)) &&& (252645135 : Int32)).toUInt32 >>> ((8 : Int32).toUInt32 &&& Int32.toUInt32 31)).toInt32)).toUInt32 >>> ((16 : Int32).toUInt32 &&& Int32.toUInt32 31)).toInt32))]) dJ6_bitCount_0f7a4_47 (by decide) rfl rfl ?_
  refine aw_iload_n dJ6_bitCount_0f7a4_48 rfl ?_
  refine aw_bipush (v := (63 : Int32)) dJ6_bitCount_0f7a4_49 rfl ?_
  refine aw_iand dJ6_bitCount_0f7a4_51 ?_
  exact aw_iret dJ6_bitCount_0f7a4_52 rfl rfl ⟨_, rfl, h⟩
theorem u_J9_floorDiv {Γ : cx_T} {μ : mH} {x0 : Int32} {x1 : Int32} {Q : Int32 → mH → Prop} (h : ¬ x1 = 0 ∧ ((0 ≤ (x0 ^^^ x1) → (Q (x0 / x1) μ)) ∧ (¬ 0 ≤ (x0 ^^^ x1) → ((((x0 / x1) * x1) = x0 → (Q (x0 / x1) μ)) ∧ (¬ ((x0 / x1) * x1) = x0 → (Q ((x0 / x1) - (1 : Int32)) μ)))))) : cwi Γ M_J9_floorDiv_7cf53 [aI x0, aI x1] μ Q := by
  refine cw_ofU (ls := [aI x0, aI x1, aX]) (Or.inr (by decide +kernel)) rfl (Nat.le_of_ble_eq_true rfl) rfl ?_
  refine aw_iload_n dJ9_floorDiv_7cf53_0 rfl ?_
  refine aw_iload_n dJ9_floorDiv_7cf53_1 rfl ?_
  refine aw_idiv dJ9_floorDiv_7cf53_2 h.1 ?_
  have h := h.2
  refine aw_istore_n (ls' := [aI x0, aI x1, aI (x0 / x1)]) dJ9_floorDiv_7cf53_3 (by decide) rfl rfl ?_
  refine aw_iload_n dJ9_floorDiv_7cf53_4 rfl ?_
  refine aw_iload_n dJ9_floorDiv_7cf53_5 rfl ?_
  refine aw_ixor dJ9_floorDiv_7cf53_6 ?_
  refine aw_if_ge (tgt := 21) dJ9_floorDiv_7cf53_7 (by decide) (fun c0 => ?_) (fun c0 => ?_)
  · have h := h.1 c0
    refine aw_iload_n dJ9_floorDiv_7cf53_21 rfl ?_
    exact aw_iret dJ9_floorDiv_7cf53_22 rfl rfl ⟨_, rfl, h⟩
  · have h := h.2 c0
    refine aw_iload_n dJ9_floorDiv_7cf53_10 rfl ?_
    refine aw_iload_n dJ9_floorDiv_7cf53_11 rfl ?_
    refine aw_imul dJ9_floorDiv_7cf53_12 ?_
    refine aw_iload_n dJ9_floorDiv_7cf53_13 rfl ?_
    refine aw_icmp_eq (tgt := 21) dJ9_floorDiv_7cf53_14 (by decide) (fun c0 => ?_) (fun c0 => ?_)
    · have h := h.1 c0
      refine aw_iload_n dJ9_floorDiv_7cf53_21 rfl ?_
      exact aw_iret dJ9_floorDiv_7cf53_22 rfl rfl ⟨_, rfl, h⟩
    · have h := h.2 c0
      refine aw_iload_n dJ9_floorDiv_7cf53_17 rfl ?_
      refine aw_iconst (v := (1 : Int32)) dJ9_floorDiv_7cf53_18 rfl ?_
      refine aw_isub dJ9_floorDiv_7cf53_19 ?_
      exact aw_iret dJ9_floorDiv_7cf53_20 rfl rfl ⟨_, rfl, h⟩
theorem u_J9_max {Γ : cx_T} {μ : mH} {x0 : Int32} {x1 : Int32} {Q : Int32 → mH → Prop} (h : (x0 < x1 → (Q x1 μ)) ∧ (¬ x0 < x1 → (Q x0 μ))) : cwi Γ M_J9_max_7cf53 [aI x0, aI x1] μ Q := by
  refine cw_ofU (ls := [aI x0, aI x1]) (Or.inr (by decide +kernel)) rfl (Nat.le_of_ble_eq_true rfl) rfl ?_
  refine aw_iload_n dJ9_max_7cf53_0 rfl ?_
  refine aw_iload_n dJ9_max_7cf53_1 rfl ?_
  refine aw_icmp_lt (tgt := 9) dJ9_max_7cf53_2 (by decide) (fun c0 => ?_) (fun c0 => ?_)
  · have h := h.1 c0
    refine aw_iload_n dJ9_max_7cf53_9 rfl ?_
    exact aw_iret dJ9_max_7cf53_10 rfl rfl ⟨_, rfl, h⟩
  · have h := h.2 c0
    refine aw_iload_n dJ9_max_7cf53_5 rfl ?_
    refine aw_goto (tgt := 10) dJ9_max_7cf53_6 (by decide) ?_
    exact aw_iret dJ9_max_7cf53_10 rfl rfl ⟨_, rfl, h⟩
theorem u_J9_min {Γ : cx_T} {μ : mH} {x0 : Int32} {x1 : Int32} {Q : Int32 → mH → Prop} (h : (x1 < x0 → (Q x1 μ)) ∧ (¬ x1 < x0 → (Q x0 μ))) : cwi Γ M_J9_min_7cf53 [aI x0, aI x1] μ Q := by
  refine cw_ofU (ls := [aI x0, aI x1]) (Or.inr (by decide +kernel)) rfl (Nat.le_of_ble_eq_true rfl) rfl ?_
  refine aw_iload_n dJ9_min_7cf53_0 rfl ?_
  refine aw_iload_n dJ9_min_7cf53_1 rfl ?_
  refine aw_icmp_gt (tgt := 9) dJ9_min_7cf53_2 (by decide) (fun c0 => ?_) (fun c0 => ?_)
  · have h := h.1 c0
    refine aw_iload_n dJ9_min_7cf53_9 rfl ?_
    exact aw_iret dJ9_min_7cf53_10 rfl rfl ⟨_, rfl, h⟩
  · have h := h.2 c0
    refine aw_iload_n dJ9_min_7cf53_5 rfl ?_
    refine aw_goto (tgt := 10) dJ9_min_7cf53_6 (by decide) ?_
    exact aw_iret dJ9_min_7cf53_10 rfl rfl ⟨_, rfl, h⟩
theorem u_J0_length {Γ : cx_T} {μ : mH} {k0 : Nat} {Q : Int32 → mH → Prop} (h : cwi Γ M_J0_coder_7d493 [aR 63 k0] μ (fun r2 μ1 => Q ((Int32.ofNat (lenS.getD k0 0)) >>> (r2 &&& 31)) μ1)) : cwi Γ M_J0_length_8abf5 [aR 63 k0] μ Q := by
  refine cw_ofU (ls := [aR 63 k0]) (Or.inr (by decide +kernel)) rfl (Nat.le_of_ble_eq_true rfl) rfl ?_
  refine aw_aload_n dJ0_length_8abf5_0 rfl ?_
  refine aw_strV dJ0_length_8abf5_1 sf_RJ0_9 ?_
  refine aw_strL dJ0_length_8abf5_4 ?_
  refine aw_aload_n dJ0_length_8abf5_5 rfl ?_
  refine aw_callV (M' := M_J0_coder_7d493) (K := 63) (i := k0) (vs := []) (st := [aI (Int32.ofNat (lenS.getD k0 0))]) dJ0_length_8abf5_6 mk_J0_coder_7d493 mi_J0_coder_7d493 ml_RJ0_335 mp_J0_coder_7d493 rc_63 rm_J0_length_8abf5__J0_coder_7d493 (Nat.le_of_ble_eq_true rfl) rfl (cw_mono h ?_)
  rintro _ μ1 ⟨r2, rfl, h⟩
  show aw Γ M_J0_length_8abf5 9 [aR 63 k0] [aI r2, aI (Int32.ofNat (lenS.getD k0 0))] μ1 (rI Q)
  refine aw_ishr dJ0_length_8abf5_9 ?_
  exact aw_iret dJ0_length_8abf5_10 rfl rfl ⟨_, rfl, h⟩
theorem u_J0_charAt {Γ : cx_T} {μ : mH} {k0 : Nat} {x1 : Int32} {Q : Int32 → mH → Prop} (h : cwi Γ M_J0_isLatin1_aae02 [aR 63 k0] μ (fun r2 μ1 => (r2 = 0 → (False)) ∧ (¬ r2 = 0 → (cwi Γ M_J1_charAt_3b067 [aR 64 k0, aI x1] μ1 (fun r4 μ3 => narrow .char (.int r4) = .int r4 ∧ Q r4 μ3))))) : cwi Γ M_J0_charAt_5068e [aR 63 k0, aI x1] μ Q := by
  refine cw_ofU (ls := [aR 63 k0, aI x1]) (Or.inr (by decide +kernel)) rfl (Nat.le_of_ble_eq_true rfl) rfl ?_
  refine aw_aload_n dJ0_charAt_5068e_0 rfl ?_
  refine aw_callV (M' := M_J0_isLatin1_aae02) (K := 63) (i := k0) (vs := []) (st := []) dJ0_charAt_5068e_1 mk_J0_isLatin1_aae02 mi_J0_isLatin1_aae02 ml_RJ0_492 mp_J0_isLatin1_aae02 rc_63 rm_J0_charAt_5068e__J0_isLatin1_aae02 (Nat.le_of_ble_eq_true rfl) rfl (cw_mono h ?_)
  rintro _ μ1 ⟨r2, rfl, h⟩
  show aw Γ M_J0_charAt_5068e 4 [aR 63 k0, aI x1] [aI r2] μ1 (rI Q)
  refine aw_if_eq (tgt := 16) dJ0_charAt_5068e_4 (by decide) (fun c0 => ?_) (fun c0 => ?_)
  · have h := h.1 c0
    refine aw_aload_n dJ0_charAt_5068e_16 rfl ?_
    refine aw_strV dJ0_charAt_5068e_17 sf_RJ0_9 ?_
    refine aw_iload_n dJ0_charAt_5068e_20 rfl ?_
    exact absurd h id
  · have h := h.2 c0
    refine aw_aload_n dJ0_charAt_5068e_7 rfl ?_
    refine aw_strV dJ0_charAt_5068e_8 sf_RJ0_9 ?_
    refine aw_iload_n dJ0_charAt_5068e_11 rfl ?_
    refine aw_callS (M' := M_J1_charAt_3b067) (vs := [aR 64 k0, aI x1]) (st := []) dJ0_charAt_5068e_12 mk_J1_charAt_3b067 ms_J1_charAt_3b067 ml_RJ0_495 mp_J1_charAt_3b067 rm_J0_charAt_5068e__J1_charAt_3b067 (Nat.le_of_ble_eq_true rfl) rfl (cw_mono h ?_)
    rintro _ μ3 ⟨r4, rfl, h⟩
    show aw Γ M_J0_charAt_5068e 15 [aR 63 k0, aI x1] [aI r4] μ3 (rI Q)
    exact aw_iret (ty := .char) dJ0_charAt_5068e_15 rfl h.1 ⟨_, rfl, h.2⟩
theorem u_J0_coder {Γ : cx_T} {μ : mH} {k0 : Nat} {Q : Int32 → mH → Prop} (h : Q (0 : Int32) μ) : cwi Γ M_J0_coder_7d493 [aR 63 k0] μ Q := by
  refine cw_ofU (ls := [aR 63 k0]) (Or.inr (by decide +kernel)) rfl (Nat.le_of_ble_eq_true rfl) rfl ?_
  refine aw_compact dJ0_coder_7d493_0 sf_RJ0_38 ?_
  refine aw_if_eq (tgt := 13) dJ0_coder_7d493_3 (by decide) (fun c0 => absurd c0 (by decide)) (fun c0 => ?_)
  refine aw_aload_n dJ0_coder_7d493_6 rfl ?_
  refine aw_strC dJ0_coder_7d493_7 sf_RJ0_15 ?_
  refine aw_goto (tgt := 14) dJ0_coder_7d493_10 (by decide) ?_
  exact aw_iret (ty := .byte) dJ0_coder_7d493_14 rfl (by decide) ⟨_, rfl, h⟩
theorem u_J0_isLatin1 {Γ : cx_T} {μ : mH} {k0 : Nat} {Q : Int32 → mH → Prop} (h : Q (1 : Int32) μ) : cwi Γ M_J0_isLatin1_aae02 [aR 63 k0] μ Q := by
  refine cw_ofU (ls := [aR 63 k0]) (Or.inr (by decide +kernel)) rfl (Nat.le_of_ble_eq_true rfl) rfl ?_
  refine aw_compact dJ0_isLatin1_aae02_0 sf_RJ0_38 ?_
  refine aw_if_eq (tgt := 17) dJ0_isLatin1_aae02_3 (by decide) (fun c0 => absurd c0 (by decide)) (fun c0 => ?_)
  refine aw_aload_n dJ0_isLatin1_aae02_6 rfl ?_
  refine aw_strC dJ0_isLatin1_aae02_7 sf_RJ0_15 ?_
  refine aw_if_ne (tgt := 17) dJ0_isLatin1_aae02_10 (by decide) (fun c0 => absurd c0 (by decide)) (fun c0 => ?_)
  refine aw_iconst (v := (1 : Int32)) dJ0_isLatin1_aae02_13 rfl ?_
  refine aw_goto (tgt := 18) dJ0_isLatin1_aae02_14 (by decide) ?_
  exact aw_iret (ty := .boolean) dJ0_isLatin1_aae02_18 rfl (by decide) ⟨_, rfl, h⟩
theorem u_J0_checkIndex {Γ : cx_T} {μ : mH} {x0 : Int32} {x1 : Int32} {Q : mH → Prop} (h : ∀ o1 : Option Nat, cwi Γ M_J3_checkIndex_8e157 [aI x0, aI x1, aQ 66 o1] μ (fun r3 μ2 => Q μ2)) : cwv Γ M_J0_checkIndex_df160 [aI x0, aI x1] μ Q := by
  refine cw_ofU (ls := [aI x0, aI x1]) (Or.inr (by decide +kernel)) rfl (Nat.le_of_ble_eq_true rfl) rfl ?_
  refine aw_iload_n dJ0_checkIndex_df160_0 rfl ?_
  refine aw_iload_n dJ0_checkIndex_df160_1 rfl ?_
  refine aw_sio dJ0_checkIndex_df160_2 sf_RJ0_1053 (fun o1 => ?_)
  have h := h o1
  refine aw_callS (M' := M_J3_checkIndex_8e157) (vs := [aI x0, aI x1, aQ 66 o1]) (st := []) dJ0_checkIndex_df160_5 mk_J3_checkIndex_8e157 ms_J3_checkIndex_8e157 ml_RJ0_1059 mp_J3_checkIndex_8e157 rm_J0_checkIndex_df160__J3_checkIndex_8e157 (Nat.le_of_ble_eq_true rfl) rfl (cw_mono h ?_)
  rintro _ μ2 ⟨r3, rfl, h⟩
  show aw Γ M_J0_checkIndex_df160 8 [aI x0, aI x1] [aI r3] μ2 (rV Q)
  refine aw_pop dJ0_checkIndex_df160_8 ?_
  exact aw_vret dJ0_checkIndex_df160_9 rfl h
theorem u_J1_charAt {Γ : cx_T} {μ : mH} {k0 : Nat} {x1 : Int32} {Q : Int32 → mH → Prop} (h : cwv Γ M_J0_checkIndex_df160 [aI x1, aI (Int32.ofNat (lenS.getD k0 0))] μ (fun μ1 => vp_in x1 (lenS.getD k0 0) ∧ (narrow .char (.int (((((bytS.getD k0 []).getD (tn x1) 0) &&& (255 : Int32)).toUInt32 % 65536).toInt32)) = .int (((((bytS.getD k0 []).getD (tn x1) 0) &&& (255 : Int32)).toUInt32 % 65536).toInt32) ∧ Q (((((bytS.getD k0 []).getD (tn x1) 0) &&& (255 : Int32)).toUInt32 % 65536).toInt32) μ1))) : cwi Γ M_J1_charAt_3b067 [aR 64 k0, aI x1] μ Q := by
  refine cw_ofU (ls := [aR 64 k0, aI x1]) (Or.inr (by decide +kernel)) rfl (Nat.le_of_ble_eq_true rfl) rfl ?_
  refine aw_iload_n dJ1_charAt_3b067_0 rfl ?_
  refine aw_aload_n dJ1_charAt_3b067_1 rfl ?_
  refine aw_strL dJ1_charAt_3b067_2 ?_
  refine aw_callS (M' := M_J0_checkIndex_df160) (vs := [aI x1, aI (Int32.ofNat (lenS.getD k0 0))]) (st := []) dJ1_charAt_3b067_3 mk_J0_checkIndex_df160 ms_J0_checkIndex_df160 ml_RJ1_9 mp_J0_checkIndex_df160 rm_J1_charAt_3b067__J0_checkIndex_df160 (Nat.le_of_ble_eq_true rfl) rfl (cw_mono h ?_)
  intro _ μ1 h
  show aw Γ M_J1_charAt_3b067 6 [aR 64 k0, aI x1] [] μ1 (rI Q)
  refine aw_aload_n dJ1_charAt_3b067_6 rfl ?_
  refine aw_iload_n dJ1_charAt_3b067_7 rfl ?_
  refine aw_strB dJ1_charAt_3b067_8 h.1 ?_
  have h := h.2
  refine aw_sipush (v := (255 : Int32)) dJ1_charAt_3b067_9 rfl ?_
  refine aw_iand dJ1_charAt_3b067_12 ?_
  refine aw_i2c dJ1_charAt_3b067_13 ?_
  exact aw_iret (ty := .char) dJ1_charAt_3b067_14 rfl h.1 ⟨_, rfl, h.2⟩
theorem u_J7_fill_27 {Γ : cx_T} {μ : mH} {x1 : Int32} {Q : mH → Prop} (h : aw Γ M_J7_fill_53178 5 [aR 27 0, aI x1, aI (0 : Int32), aI (24 : Int32)] [] μ (rV Q)) : cwv Γ M_J7_fill_53178 [aR 27 0, aI x1] μ Q := by
  refine cw_ofU (ls := [aR 27 0, aI x1, aX, aX]) (Or.inr (by decide +kernel)) rfl (Nat.le_of_ble_eq_true rfl) rfl ?_
  refine aw_iconst (v := (0 : Int32)) dJ7_fill_53178_0 rfl ?_
  refine aw_istore_n (ls' := [aR 27 0, aI x1, aI (0 : Int32), aX]) dJ7_fill_53178_1 (by decide) rfl rfl ?_
  refine aw_aload_n dJ7_fill_53178_2 rfl ?_
  refine aw_alen (v := (24 : Int32)) dJ7_fill_53178_3 rfl rfl ?_
  refine aw_istore_n (ls' := [aR 27 0, aI x1, aI (0 : Int32), aI (24 : Int32)]) dJ7_fill_53178_4 (by decide) rfl rfl ?_
  exact h
theorem u_J7_fill_27_5 {Γ : cx_T} {μ : mH} {x1 : Int32} {x2 : Int32} {x3 : Int32} {Q : mH → Prop} (h : (x3 ≤ x2 → (Q μ)) ∧ (¬ x3 ≤ x2 → (vp_in x2 24 ∧ (aw Γ M_J7_fill_53178 5 [aR 27 0, aI x1, aI (x2 + (1 : Int32)), aI x3] [] (sto μ 27 0 (tn x2) x1) (rV Q))))) : aw Γ M_J7_fill_53178 5 [aR 27 0, aI x1, aI x2, aI x3] [] μ (rV Q) := by
  refine aw_iload_n dJ7_fill_53178_5 rfl ?_
  refine aw_iload_n dJ7_fill_53178_6 rfl ?_
  refine aw_icmp_ge (tgt := 20) dJ7_fill_53178_7 (by decide) (fun c0 => ?_) (fun c0 => ?_)
  · have h := h.1 c0
    exact aw_vret dJ7_fill_53178_20 rfl h
  · have h := h.2 c0
    refine aw_aload_n dJ7_fill_53178_10 rfl ?_
    refine aw_iload_n dJ7_fill_53178_11 rfl ?_
    refine aw_iload_n dJ7_fill_53178_12 rfl ?_
    refine aw_is (j := tn x2) dJ7_fill_53178_13 rfl (fun _ => rfl) h.1 rfl ?_
    have h := h.2
    refine aw_iinc (v := x2 + (1 : Int32)) (ls' := [aR 27 0, aI x1, aI (x2 + (1 : Int32)), aI x3]) dJ7_fill_53178_14 rfl rfl (by decide) rfl rfl ?_
    refine aw_goto (tgt := 5) dJ7_fill_53178_17 (by decide) ?_
    exact h
theorem u_J7_fill_33 {Γ : cx_T} {μ : mH} {x1 : Int32} {Q : mH → Prop} (h : aw Γ M_J7_fill_53178 5 [aR 33 0, aI x1, aI (0 : Int32), aI (256 : Int32)] [] μ (rV Q)) : cwv Γ M_J7_fill_53178 [aR 33 0, aI x1] μ Q := by
  refine cw_ofU (ls := [aR 33 0, aI x1, aX, aX]) (Or.inr (by decide +kernel)) rfl (Nat.le_of_ble_eq_true rfl) rfl ?_
  refine aw_iconst (v := (0 : Int32)) dJ7_fill_53178_0 rfl ?_
  refine aw_istore_n (ls' := [aR 33 0, aI x1, aI (0 : Int32), aX]) dJ7_fill_53178_1 (by decide) rfl rfl ?_
  refine aw_aload_n dJ7_fill_53178_2 rfl ?_
  refine aw_alen (v := (256 : Int32)) dJ7_fill_53178_3 rfl rfl ?_
  refine aw_istore_n (ls' := [aR 33 0, aI x1, aI (0 : Int32), aI (256 : Int32)]) dJ7_fill_53178_4 (by decide) rfl rfl ?_
  exact h
theorem u_J7_fill_33_5 {Γ : cx_T} {μ : mH} {x1 : Int32} {x2 : Int32} {x3 : Int32} {Q : mH → Prop} (h : (x3 ≤ x2 → (Q μ)) ∧ (¬ x3 ≤ x2 → (vp_in x2 256 ∧ (aw Γ M_J7_fill_53178 5 [aR 33 0, aI x1, aI (x2 + (1 : Int32)), aI x3] [] (sto μ 33 0 (tn x2) x1) (rV Q))))) : aw Γ M_J7_fill_53178 5 [aR 33 0, aI x1, aI x2, aI x3] [] μ (rV Q) := by
  refine aw_iload_n dJ7_fill_53178_5 rfl ?_
  refine aw_iload_n dJ7_fill_53178_6 rfl ?_
  refine aw_icmp_ge (tgt := 20) dJ7_fill_53178_7 (by decide) (fun c0 => ?_) (fun c0 => ?_)
  · have h := h.1 c0
    exact aw_vret dJ7_fill_53178_20 rfl h
  · have h := h.2 c0
    refine aw_aload_n dJ7_fill_53178_10 rfl ?_
    refine aw_iload_n dJ7_fill_53178_11 rfl ?_
    refine aw_iload_n dJ7_fill_53178_12 rfl ?_
    refine aw_is (j := tn x2) dJ7_fill_53178_13 rfl (fun _ => rfl) h.1 rfl ?_
    have h := h.2
    refine aw_iinc (v := x2 + (1 : Int32)) (ls' := [aR 33 0, aI x1, aI (x2 + (1 : Int32)), aI x3]) dJ7_fill_53178_14 rfl rfl (by decide) rfl rfl ?_
    refine aw_goto (tgt := 5) dJ7_fill_53178_17 (by decide) ?_
    exact h
theorem u_J3_checkIndex {Γ : cx_T} {μ : mH} {x0 : Int32} {x1 : Int32} {o2 : Option Nat} {Q : Int32 → mH → Prop} (h : (x0 < 0 → (False)) ∧ (¬ x0 < 0 → ((x0 < x1 → (Q x0 μ)) ∧ (¬ x0 < x1 → (False))))) : cwi Γ M_J3_checkIndex_8e157 [aI x0, aI x1, aQ 66 o2] μ Q := by
  refine cw_ofU (ls := [aI x0, aI x1, aQ 66 o2]) (Or.inr (by decide +kernel)) rfl (Nat.le_of_ble_eq_true rfl) rfl ?_
  refine aw_iload_n dJ3_checkIndex_8e157_0 rfl ?_
  refine aw_if_lt (tgt := 9) dJ3_checkIndex_8e157_1 (by decide) (fun c0 => ?_) (fun c0 => ?_)
  · have h := h.1 c0
    refine aw_aload_nQ (K := 66) dJ3_checkIndex_8e157_9 rfl ?_
    refine aw_iload_n dJ3_checkIndex_8e157_10 rfl ?_
    refine aw_iload_n dJ3_checkIndex_8e157_11 rfl ?_
    exact absurd h id
  · have h := h.2 c0
    refine aw_iload_n dJ3_checkIndex_8e157_4 rfl ?_
    refine aw_iload_n dJ3_checkIndex_8e157_5 rfl ?_
    refine aw_icmp_lt (tgt := 16) dJ3_checkIndex_8e157_6 (by decide) (fun c0 => ?_) (fun c0 => ?_)
    · have h := h.1 c0
      refine aw_iload_n dJ3_checkIndex_8e157_16 rfl ?_
      exact aw_iret dJ3_checkIndex_8e157_17 rfl rfl ⟨_, rfl, h⟩
    · have h := h.2 c0
      refine aw_aload_nQ (K := 66) dJ3_checkIndex_8e157_9 rfl ?_
      refine aw_iload_n dJ3_checkIndex_8e157_10 rfl ?_
      refine aw_iload_n dJ3_checkIndex_8e157_11 rfl ?_
      exact absurd h id
end
