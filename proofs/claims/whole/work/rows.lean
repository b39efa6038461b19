section
-- ===== PART A: goes FIRST, ahead of the names: the tables' words, and 'selects' of the private methods out of them =====
/-- a private method of a class that the tables say can be made, by its rows of tables_1 -/
def lw_okq (q : MethodName × Nat) : Prop := (q.1.cls ≠ "java/lang/invoke/MethodHandle" ∧ q.1.cls ≠ "java/lang/invoke/VarHandle") ∧ Cond.instantiable q.1.cls q.2 ∈ tables_1 ∧ Cond.privateMethod q.1 ∈ tables_1 ∧ Cond.instanceMethod q.1 ∈ tables_1
theorem lw_p0 : lw_okq (⟨"ClickingDisk$FormatText", "step", "()V"⟩, 8) := ⟨⟨by decide +kernel, by decide +kernel⟩, List.mem_of_getElem? (i := 31) (by decide +kernel), List.mem_of_getElem? (i := 462) (by decide +kernel), List.mem_of_getElem? (i := 463) (by decide +kernel)⟩
theorem lw_p1 : lw_okq (⟨"ClickingDisk$FormatText", "kindAt", "(I)I"⟩, 8) := ⟨⟨by decide +kernel, by decide +kernel⟩, List.mem_of_getElem? (i := 31) (by decide +kernel), List.mem_of_getElem? (i := 466) (by decide +kernel), List.mem_of_getElem? (i := 467) (by decide +kernel)⟩
theorem lw_p2 : lw_okq (⟨"ClickingDisk$FormatText", "isLong", "()Z"⟩, 8) := ⟨⟨by decide +kernel, by decide +kernel⟩, List.mem_of_getElem? (i := 31) (by decide +kernel), List.mem_of_getElem? (i := 470) (by decide +kernel), List.mem_of_getElem? (i := 471) (by decide +kernel)⟩
theorem lw_p3 : lw_okq (⟨"ClickingDisk$FormatText", "lineBegun", "()I"⟩, 8) := ⟨⟨by decide +kernel, by decide +kernel⟩, List.mem_of_getElem? (i := 31) (by decide +kernel), List.mem_of_getElem? (i := 478) (by decide +kernel), List.mem_of_getElem? (i := 479) (by decide +kernel)⟩
theorem lw_p4 : lw_okq (⟨"ClickingDisk$FormatText", "isWord", "(Ljava/lang/String;)Z"⟩, 8) := ⟨⟨by decide +kernel, by decide +kernel⟩, List.mem_of_getElem? (i := 31) (by decide +kernel), List.mem_of_getElem? (i := 483) (by decide +kernel), List.mem_of_getElem? (i := 484) (by decide +kernel)⟩
theorem lw_p5 : lw_okq (⟨"ClickingDisk$FormatText", "takeRest", "(ILClickingDisk$Layout;)Z"⟩, 8) := ⟨⟨by decide +kernel, by decide +kernel⟩, List.mem_of_getElem? (i := 31) (by decide +kernel), List.mem_of_getElem? (i := 540) (by decide +kernel), List.mem_of_getElem? (i := 541) (by decide +kernel)⟩
theorem lw_p6 : lw_okq (⟨"ClickingDisk$FormatText", "takeNumber", "(II)Z"⟩, 8) := ⟨⟨by decide +kernel, by decide +kernel⟩, List.mem_of_getElem? (i := 31) (by decide +kernel), List.mem_of_getElem? (i := 544) (by decide +kernel), List.mem_of_getElem? (i := 545) (by decide +kernel)⟩
theorem lw_p7 : lw_okq (⟨"ClickingDisk$FormatText", "takeMark", "(LClickingDisk$Layout;)Z"⟩, 8) := ⟨⟨by decide +kernel, by decide +kernel⟩, List.mem_of_getElem? (i := 31) (by decide +kernel), List.mem_of_getElem? (i := 548) (by decide +kernel), List.mem_of_getElem? (i := 549) (by decide +kernel)⟩
theorem lw_p8 : lw_okq (⟨"ClickingDisk$FormatText", "takeSum", "(LClickingDisk$Layout;)Z"⟩, 8) := ⟨⟨by decide +kernel, by decide +kernel⟩, List.mem_of_getElem? (i := 31) (by decide +kernel), List.mem_of_getElem? (i := 552) (by decide +kernel), List.mem_of_getElem? (i := 553) (by decide +kernel)⟩
theorem lw_p9 : lw_okq (⟨"ClickingDisk$FormatText", "takeStop", "()Z"⟩, 8) := ⟨⟨by decide +kernel, by decide +kernel⟩, List.mem_of_getElem? (i := 31) (by decide +kernel), List.mem_of_getElem? (i := 560) (by decide +kernel), List.mem_of_getElem? (i := 561) (by decide +kernel)⟩
theorem lw_p10 : lw_okq (⟨"ClickingDisk$RawBits", "push", "(I)V"⟩, 2) := ⟨⟨by decide +kernel, by decide +kernel⟩, List.mem_of_getElem? (i := 136) (by decide +kernel), List.mem_of_getElem? (i := 620) (by decide +kernel), List.mem_of_getElem? (i := 621) (by decide +kernel)⟩
theorem lw_p11 : lw_okq (⟨"ClickingDisk$Sector", "byteAt", "(LClickingDisk$RawBits;I)I"⟩, 7) := ⟨⟨by decide +kernel, by decide +kernel⟩, List.mem_of_getElem? (i := 170) (by decide +kernel), List.mem_of_getElem? (i := 636) (by decide +kernel), List.mem_of_getElem? (i := 637) (by decide +kernel)⟩
theorem lw_p12 : lw_okq (⟨"ClickingDisk$Sector", "slipsIn", "(LClickingDisk$RawBits;LClickingDisk$Layout;)I"⟩, 7) := ⟨⟨by decide +kernel, by decide +kernel⟩, List.mem_of_getElem? (i := 170) (by decide +kernel), List.mem_of_getElem? (i := 665) (by decide +kernel), List.mem_of_getElem? (i := 666) (by decide +kernel)⟩
theorem lw_p13 : lw_okq (⟨"ClickingDisk", "ofSector", "(LClickingDisk$Sector;I)I"⟩, 9) := ⟨⟨by decide +kernel, by decide +kernel⟩, List.mem_of_getElem? (i := 23) (by decide +kernel), List.mem_of_getElem? (i := 685) (by decide +kernel), List.mem_of_getElem? (i := 686) (by decide +kernel)⟩
theorem lw_p14 : lw_okq (⟨"ClickingDisk$Shelf", "keepBetter", "(LClickingDisk$Take;II)V"⟩, 3) := ⟨⟨by decide +kernel, by decide +kernel⟩, List.mem_of_getElem? (i := 155) (by decide +kernel), List.mem_of_getElem? (i := 700) (by decide +kernel), List.mem_of_getElem? (i := 701) (by decide +kernel)⟩
theorem lw_p15 : lw_okq (⟨"ClickingDisk", "canJudge", "(II)Z"⟩, 9) := ⟨⟨by decide +kernel, by decide +kernel⟩, List.mem_of_getElem? (i := 23) (by decide +kernel), List.mem_of_getElem? (i := 720) (by decide +kernel), List.mem_of_getElem? (i := 721) (by decide +kernel)⟩
def lw_privs_1 : List (MethodName × Nat) := [(⟨"ClickingDisk$FormatText", "step", "()V"⟩, 8), (⟨"ClickingDisk$FormatText", "kindAt", "(I)I"⟩, 8), (⟨"ClickingDisk$FormatText", "isLong", "()Z"⟩, 8), (⟨"ClickingDisk$FormatText", "lineBegun", "()I"⟩, 8), (⟨"ClickingDisk$FormatText", "isWord", "(Ljava/lang/String;)Z"⟩, 8), (⟨"ClickingDisk$FormatText", "takeRest", "(ILClickingDisk$Layout;)Z"⟩, 8), (⟨"ClickingDisk$FormatText", "takeNumber", "(II)Z"⟩, 8), (⟨"ClickingDisk$FormatText", "takeMark", "(LClickingDisk$Layout;)Z"⟩, 8), (⟨"ClickingDisk$FormatText", "takeSum", "(LClickingDisk$Layout;)Z"⟩, 8), (⟨"ClickingDisk$FormatText", "takeStop", "()Z"⟩, 8), (⟨"ClickingDisk$RawBits", "push", "(I)V"⟩, 2), (⟨"ClickingDisk$Sector", "byteAt", "(LClickingDisk$RawBits;I)I"⟩, 7), (⟨"ClickingDisk$Sector", "slipsIn", "(LClickingDisk$RawBits;LClickingDisk$Layout;)I"⟩, 7), (⟨"ClickingDisk", "ofSector", "(LClickingDisk$Sector;I)I"⟩, 9), (⟨"ClickingDisk$Shelf", "keepBetter", "(LClickingDisk$Take;II)V"⟩, 3), (⟨"ClickingDisk", "canJudge", "(II)Z"⟩, 9)]
theorem lw_r1 : ∀ q ∈ lw_privs_1, lw_okq q := List.forall_mem_cons.mpr ⟨lw_p0, List.forall_mem_cons.mpr ⟨lw_p1, List.forall_mem_cons.mpr ⟨lw_p2, List.forall_mem_cons.mpr ⟨lw_p3, List.forall_mem_cons.mpr ⟨lw_p4, List.forall_mem_cons.mpr ⟨lw_p5, List.forall_mem_cons.mpr ⟨lw_p6, List.forall_mem_cons.mpr ⟨lw_p7, List.forall_mem_cons.mpr ⟨lw_p8, List.forall_mem_cons.mpr ⟨lw_p9, List.forall_mem_cons.mpr ⟨lw_p10, List.forall_mem_cons.mpr ⟨lw_p11, List.forall_mem_cons.mpr ⟨lw_p12, List.forall_mem_cons.mpr ⟨lw_p13, List.forall_mem_cons.mpr ⟨lw_p14, List.forall_mem_cons.mpr ⟨lw_p15, fun _ h => absurd h List.not_mem_nil⟩⟩⟩⟩⟩⟩⟩⟩⟩⟩⟩⟩⟩⟩⟩⟩
theorem lw_p16 : lw_okq (⟨"ClickingDisk$Jury", "gather", "(LClickingDisk$Shelf;)V"⟩, 13) := ⟨⟨by decide +kernel, by decide +kernel⟩, List.mem_of_getElem? (i := 277) (by decide +kernel), List.mem_of_getElem? (i := 728) (by decide +kernel), List.mem_of_getElem? (i := 729) (by decide +kernel)⟩
theorem lw_p17 : lw_okq (⟨"ClickingDisk$Jury", "rightAgree", "(I)Z"⟩, 13) := ⟨⟨by decide +kernel, by decide +kernel⟩, List.mem_of_getElem? (i := 277) (by decide +kernel), List.mem_of_getElem? (i := 733) (by decide +kernel), List.mem_of_getElem? (i := 734) (by decide +kernel)⟩
theorem lw_p18 : lw_okq (⟨"ClickingDisk$Jury", "mend", "(LClickingDisk$Layout;)Z"⟩, 13) := ⟨⟨by decide +kernel, by decide +kernel⟩, List.mem_of_getElem? (i := 277) (by decide +kernel), List.mem_of_getElem? (i := 742) (by decide +kernel), List.mem_of_getElem? (i := 743) (by decide +kernel)⟩
theorem lw_p19 : lw_okq (⟨"ClickingDisk$Jury", "gatherKinds", "(I)Z"⟩, 13) := ⟨⟨by decide +kernel, by decide +kernel⟩, List.mem_of_getElem? (i := 277) (by decide +kernel), List.mem_of_getElem? (i := 747) (by decide +kernel), List.mem_of_getElem? (i := 748) (by decide +kernel)⟩
theorem lw_p20 : lw_okq (⟨"ClickingDisk$Jury", "hasKind", "(II)Z"⟩, 13) := ⟨⟨by decide +kernel, by decide +kernel⟩, List.mem_of_getElem? (i := 277) (by decide +kernel), List.mem_of_getElem? (i := 755) (by decide +kernel), List.mem_of_getElem? (i := 756) (by decide +kernel)⟩
theorem lw_p21 : lw_okq (⟨"ClickingDisk$Jury", "hasSum", "(II)Z"⟩, 13) := ⟨⟨by decide +kernel, by decide +kernel⟩, List.mem_of_getElem? (i := 277) (by decide +kernel), List.mem_of_getElem? (i := 761) (by decide +kernel), List.mem_of_getElem? (i := 762) (by decide +kernel)⟩
theorem lw_p22 : lw_okq (⟨"ClickingDisk$Jury", "keepRow", "(I)V"⟩, 13) := ⟨⟨by decide +kernel, by decide +kernel⟩, List.mem_of_getElem? (i := 277) (by decide +kernel), List.mem_of_getElem? (i := 765) (by decide +kernel), List.mem_of_getElem? (i := 766) (by decide +kernel)⟩
theorem lw_p23 : lw_okq (⟨"ClickingDisk$Jury", "chooseAnother", "(I)I"⟩, 13) := ⟨⟨by decide +kernel, by decide +kernel⟩, List.mem_of_getElem? (i := 277) (by decide +kernel), List.mem_of_getElem? (i := 769) (by decide +kernel), List.mem_of_getElem? (i := 770) (by decide +kernel)⟩
theorem lw_p24 : lw_okq (⟨"ClickingDisk$Disk", "findUnlike", "()Z"⟩, 12) := ⟨⟨by decide +kernel, by decide +kernel⟩, List.mem_of_getElem? (i := 333) (by decide +kernel), List.mem_of_getElem? (i := 812) (by decide +kernel), List.mem_of_getElem? (i := 813) (by decide +kernel)⟩
theorem lw_p25 : lw_okq (⟨"ClickingDisk$Disk", "join", "()V"⟩, 12) := ⟨⟨by decide +kernel, by decide +kernel⟩, List.mem_of_getElem? (i := 333) (by decide +kernel), List.mem_of_getElem? (i := 816) (by decide +kernel), List.mem_of_getElem? (i := 817) (by decide +kernel)⟩
theorem lw_p26 : lw_okq (⟨"ClickingDisk$Disk", "choose", "(II)V"⟩, 12) := ⟨⟨by decide +kernel, by decide +kernel⟩, List.mem_of_getElem? (i := 333) (by decide +kernel), List.mem_of_getElem? (i := 834) (by decide +kernel), List.mem_of_getElem? (i := 835) (by decide +kernel)⟩
theorem lw_p27 : lw_okq (⟨"ClickingDisk", "bestDrive", "()I"⟩, 9) := ⟨⟨by decide +kernel, by decide +kernel⟩, List.mem_of_getElem? (i := 23) (by decide +kernel), List.mem_of_getElem? (i := 879) (by decide +kernel), List.mem_of_getElem? (i := 880) (by decide +kernel)⟩
theorem lw_p28 : lw_okq (⟨"ClickingDisk", "worstTrack", "()I"⟩, 9) := ⟨⟨by decide +kernel, by decide +kernel⟩, List.mem_of_getElem? (i := 23) (by decide +kernel), List.mem_of_getElem? (i := 883) (by decide +kernel), List.mem_of_getElem? (i := 884) (by decide +kernel)⟩
theorem lw_p29 : lw_okq (⟨"ClickingDisk$Scribe", "pushBit", "(I)V"⟩, 6) := ⟨⟨by decide +kernel, by decide +kernel⟩, List.mem_of_getElem? (i := 380) (by decide +kernel), List.mem_of_getElem? (i := 902) (by decide +kernel), List.mem_of_getElem? (i := 903) (by decide +kernel)⟩
theorem lw_p30 : lw_okq (⟨"ClickingDisk$Scribe", "pushByte", "(I)V"⟩, 6) := ⟨⟨by decide +kernel, by decide +kernel⟩, List.mem_of_getElem? (i := 380) (by decide +kernel), List.mem_of_getElem? (i := 907) (by decide +kernel), List.mem_of_getElem? (i := 908) (by decide +kernel)⟩
theorem lw_p31 : lw_okq (⟨"ClickingDiskModel", "leads", "()V"⟩, 38) := ⟨⟨by decide +kernel, by decide +kernel⟩, List.mem_of_getElem? (i := 918) (by decide +kernel), List.mem_of_getElem? (i := 1055) (by decide +kernel), List.mem_of_getElem? (i := 1056) (by decide +kernel)⟩
def lw_privs_2 : List (MethodName × Nat) := [(⟨"ClickingDisk$Jury", "gather", "(LClickingDisk$Shelf;)V"⟩, 13), (⟨"ClickingDisk$Jury", "rightAgree", "(I)Z"⟩, 13), (⟨"ClickingDisk$Jury", "mend", "(LClickingDisk$Layout;)Z"⟩, 13), (⟨"ClickingDisk$Jury", "gatherKinds", "(I)Z"⟩, 13), (⟨"ClickingDisk$Jury", "hasKind", "(II)Z"⟩, 13), (⟨"ClickingDisk$Jury", "hasSum", "(II)Z"⟩, 13), (⟨"ClickingDisk$Jury", "keepRow", "(I)V"⟩, 13), (⟨"ClickingDisk$Jury", "chooseAnother", "(I)I"⟩, 13), (⟨"ClickingDisk$Disk", "findUnlike", "()Z"⟩, 12), (⟨"ClickingDisk$Disk", "join", "()V"⟩, 12), (⟨"ClickingDisk$Disk", "choose", "(II)V"⟩, 12), (⟨"ClickingDisk", "bestDrive", "()I"⟩, 9), (⟨"ClickingDisk", "worstTrack", "()I"⟩, 9), (⟨"ClickingDisk$Scribe", "pushBit", "(I)V"⟩, 6), (⟨"ClickingDisk$Scribe", "pushByte", "(I)V"⟩, 6), (⟨"ClickingDiskModel", "leads", "()V"⟩, 38)]
theorem lw_r2 : ∀ q ∈ lw_privs_2, lw_okq q := List.forall_mem_cons.mpr ⟨lw_p16, List.forall_mem_cons.mpr ⟨lw_p17, List.forall_mem_cons.mpr ⟨lw_p18, List.forall_mem_cons.mpr ⟨lw_p19, List.forall_mem_cons.mpr ⟨lw_p20, List.forall_mem_cons.mpr ⟨lw_p21, List.forall_mem_cons.mpr ⟨lw_p22, List.forall_mem_cons.mpr ⟨lw_p23, List.forall_mem_cons.mpr ⟨lw_p24, List.forall_mem_cons.mpr ⟨lw_p25, List.forall_mem_cons.mpr ⟨lw_p26, List.forall_mem_cons.mpr ⟨lw_p27, List.forall_mem_cons.mpr ⟨lw_p28, List.forall_mem_cons.mpr ⟨lw_p29, List.forall_mem_cons.mpr ⟨lw_p30, List.forall_mem_cons.mpr ⟨lw_p31, fun _ h => absurd h List.not_mem_nil⟩⟩⟩⟩⟩⟩⟩⟩⟩⟩⟩⟩⟩⟩⟩⟩
theorem lw_p32 : lw_okq (⟨"ClickingDiskModel", "line", "()Z"⟩, 38) := ⟨⟨by decide +kernel, by decide +kernel⟩, List.mem_of_getElem? (i := 918) (by decide +kernel), List.mem_of_getElem? (i := 1068) (by decide +kernel), List.mem_of_getElem? (i := 1069) (by decide +kernel)⟩
theorem lw_p33 : lw_okq (⟨"ClickingDiskModel", "isWord", "(Ljava/lang/String;)Z"⟩, 38) := ⟨⟨by decide +kernel, by decide +kernel⟩, List.mem_of_getElem? (i := 918) (by decide +kernel), List.mem_of_getElem? (i := 1073) (by decide +kernel), List.mem_of_getElem? (i := 1074) (by decide +kernel)⟩
theorem lw_p34 : lw_okq (⟨"ClickingDiskModel", "number", "(III)Z"⟩, 38) := ⟨⟨by decide +kernel, by decide +kernel⟩, List.mem_of_getElem? (i := 918) (by decide +kernel), List.mem_of_getElem? (i := 1087) (by decide +kernel), List.mem_of_getElem? (i := 1088) (by decide +kernel)⟩
theorem lw_p35 : lw_okq (⟨"ClickingDiskModel", "sumHere", "()Z"⟩, 38) := ⟨⟨by decide +kernel, by decide +kernel⟩, List.mem_of_getElem? (i := 918) (by decide +kernel), List.mem_of_getElem? (i := 1091) (by decide +kernel), List.mem_of_getElem? (i := 1092) (by decide +kernel)⟩
theorem lw_p36 : lw_okq (⟨"ClickingDiskModel", "closes", "()Z"⟩, 38) := ⟨⟨by decide +kernel, by decide +kernel⟩, List.mem_of_getElem? (i := 918) (by decide +kernel), List.mem_of_getElem? (i := 1099) (by decide +kernel), List.mem_of_getElem? (i := 1100) (by decide +kernel)⟩
theorem lw_p37 : lw_okq (⟨"ClickingDiskModel", "turns", "(III)V"⟩, 38) := ⟨⟨by decide +kernel, by decide +kernel⟩, List.mem_of_getElem? (i := 918) (by decide +kernel), List.mem_of_getElem? (i := 1127) (by decide +kernel), List.mem_of_getElem? (i := 1128) (by decide +kernel)⟩
theorem lw_p38 : lw_okq (⟨"ClickingDiskModel", "finds", "(III)V"⟩, 38) := ⟨⟨by decide +kernel, by decide +kernel⟩, List.mem_of_getElem? (i := 918) (by decide +kernel), List.mem_of_getElem? (i := 1136) (by decide +kernel), List.mem_of_getElem? (i := 1137) (by decide +kernel)⟩
theorem lw_p39 : lw_okq (⟨"ClickingDiskModel", "many", "()I"⟩, 38) := ⟨⟨by decide +kernel, by decide +kernel⟩, List.mem_of_getElem? (i := 918) (by decide +kernel), List.mem_of_getElem? (i := 1140) (by decide +kernel), List.mem_of_getElem? (i := 1141) (by decide +kernel)⟩
theorem lw_p40 : lw_okq (⟨"ClickingDiskModel", "isMark", "(I)Z"⟩, 38) := ⟨⟨by decide +kernel, by decide +kernel⟩, List.mem_of_getElem? (i := 918) (by decide +kernel), List.mem_of_getElem? (i := 1144) (by decide +kernel), List.mem_of_getElem? (i := 1145) (by decide +kernel)⟩
theorem lw_p41 : lw_okq (⟨"ClickingDiskModel", "takes", "(I)V"⟩, 38) := ⟨⟨by decide +kernel, by decide +kernel⟩, List.mem_of_getElem? (i := 918) (by decide +kernel), List.mem_of_getElem? (i := 1151) (by decide +kernel), List.mem_of_getElem? (i := 1152) (by decide +kernel)⟩
theorem lw_p42 : lw_okq (⟨"ClickingDiskModel", "trackOf", "(I)I"⟩, 38) := ⟨⟨by decide +kernel, by decide +kernel⟩, List.mem_of_getElem? (i := 918) (by decide +kernel), List.mem_of_getElem? (i := 1155) (by decide +kernel), List.mem_of_getElem? (i := 1156) (by decide +kernel)⟩
theorem lw_p43 : lw_okq (⟨"ClickingDiskModel", "numberOf", "(I)I"⟩, 38) := ⟨⟨by decide +kernel, by decide +kernel⟩, List.mem_of_getElem? (i := 918) (by decide +kernel), List.mem_of_getElem? (i := 1159) (by decide +kernel), List.mem_of_getElem? (i := 1160) (by decide +kernel)⟩
theorem lw_p44 : lw_okq (⟨"ClickingDiskModel", "told", "(I)I"⟩, 38) := ⟨⟨by decide +kernel, by decide +kernel⟩, List.mem_of_getElem? (i := 918) (by decide +kernel), List.mem_of_getElem? (i := 1163) (by decide +kernel), List.mem_of_getElem? (i := 1164) (by decide +kernel)⟩
theorem lw_p45 : lw_okq (⟨"ClickingDiskModel", "sumOfSector", "(I)I"⟩, 38) := ⟨⟨by decide +kernel, by decide +kernel⟩, List.mem_of_getElem? (i := 918) (by decide +kernel), List.mem_of_getElem? (i := 1167) (by decide +kernel), List.mem_of_getElem? (i := 1168) (by decide +kernel)⟩
theorem lw_p46 : lw_okq (⟨"ClickingDiskModel", "sumOf", "()I"⟩, 38) := ⟨⟨by decide +kernel, by decide +kernel⟩, List.mem_of_getElem? (i := 918) (by decide +kernel), List.mem_of_getElem? (i := 1171) (by decide +kernel), List.mem_of_getElem? (i := 1172) (by decide +kernel)⟩
theorem lw_p47 : lw_okq (⟨"ClickingDiskModel", "isRight", "(I)Z"⟩, 38) := ⟨⟨by decide +kernel, by decide +kernel⟩, List.mem_of_getElem? (i := 918) (by decide +kernel), List.mem_of_getElem? (i := 1181) (by decide +kernel), List.mem_of_getElem? (i := 1182) (by decide +kernel)⟩
def lw_privs_3 : List (MethodName × Nat) := [(⟨"ClickingDiskModel", "line", "()Z"⟩, 38), (⟨"ClickingDiskModel", "isWord", "(Ljava/lang/String;)Z"⟩, 38), (⟨"ClickingDiskModel", "number", "(III)Z"⟩, 38), (⟨"ClickingDiskModel", "sumHere", "()Z"⟩, 38), (⟨"ClickingDiskModel", "closes", "()Z"⟩, 38), (⟨"ClickingDiskModel", "turns", "(III)V"⟩, 38), (⟨"ClickingDiskModel", "finds", "(III)V"⟩, 38), (⟨"ClickingDiskModel", "many", "()I"⟩, 38), (⟨"ClickingDiskModel", "isMark", "(I)Z"⟩, 38), (⟨"ClickingDiskModel", "takes", "(I)V"⟩, 38), (⟨"ClickingDiskModel", "trackOf", "(I)I"⟩, 38), (⟨"ClickingDiskModel", "numberOf", "(I)I"⟩, 38), (⟨"ClickingDiskModel", "told", "(I)I"⟩, 38), (⟨"ClickingDiskModel", "sumOfSector", "(I)I"⟩, 38), (⟨"ClickingDiskModel", "sumOf", "()I"⟩, 38), (⟨"ClickingDiskModel", "isRight", "(I)Z"⟩, 38)]
theorem lw_r3 : ∀ q ∈ lw_privs_3, lw_okq q := List.forall_mem_cons.mpr ⟨lw_p32, List.forall_mem_cons.mpr ⟨lw_p33, List.forall_mem_cons.mpr ⟨lw_p34, List.forall_mem_cons.mpr ⟨lw_p35, List.forall_mem_cons.mpr ⟨lw_p36, List.forall_mem_cons.mpr ⟨lw_p37, List.forall_mem_cons.mpr ⟨lw_p38, List.forall_mem_cons.mpr ⟨lw_p39, List.forall_mem_cons.mpr ⟨lw_p40, List.forall_mem_cons.mpr ⟨lw_p41, List.forall_mem_cons.mpr ⟨lw_p42, List.forall_mem_cons.mpr ⟨lw_p43, List.forall_mem_cons.mpr ⟨lw_p44, List.forall_mem_cons.mpr ⟨lw_p45, List.forall_mem_cons.mpr ⟨lw_p46, List.forall_mem_cons.mpr ⟨lw_p47, fun _ h => absurd h List.not_mem_nil⟩⟩⟩⟩⟩⟩⟩⟩⟩⟩⟩⟩⟩⟩⟩⟩
theorem lw_p48 : lw_okq (⟨"ClickingDiskModel", "isSector", "(II)Z"⟩, 38) := ⟨⟨by decide +kernel, by decide +kernel⟩, List.mem_of_getElem? (i := 918) (by decide +kernel), List.mem_of_getElem? (i := 1189) (by decide +kernel), List.mem_of_getElem? (i := 1190) (by decide +kernel)⟩
theorem lw_p49 : lw_okq (⟨"ClickingDiskModel", "statusOf", "(II)I"⟩, 38) := ⟨⟨by decide +kernel, by decide +kernel⟩, List.mem_of_getElem? (i := 918) (by decide +kernel), List.mem_of_getElem? (i := 1193) (by decide +kernel), List.mem_of_getElem? (i := 1194) (by decide +kernel)⟩
theorem lw_p50 : lw_okq (⟨"ClickingDiskModel", "gathers", "(II)V"⟩, 38) := ⟨⟨by decide +kernel, by decide +kernel⟩, List.mem_of_getElem? (i := 918) (by decide +kernel), List.mem_of_getElem? (i := 1197) (by decide +kernel), List.mem_of_getElem? (i := 1198) (by decide +kernel)⟩
theorem lw_p51 : lw_okq (⟨"ClickingDiskModel", "mends", "()I"⟩, 38) := ⟨⟨by decide +kernel, by decide +kernel⟩, List.mem_of_getElem? (i := 918) (by decide +kernel), List.mem_of_getElem? (i := 1201) (by decide +kernel), List.mem_of_getElem? (i := 1202) (by decide +kernel)⟩
theorem lw_p52 : lw_okq (⟨"ClickingDiskModel", "isAhead", "(II)Z"⟩, 38) := ⟨⟨by decide +kernel, by decide +kernel⟩, List.mem_of_getElem? (i := 918) (by decide +kernel), List.mem_of_getElem? (i := 1205) (by decide +kernel), List.mem_of_getElem? (i := 1206) (by decide +kernel)⟩
theorem lw_p53 : lw_okq (⟨"ClickingDiskModel", "asks", "(I)Z"⟩, 38) := ⟨⟨by decide +kernel, by decide +kernel⟩, List.mem_of_getElem? (i := 918) (by decide +kernel), List.mem_of_getElem? (i := 1231) (by decide +kernel), List.mem_of_getElem? (i := 1232) (by decide +kernel)⟩
theorem lw_p54 : lw_okq (⟨"ClickingDiskModel", "takesFrom", "(I)V"⟩, 38) := ⟨⟨by decide +kernel, by decide +kernel⟩, List.mem_of_getElem? (i := 918) (by decide +kernel), List.mem_of_getElem? (i := 1236) (by decide +kernel), List.mem_of_getElem? (i := 1237) (by decide +kernel)⟩
theorem lw_p55 : lw_okq (⟨"ClickingDiskModel", "mishapsNow", "()I"⟩, 38) := ⟨⟨by decide +kernel, by decide +kernel⟩, List.mem_of_getElem? (i := 918) (by decide +kernel), List.mem_of_getElem? (i := 1243) (by decide +kernel), List.mem_of_getElem? (i := 1244) (by decide +kernel)⟩
theorem lw_p56 : lw_okq (⟨"ClickingDiskModel", "chains", "(I)V"⟩, 38) := ⟨⟨by decide +kernel, by decide +kernel⟩, List.mem_of_getElem? (i := 918) (by decide +kernel), List.mem_of_getElem? (i := 1247) (by decide +kernel), List.mem_of_getElem? (i := 1248) (by decide +kernel)⟩
theorem lw_p57 : lw_okq (⟨"ClickingDiskModel", "writes", "()Z"⟩, 38) := ⟨⟨by decide +kernel, by decide +kernel⟩, List.mem_of_getElem? (i := 918) (by decide +kernel), List.mem_of_getElem? (i := 1276) (by decide +kernel), List.mem_of_getElem? (i := 1277) (by decide +kernel)⟩
theorem lw_p58 : lw_okq (⟨"ClickingDiskModel", "lays", "(I)Z"⟩, 38) := ⟨⟨by decide +kernel, by decide +kernel⟩, List.mem_of_getElem? (i := 918) (by decide +kernel), List.mem_of_getElem? (i := 1280) (by decide +kernel), List.mem_of_getElem? (i := 1281) (by decide +kernel)⟩
def lw_privs_4 : List (MethodName × Nat) := [(⟨"ClickingDiskModel", "isSector", "(II)Z"⟩, 38), (⟨"ClickingDiskModel", "statusOf", "(II)I"⟩, 38), (⟨"ClickingDiskModel", "gathers", "(II)V"⟩, 38), (⟨"ClickingDiskModel", "mends", "()I"⟩, 38), (⟨"ClickingDiskModel", "isAhead", "(II)Z"⟩, 38), (⟨"ClickingDiskModel", "asks", "(I)Z"⟩, 38), (⟨"ClickingDiskModel", "takesFrom", "(I)V"⟩, 38), (⟨"ClickingDiskModel", "mishapsNow", "()I"⟩, 38), (⟨"ClickingDiskModel", "chains", "(I)V"⟩, 38), (⟨"ClickingDiskModel", "writes", "()Z"⟩, 38), (⟨"ClickingDiskModel", "lays", "(I)Z"⟩, 38)]
theorem lw_r4 : ∀ q ∈ lw_privs_4, lw_okq q := List.forall_mem_cons.mpr ⟨lw_p48, List.forall_mem_cons.mpr ⟨lw_p49, List.forall_mem_cons.mpr ⟨lw_p50, List.forall_mem_cons.mpr ⟨lw_p51, List.forall_mem_cons.mpr ⟨lw_p52, List.forall_mem_cons.mpr ⟨lw_p53, List.forall_mem_cons.mpr ⟨lw_p54, List.forall_mem_cons.mpr ⟨lw_p55, List.forall_mem_cons.mpr ⟨lw_p56, List.forall_mem_cons.mpr ⟨lw_p57, List.forall_mem_cons.mpr ⟨lw_p58, fun _ h => absurd h List.not_mem_nil⟩⟩⟩⟩⟩⟩⟩⟩⟩⟩⟩
def lw_privs : List (MethodName × Nat) := lw_privs_1 ++ (lw_privs_2 ++ (lw_privs_3 ++ (lw_privs_4)))
def lw_tbl : List Cond := k2_sels lw_privs ++ tables_1
theorem lw_privs_ok : ∀ q ∈ lw_privs, lw_okq q := by
  show ∀ q ∈ lw_privs_1 ++ (lw_privs_2 ++ (lw_privs_3 ++ (lw_privs_4))), lw_okq q
  exact List.forall_mem_append.mpr ⟨lw_r1, List.forall_mem_append.mpr ⟨lw_r2, List.forall_mem_append.mpr ⟨lw_r3, lw_r4⟩⟩⟩
def RX0 : String := "ClickingDisk$Disk"
def TX0 : u_T := fun k => match k with
  | 0 => ("ClickingDisk$Disk", "files", "I", false)
  | 1 => ("ClickingDisk$Disk", "walked", "I", false)
  | 2 => ("ClickingDisk$Disk", "path", "[I", true)
  | 3 => ("ClickingDisk$Disk", "first", "[I", true)
  | 4 => ("ClickingDisk$Disk", "second", "[I", true)
  | 5 => ("ClickingDisk$Disk", "joined", "[I", true)
  | 6 => ("ClickingDisk$Disk", "unlike", "[I", true)
  | 7 => ("ClickingDisk$Disk", "unlikeOnes", "I", false)
  | 8 => ("ClickingDisk$Disk", "joinTried", "Z", false)
  | 9 => ("ClickingDisk$Disk", "joinStands", "Z", false)
  | 10 => ("ClickingDisk$Disk", "heads", "[I", true)
  | _ => ("ClickingDisk$Disk", "lengths", "[I", true)
def tyX0 : Nat → FieldType := fun k => match k with
  | 0 => .int
  | 1 => .int
  | 2 => .array .int
  | 3 => .array .int
  | 4 => .array .int
  | 5 => .array .int
  | 6 => .array .int
  | 7 => .int
  | 8 => .boolean
  | 9 => .boolean
  | 10 => .array .int
  | _ => .array .int
abbrev wsX00 : List Cond := u_ws RX0 TX0 12
theorem nmX0 : ∀ a, a < 12 → ∀ b, b < 12 → a ≠ b → (TX0 a).2.1 ≠ (TX0 b).2.1 := by decide +kernel
theorem tyX0_ok : ∀ k, k < 12 → parseFieldDescriptor (TX0 k).2.2.1 = some (tyX0 k) := by decide +kernel
abbrev cX0_init : ByteArray := prog_2_method_1_code
def yX0_init : MethodName := ⟨RX0, "<init>", "()V"⟩
abbrev cX0_write : ByteArray := prog_2_method_2_code
def yX0_write : MethodName := ⟨RX0, "write", "(III)V"⟩
abbrev cX0_add : ByteArray := prog_2_method_3_code
def yX0_add : MethodName := ⟨RX0, "add", "(II)V"⟩
abbrev cX0_holds : ByteArray := prog_2_method_4_code
def yX0_holds : MethodName := ⟨RX0, "holds", "(I)Z"⟩
abbrev cX0_rowOf : ByteArray := prog_2_method_5_code
def yX0_rowOf : MethodName := ⟨RX0, "rowOf", "(I)[I"⟩
abbrev cX0_walk : ByteArray := prog_2_method_6_code
def yX0_walk : MethodName := ⟨RX0, "walk", "([II)V"⟩
abbrev cX0_faultsBy : ByteArray := prog_2_method_7_code
def yX0_faultsBy : MethodName := ⟨RX0, "faultsBy", "([I)I"⟩
abbrev cX0_inFiles : ByteArray := prog_2_method_8_code
def yX0_inFiles : MethodName := ⟨RX0, "inFiles", "()I"⟩
abbrev cX0_lostOnes : ByteArray := prog_2_method_9_code
def yX0_lostOnes : MethodName := ⟨RX0, "lostOnes", "([II)I"⟩
abbrev cX0_findUnlike : ByteArray := prog_2_method_10_code
def yX0_findUnlike : MethodName := ⟨RX0, "findUnlike", "()Z"⟩
abbrev cX0_join : ByteArray := prog_2_method_11_code
def yX0_join : MethodName := ⟨RX0, "join", "()V"⟩
abbrev cX0_choose : ByteArray := prog_2_method_12_code
def yX0_choose : MethodName := ⟨RX0, "choose", "(II)V"⟩
def RX1 : String := "ClickingDisk$Find"
def TX1 : u_T := fun k => match k with
  | 0 => ("ClickingDisk$Find", "sectors", "[LClickingDisk$Sector;", true)
  | _ => ("ClickingDisk$Find", "size", "I", false)
def tyX1 : Nat → FieldType := fun k => match k with
  | 0 => .array (.object "ClickingDisk$Sector")
  | _ => .int
abbrev wsX10 : List Cond := u_ws RX1 TX1 2
theorem nmX1 : ∀ a, a < 2 → ∀ b, b < 2 → a ≠ b → (TX1 a).2.1 ≠ (TX1 b).2.1 := by decide +kernel
theorem tyX1_ok : ∀ k, k < 2 → parseFieldDescriptor (TX1 k).2.2.1 = some (tyX1 k) := by decide +kernel
abbrev cX1_init : ByteArray := prog_3_method_1_code
def yX1_init : MethodName := ⟨RX1, "<init>", "()V"⟩
abbrev cX1_search : ByteArray := prog_3_method_2_code
def yX1_search : MethodName := ⟨RX1, "search", "(LClickingDisk$RawBits;LClickingDisk$Layout;)V"⟩
abbrev cX1_rightOnes : ByteArray := prog_3_method_3_code
def yX1_rightOnes : MethodName := ⟨RX1, "rightOnes", "()I"⟩
abbrev cX1_slipsOfRight : ByteArray := prog_3_method_4_code
def yX1_slipsOfRight : MethodName := ⟨RX1, "slipsOfRight", "()I"⟩
def RX2 : String := "ClickingDisk$FormatText"
def TX2 : u_T := fun k => match k with
  | 0 => ("ClickingDisk$FormatText", "bytes", "[I", true)
  | 1 => ("ClickingDisk$FormatText", "size", "I", false)
  | 2 => ("ClickingDisk$FormatText", "kind", "I", false)
  | 3 => ("ClickingDisk$FormatText", "start", "I", false)
  | 4 => ("ClickingDisk$FormatText", "after", "I", false)
  | 5 => ("ClickingDisk$FormatText", "number", "I", false)
  | 6 => ("ClickingDisk$FormatText", "taken", "I", false)
  | _ => ("ClickingDisk$FormatText", "told", "I", false)
def tyX2 : Nat → FieldType := fun k => match k with
  | 0 => .array .int
  | 1 => .int
  | 2 => .int
  | 3 => .int
  | 4 => .int
  | 5 => .int
  | 6 => .int
  | _ => .int
abbrev wsX20 : List Cond := u_ws RX2 TX2 8
theorem nmX2 : ∀ a, a < 8 → ∀ b, b < 8 → a ≠ b → (TX2 a).2.1 ≠ (TX2 b).2.1 := by decide +kernel
theorem tyX2_ok : ∀ k, k < 8 → parseFieldDescriptor (TX2 k).2.2.1 = some (tyX2 k) := by decide +kernel
abbrev cX2_init : ByteArray := prog_4_method_1_code
def yX2_init : MethodName := ⟨RX2, "<init>", "()V"⟩
abbrev cX2_push : ByteArray := prog_4_method_2_code
def yX2_push : MethodName := ⟨RX2, "push", "(I)V"⟩
abbrev cX2_parse : ByteArray := prog_4_method_3_code
def yX2_parse : MethodName := ⟨RX2, "parse", "(LClickingDisk$Layout;)I"⟩
abbrev cX2_lineBegun : ByteArray := prog_4_method_4_code
def yX2_lineBegun : MethodName := ⟨RX2, "lineBegun", "()I"⟩
abbrev cX2_takeRest : ByteArray := prog_4_method_5_code
def yX2_takeRest : MethodName := ⟨RX2, "takeRest", "(ILClickingDisk$Layout;)Z"⟩
abbrev cX2_takeMark : ByteArray := prog_4_method_6_code
def yX2_takeMark : MethodName := ⟨RX2, "takeMark", "(LClickingDisk$Layout;)Z"⟩
abbrev cX2_takeSum : ByteArray := prog_4_method_7_code
def yX2_takeSum : MethodName := ⟨RX2, "takeSum", "(LClickingDisk$Layout;)Z"⟩
abbrev cX2_takeNumber : ByteArray := prog_4_method_8_code
def yX2_takeNumber : MethodName := ⟨RX2, "takeNumber", "(II)Z"⟩
abbrev cX2_takeStop : ByteArray := prog_4_method_9_code
def yX2_takeStop : MethodName := ⟨RX2, "takeStop", "()Z"⟩
abbrev cX2_isWord : ByteArray := prog_4_method_10_code
def yX2_isWord : MethodName := ⟨RX2, "isWord", "(Ljava/lang/String;)Z"⟩
abbrev cX2_step : ByteArray := prog_4_method_11_code
def yX2_step : MethodName := ⟨RX2, "step", "()V"⟩
abbrev cX2_isLong : ByteArray := prog_4_method_12_code
def yX2_isLong : MethodName := ⟨RX2, "isLong", "()Z"⟩
abbrev cX2_kindAt : ByteArray := prog_4_method_13_code
def yX2_kindAt : MethodName := ⟨RX2, "kindAt", "(I)I"⟩
def RX3 : String := "ClickingDisk$Jury"
def TX3 : u_T := fun k => match k with
  | 0 => ("ClickingDisk$Jury", "size", "I", false)
  | 1 => ("ClickingDisk$Jury", "right", "I", false)
  | 2 => ("ClickingDisk$Jury", "verdict", "I", false)
  | 3 => ("ClickingDisk$Jury", "data", "[I", true)
  | 4 => ("ClickingDisk$Jury", "copies", "[LClickingDisk$Sector;", true)
  | 5 => ("ClickingDisk$Jury", "track", "I", false)
  | 6 => ("ClickingDisk$Jury", "number", "I", false)
  | 7 => ("ClickingDisk$Jury", "ofClusters", "[I", true)
  | 8 => ("ClickingDisk$Jury", "kinds", "[[I", true)
  | 9 => ("ClickingDisk$Jury", "kindsAt", "[I", true)
  | 10 => ("ClickingDisk$Jury", "chosen", "[I", true)
  | 11 => ("ClickingDisk$Jury", "sums", "[I", true)
  | _ => ("ClickingDisk$Jury", "tally", "[I", true)
def tyX3 : Nat → FieldType := fun k => match k with
  | 0 => .int
  | 1 => .int
  | 2 => .int
  | 3 => .array .int
  | 4 => .array (.object "ClickingDisk$Sector")
  | 5 => .int
  | 6 => .int
  | 7 => .array .int
  | 8 => .array (.array .int)
  | 9 => .array .int
  | 10 => .array .int
  | 11 => .array .int
  | _ => .array .int
abbrev wsX30 : List Cond := u_ws RX3 TX3 13
theorem nmX3 : ∀ a, a < 13 → ∀ b, b < 13 → a ≠ b → (TX3 a).2.1 ≠ (TX3 b).2.1 := by decide +kernel
theorem tyX3_ok : ∀ k, k < 13 → parseFieldDescriptor (TX3 k).2.2.1 = some (tyX3 k) := by decide +kernel
abbrev cX3_init : ByteArray := prog_5_method_1_code
def yX3_init : MethodName := ⟨RX3, "<init>", "()V"⟩
abbrev cX3_forget : ByteArray := prog_5_method_2_code
def yX3_forget : MethodName := ⟨RX3, "forget", "()V"⟩
abbrev cX3_judgeCluster : ByteArray := prog_5_method_3_code
def yX3_judgeCluster : MethodName := ⟨RX3, "judgeCluster", "(ILClickingDisk$Shelf;LClickingDisk$Layout;)I"⟩
abbrev cX3_judge : ByteArray := prog_5_method_4_code
def yX3_judge : MethodName := ⟨RX3, "judge", "(IILClickingDisk$Shelf;LClickingDisk$Layout;)V"⟩
abbrev cX3_vote : ByteArray := prog_5_method_5_code
def yX3_vote : MethodName := ⟨RX3, "vote", "(I)I"⟩
abbrev cX3_gather : ByteArray := prog_5_method_6_code
def yX3_gather : MethodName := ⟨RX3, "gather", "(LClickingDisk$Shelf;)V"⟩
abbrev cX3_rightAgree : ByteArray := prog_5_method_7_code
def yX3_rightAgree : MethodName := ⟨RX3, "rightAgree", "(I)Z"⟩
abbrev cX3_mend : ByteArray := prog_5_method_8_code
def yX3_mend : MethodName := ⟨RX3, "mend", "(LClickingDisk$Layout;)Z"⟩
abbrev cX3_gatherKinds : ByteArray := prog_5_method_9_code
def yX3_gatherKinds : MethodName := ⟨RX3, "gatherKinds", "(I)Z"⟩
abbrev cX3_hasKind : ByteArray := prog_5_method_10_code
def yX3_hasKind : MethodName := ⟨RX3, "hasKind", "(II)Z"⟩
abbrev cX3_hasSum : ByteArray := prog_5_method_11_code
def yX3_hasSum : MethodName := ⟨RX3, "hasSum", "(II)Z"⟩
abbrev cX3_keepRow : ByteArray := prog_5_method_12_code
def yX3_keepRow : MethodName := ⟨RX3, "keepRow", "(I)V"⟩
abbrev cX3_chooseAnother : ByteArray := prog_5_method_13_code
def yX3_chooseAnother : MethodName := ⟨RX3, "chooseAnother", "(I)I"⟩
def RX4 : String := "ClickingDisk$Layout"
def TX4 : u_T := fun k => match k with
  | 0 => ("ClickingDisk$Layout", "stands", "Z", false)
  | 1 => ("ClickingDisk$Layout", "cell", "I", false)
  | 2 => ("ClickingDisk$Layout", "gain", "I", false)
  | 3 => ("ClickingDisk$Layout", "mark", "I", false)
  | 4 => ("ClickingDisk$Layout", "size", "I", false)
  | 5 => ("ClickingDisk$Layout", "sumKind", "I", false)
  | 6 => ("ClickingDisk$Layout", "crcTurn", "I", false)
  | 7 => ("ClickingDisk$Layout", "crcStart", "I", false)
  | _ => ("ClickingDisk$Layout", "swapped", "Z", false)
def tyX4 : Nat → FieldType := fun k => match k with
  | 0 => .boolean
  | 1 => .int
  | 2 => .int
  | 3 => .int
  | 4 => .int
  | 5 => .int
  | 6 => .int
  | 7 => .int
  | _ => .boolean
abbrev wsX40 : List Cond := u_ws RX4 TX4 9
theorem nmX4 : ∀ a, a < 9 → ∀ b, b < 9 → a ≠ b → (TX4 a).2.1 ≠ (TX4 b).2.1 := by decide +kernel
theorem tyX4_ok : ∀ k, k < 9 → parseFieldDescriptor (TX4 k).2.2.1 = some (tyX4 k) := by decide +kernel
abbrev cX4_init : ByteArray := prog_6_method_1_code
def yX4_init : MethodName := ⟨RX4, "<init>", "()V"⟩
abbrev cX4_clear : ByteArray := prog_6_method_2_code
def yX4_clear : MethodName := ⟨RX4, "clear", "()V"⟩
abbrev cX4_take : ByteArray := prog_6_method_3_code
def yX4_take : MethodName := ⟨RX4, "take", "(LClickingDisk$Layout;)V"⟩
abbrev cX4_firstByte : ByteArray := prog_6_method_4_code
def yX4_firstByte : MethodName := ⟨RX4, "firstByte", "(II)I"⟩
abbrev cX4_secondByte : ByteArray := prog_6_method_5_code
def yX4_secondByte : MethodName := ⟨RX4, "secondByte", "(II)I"⟩
abbrev cX4_sumOfHead : ByteArray := prog_6_method_6_code
def yX4_sumOfHead : MethodName := ⟨RX4, "sumOfHead", "(II)I"⟩
abbrev cX4_sumOf : ByteArray := prog_6_method_7_code
def yX4_sumOf : MethodName := ⟨RX4, "sumOf", "(II[I)I"⟩
abbrev cX4_sumWith : ByteArray := prog_6_method_8_code
def yX4_sumWith : MethodName := ⟨RX4, "sumWith", "(II)I"⟩
def RX5 : String := "ClickingDisk$RawBits"
def TX5 : u_T := fun k => match k with
  | 0 => ("ClickingDisk$RawBits", "row", "[I", true)
  | _ => ("ClickingDisk$RawBits", "size", "I", false)
def tyX5 : Nat → FieldType := fun k => match k with
  | 0 => .array .int
  | _ => .int
abbrev wsX50 : List Cond := u_ws RX5 TX5 2
theorem nmX5 : ∀ a, a < 2 → ∀ b, b < 2 → a ≠ b → (TX5 a).2.1 ≠ (TX5 b).2.1 := by decide +kernel
theorem tyX5_ok : ∀ k, k < 2 → parseFieldDescriptor (TX5 k).2.2.1 = some (tyX5 k) := by decide +kernel
abbrev cX5_init : ByteArray := prog_7_method_1_code
def yX5_init : MethodName := ⟨RX5, "<init>", "()V"⟩
abbrev cX5_fill : ByteArray := prog_7_method_2_code
def yX5_fill : MethodName := ⟨RX5, "fill", "(LClickingDisk$Tape;II)V"⟩
abbrev cX5_push : ByteArray := prog_7_method_3_code
def yX5_push : MethodName := ⟨RX5, "push", "(I)V"⟩
def RX6 : String := "ClickingDisk$Scribe"
def TX6 : u_T := fun k => match k with
  | 0 => ("ClickingDisk$Scribe", "steps", "[I", true)
  | 1 => ("ClickingDisk$Scribe", "size", "I", false)
  | 2 => ("ClickingDisk$Scribe", "cell", "I", false)
  | 3 => ("ClickingDisk$Scribe", "since", "I", false)
  | 4 => ("ClickingDisk$Scribe", "ahead", "I", false)
  | _ => ("ClickingDisk$Scribe", "fits", "Z", false)
def tyX6 : Nat → FieldType := fun k => match k with
  | 0 => .array .int
  | 1 => .int
  | 2 => .int
  | 3 => .int
  | 4 => .int
  | _ => .boolean
abbrev wsX60 : List Cond := u_ws RX6 TX6 6
theorem nmX6 : ∀ a, a < 6 → ∀ b, b < 6 → a ≠ b → (TX6 a).2.1 ≠ (TX6 b).2.1 := by decide +kernel
theorem tyX6_ok : ∀ k, k < 6 → parseFieldDescriptor (TX6 k).2.2.1 = some (tyX6 k) := by decide +kernel
abbrev cX6_init : ByteArray := prog_8_method_1_code
def yX6_init : MethodName := ⟨RX6, "<init>", "()V"⟩
abbrev cX6_write : ByteArray := prog_8_method_2_code
def yX6_write : MethodName := ⟨RX6, "write", "(LClickingDisk$Layout;II[I)Z"⟩
abbrev cX6_pushByte : ByteArray := prog_8_method_3_code
def yX6_pushByte : MethodName := ⟨RX6, "pushByte", "(I)V"⟩
abbrev cX6_pushBit : ByteArray := prog_8_method_4_code
def yX6_pushBit : MethodName := ⟨RX6, "pushBit", "(I)V"⟩
def RX7 : String := "ClickingDisk$Sector"
def TX7 : u_T := fun k => match k with
  | 0 => ("ClickingDisk$Sector", "place", "I", false)
  | 1 => ("ClickingDisk$Sector", "track", "I", false)
  | 2 => ("ClickingDisk$Sector", "number", "I", false)
  | 3 => ("ClickingDisk$Sector", "sumRead", "I", false)
  | 4 => ("ClickingDisk$Sector", "sumDue", "I", false)
  | 5 => ("ClickingDisk$Sector", "slips", "I", false)
  | _ => ("ClickingDisk$Sector", "data", "[I", true)
def tyX7 : Nat → FieldType := fun k => match k with
  | 0 => .int
  | 1 => .int
  | 2 => .int
  | 3 => .int
  | 4 => .int
  | 5 => .int
  | _ => .array .int
abbrev wsX70 : List Cond := u_ws RX7 TX7 7
theorem nmX7 : ∀ a, a < 7 → ∀ b, b < 7 → a ≠ b → (TX7 a).2.1 ≠ (TX7 b).2.1 := by decide +kernel
theorem tyX7_ok : ∀ k, k < 7 → parseFieldDescriptor (TX7 k).2.2.1 = some (tyX7 k) := by decide +kernel
abbrev cX7_init : ByteArray := prog_9_method_1_code
def yX7_init : MethodName := ⟨RX7, "<init>", "()V"⟩
abbrev cX7_isRight : ByteArray := prog_9_method_2_code
def yX7_isRight : MethodName := ⟨RX7, "isRight", "()Z"⟩
abbrev cX7_take : ByteArray := prog_9_method_3_code
def yX7_take : MethodName := ⟨RX7, "take", "(LClickingDisk$RawBits;ILClickingDisk$Layout;)V"⟩
abbrev cX7_hasData : ByteArray := prog_9_method_4_code
def yX7_hasData : MethodName := ⟨RX7, "hasData", "(LClickingDisk$Sector;I)Z"⟩
abbrev cX7_byteOrSum : ByteArray := prog_9_method_5_code
def yX7_byteOrSum : MethodName := ⟨RX7, "byteOrSum", "(II)I"⟩
abbrev cX7_byteAt : ByteArray := prog_9_method_6_code
def yX7_byteAt : MethodName := ⟨RX7, "byteAt", "(LClickingDisk$RawBits;I)I"⟩
abbrev cX7_slipsIn : ByteArray := prog_9_method_7_code
def yX7_slipsIn : MethodName := ⟨RX7, "slipsIn", "(LClickingDisk$RawBits;LClickingDisk$Layout;)I"⟩
def RX8 : String := "ClickingDisk$Shelf"
def TX8 : u_T := fun k => match k with
  | 0 => ("ClickingDisk$Shelf", "takes", "[LClickingDisk$Take;", true)
  | 1 => ("ClickingDisk$Shelf", "size", "I", false)
  | _ => ("ClickingDisk$Shelf", "trial", "LClickingDisk$Find;", true)
def tyX8 : Nat → FieldType := fun k => match k with
  | 0 => .array (.object "ClickingDisk$Take")
  | 1 => .int
  | _ => .object "ClickingDisk$Find"
abbrev wsX80 : List Cond := u_ws RX8 TX8 3
theorem nmX8 : ∀ a, a < 3 → ∀ b, b < 3 → a ≠ b → (TX8 a).2.1 ≠ (TX8 b).2.1 := by decide +kernel
theorem tyX8_ok : ∀ k, k < 3 → parseFieldDescriptor (TX8 k).2.2.1 = some (tyX8 k) := by decide +kernel
abbrev cX8_init : ByteArray := prog_10_method_1_code
def yX8_init : MethodName := ⟨RX8, "<init>", "()V"⟩
abbrev cX8_holds : ByteArray := prog_10_method_2_code
def yX8_holds : MethodName := ⟨RX8, "holds", "(I)Z"⟩
abbrev cX8_put : ByteArray := prog_10_method_3_code
def yX8_put : MethodName := ⟨RX8, "put", "(LClickingDisk$Tape;ILClickingDisk$Layout;LClickingDisk$RawBits;)V"⟩
abbrev cX8_tune : ByteArray := prog_10_method_4_code
def yX8_tune : MethodName := ⟨RX8, "tune", "(ILClickingDisk$Layout;LClickingDisk$RawBits;)V"⟩
abbrev cX8_keepBetter : ByteArray := prog_10_method_5_code
def yX8_keepBetter : MethodName := ⟨RX8, "keepBetter", "(LClickingDisk$Take;II)V"⟩
abbrev cX8_hopeOf : ByteArray := prog_10_method_6_code
def yX8_hopeOf : MethodName := ⟨RX8, "hopeOf", "(I)I"⟩
def RX9 : String := "ClickingDisk$Take"
def TX9 : u_T := fun k => match k with
  | 0 => ("ClickingDisk$Take", "tape", "LClickingDisk$Tape;", true)
  | 1 => ("ClickingDisk$Take", "find", "LClickingDisk$Find;", true)
  | 2 => ("ClickingDisk$Take", "drive", "I", false)
  | 3 => ("ClickingDisk$Take", "isTuned", "Z", false)
  | 4 => ("ClickingDisk$Take", "bestCell", "I", false)
  | 5 => ("ClickingDisk$Take", "bestGain", "I", false)
  | 6 => ("ClickingDisk$Take", "bestRight", "I", false)
  | _ => ("ClickingDisk$Take", "bestSlips", "I", false)
def tyX9 : Nat → FieldType := fun k => match k with
  | 0 => .object "ClickingDisk$Tape"
  | 1 => .object "ClickingDisk$Find"
  | 2 => .int
  | 3 => .boolean
  | 4 => .int
  | 5 => .int
  | 6 => .int
  | _ => .int
abbrev wsX90 : List Cond := u_ws RX9 TX9 8
theorem nmX9 : ∀ a, a < 8 → ∀ b, b < 8 → a ≠ b → (TX9 a).2.1 ≠ (TX9 b).2.1 := by decide +kernel
theorem tyX9_ok : ∀ k, k < 8 → parseFieldDescriptor (TX9 k).2.2.1 = some (tyX9 k) := by decide +kernel
abbrev cX9_init : ByteArray := prog_11_method_1_code
def yX9_init : MethodName := ⟨RX9, "<init>", "()V"⟩
def RX10 : String := "ClickingDisk$Tape"
def TX10 : u_T := fun k => match k with
  | 0 => ("ClickingDisk$Tape", "steps", "[I", true)
  | _ => ("ClickingDisk$Tape", "size", "I", false)
def tyX10 : Nat → FieldType := fun k => match k with
  | 0 => .array .int
  | _ => .int
abbrev wsX100 : List Cond := u_ws RX10 TX10 2
theorem nmX10 : ∀ a, a < 2 → ∀ b, b < 2 → a ≠ b → (TX10 a).2.1 ≠ (TX10 b).2.1 := by decide +kernel
theorem tyX10_ok : ∀ k, k < 2 → parseFieldDescriptor (TX10 k).2.2.1 = some (tyX10 k) := by decide +kernel
abbrev cX10_init : ByteArray := prog_12_method_1_code
def yX10_init : MethodName := ⟨RX10, "<init>", "()V"⟩
abbrev cX10_push : ByteArray := prog_12_method_2_code
def yX10_push : MethodName := ⟨RX10, "push", "(I)V"⟩
abbrev cX10_take : ByteArray := prog_12_method_3_code
def yX10_take : MethodName := ⟨RX10, "take", "(LClickingDisk$Tape;)V"⟩
def RX11 : String := "ClickingDisk"
def TX11 : u_T := fun k => match k with
  | 0 => ("ClickingDisk", "text", "LClickingDisk$FormatText;", true)
  | 1 => ("ClickingDisk", "draft", "LClickingDisk$Layout;", true)
  | 2 => ("ClickingDisk", "layout", "LClickingDisk$Layout;", true)
  | 3 => ("ClickingDisk", "tape", "LClickingDisk$Tape;", true)
  | 4 => ("ClickingDisk", "bits", "LClickingDisk$RawBits;", true)
  | 5 => ("ClickingDisk", "shelf", "LClickingDisk$Shelf;", true)
  | 6 => ("ClickingDisk", "jury", "LClickingDisk$Jury;", true)
  | 7 => ("ClickingDisk", "disk", "LClickingDisk$Disk;", true)
  | _ => ("ClickingDisk", "scribe", "LClickingDisk$Scribe;", true)
def tyX11 : Nat → FieldType := fun k => match k with
  | 0 => .object "ClickingDisk$FormatText"
  | 1 => .object "ClickingDisk$Layout"
  | 2 => .object "ClickingDisk$Layout"
  | 3 => .object "ClickingDisk$Tape"
  | 4 => .object "ClickingDisk$RawBits"
  | 5 => .object "ClickingDisk$Shelf"
  | 6 => .object "ClickingDisk$Jury"
  | 7 => .object "ClickingDisk$Disk"
  | _ => .object "ClickingDisk$Scribe"
abbrev wsX110 : List Cond := u_ws RX11 TX11 9
theorem nmX11 : ∀ a, a < 9 → ∀ b, b < 9 → a ≠ b → (TX11 a).2.1 ≠ (TX11 b).2.1 := by decide +kernel
theorem tyX11_ok : ∀ k, k < 9 → parseFieldDescriptor (TX11 k).2.2.1 = some (tyX11 k) := by decide +kernel
abbrev cX11_init : ByteArray := prog_1_method_1_code
def yX11_init : MethodName := ⟨RX11, "<init>", "()V"⟩
abbrev cX11_feed : ByteArray := prog_1_method_2_code
def yX11_feed : MethodName := ⟨RX11, "feed", "(IIIII)I"⟩
abbrev cX11_end : ByteArray := prog_1_method_3_code
def yX11_end : MethodName := ⟨RX11, "end", "(I)Z"⟩
abbrev cX11_fault : ByteArray := prog_1_method_4_code
def yX11_fault : MethodName := ⟨RX11, "fault", "()I"⟩
abbrev cX11_format : ByteArray := prog_1_method_5_code
def yX11_format : MethodName := ⟨RX11, "format", "()I"⟩
abbrev cX11_flux : ByteArray := prog_1_method_6_code
def yX11_flux : MethodName := ⟨RX11, "flux", "(IIIII)I"⟩
abbrev cX11_wipe : ByteArray := prog_1_method_7_code
def yX11_wipe : MethodName := ⟨RX11, "wipe", "()I"⟩
abbrev cX11_read : ByteArray := prog_1_method_8_code
def yX11_read : MethodName := ⟨RX11, "read", "(I)I"⟩
abbrev cX11_raw : ByteArray := prog_1_method_9_code
def yX11_raw : MethodName := ⟨RX11, "raw", "(III)I"⟩
abbrev cX11_found : ByteArray := prog_1_method_10_code
def yX11_found : MethodName := ⟨RX11, "found", "(III)I"⟩
abbrev cX11_tuned : ByteArray := prog_1_method_11_code
def yX11_tuned : MethodName := ⟨RX11, "tuned", "(II)I"⟩
abbrev cX11_status : ByteArray := prog_1_method_12_code
def yX11_status : MethodName := ⟨RX11, "status", "(III)I"⟩
abbrev cX11_value : ByteArray := prog_1_method_13_code
def yX11_value : MethodName := ⟨RX11, "value", "(III)I"⟩
abbrev cX11_tell : ByteArray := prog_1_method_14_code
def yX11_tell : MethodName := ⟨RX11, "tell", "(III)Z"⟩
abbrev cX11_file : ByteArray := prog_1_method_15_code
def yX11_file : MethodName := ⟨RX11, "file", "(II)I"⟩
abbrev cX11_mishaps : ByteArray := prog_1_method_16_code
def yX11_mishaps : MethodName := ⟨RX11, "mishaps", "(I)I"⟩
abbrev cX11_next : ByteArray := prog_1_method_17_code
def yX11_next : MethodName := ⟨RX11, "next", "(II)I"⟩
abbrev cX11_chain : ByteArray := prog_1_method_18_code
def yX11_chain : MethodName := ⟨RX11, "chain", "(III)I"⟩
abbrev cX11_gaps : ByteArray := prog_1_method_19_code
def yX11_gaps : MethodName := ⟨RX11, "gaps", "(I)I"⟩
abbrev cX11_hope : ByteArray := prog_1_method_20_code
def yX11_hope : MethodName := ⟨RX11, "hope", "(I)I"⟩
abbrev cX11_ask : ByteArray := prog_1_method_21_code
def yX11_ask : MethodName := ⟨RX11, "ask", "(I)I"⟩
abbrev cX11_written : ByteArray := prog_1_method_22_code
def yX11_written : MethodName := ⟨RX11, "written", "(III)I"⟩
abbrev cX11_count : ByteArray := prog_1_method_23_code
def yX11_count : MethodName := ⟨RX11, "count", "(I)I"⟩
abbrev cX11_ofSector : ByteArray := prog_1_method_24_code
def yX11_ofSector : MethodName := ⟨RX11, "ofSector", "(LClickingDisk$Sector;I)I"⟩
abbrev cX11_canJudge : ByteArray := prog_1_method_25_code
def yX11_canJudge : MethodName := ⟨RX11, "canJudge", "(II)Z"⟩
abbrev cX11_bestDrive : ByteArray := prog_1_method_26_code
def yX11_bestDrive : MethodName := ⟨RX11, "bestDrive", "()I"⟩
abbrev cX11_worstTrack : ByteArray := prog_1_method_27_code
def yX11_worstTrack : MethodName := ⟨RX11, "worstTrack", "()I"⟩
abbrev cX11_isDrive : ByteArray := prog_1_method_28_code
def yX11_isDrive : MethodName := ⟨RX11, "isDrive", "(I)Z"⟩
abbrev cX11_isCluster : ByteArray := prog_1_method_29_code
def yX11_isCluster : MethodName := ⟨RX11, "isCluster", "(I)Z"⟩
abbrev cX11_soundStatus : ByteArray := prog_1_method_30_code
def yX11_soundStatus : MethodName := ⟨RX11, "soundStatus", "(I)Z"⟩
abbrev cX11_byteOf : ByteArray := prog_1_method_31_code
def yX11_byteOf : MethodName := ⟨RX11, "byteOf", "(II)I"⟩
abbrev cX11_stepsIn : ByteArray := prog_1_method_32_code
def yX11_stepsIn : MethodName := ⟨RX11, "stepsIn", "(I)I"⟩
abbrev cX11_clockDue : ByteArray := prog_1_method_33_code
def yX11_clockDue : MethodName := ⟨RX11, "clockDue", "(II)I"⟩
def RX12 : String := "ClickingDiskModel"
def TX12 : u_T := fun k => match k with
  | 0 => ("ClickingDiskModel", "text", "[B", true)
  | 1 => ("ClickingDiskModel", "size", "I", false)
  | 2 => ("ClickingDiskModel", "at", "I", false)
  | 3 => ("ClickingDiskModel", "kind", "I", false)
  | 4 => ("ClickingDiskModel", "tokenAt", "I", false)
  | 5 => ("ClickingDiskModel", "value", "J", false)
  | 6 => ("ClickingDiskModel", "newFormat", "[I", true)
  | 7 => ("ClickingDiskModel", "format", "[I", true)
  | 8 => ("ClickingDiskModel", "isFormat", "Z", false)
  | 9 => ("ClickingDiskModel", "tape", "I", false)
  | 10 => ("ClickingDiskModel", "step", "[I", true)
  | 11 => ("ClickingDiskModel", "reads", "I", false)
  | 12 => ("ClickingDiskModel", "drive", "[I", true)
  | 13 => ("ClickingDiskModel", "readLong", "[I", true)
  | 14 => ("ClickingDiskModel", "readStep", "[I", true)
  | 15 => ("ClickingDiskModel", "tells", "[I", true)
  | 16 => ("ClickingDiskModel", "files", "I", false)
  | 17 => ("ClickingDiskModel", "fileFirst", "[I", true)
  | 18 => ("ClickingDiskModel", "fileLong", "[I", true)
  | 19 => ("ClickingDiskModel", "bit", "[Z", true)
  | 20 => ("ClickingDiskModel", "bits", "I", false)
  | 21 => ("ClickingDiskModel", "sectors", "I", false)
  | 22 => ("ClickingDiskModel", "place", "[I", true)
  | 23 => ("ClickingDiskModel", "bytes", "[I", true)
  | 24 => ("ClickingDiskModel", "slips", "[I", true)
  | 25 => ("ClickingDiskModel", "summed", "[I", true)
  | 26 => ("ClickingDiskModel", "copies", "I", false)
  | 27 => ("ClickingDiskModel", "copy", "[I", true)
  | 28 => ("ClickingDiskModel", "copyRight", "[Z", true)
  | 29 => ("ClickingDiskModel", "whole", "[I", true)
  | 30 => ("ClickingDiskModel", "choice", "[I", true)
  | 31 => ("ClickingDiskModel", "choices", "[I", true)
  | 32 => ("ClickingDiskModel", "asked", "[I", true)
  | 33 => ("ClickingDiskModel", "link", "[I", true)
  | 34 => ("ClickingDiskModel", "links", "I", false)
  | 35 => ("ClickingDiskModel", "anew", "[I", true)
  | 36 => ("ClickingDiskModel", "anews", "I", false)
  | _ => ("ClickingDiskModel", "since", "I", false)
def tyX12 : Nat → FieldType := fun k => match k with
  | 0 => .array .byte
  | 1 => .int
  | 2 => .int
  | 3 => .int
  | 4 => .int
  | 5 => .long
  | 6 => .array .int
  | 7 => .array .int
  | 8 => .boolean
  | 9 => .int
  | 10 => .array .int
  | 11 => .int
  | 12 => .array .int
  | 13 => .array .int
  | 14 => .array .int
  | 15 => .array .int
  | 16 => .int
  | 17 => .array .int
  | 18 => .array .int
  | 19 => .array .boolean
  | 20 => .int
  | 21 => .int
  | 22 => .array .int
  | 23 => .array .int
  | 24 => .array .int
  | 25 => .array .int
  | 26 => .int
  | 27 => .array .int
  | 28 => .array .boolean
  | 29 => .array .int
  | 30 => .array .int
  | 31 => .array .int
  | 32 => .array .int
  | 33 => .array .int
  | 34 => .int
  | 35 => .array .int
  | 36 => .int
  | _ => .int
abbrev wsX120 : List Cond := u_ws RX12 TX12 38
theorem nmX12 : ∀ a, a < 38 → ∀ b, b < 38 → a ≠ b → (TX12 a).2.1 ≠ (TX12 b).2.1 := by decide +kernel
theorem tyX12_ok : ∀ k, k < 38 → parseFieldDescriptor (TX12 k).2.2.1 = some (tyX12 k) := by decide +kernel
abbrev cX12_init : ByteArray := prog_14_method_1_code
def yX12_init : MethodName := ⟨RX12, "<init>", "()V"⟩
abbrev cX12_in : ByteArray := prog_14_method_2_code
def yX12_in : MethodName := ⟨RX12, "in", "(III)Z"⟩
abbrev cX12_feed : ByteArray := prog_14_method_3_code
def yX12_feed : MethodName := ⟨RX12, "feed", "(IIIII)I"⟩
abbrev cX12_end : ByteArray := prog_14_method_4_code
def yX12_end : MethodName := ⟨RX12, "end", "(I)Z"⟩
abbrev cX12_isLetter : ByteArray := prog_14_method_5_code
def yX12_isLetter : MethodName := ⟨RX12, "isLetter", "(I)Z"⟩
abbrev cX12_isDigit : ByteArray := prog_14_method_6_code
def yX12_isDigit : MethodName := ⟨RX12, "isDigit", "(I)Z"⟩
abbrev cX12_leads : ByteArray := prog_14_method_7_code
def yX12_leads : MethodName := ⟨RX12, "leads", "()V"⟩
abbrev cX12_packed : ByteArray := prog_14_method_8_code
def yX12_packed : MethodName := ⟨RX12, "packed", "(Ljava/lang/String;)J"⟩
abbrev cX12_isWord : ByteArray := prog_14_method_9_code
def yX12_isWord : MethodName := ⟨RX12, "isWord", "(Ljava/lang/String;)Z"⟩
abbrev cX12_number : ByteArray := prog_14_method_10_code
def yX12_number : MethodName := ⟨RX12, "number", "(III)Z"⟩
abbrev cX12_closes : ByteArray := prog_14_method_11_code
def yX12_closes : MethodName := ⟨RX12, "closes", "()Z"⟩
abbrev cX12_sumHere : ByteArray := prog_14_method_12_code
def yX12_sumHere : MethodName := ⟨RX12, "sumHere", "()Z"⟩
abbrev cX12_line : ByteArray := prog_14_method_13_code
def yX12_line : MethodName := ⟨RX12, "line", "()Z"⟩
abbrev cX12_fault : ByteArray := prog_14_method_14_code
def yX12_fault : MethodName := ⟨RX12, "fault", "()I"⟩
abbrev cX12_format : ByteArray := prog_14_method_15_code
def yX12_format : MethodName := ⟨RX12, "format", "()I"⟩
abbrev cX12_flux : ByteArray := prog_14_method_16_code
def yX12_flux : MethodName := ⟨RX12, "flux", "(IIIII)I"⟩
abbrev cX12_byteOf : ByteArray := prog_14_method_17_code
def yX12_byteOf : MethodName := ⟨RX12, "byteOf", "(IIIIII)I"⟩
abbrev cX12_wipe : ByteArray := prog_14_method_18_code
def yX12_wipe : MethodName := ⟨RX12, "wipe", "()I"⟩
abbrev cX12_read : ByteArray := prog_14_method_19_code
def yX12_read : MethodName := ⟨RX12, "read", "(I)I"⟩
abbrev cX12_turns : ByteArray := prog_14_method_20_code
def yX12_turns : MethodName := ⟨RX12, "turns", "(III)V"⟩
abbrev cX12_raw : ByteArray := prog_14_method_21_code
def yX12_raw : MethodName := ⟨RX12, "raw", "(III)I"⟩
abbrev cX12_many : ByteArray := prog_14_method_22_code
def yX12_many : MethodName := ⟨RX12, "many", "()I"⟩
abbrev cX12_bitOf : ByteArray := prog_14_method_23_code
def yX12_bitOf : MethodName := ⟨RX12, "bitOf", "(II)I"⟩
abbrev cX12_isMark : ByteArray := prog_14_method_24_code
def yX12_isMark : MethodName := ⟨RX12, "isMark", "(I)Z"⟩
abbrev cX12_finds : ByteArray := prog_14_method_25_code
def yX12_finds : MethodName := ⟨RX12, "finds", "(III)V"⟩
abbrev cX12_takes : ByteArray := prog_14_method_26_code
def yX12_takes : MethodName := ⟨RX12, "takes", "(I)V"⟩
abbrev cX12_sumOf : ByteArray := prog_14_method_27_code
def yX12_sumOf : MethodName := ⟨RX12, "sumOf", "()I"⟩
abbrev cX12_sumOfSector : ByteArray := prog_14_method_28_code
def yX12_sumOfSector : MethodName := ⟨RX12, "sumOfSector", "(I)I"⟩
abbrev cX12_told : ByteArray := prog_14_method_29_code
def yX12_told : MethodName := ⟨RX12, "told", "(I)I"⟩
abbrev cX12_isRight : ByteArray := prog_14_method_30_code
def yX12_isRight : MethodName := ⟨RX12, "isRight", "(I)Z"⟩
abbrev cX12_trackOf : ByteArray := prog_14_method_31_code
def yX12_trackOf : MethodName := ⟨RX12, "trackOf", "(I)I"⟩
abbrev cX12_numberOf : ByteArray := prog_14_method_32_code
def yX12_numberOf : MethodName := ⟨RX12, "numberOf", "(I)I"⟩
abbrev cX12_found : ByteArray := prog_14_method_33_code
def yX12_found : MethodName := ⟨RX12, "found", "(III)I"⟩
abbrev cX12_tuned : ByteArray := prog_14_method_34_code
def yX12_tuned : MethodName := ⟨RX12, "tuned", "(II)I"⟩
abbrev cX12_gathers : ByteArray := prog_14_method_35_code
def yX12_gathers : MethodName := ⟨RX12, "gathers", "(II)V"⟩
abbrev cX12_isAhead : ByteArray := prog_14_method_36_code
def yX12_isAhead : MethodName := ⟨RX12, "isAhead", "(II)Z"⟩
abbrev cX12_mends : ByteArray := prog_14_method_37_code
def yX12_mends : MethodName := ⟨RX12, "mends", "()I"⟩
abbrev cX12_statusOf : ByteArray := prog_14_method_38_code
def yX12_statusOf : MethodName := ⟨RX12, "statusOf", "(II)I"⟩
abbrev cX12_isWhole : ByteArray := prog_14_method_39_code
def yX12_isWhole : MethodName := ⟨RX12, "isWhole", "(I)Z"⟩
abbrev cX12_isSector : ByteArray := prog_14_method_40_code
def yX12_isSector : MethodName := ⟨RX12, "isSector", "(II)Z"⟩
abbrev cX12_status : ByteArray := prog_14_method_41_code
def yX12_status : MethodName := ⟨RX12, "status", "(III)I"⟩
abbrev cX12_value : ByteArray := prog_14_method_42_code
def yX12_value : MethodName := ⟨RX12, "value", "(III)I"⟩
abbrev cX12_isCluster : ByteArray := prog_14_method_43_code
def yX12_isCluster : MethodName := ⟨RX12, "isCluster", "(I)Z"⟩
abbrev cX12_tell : ByteArray := prog_14_method_44_code
def yX12_tell : MethodName := ⟨RX12, "tell", "(III)Z"⟩
abbrev cX12_file : ByteArray := prog_14_method_45_code
def yX12_file : MethodName := ⟨RX12, "file", "(II)I"⟩
abbrev cX12_chains : ByteArray := prog_14_method_46_code
def yX12_chains : MethodName := ⟨RX12, "chains", "(I)V"⟩
abbrev cX12_mishapsNow : ByteArray := prog_14_method_47_code
def yX12_mishapsNow : MethodName := ⟨RX12, "mishapsNow", "()I"⟩
abbrev cX12_takesFrom : ByteArray := prog_14_method_48_code
def yX12_takesFrom : MethodName := ⟨RX12, "takesFrom", "(I)V"⟩
abbrev cX12_ones : ByteArray := prog_14_method_49_code
def yX12_ones : MethodName := ⟨RX12, "ones", "(I)I"⟩
abbrev cX12_asks : ByteArray := prog_14_method_50_code
def yX12_asks : MethodName := ⟨RX12, "asks", "(I)Z"⟩
abbrev cX12_mishaps : ByteArray := prog_14_method_51_code
def yX12_mishaps : MethodName := ⟨RX12, "mishaps", "(I)I"⟩
abbrev cX12_next : ByteArray := prog_14_method_52_code
def yX12_next : MethodName := ⟨RX12, "next", "(II)I"⟩
abbrev cX12_chain : ByteArray := prog_14_method_53_code
def yX12_chain : MethodName := ⟨RX12, "chain", "(III)I"⟩
abbrev cX12_gaps : ByteArray := prog_14_method_54_code
def yX12_gaps : MethodName := ⟨RX12, "gaps", "(I)I"⟩
abbrev cX12_hope : ByteArray := prog_14_method_55_code
def yX12_hope : MethodName := ⟨RX12, "hope", "(I)I"⟩
abbrev cX12_ask : ByteArray := prog_14_method_56_code
def yX12_ask : MethodName := ⟨RX12, "ask", "(I)I"⟩
abbrev cX12_lays : ByteArray := prog_14_method_57_code
def yX12_lays : MethodName := ⟨RX12, "lays", "(I)Z"⟩
abbrev cX12_writes : ByteArray := prog_14_method_58_code
def yX12_writes : MethodName := ⟨RX12, "writes", "()Z"⟩
abbrev cX12_written : ByteArray := prog_14_method_59_code
def yX12_written : MethodName := ⟨RX12, "written", "(III)I"⟩
abbrev cX12_count : ByteArray := prog_14_method_60_code
def yX12_count : MethodName := ⟨RX12, "count", "(I)I"⟩
def RJx145de : String := "java/io/Serializable"
def RJx9f9b0 : String := "java/lang/CharSequence"
def RJxb160c : String := "java/lang/Comparable"
def RJ6 : String := "java/lang/Integer"
abbrev cJ6_bitCount_0f7a4 : ByteArray := prog_15_method_49_code
def yJ6_bitCount_0f7a4 : MethodName := ⟨RJ6, "bitCount", "(I)I"⟩
def RJ9 : String := "java/lang/Math"
abbrev cJ9_floorDiv_7cf53 : ByteArray := prog_16_method_47_code
def yJ9_floorDiv_7cf53 : MethodName := ⟨RJ9, "floorDiv", "(II)I"⟩
abbrev cJ9_max_7cf53 : ByteArray := prog_16_method_65_code
def yJ9_max_7cf53 : MethodName := ⟨RJ9, "max", "(II)I"⟩
abbrev cJ9_min_7cf53 : ByteArray := prog_16_method_69_code
def yJ9_min_7cf53 : MethodName := ⟨RJ9, "min", "(II)I"⟩
def RJ0 : String := "java/lang/String"
abbrev cJ0_length_8abf5 : ByteArray := prog_17_method_54_code
def yJ0_length_8abf5 : MethodName := ⟨RJ0, "length", "()I"⟩
abbrev cJ0_charAt_5068e : ByteArray := prog_17_method_56_code
def yJ0_charAt_5068e : MethodName := ⟨RJ0, "charAt", "(I)C"⟩
abbrev cJ0_coder_7d493 : ByteArray := prog_17_method_152_code
def yJ0_coder_7d493 : MethodName := ⟨RJ0, "coder", "()B"⟩
abbrev cJ0_isLatin1_aae02 : ByteArray := prog_17_method_154_code
def yJ0_isLatin1_aae02 : MethodName := ⟨RJ0, "isLatin1", "()Z"⟩
abbrev cJ0_checkIndex_df160 : ByteArray := prog_17_method_155_code
def yJ0_checkIndex_df160 : MethodName := ⟨RJ0, "checkIndex", "(II)V"⟩
def RJ1 : String := "java/lang/StringLatin1"
abbrev cJ1_charAt_3b067 : ByteArray := prog_18_method_2_code
def yJ1_charAt_3b067 : MethodName := ⟨RJ1, "charAt", "([BI)C"⟩
def RJ2 : String := "java/lang/StringUTF16"
abbrev cJ2_getChar_3b067 : ByteArray := prog_19_method_5_code
def yJ2_getChar_3b067 : MethodName := ⟨RJ2, "getChar", "([BI)C"⟩
abbrev cJ2_length_9d52b : ByteArray := prog_19_method_6_code
def yJ2_length_9d52b : MethodName := ⟨RJ2, "length", "([B)I"⟩
abbrev cJ2_charAt_3b067 : ByteArray := prog_19_method_83_code
def yJ2_charAt_3b067 : MethodName := ⟨RJ2, "charAt", "([BI)C"⟩
abbrev cJ2_checkIndex_2214a : ByteArray := prog_19_method_91_code
def yJ2_checkIndex_2214a : MethodName := ⟨RJ2, "checkIndex", "(I[B)V"⟩
def RJ10 : String := "java/lang/System"
def RJxfd54e : String := "java/lang/constant/Constable"
def RJx3cf43 : String := "java/lang/constant/ConstantDesc"
def RJ7 : String := "java/util/Arrays"
abbrev cJ7_fill_53178 : ByteArray := prog_21_method_103_code
def yJ7_fill_53178 : MethodName := ⟨RJ7, "fill", "([II)V"⟩
def RJ3 : String := "jdk/internal/util/Preconditions"
abbrev cJ3_checkIndex_8e157 : ByteArray := prog_22_method_11_code
def yJ3_checkIndex_8e157 : MethodName := ⟨RJ3, "checkIndex", "(IILjava/util/function/BiFunction;)I"⟩
def RL : String := "ClickingDiskLaw"
abbrev cL_law : ByteArray := code
def yL_law : MethodName := ⟨RL, "law", "([I)Z"⟩
abbrev vwCl : List vw_C := [(RX0, TX0, 12), (RX1, TX1, 2), (RX2, TX2, 8), (RX3, TX3, 13), (RX4, TX4, 9), (RX5, TX5, 2), (RX6, TX6, 6), (RX7, TX7, 7), (RX8, TX8, 3), (RX9, TX9, 8), (RX10, TX10, 2), (RX11, TX11, 9), (RX12, TX12, 38)]
theorem inX0 : ∀ w ∈ wsX00, w ∈ lw_tbl := by decide +kernel
theorem inX1 : ∀ w ∈ wsX10, w ∈ lw_tbl := by decide +kernel
theorem inX2 : ∀ w ∈ wsX20, w ∈ lw_tbl := by decide +kernel
theorem inX3 : ∀ w ∈ wsX30, w ∈ lw_tbl := by decide +kernel
theorem inX4 : ∀ w ∈ wsX40, w ∈ lw_tbl := by decide +kernel
theorem inX5 : ∀ w ∈ wsX50, w ∈ lw_tbl := by decide +kernel
theorem inX6 : ∀ w ∈ wsX60, w ∈ lw_tbl := by decide +kernel
theorem inX7 : ∀ w ∈ wsX70, w ∈ lw_tbl := by decide +kernel
theorem inX8 : ∀ w ∈ wsX80, w ∈ lw_tbl := by decide +kernel
theorem inX9 : ∀ w ∈ wsX90, w ∈ lw_tbl := by decide +kernel
theorem inX10 : ∀ w ∈ wsX100, w ∈ lw_tbl := by decide +kernel
theorem inX11 : ∀ w ∈ wsX110, w ∈ lw_tbl := by decide +kernel
theorem inX12 : ∀ w ∈ wsX120, w ∈ lw_tbl := by decide +kernel
end
section
/-! the abstract values and the abstract heap -/
abbrev aV : Type := Int32 ⊕ (Int64 ⊕ Option (Option (Nat × Nat)))
abbrev aI (x : Int32) : aV := .inl x
abbrev aL (x : Int64) : aV := .inr (.inl x)
abbrev aR (k i : Nat) : aV := .inr (.inr (some (some (k, i))))
abbrev aN : aV := .inr (.inr (some none))
abbrev aX : aV := .inr (.inr none)
abbrev aQ (k : Nat) (o : Option Nat) : aV := .inr (.inr (some (o.map fun i => (k, i))))
abbrev mH : Type := Nat → Nat → Nat → Int32
def sto (μ : mH) (K i s : Nat) (x : Int32) : mH := fun K' i' s' => if K' = K then (if i' = i then (if s' = s then x else μ K' i' s') else μ K' i' s') else μ K' i' s'
theorem sto_eq {μ : mH} {K i s : Nat} {x : Int32} : sto μ K i s x K i s = x := by simp [sto]
theorem sto_K {μ : mH} {K i s K' i' s' : Nat} {x : Int32} (h : K' ≠ K) : sto μ K i s x K' i' s' = μ K' i' s' := by simp [sto, h]
theorem sto_i {μ : mH} {K i s K' i' s' : Nat} {x : Int32} (h : i' ≠ i) : sto μ K i s x K' i' s' = μ K' i' s' := by simp [sto, h]
theorem sto_s {μ : mH} {K i s K' i' s' : Nat} {x : Int32} (h : s' ≠ s) : sto μ K i s x K' i' s' = μ K' i' s' := by simp [sto, h]
theorem sto_ne {μ : mH} {K i s K' i' s' : Nat} {x : Int32} (h : ¬ (K' = K ∧ i' = i ∧ s' = s)) : sto μ K i s x K' i' s' = μ K' i' s' := by
  unfold sto
  split
  · split
    · split
      · exact absurd ⟨‹_›, ‹_›, ‹_›⟩ h
      · rfl
    · rfl
  · rfl
/-! the kinds: 0 .. 12 the objects by their classes, 20 .. 39 the arrays of the class, 40 .. 62 those of the reference, 63 texts, 64 their bytes, 65 the script -/
def kd (K : Nat) : Option (Nat ⊕ (FieldType × Nat)) := match K with
  | 0 => some (.inl 0) | 1 => some (.inl 1) | 2 => some (.inl 2) | 3 => some (.inl 3) | 4 => some (.inl 4) | 5 => some (.inl 5) | 6 => some (.inl 6) | 7 => some (.inl 7) | 8 => some (.inl 8) | 9 => some (.inl 9) | 10 => some (.inl 10) | 11 => some (.inl 11) | 12 => some (.inl 12)
  | 20 => some (.inr (.int, 200)) | 21 => some (.inr (.int, 320)) | 22 => some (.inr (.int, 2560)) | 23 => some (.inr (.object RX7, 8)) | 24 => some (.inr (.int, 8)) | 25 => some (.inr (.object RX9, 10)) | 26 => some (.inr (.object RX7, 80)) | 27 => some (.inr (.int, 24)) | 28 => some (.inr (.array .int, 10)) | 29 => some (.inr (.int, 80)) | 30 => some (.inr (.int, 10)) | 31 => some (.inr (.int, 8)) | 32 => some (.inr (.int, 9)) | 33 => some (.inr (.int, 256)) | 34 => some (.inr (.int, 24)) | 35 => some (.inr (.int, 24)) | 36 => some (.inr (.int, 12)) | 37 => some (.inr (.int, 6)) | 38 => some (.inr (.int, 6)) | 39 => some (.inr (.int, 225))
  | 40 => some (.inr (.byte, 200)) | 41 => some (.inr (.int, 9)) | 42 => some (.inr (.int, 9)) | 43 => some (.inr (.int, 320)) | 44 => some (.inr (.int, 10)) | 45 => some (.inr (.int, 10)) | 46 => some (.inr (.int, 3200)) | 47 => some (.inr (.int, 48)) | 48 => some (.inr (.int, 6)) | 49 => some (.inr (.int, 6)) | 50 => some (.inr (.boolean, 2700)) | 51 => some (.inr (.int, 8)) | 52 => some (.inr (.int, 96)) | 53 => some (.inr (.int, 8)) | 54 => some (.inr (.int, 12)) | 55 => some (.inr (.int, 960)) | 56 => some (.inr (.boolean, 80)) | 57 => some (.inr (.int, 12)) | 58 => some (.inr (.int, 960)) | 59 => some (.inr (.int, 12)) | 60 => some (.inr (.int, 24)) | 61 => some (.inr (.int, 24)) | 62 => some (.inr (.int, 400))
  | _ => none
/-- how many there are of a kind -/
def kn (K : Nat) : Nat := match K with
  | 1 => 11 | 4 => 2 | 7 => 88 | 9 => 10 | 10 => 11 | 21 => 11 | 23 => 11 | 24 => 89 | 29 => 10 | 35 => 3 | 63 => 9 | 64 => 9 | _ => 1
/-- places that hold a reference that never changes -/
def rs (K s : Nat) : Bool := match K with
  | 0 => s == 2 || s == 3 || s == 4 || s == 5 || s == 6 || s == 10 || s == 11
  | 1 => s == 0
  | 2 => s == 0
  | 3 => s == 3 || s == 4 || s == 7 || s == 8 || s == 9 || s == 10 || s == 11 || s == 12
  | 5 => s == 0
  | 6 => s == 0
  | 7 => s == 6
  | 8 => s == 0 || s == 2
  | 9 => s == 0 || s == 1
  | 10 => s == 0
  | 11 => true
  | 12 => s == 0 || s == 6 || s == 7 || s == 10 || s == 12 || s == 13 || s == 14 || s == 15 || s == 17 || s == 18 || s == 19 || s == 22 || s == 23 || s == 24 || s == 25 || s == 27 || s == 28 || s == 29 || s == 30 || s == 31 || s == 32 || s == 33 || s == 35
  | 23 => true
  | 25 => true
  | 28 => true
  | _ => false
/-- and which one -/
def rf (K i s : Nat) : Nat × Nat := match K with
  | 0 => match s with | 2 => (34, 0) | 3 => (35, 0) | 4 => (35, 1) | 5 => (35, 2) | 6 => (36, 0) | 10 => (37, 0) | _ => (38, 0)
  | 1 => (23, i)
  | 2 => (20, 0)
  | 3 => match s with | 3 => (24, 88) | 4 => (26, 0) | 7 => (27, 0) | 8 => (28, 0) | 9 => (30, 0) | 10 => (31, 0) | 11 => (32, 0) | _ => (33, 0)
  | 5 => (22, 0)
  | 6 => (39, 0)
  | 7 => (24, i)
  | 8 => match s with | 0 => (25, 0) | _ => (1, 10)
  | 9 => match s with | 0 => (10, i + 1) | _ => (1, i)
  | 10 => (21, i)
  | 11 => match s with | 0 => (2, 0) | 1 => (4, 0) | 2 => (4, 1) | 3 => (10, 0) | 4 => (5, 0) | 5 => (8, 0) | 6 => (3, 0) | 7 => (0, 0) | _ => (6, 0)
  | 12 => match s with | 0 => (40, 0) | 6 => (41, 0) | 7 => (42, 0) | 10 => (43, 0) | 12 => (44, 0) | 13 => (45, 0) | 14 => (46, 0) | 15 => (47, 0) | 17 => (48, 0) | 18 => (49, 0) | 19 => (50, 0) | 22 => (51, 0) | 23 => (52, 0) | 24 => (53, 0) | 25 => (54, 0) | 27 => (55, 0) | 28 => (56, 0) | 29 => (57, 0) | 30 => (58, 0) | 31 => (59, 0) | 32 => (60, 0) | 33 => (61, 0) | _ => (62, 0)
  | 23 => (7, 8 * i + s)
  | 25 => (9, s)
  | _ => (29, s)
/-- a long out of two ints, and back -/
def mkL (h l : Int32) : Int64 := Int64.ofInt (h.toInt * 4294967296 + (l.toInt % 4294967296))
def hiL (x : Int64) : Int32 := Int32.ofInt (x.toInt / 4294967296)
def loL (x : Int64) : Int32 := Int32.ofInt x.toInt
/-- what a place of Jury.copies holds -/
def cpo (x : Int32) : Option Nat := if 1 ≤ x.toNatClampNeg ∧ x.toNatClampNeg ≤ 88 then some (x.toNatClampNeg - 1) else none
/-- places of ints -/
def isI (K s : Nat) : Bool := !(rs K s) && !(K == 26) && !(K == 12 && (s == 5 || s == 100))
def look (μ : mH) (K i s : Nat) : aV := if rs K s then aR (rf K i s).1 (rf K i s).2 else if K = 26 then aQ 7 (cpo (μ K i s)) else if K = 12 ∧ s = 5 then aL (mkL (μ K i 5) (μ K i 100)) else aI (μ K i s)
theorem look_I {μ : mH} {K i s : Nat} (h : isI K s = true) : look μ K i s = aI (μ K i s) := by
  simp only [isI, Bool.and_eq_true, Bool.not_eq_true', beq_eq_false_iff_ne, Bool.and_eq_false_imp, beq_iff_eq, Bool.or_eq_false_iff] at h
  obtain ⟨⟨h1, h2⟩, h3⟩ := h
  unfold look
  rw [if_neg (by simp [h1]), if_neg h2, if_neg (fun q => (h3 q.1).1 q.2)]
theorem look_sto {μ : mH} {K i s K' i' s' : Nat} {x : Int32} (h : isI K s = true) : look (sto μ K i s x) K' i' s' = if K' = K ∧ i' = i ∧ s' = s then aI x else look μ K' i' s' := by
  by_cases hq : K' = K ∧ i' = i ∧ s' = s
  · obtain ⟨rfl, rfl, rfl⟩ := hq
    rw [if_pos ⟨rfl, rfl, rfl⟩, look_I h, sto_eq]
  · rw [if_neg hq]
    simp only [isI, Bool.and_eq_true, Bool.not_eq_true', beq_eq_false_iff_ne, Bool.and_eq_false_imp, beq_iff_eq, Bool.or_eq_false_iff] at h
    obtain ⟨⟨h1, h2⟩, h3⟩ := h
    unfold look
    split
    · rfl
    · split
      · rename_i e
        rw [sto_K (by rw [e]; exact fun q => h2 q.symm)]
      · split
        · rename_i e
          by_cases eK : K = 12
          · rw [sto_s (by intro q; exact (h3 eK).1 q.symm), sto_s (by intro q; exact (h3 eK).2 q.symm)]
          · rw [sto_K (by rw [e.1]; exact fun q => eK q.symm), sto_K (by rw [e.1]; exact fun q => eK q.symm)]
        · rw [sto_ne hq]
theorem mkL_hl (x : Int64) : mkL (hiL x) (loL x) = x := by
  have h1 : -9223372036854775808 ≤ x.toInt := by have := Int64.minValue_le_toInt x; simpa using this
  have h2 : x.toInt < 9223372036854775808 := by have := Int64.toInt_lt x; simpa using this
  have e1 : (hiL x).toInt = x.toInt / 4294967296 := by
    unfold hiL
    rw [Int32.toInt_ofInt, show Int32.size = 4294967296 from rfl]
    apply Int.bmod_eq_of_le <;> omega
  have e2 : (loL x).toInt % 4294967296 = x.toInt % 4294967296 := by
    unfold loL
    rw [Int32.toInt_ofInt, show Int32.size = 4294967296 from rfl]
    exact Int.bmod_emod
  unfold mkL
  rw [e1, e2, show x.toInt / 4294967296 * 4294967296 + x.toInt % 4294967296 = x.toInt by omega]
  exact Int64.ofInt_toInt x
/-- the references that there are -/
def liv (v : aV) : Prop := match v with
  | .inr (.inr (some (some q))) => q.2 < kn q.1
  | _ => True
theorem liv_rf {K i s : Nat} (hi : i < kn K) (h : rs K s = true) (hs : ∀ ty n, kd K = some (.inr (ty, n)) → s < n) : (rf K i s).2 < kn (rf K i s).1 := by
  unfold rs at h
  split at h
  · simp only [rf]; split <;> decide
  · simpa [rf, kn] using hi
  · simp [rf, kn]
  · simp only [rf]; split <;> decide
  · simp [rf, kn]
  · simp [rf, kn]
  · simp only [rf, kn] at hi ⊢; omega
  · simp only [rf]; split <;> decide
  · simp only [rf]
    split
    · simp only [kn] at hi ⊢; omega
    · simp only [kn] at hi ⊢; omega
  · simpa [rf, kn] using hi
  · simp only [rf]; split <;> decide
  · simp only [rf]; split <;> decide
  · have := hs _ _ rfl
    simp only [rf, kn] at hi ⊢; omega
  · have := hs _ _ rfl
    simp only [rf, kn] at hi ⊢; omega
  · have := hs _ _ rfl
    simp only [rf, kn] at hi ⊢; omega
  · cases h
theorem liv_look {μ : mH} {K i s : Nat} (hi : i < kn K) (hs : ∀ ty n, kd K = some (.inr (ty, n)) → s < n) : liv (look μ K i s) := by
  unfold look
  split
  · exact liv_rf hi ‹_› hs
  · split
    · unfold cpo
      split
      · rename_i h
        show (μ K i s).toNatClampNeg - 1 < 88
        omega
      · exact trivial
    · split <;> exact trivial
end
section
/-! the context of a run: the launch, the classes' numbers and slots, the arrays' classes, the addresses, the heap at the law's start, the heap's size, the script -/
abbrev cx_T : Type := Launch × (Nat → ClassId) × (Nat → Nat → Nat) × (Nat → ClassId) × (Nat → Nat → Nat) × Heap × Nat × (Nat × Nat × (Nat → Int32))
abbrev g_l (Γ : cx_T) : Launch := Γ.1
abbrev g_dC (Γ : cx_T) : Nat → ClassId := Γ.2.1
abbrev g_dI (Γ : cx_T) : Nat → Nat → Nat := Γ.2.2.1
abbrev g_cA (Γ : cx_T) : Nat → ClassId := Γ.2.2.2.1
abbrev g_ad (Γ : cx_T) : Nat → Nat → Nat := Γ.2.2.2.2.1
abbrev g_H0 (Γ : cx_T) : Heap := Γ.2.2.2.2.2.1
abbrev g_sz (Γ : cx_T) : Nat := Γ.2.2.2.2.2.2.1
abbrev g_b (Γ : cx_T) : Nat := Γ.2.2.2.2.2.2.2.1
abbrev g_L (Γ : cx_T) : Nat := Γ.2.2.2.2.2.2.2.2.1
abbrev g_xs (Γ : cx_T) : Nat → Int32 := Γ.2.2.2.2.2.2.2.2.2
def g_A (Γ : cx_T) : Nat → Prop := fun q => (g_H0 Γ).size ≤ q
def cv (ad : Nat → Nat → Nat) (v : aV) : Value := match v with
  | .inl x => .int x
  | .inr (.inl x) => .long x
  | .inr (.inr (some (some q))) => .ref (ad q.1 q.2)
  | .inr (.inr _) => .null
/-- a method: its name, its code, its locals, what it answers, frames and words of room -/
abbrev mt_T : Type := MethodName × ByteArray × Nat × Option FieldType × Nat × Nat
abbrev m_y (M : mt_T) : MethodName := M.1
abbrev m_c (M : mt_T) : ByteArray := M.2.1
abbrev m_L (M : mt_T) : Nat := M.2.2.1
abbrev m_r (M : mt_T) : Option FieldType := M.2.2.2.1
abbrev m_f (M : mt_T) : Nat := M.2.2.2.2.1
abbrev m_w (M : mt_T) : Nat := M.2.2.2.2.2
def is_nl (w : Cond) : Bool := match w with
  | .methodLinkNest _ _ _ _ => true
  | _ => false
def tb_g : List Cond := lw_tbl.filter goodWord
def tb_n : List Cond := lw_tbl.filter is_nl
theorem tb_gm {w : Cond} (n : Nat) (h : lw_tbl[n]? = some w) (hg : goodWord w = true) : w ∈ tb_g := List.mem_filter.mpr ⟨List.mem_of_getElem? h, hg⟩
theorem tb_nm {w : Cond} (n : Nat) (h : lw_tbl[n]? = some w) (hg : is_nl w = true) : w ∈ tb_n := List.mem_filter.mpr ⟨List.mem_of_getElem? h, hg⟩
/-- the texts: cell gain mark data sum swap add xor crc -/
def lenS : List Nat := [4, 4, 4, 4, 3, 4, 3, 3, 3]
def bytS : List (List Int32) := [[99, 101, 108, 108], [103, 97, 105, 110], [109, 97, 114, 107], [100, 97, 116, 97], [115, 117, 109], [115, 119, 97, 112], [97, 100, 100], [120, 111, 114], [99, 114, 99]]
def st_tab : List (String × Nat × String × Nat) := [("ClickingDisk$FormatText", 55, "cell", 0), ("ClickingDisk$FormatText", 61, "gain", 1), ("ClickingDisk$FormatText", 63, "mark", 2), ("ClickingDisk$FormatText", 65, "data", 3), ("ClickingDisk$FormatText", 67, "sum", 4), ("ClickingDisk$FormatText", 69, "swap", 5), ("ClickingDisk$FormatText", 96, "add", 6), ("ClickingDisk$FormatText", 101, "xor", 7), ("ClickingDisk$FormatText", 103, "crc", 8), ("ClickingDiskModel", 146, "cell", 0), ("ClickingDiskModel", 148, "gain", 1), ("ClickingDiskModel", 150, "mark", 2), ("ClickingDiskModel", 152, "data", 3), ("ClickingDiskModel", 154, "sum", 4), ("ClickingDiskModel", 156, "swap", 5), ("ClickingDiskModel", 132, "crc", 8), ("ClickingDiskModel", 138, "add", 6), ("ClickingDiskModel", 140, "xor", 7)]
def g_ok (Γ : cx_T) : Prop := (∀ K i K' i', kd K ≠ none → kd K' ≠ none → i < kn K → i' < kn K' → g_ad Γ K i = g_ad Γ K' i' → K = K' ∧ i = i') ∧ (∀ K i, kd K ≠ none → i < kn K → (g_H0 Γ).size ≤ g_ad Γ K i)
def vm_OK (Γ : cx_T) (U : State) : Prop := g_ok Γ ∧ (∀ w ∈ tb_g, ∀ a, w.before a U = true) ∧ (∀ w ∈ tb_n, va_Nw w U) ∧ (∀ (c : Nat) (q : vw_C), vwCl[c]? = some q → u_Kn U q.1 q.2.1 q.2.2 (g_dC Γ c) (g_dI Γ c)) ∧ (∀ (K : Nat) (ty : FieldType) (n : Nat), kd K = some (.inr (ty, n)) → ArrOfT U (g_cA Γ K) ty ∧ va_RA U (g_cA Γ K) ty) ∧ vk_S 9 lenS bytS (g_ad Γ 63) (g_ad Γ 64) (g_A Γ) U (g_H0 Γ) ∧ (∀ q ∈ st_tab, vk_R q.1 q.2.1 q.2.2.1 (g_ad Γ 63 q.2.2.2) U) ∧ (va_Z "java/lang/String" "COMPACT_STRINGS" "Z" (.int 1) (g_A Γ) U (g_H0 Γ) ∧ (va_Z "jdk/internal/util/Preconditions" "SIOOBE_FORMATTER" "Ljava/util/function/BiFunction;" .null (g_A Γ) U (g_H0 Γ) ∨ va_Z "jdk/internal/util/Preconditions" "SIOOBE_FORMATTER" "Ljava/util/function/BiFunction;" (.ref (g_ad Γ 66 0)) (g_A Γ) U (g_H0 Γ))) ∧ va_X (g_b Γ) (g_L Γ) (g_xs Γ) U (g_H0 Γ) ∧ g_b Γ < (g_H0 Γ).size
theorem vm_warm {Γ : cx_T} {s U : State} (hW : s.WarmedH U.vm) (h : vm_OK Γ s) : vm_OK Γ U := by
  obtain ⟨h0, h1, h2, h3, h4, h5, h6, h7, h8, h9⟩ := h
  refine ⟨h0, fun w hw a => word_at hW (good_of_word (List.mem_filter.mp hw).2) (h1 w hw #[]), fun w hw => ?_, fun c q hq => u_Kn_moved hW.alike (h3 c q hq), fun K ty n hk => ⟨arrOfT_moved hW.alike (h4 K ty n hk).1, (h4 K ty n hk).2.moved hW.alike⟩, h5.moved hW.alike, fun q hq => (h6 q hq).warm hW, ⟨h7.1.moved hW.alike, h7.2.imp (fun q => q.moved hW.alike) (fun q => q.moved hW.alike)⟩, h8.moved hW.alike, h9⟩
  have h := h2 w hw
  have hn := (List.mem_filter.mp hw).2
  unfold is_nl at hn
  split at hn
  · exact va_Nw.warmM hW h
  · cases hn
/-- a cell of a kind -/
def rp_c (Γ : cx_T) (μ : mH) (K i : Nat) (H : Heap) : Prop := match kd K with
  | some (.inl ci) => ∃ r : vw_C, vwCl[ci]? = some r ∧ t_OB (g_ad Γ K i) (g_dC Γ ci) r.2.2 (g_dI Γ ci) H (fun s => cv (g_ad Γ) (look μ K i s))
  | some (.inr (_, n)) => H[g_ad Γ K i]? = some (arrV (g_cA Γ K) n (fun j => cv (g_ad Γ) (look μ K i j)))
  | none => True
def rp_H (Γ : cx_T) (μ : mH) (H : Heap) : Prop := H.size = g_sz Γ ∧ ∀ K i, i < kn K → rp_c Γ μ K i H
theorem rp_obj {Γ : cx_T} {μ : mH} {H : Heap} (h : rp_H Γ μ H) {K i ci : Nat} (hi : i < kn K) (hk : kd K = some (.inl ci)) : ∃ r : vw_C, vwCl[ci]? = some r ∧ t_OB (g_ad Γ K i) (g_dC Γ ci) r.2.2 (g_dI Γ ci) H (fun s => cv (g_ad Γ) (look μ K i s)) := by
  have := h.2 K i hi
  unfold rp_c at this
  rw [hk] at this
  exact this
theorem rp_arr {Γ : cx_T} {μ : mH} {H : Heap} (h : rp_H Γ μ H) {K i n : Nat} {ty : FieldType} (hi : i < kn K) (hk : kd K = some (.inr (ty, n))) : H[g_ad Γ K i]? = some (arrV (g_cA Γ K) n (fun j => cv (g_ad Γ) (look μ K i j))) := by
  have := h.2 K i hi
  unfold rp_c at this
  rw [hk] at this
  exact this
/-- one cell has changed -/
theorem rp_set {Γ : cx_T} {μ μ' : mH} {H H' : Heap} (hG : g_ok Γ) (h : rp_H Γ μ H) {K i : Nat} (hi : i < kn K) (hk : kd K ≠ none) (hz : H'.size = H.size) (oq : ∀ q : Nat, q ≠ g_ad Γ K i → H'[q]? = H[q]?) (hc : rp_c Γ μ' K i H') (hl : ∀ K' i' s', ¬ (K' = K ∧ i' = i) → look μ' K' i' s' = look μ K' i' s') : rp_H Γ μ' H' := by
  refine ⟨hz.trans h.1, fun K' i' hi' => ?_⟩
  by_cases he : K' = K ∧ i' = i
  · obtain ⟨rfl, rfl⟩ := he
    exact hc
  · have h0 := h.2 K' i' hi'
    unfold rp_c at h0 ⊢
    have e : ∀ s, look μ' K' i' s = look μ K' i' s := fun s => hl K' i' s he
    cases hk' : kd K' with
    | none => trivial
    | some y =>
      have hne : g_ad Γ K' i' ≠ g_ad Γ K i := fun q => he (hG.1 K' i' K i (by rw [hk']; simp) hk hi' hi q)
      rw [hk'] at h0
      cases y with
      | inl ci =>
        obtain ⟨r, h1, h2⟩ := h0
        refine ⟨r, h1, ?_⟩
        simp only [e]
        exact h2.kept (oq _ hne)
      | inr y =>
        show H'[g_ad Γ K' i']? = _
        rw [oq _ hne]
        simp only [e]
        exact h0
/-- the machine's own things in a method's body -/
abbrev mx_T : Type := Program × Env × Room × State × MethodId × Array Value × List Frame × Method × Code × Nat × Nat × (State → Prop)
def in_B (Γ : cx_T) (M : mt_T) (X : mx_T) : Prop := match X with
  | (p, _, R, s, m, _, _, meth, c, cells, slots, _) => p.tables.exec = Jvm.exec ∧ c.code = m_c M ∧ c.maxLocals = m_L M ∧ s.vm.findClass (m_y M).cls = some m.cls ∧ vm_OK Γ s ∧ m_f M ≤ R.frames ∧ m_w M ≤ R.locals ∧ cells ≤ R.cells ∧ slots ≤ R.slots ∧ va_S (g_A Γ) (g_H0 Γ) s.heap [] ∧ s.heap.size ≤ g_sz Γ ∧ meth.sig.returnType = m_r M
def wx (Γ : cx_T) (X : mx_T) (H : Heap) (locs : List Loc) (pc : Nat) (arr : Array Slot) (st : List Value) : Prop := match X with
  | (p, e, R, s, m, args, below, meth, c, cells, slots, QQ) => W p (g_l Γ) e R s m args below meth c H locs cells slots QQ (F0 m pc arr st)
/-- what a return owes -/
def rt_W (Γ : cx_T) (M : mt_T) (X : mx_T) (r : aV) (μ : mH) : Prop := ∀ (H : Heap) (locs : List Loc) (pc : Nat) (arr : Array Slot), rp_H Γ μ H → va_S (g_A Γ) (g_H0 Γ) H locs →
  (decode (m_c M) pc = .ok (.ireturn, 1) → ∀ (x : Int32) (ty : FieldType), r = aI x → m_r M = some ty → narrow ty (.int x) = .int x → wx Γ X H locs pc arr [.int x]) ∧
  (decode (m_c M) pc = .ok (.lreturn, 1) → ∀ (x : Int64), r = aL x → m_r M = some .long → wx Γ X H locs pc arr [.long x]) ∧
  (decode (m_c M) pc = .ok (.areturn, 1) → ∀ (o : Option (Nat × Nat)), r = .inr (.inr (some o)) → m_r M = some (.array .int) → wx Γ X H locs pc arr [cv (g_ad Γ) r]) ∧
  (decode (m_c M) pc = .ok (.return_, 1) → r = aX → m_r M = none → wx Γ X H locs pc arr [])
def rt_ok (Γ : cx_T) (M : mt_T) (X : mx_T) (Q : aV → mH → Prop) : Prop := ∀ r μ, liv r → Q r μ → rt_W Γ M X r μ
/-- the locals that are known -/
def lo_l (ad : Nat → Nat → Nat) (ls : List aV) : List (Nat × Value) := (List.range ls.length).filterMap fun i => (ls[i]?).bind fun v => if v = aX then none else some (i, cv ad v)
/-- THE JUDGEMENT: from this place of the method, with these locals, this stack and this heap, it comes to an end with Q -/
def aw (Γ : cx_T) (M : mt_T) (pc : Nat) (ls st : List aV) (μ : mH) (Q : aV → mH → Prop) : Prop := ∀ X : mx_T, in_B Γ M X → rt_ok Γ M X Q → ∀ (H : Heap) (locs : List Loc) (arr : Array Slot), rp_H Γ μ H → va_S (g_A Γ) (g_H0 Γ) H locs → lv_has arr (m_L M) (lo_l (g_ad Γ) ls) → (∀ v ∈ ls, liv v) → (∀ v ∈ st, liv v) → wx Γ X H locs pc arr (st.map (cv (g_ad Γ)))
/-- and of a whole call -/
def cw_P (Γ : cx_T) (vs : List aV) (μ : mH) : Array Value → State → Prop := fun v U => v = (vs.map (cv (g_ad Γ))).toArray ∧ (∀ v ∈ vs, liv v) ∧ rp_H Γ μ U.heap ∧ va_S (g_A Γ) (g_H0 Γ) U.heap [] ∧ vm_OK Γ U
def cw_o (Γ : cx_T) (M : mt_T) (r : aV) : Outcome := match m_r M with
  | none => .returned none
  | some _ => .returned (some (cv (g_ad Γ) r))
def cw_Q (Γ : cx_T) (M : mt_T) (Q : aV → mH → Prop) : Array Value → State → Outcome → State → Prop := fun _ _ oc t => ∃ r μ, oc = cw_o Γ M r ∧ liv r ∧ rp_H Γ μ t.heap ∧ va_S (g_A Γ) (g_H0 Γ) t.heap [] ∧ Q r μ
def cw (Γ : cx_T) (M : mt_T) (vs : List aV) (μ : mH) (Q : aV → mH → Prop) : Prop := Met (g_l Γ) (m_y M) [.code (m_y M) (m_c M) (m_L M) (m_r M)] { frames := m_f M, cells := 0, slots := 0, locals := m_w M } (cw_P Γ vs μ) (cw_Q Γ M Q) 0 0 (g_A Γ)
theorem cw_mono {Γ : cx_T} {M : mt_T} {vs : List aV} {μ : mH} {Q Q' : aV → mH → Prop} (h : cw Γ M vs μ Q) (hQ : ∀ r μ', Q r μ' → Q' r μ') : cw Γ M vs μ Q' := by
  intro p e ha hc hk s m args below hf hap hP hT
  obtain ⟨k, o, h1, h2, h3, ⟨r, μ', q1, q2, q3, q4, q5⟩, h5⟩ := h p e ha hc hk s m args below hf hap hP hT
  exact ⟨k, o, h1, h2, h3, ⟨r, μ', q1, q2, q3, q4, hQ r μ' q5⟩, h5⟩
end
section
theorem lo_mem {ad : Nat → Nat → Nat} {ls : List aV} {q : Nat × Value} : q ∈ lo_l ad ls ↔ ∃ v, ls[q.1]? = some v ∧ v ≠ aX ∧ q.2 = cv ad v := by
  unfold lo_l
  rw [List.mem_filterMap]
  constructor
  · rintro ⟨i, hi, h⟩
    cases hv : ls[i]? with
    | none => rw [hv] at h; cases h
    | some v =>
      rw [hv] at h
      simp only [Option.bind_some] at h
      split at h
      · cases h
      · cases h
        exact ⟨v, hv, ‹_›, rfl⟩
  · rintro ⟨v, h1, h2, h3⟩
    refine ⟨q.1, List.mem_range.mpr (List.getElem?_eq_some_iff.mp h1).1, ?_⟩
    rw [h1]
    simp only [Option.bind_some, if_neg h2]
    rw [← h3]
theorem lo_at {ad : Nat → Nat → Nat} {ls : List aV} {arr : Array Slot} {n : Nat} (h : lv_has arr n (lo_l ad ls)) {i : Nat} {v : aV} (hl : ls[i]? = some v) (hv : v ≠ aX) : arr[i]? = some (.val (cv ad v)) := h.2.2 (i, cv ad v) (lo_mem.mpr ⟨v, hl, hv, rfl⟩)
/-- no long stands just ahead of i -/
def lo_nl (ls : List aV) (i : Nat) : Bool := match i with
  | 0 => true
  | j + 1 => match ls[j]? with
    | some (.inr (.inl _)) => false
    | _ => true
theorem cv_cat {ad : Nat → Nat → Nat} {v : aV} (h : (cv ad v).category = 2) : ∃ x, v = .inr (.inl x) := by
  unfold cv at h
  split at h
  · cases h
  · exact ⟨_, rfl⟩
  · cases h
  · cases h
theorem lo_set {ad : Nat → Nat → Nat} {ls ls' : List aV} {arr : Array Slot} {n i : Nat} {v : aV} (h : lv_has arr n ((i, cv ad v) :: (lo_l ad ls).filter (fun q => !(q.1 == i) && !(q.1 + 1 == i && q.2.category == 2)))) (hn : lo_nl ls i = true) (he : ls.set i v = ls') : lv_has arr n (lo_l ad ls') := by
  subst he
  refine ⟨h.1, h.2.1, fun q hq => ?_⟩
  obtain ⟨w, h1, h2, h3⟩ := lo_mem.mp hq
  obtain ⟨k, z⟩ := q
  dsimp only at h1 h3 ⊢
  by_cases hk : k = i
  · subst hk
    rw [List.getElem?_set_self' ] at h1
    cases hv : ls[k]? with
    | none => rw [hv] at h1; cases h1
    | some y =>
      rw [hv] at h1
      cases h1
      rw [h3]
      exact h.2.2 (k, cv ad v) List.mem_cons_self
  · rw [List.getElem?_set_ne (fun e => hk e.symm)] at h1
    refine h.2.2 (k, z) (List.mem_cons_of_mem _ (List.mem_filter.mpr ⟨lo_mem.mpr ⟨w, h1, h2, h3⟩, ?_⟩))
    simp only [Bool.and_eq_true, Bool.not_eq_true', beq_eq_false_iff_ne, ne_eq, Bool.and_eq_false_imp, beq_iff_eq]
    refine ⟨hk, fun e hc => ?_⟩
    rw [h3] at hc
    obtain ⟨x, rfl⟩ := cv_cat hc
    subst e
    simp only [lo_nl, h1] at hn
    cases hn
theorem lo_setL {ad : Nat → Nat → Nat} {ls ls' : List aV} {arr : Array Slot} {n i : Nat} {x : Int64} (h : lv_has arr n ((i, .long x) :: (lo_l ad ls).filter (fun q => !(q.1 == i) && (!(q.1 == i + 1) && !(q.1 + 1 == i && q.2.category == 2))))) (hn : lo_nl ls i = true) (he : (ls.set i (aL x)).set (i + 1) aX = ls') : lv_has arr n (lo_l ad ls') := by
  subst he
  refine ⟨h.1, h.2.1, fun q hq => ?_⟩
  obtain ⟨w, h1, h2, h3⟩ := lo_mem.mp hq
  obtain ⟨k, z⟩ := q
  dsimp only at h1 h3 ⊢
  by_cases hk1 : k = i + 1
  · subst hk1
    rw [List.getElem?_set_self'] at h1
    cases hv : (ls.set i (aL x))[i + 1]? with
    | none => rw [hv] at h1; cases h1
    | some y => rw [hv] at h1; cases h1; exact absurd rfl h2
  rw [List.getElem?_set_ne (fun e => hk1 e.symm)] at h1
  by_cases hk : k = i
  · subst hk
    rw [List.getElem?_set_self' ] at h1
    cases hv : ls[k]? with
    | none => rw [hv] at h1; cases h1
    | some y =>
      rw [hv] at h1
      cases h1
      rw [h3]
      exact h.2.2 (k, .long x) List.mem_cons_self
  · rw [List.getElem?_set_ne (fun e => hk e.symm)] at h1
    refine h.2.2 (k, z) (List.mem_cons_of_mem _ (List.mem_filter.mpr ⟨lo_mem.mpr ⟨w, h1, h2, h3⟩, ?_⟩))
    simp only [Bool.and_eq_true, Bool.not_eq_true', beq_eq_false_iff_ne, ne_eq, Bool.and_eq_false_imp, beq_iff_eq]
    refine ⟨hk, hk1, fun e hc => ?_⟩
    rw [h3] at hc
    obtain ⟨x, rfl⟩ := cv_cat hc
    subst e
    simp only [lo_nl, h1] at hn
    cases hn
theorem liv_set {ls ls' : List aV} {i : Nat} {v : aV} (h : ∀ w ∈ ls, liv w) (hv : liv v) (he : ls.set i v = ls') : ∀ w ∈ ls', liv w := by
  subst he
  intro w hw
  rcases List.mem_or_eq_of_mem_set hw with h1 | h1
  · exact h w h1
  · rw [h1]; exact hv
section AW
variable {Γ : cx_T} {M : mt_T} {pc : Nat} {ls ls' st : List aV} {μ : mH} {Q : aV → mH → Prop}
/-- an instruction that touches the stack alone -/
theorem aw_s {pc' : Nat} {st st' : List aV} (k : aw Γ M pc' ls st' μ Q) (hst : (∀ v ∈ ls, liv v) → (∀ v ∈ st, liv v) → ∀ v ∈ st', liv v)
    (h : ∀ {p : Program} {l : Launch} {e : Env} {R : Room} {s : State} {m : MethodId} {args : Array Value} {below : List Frame} {meth : Method} {c : Code} {H : Heap} {locs : List Loc} {cells slots : Nat} {QQ : State → Prop} {arr : Array Slot}, p.tables.exec = Jvm.exec → c.code = m_c M → lv_has arr (m_L M) (lo_l (g_ad Γ) ls) → W p l e R s m args below meth c H locs cells slots QQ (F0 m pc' arr (st'.map (cv (g_ad Γ)))) → W p l e R s m args below meth c H locs cells slots QQ (F0 m pc arr (st.map (cv (g_ad Γ))))) : aw Γ M pc ls st μ Q := by
  intro X hB hR H locs arr hH hS hL hv hw
  have hk := k X hB hR H locs arr hH hS hL hv (hst hv hw)
  obtain ⟨p, e, R, s, m, args, below, meth, c, cells, slots, QQ⟩ := X
  obtain ⟨hx, hb, -⟩ := hB
  exact h hx hb hL hk
/-- fewer locals are known -/
theorem aw_weak (h : ∀ (i : Nat) (v : aV), ls'[i]? = some v → v ≠ aX → ls[i]? = some v) (k : aw Γ M pc ls' st μ Q) : aw Γ M pc ls st μ Q := by
  intro X hB hR H locs arr hH hS hL hv hw
  refine k X hB hR H locs arr hH hS ⟨hL.1, hL.2.1, fun q hq => ?_⟩ (fun w hw => ?_) hw
  · obtain ⟨v, h1, h2, h3⟩ := lo_mem.mp hq
    exact hL.2.2 q (lo_mem.mpr ⟨v, h _ _ h1 h2, h2, h3⟩)
  · by_cases e : w = aX
    · rw [e]; exact trivial
    · obtain ⟨i, hi⟩ := List.getElem?_of_mem hw
      exact hv w (List.mem_of_getElem? (h i w hi e))
theorem aw_mono {Q' : aV → mH → Prop} (h : aw Γ M pc ls st μ Q) (hQ : ∀ r μ', Q r μ' → Q' r μ') : aw Γ M pc ls st μ Q' := fun X hB hR => h X hB (fun r μ' hl hq => hR r μ' hl (hQ r μ' hq))
/-- an instruction that stores a local -/
theorem aw_l {pc' i : Nat} {v : aV} (k : aw Γ M pc' ls' st μ Q) (hn : lo_nl ls i = true) (he : ls.set i v = ls') {st0 : List aV} (hv1 : (∀ w ∈ st0, liv w) → (∀ v ∈ ls, liv v) → liv v) (hst0 : (∀ w ∈ st0, liv w) → ∀ w ∈ st, liv w)
    (h : ∀ {p : Program} {l : Launch} {e : Env} {R : Room} {s : State} {m : MethodId} {args : Array Value} {below : List Frame} {meth : Method} {c : Code} {H : Heap} {locs : List Loc} {cells slots : Nat} {QQ : State → Prop} {arr : Array Slot}, p.tables.exec = Jvm.exec → c.code = m_c M → lv_has arr (m_L M) (lo_l (g_ad Γ) ls) → (∀ arr' : Array Slot, lv_has arr' (m_L M) ((i, cv (g_ad Γ) v) :: (lo_l (g_ad Γ) ls).filter (fun q => !(q.1 == i) && !(q.1 + 1 == i && q.2.category == 2))) → W p l e R s m args below meth c H locs cells slots QQ (F0 m pc' arr' (st.map (cv (g_ad Γ))))) → W p l e R s m args below meth c H locs cells slots QQ (F0 m pc arr (st0.map (cv (g_ad Γ))))) : aw Γ M pc ls st0 μ Q := by
  intro X hB hR H locs arr hH hS hL hv hw
  have hk := fun arr' (hL' : lv_has arr' (m_L M) (lo_l (g_ad Γ) ls')) => k X hB hR H locs arr' hH hS hL' (liv_set hv (hv1 hw hv) he) (hst0 hw)
  obtain ⟨p, e, R, s, m, args, below, meth, c, cells, slots, QQ⟩ := X
  obtain ⟨hx, hb, -⟩ := hB
  exact h hx hb hL (fun arr' h' => hk arr' (lo_set h' hn he))
theorem aw_iconst {n : Int} {v : Int32} (hd : decode (m_c M) pc = .ok (.iconst n, 1)) (hv : Int32.ofInt n = v) (k : aw Γ M (pc + 1) ls (aI v :: st) μ Q) : aw Γ M pc ls st μ Q := aw_s k (fun _ h => List.forall_mem_cons.mpr ⟨trivial, h⟩) (fun hx hb hL kk => lv_iconst hx hb hd hv kk)
theorem aw_bipush {n : Int} {v : Int32} (hd : decode (m_c M) pc = .ok (.bipush n, 2)) (hv : (Int8.ofInt n).toInt32 = v) (k : aw Γ M (pc + 2) ls (aI v :: st) μ Q) : aw Γ M pc ls st μ Q := aw_s k (fun _ h => List.forall_mem_cons.mpr ⟨trivial, h⟩) (fun hx hb hL kk => lv_bipush hx hb hd hv kk)
theorem aw_sipush {n : Int} {v : Int32} (hd : decode (m_c M) pc = .ok (.sipush n, 3)) (hv : (Int16.ofInt n).toInt32 = v) (k : aw Γ M (pc + 3) ls (aI v :: st) μ Q) : aw Γ M pc ls st μ Q := aw_s k (fun _ h => List.forall_mem_cons.mpr ⟨trivial, h⟩) (fun hx hb hL kk => lv_sipush hx hb hd hv kk)
theorem aw_lconst {n : Fin 2} {v : Int64} (hd : decode (m_c M) pc = .ok (.lconst n, 1)) (hv : Int64.ofNat (n : Nat) = v) (k : aw Γ M (pc + 1) ls (aL v :: st) μ Q) : aw Γ M pc ls st μ Q := aw_s k (fun _ h => List.forall_mem_cons.mpr ⟨trivial, h⟩) (fun hx hb hL kk => lv_lconst hx hb hd hv kk)
theorem aw_null (hd : decode (m_c M) pc = .ok (.aconst_null, 1)) (k : aw Γ M (pc + 1) ls (aN :: st) μ Q) : aw Γ M pc ls st μ Q := aw_s k (fun _ h => List.forall_mem_cons.mpr ⟨trivial, h⟩) (fun hx hb hL kk => lv_null hx hb hd kk)
theorem aw_iload_n {n : Fin 4} {x : Int32} (hd : decode (m_c M) pc = .ok (.iload_n n, 1)) (hl : ls[(n : Nat)]? = some (aI x)) (k : aw Γ M (pc + 1) ls (aI x :: st) μ Q) : aw Γ M pc ls st μ Q := aw_s k (fun _ h => List.forall_mem_cons.mpr ⟨trivial, h⟩) (fun hx hb hL kk => lv_iload_n hx hb hd rfl (lo_at hL hl (by simp)) kk)
theorem aw_iload {n : Nat} {x : Int32} (hd : decode (m_c M) pc = .ok (.iload n, 2)) (hl : ls[n]? = some (aI x)) (k : aw Γ M (pc + 2) ls (aI x :: st) μ Q) : aw Γ M pc ls st μ Q := aw_s k (fun _ h => List.forall_mem_cons.mpr ⟨trivial, h⟩) (fun hx hb hL kk => lv_iload hx hb hd (lo_at hL hl (by simp)) kk)
theorem aw_lload_n {n : Fin 4} {x : Int64} (hd : decode (m_c M) pc = .ok (.lload_n n, 1)) (hl : ls[(n : Nat)]? = some (aL x)) (k : aw Γ M (pc + 1) ls (aL x :: st) μ Q) : aw Γ M pc ls st μ Q := aw_s k (fun _ h => List.forall_mem_cons.mpr ⟨trivial, h⟩) (fun hx hb hL kk => lv_lload_n hx hb hd rfl (lo_at hL hl (by simp)) kk)
theorem aw_aload_n {n : Fin 4} {K i : Nat} (hd : decode (m_c M) pc = .ok (.aload_n n, 1)) (hl : ls[(n : Nat)]? = some (aR K i)) (k : aw Γ M (pc + 1) ls (aR K i :: st) μ Q) : aw Γ M pc ls st μ Q := aw_s k (fun h0 h => List.forall_mem_cons.mpr ⟨h0 _ (List.mem_of_getElem? hl), h⟩) (fun hx hb hL kk => lv_aload_n hx hb hd rfl (lo_at hL hl (by simp)) kk)
theorem aw_aload_nQ {n : Fin 4} {K : Nat} {o : Option Nat} (hd : decode (m_c M) pc = .ok (.aload_n n, 1)) (hl : ls[(n : Nat)]? = some (aQ K o)) (k : aw Γ M (pc + 1) ls (aQ K o :: st) μ Q) : aw Γ M pc ls st μ Q := by
  cases o with
  | none => exact aw_s k (fun _ h => List.forall_mem_cons.mpr ⟨trivial, h⟩) (fun hx hb hL kk => lv_aload_nN hx hb hd rfl (lo_at hL hl (by simp)) kk)
  | some i => exact aw_aload_n hd hl k
theorem aw_aload {n : Nat} {K i : Nat} (hd : decode (m_c M) pc = .ok (.aload n, 2)) (hl : ls[n]? = some (aR K i)) (k : aw Γ M (pc + 2) ls (aR K i :: st) μ Q) : aw Γ M pc ls st μ Q := aw_s k (fun h0 h => List.forall_mem_cons.mpr ⟨h0 _ (List.mem_of_getElem? hl), h⟩) (fun hx hb hL kk => lv_aload hx hb hd (lo_at hL hl (by simp)) kk)
theorem aw_aloadQ {n : Nat} {K : Nat} {o : Option Nat} (hd : decode (m_c M) pc = .ok (.aload n, 2)) (hl : ls[n]? = some (aQ K o)) (k : aw Γ M (pc + 2) ls (aQ K o :: st) μ Q) : aw Γ M pc ls st μ Q := by
  cases o with
  | none => exact aw_s k (fun _ h => List.forall_mem_cons.mpr ⟨trivial, h⟩) (fun hx hb hL kk => lv_aloadN hx hb hd (lo_at hL hl (by simp)) kk)
  | some i => exact aw_aload hd hl k
theorem aw_iadd {x y : Int32} (hd : decode (m_c M) pc = .ok (.iadd, 1)) (k : aw Γ M (pc + 1) ls (aI (x + y) :: st) μ Q) : aw Γ M pc ls (aI y :: aI x :: st) μ Q := aw_s k (fun _ h => List.forall_mem_cons.mpr ⟨trivial, (List.forall_mem_cons.mp (List.forall_mem_cons.mp h).2).2⟩) (fun hx hb hL kk => lv_iadd hx hb hd kk)
theorem aw_isub {x y : Int32} (hd : decode (m_c M) pc = .ok (.isub, 1)) (k : aw Γ M (pc + 1) ls (aI (x - y) :: st) μ Q) : aw Γ M pc ls (aI y :: aI x :: st) μ Q := aw_s k (fun _ h => List.forall_mem_cons.mpr ⟨trivial, (List.forall_mem_cons.mp (List.forall_mem_cons.mp h).2).2⟩) (fun hx hb hL kk => lv_isub hx hb hd kk)
theorem aw_imul {x y : Int32} (hd : decode (m_c M) pc = .ok (.imul, 1)) (k : aw Γ M (pc + 1) ls (aI (x * y) :: st) μ Q) : aw Γ M pc ls (aI y :: aI x :: st) μ Q := aw_s k (fun _ h => List.forall_mem_cons.mpr ⟨trivial, (List.forall_mem_cons.mp (List.forall_mem_cons.mp h).2).2⟩) (fun hx hb hL kk => lv_imul hx hb hd kk)
theorem aw_iand {x y : Int32} (hd : decode (m_c M) pc = .ok (.iand, 1)) (k : aw Γ M (pc + 1) ls (aI (x &&& y) :: st) μ Q) : aw Γ M pc ls (aI y :: aI x :: st) μ Q := aw_s k (fun _ h => List.forall_mem_cons.mpr ⟨trivial, (List.forall_mem_cons.mp (List.forall_mem_cons.mp h).2).2⟩) (fun hx hb hL kk => lv_iand hx hb hd kk)
theorem aw_ior {x y : Int32} (hd : decode (m_c M) pc = .ok (.ior, 1)) (k : aw Γ M (pc + 1) ls (aI (x ||| y) :: st) μ Q) : aw Γ M pc ls (aI y :: aI x :: st) μ Q := aw_s k (fun _ h => List.forall_mem_cons.mpr ⟨trivial, (List.forall_mem_cons.mp (List.forall_mem_cons.mp h).2).2⟩) (fun hx hb hL kk => lv_ior hx hb hd kk)
theorem aw_ixor {x y : Int32} (hd : decode (m_c M) pc = .ok (.ixor, 1)) (k : aw Γ M (pc + 1) ls (aI (x ^^^ y) :: st) μ Q) : aw Γ M pc ls (aI y :: aI x :: st) μ Q := aw_s k (fun _ h => List.forall_mem_cons.mpr ⟨trivial, (List.forall_mem_cons.mp (List.forall_mem_cons.mp h).2).2⟩) (fun hx hb hL kk => lv_ixor hx hb hd kk)
theorem aw_ishl {x y : Int32} (hd : decode (m_c M) pc = .ok (.ishl, 1)) (k : aw Γ M (pc + 1) ls (aI (x <<< (y &&& 31)) :: st) μ Q) : aw Γ M pc ls (aI y :: aI x :: st) μ Q := aw_s k (fun _ h => List.forall_mem_cons.mpr ⟨trivial, (List.forall_mem_cons.mp (List.forall_mem_cons.mp h).2).2⟩) (fun hx hb hL kk => lv_ishl hx hb hd kk)
theorem aw_ishr {x y : Int32} (hd : decode (m_c M) pc = .ok (.ishr, 1)) (k : aw Γ M (pc + 1) ls (aI (x >>> (y &&& 31)) :: st) μ Q) : aw Γ M pc ls (aI y :: aI x :: st) μ Q := aw_s k (fun _ h => List.forall_mem_cons.mpr ⟨trivial, (List.forall_mem_cons.mp (List.forall_mem_cons.mp h).2).2⟩) (fun hx hb hL kk => lv_ishr hx hb hd kk)
theorem aw_iushr {x y : Int32} (hd : decode (m_c M) pc = .ok (.iushr, 1)) (k : aw Γ M (pc + 1) ls (aI ((x.toUInt32 >>> (y.toUInt32 &&& Int32.toUInt32 31)).toInt32) :: st) μ Q) : aw Γ M pc ls (aI y :: aI x :: st) μ Q := aw_s k (fun _ h => List.forall_mem_cons.mpr ⟨trivial, (List.forall_mem_cons.mp (List.forall_mem_cons.mp h).2).2⟩) (fun hx hb hL kk => lv_iushr hx hb hd rfl kk)
theorem aw_idiv {x y : Int32} (hd : decode (m_c M) pc = .ok (.idiv, 1)) (hne : ¬ y = 0) (k : aw Γ M (pc + 1) ls (aI (x / y) :: st) μ Q) : aw Γ M pc ls (aI y :: aI x :: st) μ Q := aw_s k (fun _ h => List.forall_mem_cons.mpr ⟨trivial, (List.forall_mem_cons.mp (List.forall_mem_cons.mp h).2).2⟩) (fun hx hb hL kk => lv_idiv hx hb hd hne kk)
theorem aw_irem {x y : Int32} (hd : decode (m_c M) pc = .ok (.irem, 1)) (hne : ¬ y = 0) (k : aw Γ M (pc + 1) ls (aI (x - x / y * y) :: st) μ Q) : aw Γ M pc ls (aI y :: aI x :: st) μ Q := aw_s k (fun _ h => List.forall_mem_cons.mpr ⟨trivial, (List.forall_mem_cons.mp (List.forall_mem_cons.mp h).2).2⟩) (fun hx hb hL kk => lv_irem hx hb hd hne kk)
theorem aw_ladd {x y : Int64} (hd : decode (m_c M) pc = .ok (.ladd, 1)) (k : aw Γ M (pc + 1) ls (aL (x + y) :: st) μ Q) : aw Γ M pc ls (aL y :: aL x :: st) μ Q := aw_s k (fun _ h => List.forall_mem_cons.mpr ⟨trivial, (List.forall_mem_cons.mp (List.forall_mem_cons.mp h).2).2⟩) (fun hx hb hL kk => lv_ladd hx hb hd kk)
theorem aw_lsub {x y : Int64} (hd : decode (m_c M) pc = .ok (.lsub, 1)) (k : aw Γ M (pc + 1) ls (aL (x - y) :: st) μ Q) : aw Γ M pc ls (aL y :: aL x :: st) μ Q := aw_s k (fun _ h => List.forall_mem_cons.mpr ⟨trivial, (List.forall_mem_cons.mp (List.forall_mem_cons.mp h).2).2⟩) (fun hx hb hL kk => lv_lsub hx hb hd kk)
theorem aw_lmul {x y : Int64} (hd : decode (m_c M) pc = .ok (.lmul, 1)) (k : aw Γ M (pc + 1) ls (aL (x * y) :: st) μ Q) : aw Γ M pc ls (aL y :: aL x :: st) μ Q := aw_s k (fun _ h => List.forall_mem_cons.mpr ⟨trivial, (List.forall_mem_cons.mp (List.forall_mem_cons.mp h).2).2⟩) (fun hx hb hL kk => lv_lmul hx hb hd kk)
theorem aw_lor {x y : Int64} (hd : decode (m_c M) pc = .ok (.lor, 1)) (k : aw Γ M (pc + 1) ls (aL (x ||| y) :: st) μ Q) : aw Γ M pc ls (aL y :: aL x :: st) μ Q := aw_s k (fun _ h => List.forall_mem_cons.mpr ⟨trivial, (List.forall_mem_cons.mp (List.forall_mem_cons.mp h).2).2⟩) (fun hx hb hL kk => lv_lor hx hb hd kk)
theorem aw_lshl {x : Int64} {y : Int32} (hd : decode (m_c M) pc = .ok (.lshl, 1)) (k : aw Γ M (pc + 1) ls (aL (x <<< (y.toInt64 &&& 63)) :: st) μ Q) : aw Γ M pc ls (aI y :: aL x :: st) μ Q := aw_s k (fun _ h => List.forall_mem_cons.mpr ⟨trivial, (List.forall_mem_cons.mp (List.forall_mem_cons.mp h).2).2⟩) (fun hx hb hL kk => lv_lshl hx hb hd rfl kk)
theorem aw_lcmp {x y : Int64} (hd : decode (m_c M) pc = .ok (.lcmp, 1)) (k : aw Γ M (pc + 1) ls (aI (lg_cmp x y) :: st) μ Q) : aw Γ M pc ls (aL y :: aL x :: st) μ Q := aw_s k (fun _ h => List.forall_mem_cons.mpr ⟨trivial, (List.forall_mem_cons.mp (List.forall_mem_cons.mp h).2).2⟩) (fun hx hb hL kk => W.lcmp hx hb hd kk)
theorem aw_i2l {x : Int32} (hd : decode (m_c M) pc = .ok (.i2l, 1)) (k : aw Γ M (pc + 1) ls (aL x.toInt64 :: st) μ Q) : aw Γ M pc ls (aI x :: st) μ Q := aw_s k (fun _ h => List.forall_mem_cons.mpr ⟨trivial, (List.forall_mem_cons.mp h).2⟩) (fun hx hb hL kk => lv_i2l hx hb hd rfl kk)
theorem aw_l2i {x : Int64} (hd : decode (m_c M) pc = .ok (.l2i, 1)) (k : aw Γ M (pc + 1) ls (aI x.toInt32 :: st) μ Q) : aw Γ M pc ls (aL x :: st) μ Q := aw_s k (fun _ h => List.forall_mem_cons.mpr ⟨trivial, (List.forall_mem_cons.mp h).2⟩) (fun hx hb hL kk => lv_l2i hx hb hd rfl kk)
theorem aw_i2b {x : Int32} (hd : decode (m_c M) pc = .ok (.i2b, 1)) (k : aw Γ M (pc + 1) ls (aI x.toInt8.toInt32 :: st) μ Q) : aw Γ M pc ls (aI x :: st) μ Q := aw_s k (fun _ h => List.forall_mem_cons.mpr ⟨trivial, (List.forall_mem_cons.mp h).2⟩) (fun hx hb hL kk => lv_i2b hx hb hd rfl kk)
theorem aw_i2c {x : Int32} (hd : decode (m_c M) pc = .ok (.i2c, 1)) (k : aw Γ M (pc + 1) ls (aI (x.toUInt32 % 65536).toInt32 :: st) μ Q) : aw Γ M pc ls (aI x :: st) μ Q := aw_s k (fun _ h => List.forall_mem_cons.mpr ⟨trivial, (List.forall_mem_cons.mp h).2⟩) (fun hx hb hL kk => lv_i2c hx hb hd rfl kk)
theorem aw_dup {v : aV} (hd : decode (m_c M) pc = .ok (.dup, 1)) (h1 : ∀ ad, (cv ad v).category = 1) (k : aw Γ M (pc + 1) ls (v :: v :: st) μ Q) : aw Γ M pc ls (v :: st) μ Q := aw_s k (fun _ h => List.forall_mem_cons.mpr ⟨(List.forall_mem_cons.mp h).1, h⟩) (fun hx hb hL kk => lv_dup hx hb hd (h1 _) kk)
theorem aw_dup2 {v w : aV} (hd : decode (m_c M) pc = .ok (.dup2, 1)) (h1 : ∀ ad, (cv ad v).category = 1) (h2 : ∀ ad, (cv ad w).category = 1) (k : aw Γ M (pc + 1) ls (v :: w :: v :: w :: st) μ Q) : aw Γ M pc ls (v :: w :: st) μ Q := aw_s k (fun _ h => List.forall_mem_cons.mpr ⟨(List.forall_mem_cons.mp h).1, List.forall_mem_cons.mpr ⟨(List.forall_mem_cons.mp (List.forall_mem_cons.mp h).2).1, h⟩⟩) (fun hx hb hL kk => lv_dup2_11 hx hb hd (h1 _) (h2 _) kk)
theorem aw_goto {off : Int} {tgt : Nat} (hd : decode (m_c M) pc = .ok (.goto off, 3)) (ht : (pc : Int) + off = (tgt : Int)) (k : aw Γ M tgt ls st μ Q) : aw Γ M pc ls st μ Q := aw_s k (fun _ h => h) (fun hx hb hL kk => lv_goto hx hb hd ht kk)
theorem aw_istore_n {n : Fin 4} {x : Int32} (hd : decode (m_c M) pc = .ok (.istore_n n, 1)) (hi : (n : Nat) < m_L M) (hn : lo_nl ls (n : Nat) = true) (he : ls.set (n : Nat) (aI x) = ls') (k : aw Γ M (pc + 1) ls' st μ Q) : aw Γ M pc ls (aI x :: st) μ Q := aw_l k hn he (fun _ _ => trivial) (fun h => (List.forall_mem_cons.mp h).2) (fun hx hb hL kk => lv_istore_n hx hb hd rfl hL hi rfl kk)
theorem aw_istore {n : Nat} {x : Int32} (hd : decode (m_c M) pc = .ok (.istore n, 2)) (hi : n < m_L M) (hn : lo_nl ls n = true) (he : ls.set n (aI x) = ls') (k : aw Γ M (pc + 2) ls' st μ Q) : aw Γ M pc ls (aI x :: st) μ Q := aw_l k hn he (fun _ _ => trivial) (fun h => (List.forall_mem_cons.mp h).2) (fun hx hb hL kk => lv_istore hx hb hd hL hi rfl kk)
theorem aw_astore_n {n : Fin 4} {K i : Nat} (hd : decode (m_c M) pc = .ok (.astore_n n, 1)) (hi : (n : Nat) < m_L M) (hn : lo_nl ls (n : Nat) = true) (he : ls.set (n : Nat) (aR K i) = ls') (k : aw Γ M (pc + 1) ls' st μ Q) : aw Γ M pc ls (aR K i :: st) μ Q := aw_l k hn he (fun h _ => (List.forall_mem_cons.mp h).1) (fun h => (List.forall_mem_cons.mp h).2) (fun hx hb hL kk => lv_astore_n hx hb hd rfl hL hi rfl kk)
theorem aw_astore_nQ {n : Fin 4} {K : Nat} {o : Option Nat} (hd : decode (m_c M) pc = .ok (.astore_n n, 1)) (hi : (n : Nat) < m_L M) (hn : lo_nl ls (n : Nat) = true) (he : ls.set (n : Nat) (aQ K o) = ls') (k : aw Γ M (pc + 1) ls' st μ Q) : aw Γ M pc ls (aQ K o :: st) μ Q := by
  cases o with
  | none => exact aw_l k hn he (fun _ _ => trivial) (fun h => (List.forall_mem_cons.mp h).2) (fun hx hb hL kk => lv_astore_nN hx hb hd rfl hL hi rfl kk)
  | some i => exact aw_astore_n hd hi hn he k
theorem aw_astore {n : Nat} {K i : Nat} (hd : decode (m_c M) pc = .ok (.astore n, 2)) (hi : n < m_L M) (hn : lo_nl ls n = true) (he : ls.set n (aR K i) = ls') (k : aw Γ M (pc + 2) ls' st μ Q) : aw Γ M pc ls (aR K i :: st) μ Q := aw_l k hn he (fun h _ => (List.forall_mem_cons.mp h).1) (fun h => (List.forall_mem_cons.mp h).2) (fun hx hb hL kk => lv_astore hx hb hd hL hi rfl kk)
theorem aw_astoreQ {n : Nat} {K : Nat} {o : Option Nat} (hd : decode (m_c M) pc = .ok (.astore n, 2)) (hi : n < m_L M) (hn : lo_nl ls n = true) (he : ls.set n (aQ K o) = ls') (k : aw Γ M (pc + 2) ls' st μ Q) : aw Γ M pc ls (aQ K o :: st) μ Q := by
  cases o with
  | none => exact aw_l k hn he (fun _ _ => trivial) (fun h => (List.forall_mem_cons.mp h).2) (fun hx hb hL kk => lv_astoreN hx hb hd hL hi rfl kk)
  | some i => exact aw_astore hd hi hn he k
theorem aw_lstore_n {n : Fin 4} {x : Int64} (hd : decode (m_c M) pc = .ok (.lstore_n n, 1)) (hi : (n : Nat) + 1 < m_L M) (hn : lo_nl ls (n : Nat) = true) (he : (ls.set (n : Nat) (aL x)).set ((n : Nat) + 1) aX = ls') (k : aw Γ M (pc + 1) ls' st μ Q) : aw Γ M pc ls (aL x :: st) μ Q := by
  intro X hB hR H locs arr hH hS hL hv hw
  have hk := fun arr' (hL' : lv_has arr' (m_L M) (lo_l (g_ad Γ) ls')) => k X hB hR H locs arr' hH hS hL' (liv_set (liv_set hv (show liv (aL x) from trivial) rfl) (show liv aX from trivial) he) (List.forall_mem_cons.mp hw).2
  obtain ⟨p, e, R, s, m, args, below, meth, c, cells, slots, QQ⟩ := X
  obtain ⟨hx, hb, -⟩ := hB
  exact lv_lstore_n hx hb hd rfl hL hi rfl (fun arr' h' => hk arr' (lo_setL h' hn he))
theorem aw_iinc {n : Nat} {d : Int} {x v : Int32} (hd : decode (m_c M) pc = .ok (.iinc n d, 3)) (hl : ls[n]? = some (aI x)) (hv : x + Int32.ofInt d = v) (hi : n < m_L M) (hn : lo_nl ls n = true) (he : ls.set n (aI v) = ls') (k : aw Γ M (pc + 3) ls' st μ Q) : aw Γ M pc ls st μ Q := aw_l k hn he (fun _ _ => trivial) (fun h => h) (fun hx hb hL kk => by
  obtain ⟨j, hj⟩ := List.getElem?_of_mem (lo_mem.mpr ⟨aI x, hl, by simp, rfl⟩ : (n, cv (g_ad Γ) (aI x)) ∈ lo_l (g_ad Γ) ls)
  exact lv_iinc hx hb hd hL hj hv hi rfl kk)
theorem aw_icmp_eq {x y : Int32} {off : Int} {tgt : Nat} (hd : decode (m_c M) pc = .ok (.if_icmp .eq off, 3)) (ht : (pc : Int) + off = (tgt : Int)) (kt : x = y → aw Γ M tgt ls st μ Q) (kf : ¬ x = y → aw Γ M (pc + 3) ls st μ Q) : aw Γ M pc ls (aI y :: aI x :: st) μ Q := by
  intro X hB hR H locs arr hH hS hL hv hw
  have hk := fun c => kt c X hB hR H locs arr hH hS hL hv (List.forall_mem_cons.mp (List.forall_mem_cons.mp hw).2).2
  have hj := fun c => kf c X hB hR H locs arr hH hS hL hv (List.forall_mem_cons.mp (List.forall_mem_cons.mp hw).2).2
  obtain ⟨p, e, R, s, m, args, below, meth, c, cells, slots, QQ⟩ := X
  obtain ⟨hx, hb, -⟩ := hB
  exact lv_icmp_eq hx hb hd ht hk hj
theorem aw_if_eq {x : Int32} {off : Int} {tgt : Nat} (hd : decode (m_c M) pc = .ok (.ifCond .eq off, 3)) (ht : (pc : Int) + off = (tgt : Int)) (kt : x = 0 → aw Γ M tgt ls st μ Q) (kf : ¬ x = 0 → aw Γ M (pc + 3) ls st μ Q) : aw Γ M pc ls (aI x :: st) μ Q := by
  intro X hB hR H locs arr hH hS hL hv hw
  have hk := fun c => kt c X hB hR H locs arr hH hS hL hv (List.forall_mem_cons.mp hw).2
  have hj := fun c => kf c X hB hR H locs arr hH hS hL hv (List.forall_mem_cons.mp hw).2
  obtain ⟨p, e, R, s, m, args, below, meth, c, cells, slots, QQ⟩ := X
  obtain ⟨hx, hb, -⟩ := hB
  exact lv_if_eq hx hb hd ht hk hj
theorem aw_icmp_ne {x y : Int32} {off : Int} {tgt : Nat} (hd : decode (m_c M) pc = .ok (.if_icmp .ne off, 3)) (ht : (pc : Int) + off = (tgt : Int)) (kt : ¬ x = y → aw Γ M tgt ls st μ Q) (kf : x = y → aw Γ M (pc + 3) ls st μ Q) : aw Γ M pc ls (aI y :: aI x :: st) μ Q := by
  intro X hB hR H locs arr hH hS hL hv hw
  have hk := fun c => kt c X hB hR H locs arr hH hS hL hv (List.forall_mem_cons.mp (List.forall_mem_cons.mp hw).2).2
  have hj := fun c => kf c X hB hR H locs arr hH hS hL hv (List.forall_mem_cons.mp (List.forall_mem_cons.mp hw).2).2
  obtain ⟨p, e, R, s, m, args, below, meth, c, cells, slots, QQ⟩ := X
  obtain ⟨hx, hb, -⟩ := hB
  exact lv_icmp_ne hx hb hd ht hk hj
theorem aw_if_ne {x : Int32} {off : Int} {tgt : Nat} (hd : decode (m_c M) pc = .ok (.ifCond .ne off, 3)) (ht : (pc : Int) + off = (tgt : Int)) (kt : ¬ x = 0 → aw Γ M tgt ls st μ Q) (kf : x = 0 → aw Γ M (pc + 3) ls st μ Q) : aw Γ M pc ls (aI x :: st) μ Q := by
  intro X hB hR H locs arr hH hS hL hv hw
  have hk := fun c => kt c X hB hR H locs arr hH hS hL hv (List.forall_mem_cons.mp hw).2
  have hj := fun c => kf c X hB hR H locs arr hH hS hL hv (List.forall_mem_cons.mp hw).2
  obtain ⟨p, e, R, s, m, args, below, meth, c, cells, slots, QQ⟩ := X
  obtain ⟨hx, hb, -⟩ := hB
  exact lv_if_ne hx hb hd ht hk hj
theorem aw_icmp_lt {x y : Int32} {off : Int} {tgt : Nat} (hd : decode (m_c M) pc = .ok (.if_icmp .lt off, 3)) (ht : (pc : Int) + off = (tgt : Int)) (kt : x < y → aw Γ M tgt ls st μ Q) (kf : ¬ x < y → aw Γ M (pc + 3) ls st μ Q) : aw Γ M pc ls (aI y :: aI x :: st) μ Q := by
  intro X hB hR H locs arr hH hS hL hv hw
  have hk := fun c => kt c X hB hR H locs arr hH hS hL hv (List.forall_mem_cons.mp (List.forall_mem_cons.mp hw).2).2
  have hj := fun c => kf c X hB hR H locs arr hH hS hL hv (List.forall_mem_cons.mp (List.forall_mem_cons.mp hw).2).2
  obtain ⟨p, e, R, s, m, args, below, meth, c, cells, slots, QQ⟩ := X
  obtain ⟨hx, hb, -⟩ := hB
  exact lv_icmp_lt hx hb hd ht hk hj
theorem aw_if_lt {x : Int32} {off : Int} {tgt : Nat} (hd : decode (m_c M) pc = .ok (.ifCond .lt off, 3)) (ht : (pc : Int) + off = (tgt : Int)) (kt : x < 0 → aw Γ M tgt ls st μ Q) (kf : ¬ x < 0 → aw Γ M (pc + 3) ls st μ Q) : aw Γ M pc ls (aI x :: st) μ Q := by
  intro X hB hR H locs arr hH hS hL hv hw
  have hk := fun c => kt c X hB hR H locs arr hH hS hL hv (List.forall_mem_cons.mp hw).2
  have hj := fun c => kf c X hB hR H locs arr hH hS hL hv (List.forall_mem_cons.mp hw).2
  obtain ⟨p, e, R, s, m, args, below, meth, c, cells, slots, QQ⟩ := X
  obtain ⟨hx, hb, -⟩ := hB
  exact lv_if_lt hx hb hd ht hk hj
theorem aw_icmp_ge {x y : Int32} {off : Int} {tgt : Nat} (hd : decode (m_c M) pc = .ok (.if_icmp .ge off, 3)) (ht : (pc : Int) + off = (tgt : Int)) (kt : y ≤ x → aw Γ M tgt ls st μ Q) (kf : ¬ y ≤ x → aw Γ M (pc + 3) ls st μ Q) : aw Γ M pc ls (aI y :: aI x :: st) μ Q := by
  intro X hB hR H locs arr hH hS hL hv hw
  have hk := fun c => kt c X hB hR H locs arr hH hS hL hv (List.forall_mem_cons.mp (List.forall_mem_cons.mp hw).2).2
  have hj := fun c => kf c X hB hR H locs arr hH hS hL hv (List.forall_mem_cons.mp (List.forall_mem_cons.mp hw).2).2
  obtain ⟨p, e, R, s, m, args, below, meth, c, cells, slots, QQ⟩ := X
  obtain ⟨hx, hb, -⟩ := hB
  exact lv_icmp_ge hx hb hd ht hk hj
theorem aw_if_ge {x : Int32} {off : Int} {tgt : Nat} (hd : decode (m_c M) pc = .ok (.ifCond .ge off, 3)) (ht : (pc : Int) + off = (tgt : Int)) (kt : 0 ≤ x → aw Γ M tgt ls st μ Q) (kf : ¬ 0 ≤ x → aw Γ M (pc + 3) ls st μ Q) : aw Γ M pc ls (aI x :: st) μ Q := by
  intro X hB hR H locs arr hH hS hL hv hw
  have hk := fun c => kt c X hB hR H locs arr hH hS hL hv (List.forall_mem_cons.mp hw).2
  have hj := fun c => kf c X hB hR H locs arr hH hS hL hv (List.forall_mem_cons.mp hw).2
  obtain ⟨p, e, R, s, m, args, below, meth, c, cells, slots, QQ⟩ := X
  obtain ⟨hx, hb, -⟩ := hB
  exact lv_if_ge hx hb hd ht hk hj
theorem aw_icmp_gt {x y : Int32} {off : Int} {tgt : Nat} (hd : decode (m_c M) pc = .ok (.if_icmp .gt off, 3)) (ht : (pc : Int) + off = (tgt : Int)) (kt : y < x → aw Γ M tgt ls st μ Q) (kf : ¬ y < x → aw Γ M (pc + 3) ls st μ Q) : aw Γ M pc ls (aI y :: aI x :: st) μ Q := by
  intro X hB hR H locs arr hH hS hL hv hw
  have hk := fun c => kt c X hB hR H locs arr hH hS hL hv (List.forall_mem_cons.mp (List.forall_mem_cons.mp hw).2).2
  have hj := fun c => kf c X hB hR H locs arr hH hS hL hv (List.forall_mem_cons.mp (List.forall_mem_cons.mp hw).2).2
  obtain ⟨p, e, R, s, m, args, below, meth, c, cells, slots, QQ⟩ := X
  obtain ⟨hx, hb, -⟩ := hB
  exact lv_icmp_gt hx hb hd ht hk hj
theorem aw_if_gt {x : Int32} {off : Int} {tgt : Nat} (hd : decode (m_c M) pc = .ok (.ifCond .gt off, 3)) (ht : (pc : Int) + off = (tgt : Int)) (kt : 0 < x → aw Γ M tgt ls st μ Q) (kf : ¬ 0 < x → aw Γ M (pc + 3) ls st μ Q) : aw Γ M pc ls (aI x :: st) μ Q := by
  intro X hB hR H locs arr hH hS hL hv hw
  have hk := fun c => kt c X hB hR H locs arr hH hS hL hv (List.forall_mem_cons.mp hw).2
  have hj := fun c => kf c X hB hR H locs arr hH hS hL hv (List.forall_mem_cons.mp hw).2
  obtain ⟨p, e, R, s, m, args, below, meth, c, cells, slots, QQ⟩ := X
  obtain ⟨hx, hb, -⟩ := hB
  exact lv_if_gt hx hb hd ht hk hj
theorem aw_icmp_le {x y : Int32} {off : Int} {tgt : Nat} (hd : decode (m_c M) pc = .ok (.if_icmp .le off, 3)) (ht : (pc : Int) + off = (tgt : Int)) (kt : x ≤ y → aw Γ M tgt ls st μ Q) (kf : ¬ x ≤ y → aw Γ M (pc + 3) ls st μ Q) : aw Γ M pc ls (aI y :: aI x :: st) μ Q := by
  intro X hB hR H locs arr hH hS hL hv hw
  have hk := fun c => kt c X hB hR H locs arr hH hS hL hv (List.forall_mem_cons.mp (List.forall_mem_cons.mp hw).2).2
  have hj := fun c => kf c X hB hR H locs arr hH hS hL hv (List.forall_mem_cons.mp (List.forall_mem_cons.mp hw).2).2
  obtain ⟨p, e, R, s, m, args, below, meth, c, cells, slots, QQ⟩ := X
  obtain ⟨hx, hb, -⟩ := hB
  exact lv_icmp_le hx hb hd ht hk hj
theorem aw_if_le {x : Int32} {off : Int} {tgt : Nat} (hd : decode (m_c M) pc = .ok (.ifCond .le off, 3)) (ht : (pc : Int) + off = (tgt : Int)) (kt : x ≤ 0 → aw Γ M tgt ls st μ Q) (kf : ¬ x ≤ 0 → aw Γ M (pc + 3) ls st μ Q) : aw Γ M pc ls (aI x :: st) μ Q := by
  intro X hB hR H locs arr hH hS hL hv hw
  have hk := fun c => kt c X hB hR H locs arr hH hS hL hv (List.forall_mem_cons.mp hw).2
  have hj := fun c => kf c X hB hR H locs arr hH hS hL hv (List.forall_mem_cons.mp hw).2
  obtain ⟨p, e, R, s, m, args, below, meth, c, cells, slots, QQ⟩ := X
  obtain ⟨hx, hb, -⟩ := hB
  exact lv_if_le hx hb hd ht hk hj
theorem aw_ifnull {K : Nat} {o : Option Nat} {off : Int} {tgt : Nat} (hd : decode (m_c M) pc = .ok (.ifnull off, 3)) (ht : (pc : Int) + off = (tgt : Int)) (kt : o = none → aw Γ M tgt ls st μ Q) (kf : ∀ i, o = some i → i < kn K → aw Γ M (pc + 3) ls st μ Q) : aw Γ M pc ls (aQ K o :: st) μ Q := by
  intro X hB hR H locs arr hH hS hL hv hw
  have hl := (List.forall_mem_cons.mp hw).1
  have hw := (List.forall_mem_cons.mp hw).2
  have hk := fun c => kt c X hB hR H locs arr hH hS hL hv hw
  have hj := fun i c h => kf i c h X hB hR H locs arr hH hS hL hv hw
  obtain ⟨p, e, R, s, m, args, below, meth, c, cells, slots, QQ⟩ := X
  obtain ⟨hx, hb, -⟩ := hB
  cases o with
  | none => exact lv_ifnullN hx hb hd ht (hk rfl)
  | some i => exact lv_ifnull hx hb hd (hj i rfl hl)
theorem aw_ifnonnull {K : Nat} {o : Option Nat} {off : Int} {tgt : Nat} (hd : decode (m_c M) pc = .ok (.ifnonnull off, 3)) (ht : (pc : Int) + off = (tgt : Int)) (kt : ∀ i, o = some i → i < kn K → aw Γ M tgt ls st μ Q) (kf : o = none → aw Γ M (pc + 3) ls st μ Q) : aw Γ M pc ls (aQ K o :: st) μ Q := by
  intro X hB hR H locs arr hH hS hL hv hw
  have hl := (List.forall_mem_cons.mp hw).1
  have hw := (List.forall_mem_cons.mp hw).2
  have hk := fun c => kf c X hB hR H locs arr hH hS hL hv hw
  have hj := fun i c h => kt i c h X hB hR H locs arr hH hS hL hv hw
  obtain ⟨p, e, R, s, m, args, below, meth, c, cells, slots, QQ⟩ := X
  obtain ⟨hx, hb, -⟩ := hB
  cases o with
  | none => exact lv_ifnonnullN hx hb hd (hk rfl)
  | some i => exact lv_ifnonnull hx hb hd ht (hj i rfl hl)
theorem aw_tableIn {dflt lo hi : Int} {offs : Array Int} {len : Nat} {x : Int32} {off : Int} {tgt : Nat} (hd : decode (m_c M) pc = .ok (.tableswitch dflt lo hi offs, len)) (h1 : ¬ x.toInt < lo) (h2 : ¬ hi < x.toInt) (ho : offs[(x.toInt - lo).toNat]? = some off) (ht : (pc : Int) + off = (tgt : Int)) (k : aw Γ M tgt ls st μ Q) : aw Γ M pc ls (aI x :: st) μ Q := aw_s k (fun _ h => (List.forall_mem_cons.mp h).2) (fun hx hb hL kk => lv_tableIn hx hb hd h1 h2 ho ht kk)
theorem aw_tableOut {dflt lo hi : Int} {offs : Array Int} {len : Nat} {x : Int32} {tgt : Nat} (hd : decode (m_c M) pc = .ok (.tableswitch dflt lo hi offs, len)) (h : x.toInt < lo ∨ hi < x.toInt) (ht : (pc : Int) + dflt = (tgt : Int)) (k : aw Γ M tgt ls st μ Q) : aw Γ M pc ls (aI x :: st) μ Q := aw_s k (fun _ h => (List.forall_mem_cons.mp h).2) (fun hx hb hL kk => lv_tableOut hx hb hd h ht kk)
theorem aw_lookup {dflt : Int} {ps : Array (Int × Int)} {len : Nat} {x : Int32} {off : Int} {tgt : Nat} (hd : decode (m_c M) pc = .ok (.lookupswitch dflt ps, len)) (hp : (ps.toList.zip (ps.toList.drop 1)).all (fun (a, next) => a.1 < next.1) = true) (ho : Op.lookupswitch.offset ps.toList dflt x.toInt = off) (ht : (pc : Int) + off = (tgt : Int)) (k : aw Γ M tgt ls st μ Q) : aw Γ M pc ls (aI x :: st) μ Q := aw_s k (fun _ h => (List.forall_mem_cons.mp h).2) (fun hx hb hL kk => lv_lookup hx hb hd hp ho ht kk)
end AW
end
section
theorem gw_lay (C : String) (T : u_T) (k : Nat) : goodWord (u_lay C T k) = true := by
  unfold u_lay
  split <;> rfl
theorem gw_ws {C : String} {T : u_T} {N : Nat} (h : ∀ w ∈ u_ws C T N, w ∈ lw_tbl) : ∀ w ∈ u_ws C T N, w ∈ tb_g := fun w hw => List.mem_filter.mpr ⟨h w hw, by
  obtain ⟨k, -, rfl⟩ := List.mem_map.mp hw
  exact gw_lay C T k⟩
def tyT (ci k : Nat) : FieldType := match ci with
  | 0 => tyX0 k | 1 => tyX1 k | 2 => tyX2 k | 3 => tyX3 k | 4 => tyX4 k | 5 => tyX5 k | 6 => tyX6 k | 7 => tyX7 k | 8 => tyX8 k | 9 => tyX9 k | 10 => tyX10 k | 11 => tyX11 k | _ => tyX12 k
theorem cls_ok : ∀ {ci : Nat} {r : vw_C}, vwCl[ci]? = some r → (∀ w ∈ u_ws r.1 r.2.1 r.2.2, w ∈ tb_g) ∧ (∀ k, k < r.2.2 → parseFieldDescriptor (r.2.1 k).2.2.1 = some (tyT ci k)) ∧ (∀ a, a < r.2.2 → ∀ b, b < r.2.2 → a ≠ b → (r.2.1 a).2.1 ≠ (r.2.1 b).2.1)
  | 0, r, h => by cases h; exact ⟨gw_ws inX0, tyX0_ok, nmX0⟩
  | 1, r, h => by cases h; exact ⟨gw_ws inX1, tyX1_ok, nmX1⟩
  | 2, r, h => by cases h; exact ⟨gw_ws inX2, tyX2_ok, nmX2⟩
  | 3, r, h => by cases h; exact ⟨gw_ws inX3, tyX3_ok, nmX3⟩
  | 4, r, h => by cases h; exact ⟨gw_ws inX4, tyX4_ok, nmX4⟩
  | 5, r, h => by cases h; exact ⟨gw_ws inX5, tyX5_ok, nmX5⟩
  | 6, r, h => by cases h; exact ⟨gw_ws inX6, tyX6_ok, nmX6⟩
  | 7, r, h => by cases h; exact ⟨gw_ws inX7, tyX7_ok, nmX7⟩
  | 8, r, h => by cases h; exact ⟨gw_ws inX8, tyX8_ok, nmX8⟩
  | 9, r, h => by cases h; exact ⟨gw_ws inX9, tyX9_ok, nmX9⟩
  | 10, r, h => by cases h; exact ⟨gw_ws inX10, tyX10_ok, nmX10⟩
  | 11, r, h => by cases h; exact ⟨gw_ws inX11, tyX11_ok, nmX11⟩
  | 12, r, h => by cases h; exact ⟨gw_ws inX12, tyX12_ok, nmX12⟩
  | n + 13, r, h => by simp [vwCl] at h
/-- a field of a class, as an entry of the pool of 'own' -/
def fk (own : String) (idx ci f : Nat) : Prop := ∃ r : vw_C, vwCl[ci]? = some r ∧ f < r.2.2 ∧ Cond.fieldLink own idx (r.2.1 f).1 (r.2.1 f).2.1 (r.2.1 f).2.2.1 ∈ tb_g
theorem cls_N : ∀ {ci : Nat} {r : vw_C}, vwCl[ci]? = some r → r.2.2 ≤ 100 := by
  intro ci r h
  have h2 := List.mem_of_getElem? h
  have : ∀ q ∈ vwCl.map (fun q => q.2.2), q ≤ 100 := by decide
  exact this _ (List.mem_map.mpr ⟨r, h2, rfl⟩)
section AH
variable {Γ : cx_T} {M : mt_T} {pc : Nat} {ls ls' st : List aV} {μ : mH} {Q : aV → mH → Prop}
theorem aw_get {K i ci f idx : Nat} {v : aV} (hd : decode (m_c M) pc = .ok (.getfield idx, 3)) (hk : kd K = some (.inl ci)) (hf : fk (m_y M).cls idx ci f) (hv : look μ K i f = v) (k : aw Γ M (pc + 3) ls (v :: st) μ Q) : aw Γ M pc ls (aR K i :: st) μ Q := by
  intro X hB hR H locs arr hH hS hL hl hw
  have hi : i < kn K := (List.forall_mem_cons.mp hw).1
  have hk' := k X hB hR H locs arr hH hS hL hl (List.forall_mem_cons.mpr ⟨by rw [← hv]; exact liv_look hi (fun ty n e => by rw [hk] at e; cases e), (List.forall_mem_cons.mp hw).2⟩)
  obtain ⟨p, e, R, s, m, args, below, meth, c, cells, slots, QQ⟩ := X
  obtain ⟨hx, hb, hml, hown, hvm, -⟩ := hB
  obtain ⟨r, hr, hfN, hlink⟩ := hf
  obtain ⟨r', hr', cell, q1, q2, q3, q4⟩ := rp_obj hH hi hk
  cases hr.symm.trans hr'
  obtain ⟨hSl, hfc, kC, hkC, hkind⟩ := hvm.2.2.2.1 ci r hr
  obtain ⟨cf, kf, fi, f', hi', hsl⟩ := hSl f hfN
  refine W.getf hx hb hown (hvm.2.1 _ hlink args) hi' (u_facts hfc hkC (u_lays (fun w h => hvm.2.1 w h args) (cls_ok hr).1 hfN) hi').1 q1 (by rw [q3]; exact fun h => by cases h) (v := cv (g_ad Γ) v) ?_ rfl rfl hd hk'
  rw [hsl, q4 f hfN, ← hv]
theorem aw_put {K i ci f idx : Nat} {v : aV} {μ' : mH} (hd : decode (m_c M) pc = .ok (.putfield idx, 3)) (hk : kd K = some (.inl ci)) (hf : fk (m_y M).cls idx ci f) (hfin : ∀ r : vw_C, vwCl[ci]? = some r → (r.2.1 f).2.2.2 = false) (hn : ∀ ad, narrow (tyT ci f) (cv ad v) = cv ad v) (hfit : ∀ ad, fits (tyT ci f) (cv ad v) = true) (hl1 : ∀ K' i' s', ¬ (K' = K ∧ i' = i) → look μ' K' i' s' = look μ K' i' s') (hl2 : ∀ s', s' < 100 → look μ' K i s' = if s' = f then v else look μ K i s') (k : aw Γ M (pc + 3) ls st μ' Q) : aw Γ M pc ls (v :: aR K i :: st) μ Q := by
  intro X hB hR H locs arr hH hS hL hl hw
  have hi : i < kn K := (List.forall_mem_cons.mp (List.forall_mem_cons.mp hw).2).1
  have hk' := fun H' locs' h1 h2 => k X hB hR H' locs' arr h1 h2 hL hl (List.forall_mem_cons.mp (List.forall_mem_cons.mp hw).2).2
  obtain ⟨p, e, R, s, m, args, below, meth, c, cells, slots, QQ⟩ := X
  obtain ⟨hx, hb, hml, hown, hvm, -⟩ := hB
  obtain ⟨r, hr, hfN, hlink⟩ := hf
  obtain ⟨r', hr', cell, q1, q2, q3, q4⟩ := rp_obj hH hi hk
  cases hr.symm.trans hr'
  obtain ⟨hin, hty, hnm⟩ := cls_ok hr
  have hts : ∀ w ∈ tb_g, w.before args s = true := fun w h => hvm.2.1 w h args
  obtain ⟨hSl, hfc, kC, hkC, hkind⟩ := hvm.2.2.2.1 ci r hr
  obtain ⟨cf, kf, fi, f', hi', hsl⟩ := hSl f hfN
  have hlay := hts _ (hin _ (u_in_lay hfN))
  unfold u_lay at hlay
  rw [if_neg (by rw [hfin r hr]; decide)] at hlay
  have hst := (u_facts hfc hkC (u_lays hts hin hfN) hi').1
  have h6 := u_store hfc hkC hkind hlay hi' (hty f hfN) (hn (g_ad Γ)) (hfit (g_ad Γ))
  have hap : ∀ x y, x < r.2.2 → y < r.2.2 → x ≠ y → (g_dI Γ ci) x ≠ (g_dI Γ ci) y := by
    intro x y hx hy hne
    obtain ⟨_, _, _, fa, hia, ea⟩ := hSl x hx
    obtain ⟨_, _, _, fb, hib, eb⟩ := hSl y hy
    rw [← ea, ← eb]
    refine u_apart (u_lays hts hin hx) (u_lays hts hin hy) hia hib ?_
    rw [(State.fieldFound?_type hia (hty x hx)).1, (State.fieldFound?_type hib (hty y hy)).1]
    exact hnm x hx y hy hne
  refine W.putK hx hb (f := f') ⟨hown, hts _ hlink, ⟨_, _, _, hi'⟩, hst⟩ (by rw [q2]; exact h6) q1 q3 (by rw [hsl]; exact k2_hasslot (q4 f hfN)) rfl rfl hd fun H' e1 e2 e3 => ?_
  rw [hsl] at e1 ⊢
  refine hk' H' _ (rp_set hvm.1 hH hi (by rw [hk]; simp) e2 e3 ?_ hl1) (hS.put e2 e3 (hvm.1.2 K i (by rw [hk]; simp) hi))
  unfold rp_c
  rw [hk]
  refine ⟨r, hr, t_OB.to (V := updV (fun s => cv (g_ad Γ) (look μ K i s)) f (cv (g_ad Γ) v)) ⟨_, e1, q2, q3, t_set q4 hap hfN _⟩ (fun j hj => ?_)⟩
  unfold updV
  dsimp only
  rw [hl2 j (Nat.lt_of_lt_of_le hj (cls_N hr))]
  by_cases hjf : j = f
  · rw [if_pos hjf, if_pos hjf]
  · rw [if_neg hjf, if_neg hjf]
theorem aw_putI {K i ci f idx : Nat} {x : Int32} (hd : decode (m_c M) pc = .ok (.putfield idx, 3)) (hk : kd K = some (.inl ci)) (hf : fk (m_y M).cls idx ci f) (hfin : ∀ r : vw_C, vwCl[ci]? = some r → (r.2.1 f).2.2.2 = false) (ht : tyT ci f = .int) (hI : isI K f = true) (k : aw Γ M (pc + 3) ls st (sto μ K i f x) Q) : aw Γ M pc ls (aI x :: aR K i :: st) μ Q :=
  aw_put hd hk hf hfin (fun _ => by rw [ht]; rfl) (fun _ => by rw [ht]; rfl) (fun K' i' s' h => by rw [look_sto hI, if_neg (fun q => h ⟨q.1, q.2.1⟩)]) (fun s' _ => by rw [look_sto hI]; by_cases e : s' = f <;> simp [e]) k
theorem nar_z {x : Int32} (h : x = 0 ∨ x = 1) : narrow .boolean (.int x) = .int x ∧ fits .boolean (.int x) = true := by
  rcases h with rfl | rfl <;> exact ⟨by decide, by decide⟩
theorem aw_putZ {K i ci f idx : Nat} {x : Int32} (hd : decode (m_c M) pc = .ok (.putfield idx, 3)) (hk : kd K = some (.inl ci)) (hf : fk (m_y M).cls idx ci f) (hfin : ∀ r : vw_C, vwCl[ci]? = some r → (r.2.1 f).2.2.2 = false) (ht : tyT ci f = .boolean) (hI : isI K f = true) (hz : x = 0 ∨ x = 1) (k : aw Γ M (pc + 3) ls st (sto μ K i f x) Q) : aw Γ M pc ls (aI x :: aR K i :: st) μ Q :=
  aw_put hd hk hf hfin (fun _ => by rw [ht]; exact (nar_z hz).1) (fun _ => by rw [ht]; exact (nar_z hz).2) (fun K' i' s' h => by rw [look_sto hI, if_neg (fun q => h ⟨q.1, q.2.1⟩)]) (fun s' _ => by rw [look_sto hI]; by_cases e : s' = f <;> simp [e]) k
/-- the one long: value of the reference -/
theorem look_L {μ : mH} {i : Nat} {x : Int64} (K' i' s' : Nat) : look (sto (sto μ 12 i 5 (hiL x)) 12 i 100 (loL x)) K' i' s' = if K' = 12 ∧ i' = i ∧ s' = 5 then aL x else if K' = 12 ∧ i' = i ∧ s' = 100 then aI (loL x) else look μ K' i' s' := by
  by_cases h1 : K' = 12 ∧ i' = i
  · obtain ⟨rfl, rfl⟩ := h1
    by_cases h2 : s' = 5
    · subst h2
      rw [if_pos ⟨rfl, rfl, rfl⟩]
      show aL (mkL (sto (sto μ 12 i' 5 (hiL x)) 12 i' 100 (loL x) 12 i' 5) (sto (sto μ 12 i' 5 (hiL x)) 12 i' 100 (loL x) 12 i' 100)) = aL x
      rw [sto_eq, sto_s (by decide), sto_eq, mkL_hl]
    · rw [if_neg (fun q => h2 q.2.2)]
      by_cases h3 : s' = 100
      · subst h3
        rw [if_pos ⟨rfl, rfl, rfl⟩]
        show aI (sto _ 12 i' 100 _ 12 i' 100) = _
        rw [sto_eq]
      · rw [if_neg (fun q => h3 q.2.2)]
        unfold look
        split
        · rfl
        · split
          · rename_i e; exact absurd e (by decide)
          · split
            · rename_i e; exact absurd e.2 h2
            · rw [sto_s h3, sto_s h2]
  · rw [if_neg (fun q => h1 ⟨q.1, q.2.1⟩), if_neg (fun q => h1 ⟨q.1, q.2.1⟩)]
    have hs : ∀ s, sto (sto μ 12 i 5 (hiL x)) 12 i 100 (loL x) K' i' s = μ K' i' s := fun s => by rw [sto_ne (fun q => h1 ⟨q.1, q.2.1⟩), sto_ne (fun q => h1 ⟨q.1, q.2.1⟩)]
    unfold look
    simp only [hs]
theorem aw_putL {i idx : Nat} {x : Int64} (hd : decode (m_c M) pc = .ok (.putfield idx, 3)) (hf : fk (m_y M).cls idx 12 5) (k : aw Γ M (pc + 3) ls st (sto (sto μ 12 i 5 (hiL x)) 12 i 100 (loL x)) Q) : aw Γ M pc ls (aL x :: aR 12 i :: st) μ Q :=
  aw_put hd rfl hf (fun r h => by cases h; rfl) (fun _ => rfl) (fun _ => rfl) (fun K' i' s' h => by rw [look_L, if_neg (fun q => h ⟨q.1, q.2.1⟩), if_neg (fun q => h ⟨q.1, q.2.1⟩)]) (fun s' h => by
    rw [look_L]
    by_cases e : s' = 5
    · rw [if_pos ⟨rfl, rfl, e⟩, if_pos e]
    · rw [if_neg (fun q => e q.2.2), if_neg e, if_neg (fun q => absurd q.2.2 (by omega))]) k
/-- arrays -/
theorem aw_iald {K i n : Nat} {x : Int32} (hd : decode (m_c M) pc = .ok (.iaload, 1)) (hk : kd K = some (.inr (.int, n))) (hI : ∀ s, isI K s = true) (hin : vp_in x n) (k : aw Γ M (pc + 1) ls (aI (μ K i x.toNatClampNeg) :: st) μ Q) : aw Γ M pc ls (aI x :: aR K i :: st) μ Q := by
  intro X hB hR H locs arr hH hS hL hl hw
  have hi : i < kn K := (List.forall_mem_cons.mp (List.forall_mem_cons.mp hw).2).1
  have hk' := k X hB hR H locs arr hH hS hL hl (List.forall_mem_cons.mpr ⟨trivial, (List.forall_mem_cons.mp (List.forall_mem_cons.mp hw).2).2⟩)
  obtain ⟨p, e, R, s, m, args, below, meth, c, cells, slots, QQ⟩ := X
  obtain ⟨hx, hb, hml, hown, hvm, -⟩ := hB
  have hlt : x.toNatClampNeg < n := Nat.not_le.mp fun q => hin (Or.inr q)
  exact W.iald (v := .int (μ K i x.toNatClampNeg)) hx hb (rp_arr hH hi hk) ((hvm.2.2.2.2.1 K _ n hk).1 n _) (fun q => by cases q) (by show ¬ (x < 0 ∨ (arrV _ _ _).slots.size ≤ _); rw [arrV_size]; exact hin) (by show (arrV _ _ _).slots[_]? = _; rw [arrV_read _ _ hlt, look_I (hI _)]; rfl) rfl rfl hd hk'
theorem aw_bald {K i n : Nat} {x : Int32} (hd : decode (m_c M) pc = .ok (.baload, 1)) (hk : kd K = some (.inr (.byte, n))) (hI : ∀ s, isI K s = true) (hin : vp_in x n) (k : aw Γ M (pc + 1) ls (aI (μ K i x.toNatClampNeg) :: st) μ Q) : aw Γ M pc ls (aI x :: aR K i :: st) μ Q := by
  intro X hB hR H locs arr hH hS hL hl hw
  have hi : i < kn K := (List.forall_mem_cons.mp (List.forall_mem_cons.mp hw).2).1
  have hk' := k X hB hR H locs arr hH hS hL hl (List.forall_mem_cons.mpr ⟨trivial, (List.forall_mem_cons.mp (List.forall_mem_cons.mp hw).2).2⟩)
  obtain ⟨p, e, R, s, m, args, below, meth, c, cells, slots, QQ⟩ := X
  obtain ⟨hx, hb, hml, hown, hvm, -⟩ := hB
  have hlt : x.toNatClampNeg < n := Nat.not_le.mp fun q => hin (Or.inr q)
  exact W.bald (v := .int (μ K i x.toNatClampNeg)) hx hb (rp_arr hH hi hk) ((hvm.2.2.2.2.1 K _ n hk).1 n _) (fun q => by cases q) (by show ¬ (x < 0 ∨ (arrV _ _ _).slots.size ≤ _); rw [arrV_size]; exact hin) (by show (arrV _ _ _).slots[_]? = _; rw [arrV_read _ _ hlt, look_I (hI _)]; rfl) rfl rfl hd hk'
theorem aw_zald {K i n : Nat} {x : Int32} (hd : decode (m_c M) pc = .ok (.baload, 1)) (hk : kd K = some (.inr (.boolean, n))) (hI : ∀ s, isI K s = true) (hin : vp_in x n) (k : aw Γ M (pc + 1) ls (aI (μ K i x.toNatClampNeg) :: st) μ Q) : aw Γ M pc ls (aI x :: aR K i :: st) μ Q := by
  intro X hB hR H locs arr hH hS hL hl hw
  have hi : i < kn K := (List.forall_mem_cons.mp (List.forall_mem_cons.mp hw).2).1
  have hk' := k X hB hR H locs arr hH hS hL hl (List.forall_mem_cons.mpr ⟨trivial, (List.forall_mem_cons.mp (List.forall_mem_cons.mp hw).2).2⟩)
  obtain ⟨p, e, R, s, m, args, below, meth, c, cells, slots, QQ⟩ := X
  obtain ⟨hx, hb, hml, hown, hvm, -⟩ := hB
  have hlt : x.toNatClampNeg < n := Nat.not_le.mp fun q => hin (Or.inr q)
  exact W.zald (v := .int (μ K i x.toNatClampNeg)) hx hb (rp_arr hH hi hk) ((hvm.2.2.2.2.1 K _ n hk).1 n _) (fun q => by cases q) (by show ¬ (x < 0 ∨ (arrV _ _ _).slots.size ≤ _); rw [arrV_size]; exact hin) (by show (arrV _ _ _).slots[_]? = _; rw [arrV_read _ _ hlt, look_I (hI _)]; rfl) rfl rfl hd hk'
theorem aw_aald {K i n : Nat} {ty : FieldType} {x : Int32} {v : aV} (hd : decode (m_c M) pc = .ok (.aaload, 1)) (hk : kd K = some (.inr (ty, n))) (hty : ty.isReference = true) (hin : vp_in x n) (hv : look μ K i x.toNatClampNeg = v) (k : aw Γ M (pc + 1) ls (v :: st) μ Q) : aw Γ M pc ls (aI x :: aR K i :: st) μ Q := by
  intro X hB hR H locs arr hH hS hL hl hw
  have hi : i < kn K := (List.forall_mem_cons.mp (List.forall_mem_cons.mp hw).2).1
  have hlt : x.toNatClampNeg < n := Nat.not_le.mp fun q => hin (Or.inr q)
  have hk' := k X hB hR H locs arr hH hS hL hl (List.forall_mem_cons.mpr ⟨by rw [← hv]; exact liv_look hi (fun ty n e => by rw [hk] at e; cases e; exact hlt), (List.forall_mem_cons.mp (List.forall_mem_cons.mp hw).2).2⟩)
  obtain ⟨p, e, R, s, m, args, below, meth, c, cells, slots, QQ⟩ := X
  obtain ⟨hx, hb, hml, hown, hvm, -⟩ := hB
  exact W.aald (v := cv (g_ad Γ) v) (ty := ty) hx hb (rp_arr hH hi hk) ((hvm.2.2.2.2.1 K _ n hk).1 n _) hty (fun q => by cases q) (by show ¬ (x < 0 ∨ (arrV _ _ _).slots.size ≤ _); rw [arrV_size]; exact hin) (by show (arrV _ _ _).slots[_]? = _; rw [arrV_read _ _ hlt, hv]) rfl rfl hd hk'
/-- an array's cell behind a store -/
theorem rp_ast {μ μ' : mH} {H H' : Heap} (hG : g_ok Γ) (h : rp_H Γ μ H) {K i n j : Nat} {ty : FieldType} {v : aV} (hi : i < kn K) (hk : kd K = some (.inr (ty, n))) (e1 : H'[g_ad Γ K i]? = some ((arrV (g_cA Γ K) n (fun j => cv (g_ad Γ) (look μ K i j))).setSlot j (cv (g_ad Γ) v))) (hz : H'.size = H.size) (oq : ∀ q : Nat, q ≠ g_ad Γ K i → H'[q]? = H[q]?) (hlk : ∀ K' i' s', look μ' K' i' s' = if K' = K ∧ i' = i ∧ s' = j then v else look μ K' i' s') : rp_H Γ μ' H' := by
  refine rp_set hG h hi (by rw [hk]; simp) hz oq ?_ (fun K' i' s' h => by rw [hlk, if_neg (fun q => h ⟨q.1, q.2.1⟩)])
  unfold rp_c
  rw [hk]
  show H'[g_ad Γ K i]? = _
  rw [e1, arrV_store]
  refine congrArg some (congrArg (arrV (g_cA Γ K) n) (funext fun q => ?_))
  unfold updV
  rw [hlk]
  by_cases hq : q = j
  · rw [if_pos hq, if_pos ⟨rfl, rfl, hq⟩]
  · rw [if_neg hq, if_neg (fun z => hq z.2.2)]
theorem aw_iast {K i n : Nat} {x y : Int32} (hd : decode (m_c M) pc = .ok (.iastore, 1)) (hk : kd K = some (.inr (.int, n))) (hI : ∀ s, isI K s = true) (hin : vp_in x n) (k : aw Γ M (pc + 1) ls st (sto μ K i x.toNatClampNeg y) Q) : aw Γ M pc ls (aI y :: aI x :: aR K i :: st) μ Q := by
  intro X hB hR H locs arr hH hS hL hl hw
  have hw := (List.forall_mem_cons.mp (List.forall_mem_cons.mp hw).2).2
  have hi : i < kn K := (List.forall_mem_cons.mp hw).1
  have hk' := fun H' locs' h1 h2 => k X hB hR H' locs' arr h1 h2 hL hl (List.forall_mem_cons.mp hw).2
  obtain ⟨p, e, R, s, m, args, below, meth, c, cells, slots, QQ⟩ := X
  obtain ⟨hx, hb, hml, hown, hvm, -⟩ := hB
  refine W.iast hx hb (rp_arr hH hi hk) ((hvm.2.2.2.2.1 K _ n hk).1 n _) (fun q => by cases q) (by show ¬ (x < 0 ∨ (arrV _ _ _).slots.size ≤ _); rw [arrV_size]; exact hin) rfl rfl hd fun H' e1 e2 e3 => ?_
  exact hk' H' _ (rp_ast hvm.1 hH hi hk (v := aI y) e1 e2 e3 (fun _ _ _ => look_sto (hI _))) (hS.put e2 e3 (hvm.1.2 K i (by rw [hk]; simp) hi))
theorem aw_bast {K i n : Nat} {x y : Int32} (hd : decode (m_c M) pc = .ok (.bastore, 1)) (hk : kd K = some (.inr (.byte, n))) (hI : ∀ s, isI K s = true) (hin : vp_in x n) (k : aw Γ M (pc + 1) ls st (sto μ K i x.toNatClampNeg y.toInt8.toInt32) Q) : aw Γ M pc ls (aI y :: aI x :: aR K i :: st) μ Q := by
  intro X hB hR H locs arr hH hS hL hl hw
  have hw := (List.forall_mem_cons.mp (List.forall_mem_cons.mp hw).2).2
  have hi : i < kn K := (List.forall_mem_cons.mp hw).1
  have hk' := fun H' locs' h1 h2 => k X hB hR H' locs' arr h1 h2 hL hl (List.forall_mem_cons.mp hw).2
  obtain ⟨p, e, R, s, m, args, below, meth, c, cells, slots, QQ⟩ := X
  obtain ⟨hx, hb, hml, hown, hvm, -⟩ := hB
  refine W.bast hx hb (rp_arr hH hi hk) ((hvm.2.2.2.2.1 K _ n hk).1 n _) (fun q => by cases q) (by show ¬ (x < 0 ∨ (arrV _ _ _).slots.size ≤ _); rw [arrV_size]; exact hin) rfl rfl hd fun H' e1 e2 e3 => ?_
  exact hk' H' _ (rp_ast hvm.1 hH hi hk (v := aI y.toInt8.toInt32) e1 e2 e3 (fun _ _ _ => look_sto (hI _))) (hS.put e2 e3 (hvm.1.2 K i (by rw [hk]; simp) hi))
theorem aw_zast {K i n : Nat} {x y : Int32} (hd : decode (m_c M) pc = .ok (.bastore, 1)) (hk : kd K = some (.inr (.boolean, n))) (hI : ∀ s, isI K s = true) (hin : vp_in x n) (k : aw Γ M (pc + 1) ls st (sto μ K i x.toNatClampNeg (y &&& 1)) Q) : aw Γ M pc ls (aI y :: aI x :: aR K i :: st) μ Q := by
  intro X hB hR H locs arr hH hS hL hl hw
  have hw := (List.forall_mem_cons.mp (List.forall_mem_cons.mp hw).2).2
  have hi : i < kn K := (List.forall_mem_cons.mp hw).1
  have hk' := fun H' locs' h1 h2 => k X hB hR H' locs' arr h1 h2 hL hl (List.forall_mem_cons.mp hw).2
  obtain ⟨p, e, R, s, m, args, below, meth, c, cells, slots, QQ⟩ := X
  obtain ⟨hx, hb, hml, hown, hvm, -⟩ := hB
  refine W.zast hx hb (rp_arr hH hi hk) ((hvm.2.2.2.2.1 K _ n hk).1 n _) (fun q => by cases q) (by show ¬ (x < 0 ∨ (arrV _ _ _).slots.size ≤ _); rw [arrV_size]; exact hin) rfl rfl hd fun H' e1 e2 e3 => ?_
  exact hk' H' _ (rp_ast hvm.1 hH hi hk (v := aI (y &&& 1)) e1 e2 e3 (fun _ _ _ => look_sto (hI _))) (hS.put e2 e3 (hvm.1.2 K i (by rw [hk]; simp) hi))
theorem look_cp {μ : mH} {i j s : Nat} (hj : j < 88) (K' i' s' : Nat) : look (sto μ 26 i s (nI (j + 1))) K' i' s' = if K' = 26 ∧ i' = i ∧ s' = s then aR 7 j else look μ K' i' s' := by
  by_cases h : K' = 26 ∧ i' = i ∧ s' = s
  · obtain ⟨rfl, rfl, rfl⟩ := h
    rw [if_pos ⟨rfl, rfl, rfl⟩]
    show aQ 7 (cpo (sto μ 26 i' s' (nI (j + 1)) 26 i' s')) = _
    rw [sto_eq]
    unfold cpo
    rw [nI_clamp (by omega), if_pos (by omega)]
    rfl
  · rw [if_neg h]
    unfold look
    split
    · rfl
    · split
      · rw [sto_ne h]
      · rename_i e
        split
        · rw [sto_K e, sto_K e]
        · rw [sto_K e]
theorem aw_aast {i j : Nat} {x : Int32} (hd : decode (m_c M) pc = .ok (.aastore, 1)) (hin : vp_in x 80) (k : aw Γ M (pc + 1) ls st (sto μ 26 i x.toNatClampNeg (nI (j + 1))) Q) : aw Γ M pc ls (aR 7 j :: aI x :: aR 26 i :: st) μ Q := by
  intro X hB hR H locs arr hH hS hL hl hw
  have hj : j < kn 7 := (List.forall_mem_cons.mp hw).1
  have hw := (List.forall_mem_cons.mp (List.forall_mem_cons.mp hw).2).2
  have hi : i < kn 26 := (List.forall_mem_cons.mp hw).1
  have hk' := fun H' locs' h1 h2 => k X hB hR H' locs' arr h1 h2 hL hl (List.forall_mem_cons.mp hw).2
  obtain ⟨p, e, R, s, m, args, below, meth, c, cells, slots, QQ⟩ := X
  obtain ⟨hx, hb, hml, hown, hvm, -⟩ := hB
  have hlt : x.toNatClampNeg < 80 := Nat.not_le.mp fun q => hin (Or.inr q)
  have h0 : ¬ x < 0 := fun q => hin (Or.inl q)
  obtain ⟨r, hr, cellV, g1, g2, g3, -⟩ := rp_obj hH hj (show kd 7 = some (.inl 7) from rfl)
  have hcls := (hvm.2.2.2.1 7 r hr).2
  cases hr
  obtain ⟨kA, comp, k1, k2, k3, -⟩ := (hvm.2.2.2.2.1 26 _ 80 rfl).2
  have hcomp : comp = g_dC Γ 7 := Option.some.inj (k3.symm.trans hcls.1)
  subst hcomp
  obtain ⟨kC, hkC, -⟩ := id hcls.2
  refine W.aast hx hb (rp_arr hH hi (show kd 26 = some (.inr (.object RX7, 80)) from rfl)) (fun q h => by cases h) (fun h => by cases h) k1 k2 rfl hkC ⟨h0, by show _ < (arrV _ _ _).slots.size; rw [arrV_size]; exact hlt⟩ g1 (fun q h => by rw [g3] at h; cases h) (by rw [g2]; exact hkC) (by rw [g2]; exact va_assign hcls) rfl rfl hd fun H' e1 e2 e3 => ?_
  exact hk' H' _ (rp_ast hvm.1 hH hi rfl (v := aR 7 j) e1 e2 e3 (look_cp hj)) (hS.put e2 e3 (hvm.1.2 26 i (by decide) hi))
theorem aw_alen {K i n : Nat} {ty : FieldType} {v : Int32} (hd : decode (m_c M) pc = .ok (.arraylength, 1)) (hk : kd K = some (.inr (ty, n))) (hv : n.toInt32 = v) (k : aw Γ M (pc + 1) ls (aI v :: st) μ Q) : aw Γ M pc ls (aR K i :: st) μ Q := by
  intro X hB hR H locs arr hH hS hL hl hw
  have hi : i < kn K := (List.forall_mem_cons.mp hw).1
  have hk' := k X hB hR H locs arr hH hS hL hl (List.forall_mem_cons.mpr ⟨trivial, (List.forall_mem_cons.mp hw).2⟩)
  obtain ⟨p, e, R, s, m, args, below, meth, c, cells, slots, QQ⟩ := X
  obtain ⟨hx, hb, hml, hown, hvm, -⟩ := hB
  exact W.alen hx hb (rp_arr hH hi hk) ((hvm.2.2.2.2.1 K _ n hk).1 n _) (by rw [arrV_size]; exact hv) rfl rfl hd hk'
end AH
end
section
section AC
variable {Γ : cx_T} {M : mt_T} {pc : Nat} {ls ls' st : List aV} {μ : mH} {Q : aV → mH → Prop}
theorem sh_S {p : Program} {e : Env} {R : Room} {s : State} {m : MethodId} {args : Array Value} {below : List Frame} {meth : Method} {c : Code} {cells slots : Nat} {QQ : State → Prop} (hB : in_B Γ M (p, e, R, s, m, args, below, meth, c, cells, slots, QQ)) {H : Heap} {locs : List Loc} (hH : rp_H Γ μ H) (hS : va_S (g_A Γ) (g_H0 Γ) H locs) : va_S (g_A Γ) s.heap H locs := by
  obtain ⟨-, -, -, -, -, -, -, -, -, h1, h2, -⟩ := hB
  refine ⟨by rw [hH.1]; exact h2, fun q hq hA => ?_, hS.2.2⟩
  have hq0 : q < (g_H0 Γ).size := Nat.not_le.mp hA
  rw [hS.2.1 q hq0 hA, h1.2.1 q hq0 hA]
theorem sh_K {p : Program} {e : Env} {R : Room} {s : State} {m : MethodId} {args : Array Value} {below : List Frame} {meth : Method} {c : Code} {cells slots : Nat} {QQ : State → Prop} (hB : in_B Γ M (p, e, R, s, m, args, below, meth, c, cells, slots, QQ)) : ∀ a : Nat, a < (g_H0 Γ).size → ¬ g_A Γ a → s.heap[a]? = (g_H0 Γ)[a]? := by
  obtain ⟨-, -, -, -, -, -, -, -, -, h1, h2, -⟩ := hB
  exact h1.2.1
theorem aw_ldc {idx : Nat} {v : Int32} (hd : decode (m_c M) pc = .ok (.ldc idx, 2)) (hc : Cond.constant (m_y M).cls idx v ∈ tb_g) (k : aw Γ M (pc + 2) ls (aI v :: st) μ Q) : aw Γ M pc ls st μ Q := by
  intro X hB hR H locs arr hH hS hL hl hw
  have hk' := k X hB hR H locs arr hH hS hL hl (List.forall_mem_cons.mpr ⟨trivial, hw⟩)
  obtain ⟨p, e, R, s, m, args, below, meth, c, cells, slots, QQ⟩ := X
  obtain ⟨hx, hb, hml, hown, hvm, -⟩ := hB
  exact lv_ldc hx hb hown (hvm.2.1 _ hc args) hd hk'
theorem aw_ldcw {idx : Nat} {v : Int32} (hd : decode (m_c M) pc = .ok (.ldc_w idx, 3)) (hc : Cond.constant (m_y M).cls idx v ∈ tb_g) (k : aw Γ M (pc + 3) ls (aI v :: st) μ Q) : aw Γ M pc ls st μ Q := by
  intro X hB hR H locs arr hH hS hL hl hw
  have hk' := k X hB hR H locs arr hH hS hL hl (List.forall_mem_cons.mpr ⟨trivial, hw⟩)
  obtain ⟨p, e, R, s, m, args, below, meth, c, cells, slots, QQ⟩ := X
  obtain ⟨hx, hb, hml, hown, hvm, -⟩ := hB
  exact lv_ldcw hx hb hown (hvm.2.1 _ hc args) hd hk'
theorem aw_ldc2 {idx : Nat} {v : Int64} (hd : decode (m_c M) pc = .ok (.ldc2_w idx, 3)) (hc : Cond.constantLong (m_y M).cls idx v ∈ tb_g) (k : aw Γ M (pc + 3) ls (aL v :: st) μ Q) : aw Γ M pc ls st μ Q := by
  intro X hB hR H locs arr hH hS hL hl hw
  have hk' := k X hB hR H locs arr hH hS hL hl (List.forall_mem_cons.mpr ⟨trivial, hw⟩)
  obtain ⟨p, e, R, s, m, args, below, meth, c, cells, slots, QQ⟩ := X
  obtain ⟨hx, hb, hml, hown, hvm, -⟩ := hB
  exact lv_ldc2 hx hb hown (hvm.2.1 _ hc args) hd hk'
theorem aw_ldcS {idx j : Nat} {tx : String} (hd : decode (m_c M) pc = .ok (.ldc idx, 2)) (hq : ((m_y M).cls, idx, tx, j) ∈ st_tab) (hj : j < 9) (k : aw Γ M (pc + 2) ls (aR 63 j :: st) μ Q) : aw Γ M pc ls st μ Q := by
  intro X hB hR H locs arr hH hS hL hl hw
  have hk' := k X hB hR H locs arr hH hS hL hl (List.forall_mem_cons.mpr ⟨hj, hw⟩)
  obtain ⟨p, e, R, s, m, args, below, meth, c, cells, slots, QQ⟩ := X
  obtain ⟨hx, hb, hml, hown, hvm, -⟩ := hB
  exact va_ldcS hx hb hown (hvm.2.2.2.2.2.2.1 _ hq) hd hk'
theorem aw_strV {idx j : Nat} (hd : decode (m_c M) pc = .ok (.getfield idx, 3)) (hf : Cond.fieldLink (m_y M).cls idx "java/lang/String" "value" "[B" ∈ tb_g) (k : aw Γ M (pc + 3) ls (aR 64 j :: st) μ Q) : aw Γ M pc ls (aR 63 j :: st) μ Q := by
  intro X hB hR H locs arr hH hS hL hl hw
  have hj : j < 9 := (List.forall_mem_cons.mp hw).1
  have hk' := k X hB hR H locs arr hH hS hL hl (List.forall_mem_cons.mpr ⟨hj, (List.forall_mem_cons.mp hw).2⟩)
  obtain ⟨p, e, R, s, m, args, below, meth, c, cells, slots, QQ⟩ := X
  have hS' := sh_S hB hH hS
  have hK' := sh_K hB
  obtain ⟨hx, hb, hml, hown, hvm, -⟩ := hB
  exact vk_getf hx hb ((hvm.2.2.2.2.2.1.1 j hj).2.2.1.kept hK') hS' hown (hvm.2.1 _ hf args) (fun _ h => h) hd hk'
theorem aw_strC {idx j : Nat} (hd : decode (m_c M) pc = .ok (.getfield idx, 3)) (hf : Cond.fieldLink (m_y M).cls idx "java/lang/String" "coder" "B" ∈ tb_g) (k : aw Γ M (pc + 3) ls (aI 0 :: st) μ Q) : aw Γ M pc ls (aR 63 j :: st) μ Q := by
  intro X hB hR H locs arr hH hS hL hl hw
  have hj : j < 9 := (List.forall_mem_cons.mp hw).1
  have hk' := k X hB hR H locs arr hH hS hL hl (List.forall_mem_cons.mpr ⟨trivial, (List.forall_mem_cons.mp hw).2⟩)
  obtain ⟨p, e, R, s, m, args, below, meth, c, cells, slots, QQ⟩ := X
  have hS' := sh_S hB hH hS
  have hK' := sh_K hB
  obtain ⟨hx, hb, hml, hown, hvm, -⟩ := hB
  exact vk_getf hx hb ((hvm.2.2.2.2.2.1.1 j hj).2.1.kept hK') hS' hown (hvm.2.1 _ hf args) (fun _ h => h) hd hk'
theorem aw_strB {j : Nat} {x : Int32} (hd : decode (m_c M) pc = .ok (.baload, 1)) (hin : vp_in x (lenS.getD j 0)) (k : aw Γ M (pc + 1) ls (aI ((bytS.getD j []).getD x.toNatClampNeg 0) :: st) μ Q) : aw Γ M pc ls (aI x :: aR 64 j :: st) μ Q := by
  intro X hB hR H locs arr hH hS hL hl hw
  have hw := (List.forall_mem_cons.mp hw).2
  have hj : j < 9 := (List.forall_mem_cons.mp hw).1
  have hk' := k X hB hR H locs arr hH hS hL hl (List.forall_mem_cons.mpr ⟨trivial, (List.forall_mem_cons.mp hw).2⟩)
  obtain ⟨p, e, R, s, m, args, below, meth, c, cells, slots, QQ⟩ := X
  have hS' := sh_S hB hH hS
  have hK' := sh_K hB
  obtain ⟨hx, hb, hml, hown, hvm, -⟩ := hB
  exact va_tb hx hb ((hvm.2.2.2.2.2.1.1 j hj).2.2.2.kept hK') hS' hin rfl hd hk'
theorem aw_strL {j : Nat} (hd : decode (m_c M) pc = .ok (.arraylength, 1)) (k : aw Γ M (pc + 1) ls (aI (Int32.ofNat (lenS.getD j 0)) :: st) μ Q) : aw Γ M pc ls (aR 64 j :: st) μ Q := by
  intro X hB hR H locs arr hH hS hL hl hw
  have hj : j < 9 := (List.forall_mem_cons.mp hw).1
  have hk' := k X hB hR H locs arr hH hS hL hl (List.forall_mem_cons.mpr ⟨trivial, (List.forall_mem_cons.mp hw).2⟩)
  obtain ⟨p, e, R, s, m, args, below, meth, c, cells, slots, QQ⟩ := X
  have hS' := sh_S hB hH hS
  have hK' := sh_K hB
  obtain ⟨hx, hb, hml, hown, hvm, -⟩ := hB
  exact va_tlen hx hb ((hvm.2.2.2.2.2.1.1 j hj).2.2.2.kept hK') hS' rfl hd hk'
theorem aw_compact {idx : Nat} (hd : decode (m_c M) pc = .ok (.getstatic idx, 3)) (hf : Cond.fieldLink (m_y M).cls idx "java/lang/String" "COMPACT_STRINGS" "Z" ∈ tb_g) (k : aw Γ M (pc + 3) ls (aI 1 :: st) μ Q) : aw Γ M pc ls st μ Q := by
  intro X hB hR H locs arr hH hS hL hl hw
  have hk' := k X hB hR H locs arr hH hS hL hl (List.forall_mem_cons.mpr ⟨trivial, hw⟩)
  obtain ⟨p, e, R, s, m, args, below, meth, c, cells, slots, QQ⟩ := X
  have hS' := sh_S hB hH hS
  have hK' := sh_K hB
  obtain ⟨hx, hb, hml, hown, hvm, -⟩ := hB
  exact va_gets hx hb (hvm.2.2.2.2.2.2.2.1.1.kept hK') hS' hown (hvm.2.1 _ hf args) (fun _ h => h) hd hk'
theorem aw_sio {idx : Nat} (hd : decode (m_c M) pc = .ok (.getstatic idx, 3)) (hf : Cond.fieldLink (m_y M).cls idx "jdk/internal/util/Preconditions" "SIOOBE_FORMATTER" "Ljava/util/function/BiFunction;" ∈ tb_g) (k : ∀ o, aw Γ M (pc + 3) ls (aQ 66 o :: st) μ Q) : aw Γ M pc ls st μ Q := by
  intro X hB hR H locs arr hH hS hL hl hw
  have hk0 := k none X hB hR H locs arr hH hS hL hl (List.forall_mem_cons.mpr ⟨trivial, hw⟩)
  have hk1 := k (some 0) X hB hR H locs arr hH hS hL hl (List.forall_mem_cons.mpr ⟨Nat.zero_lt_one, hw⟩)
  obtain ⟨p, e, R, s, m, args, below, meth, c, cells, slots, QQ⟩ := X
  have hS' := sh_S hB hH hS
  have hK' := sh_K hB
  obtain ⟨hx, hb, hml, hown, hvm, -⟩ := hB
  rcases hvm.2.2.2.2.2.2.2.1.2 with h | h
  · exact va_gets hx hb (h.kept hK') hS' hown (hvm.2.1 _ hf args) (fun _ h => h) hd hk0
  · exact va_gets hx hb (h.kept hK') hS' hown (hvm.2.1 _ hf args) (fun _ h => h) hd hk1
theorem aw_pop {x : Int32} (hd : decode (m_c M) pc = .ok (.pop, 1)) (k : aw Γ M (pc + 1) ls st μ Q) : aw Γ M pc ls (aI x :: st) μ Q := aw_s k (fun _ h => (List.forall_mem_cons.mp h).2) (fun hx hb hL kk => lv_pop hx hb hd rfl kk)
theorem aw_scL {i : Nat} (hd : decode (m_c M) pc = .ok (.arraylength, 1)) (hb0 : g_ad Γ 65 i = g_b Γ) (k : aw Γ M (pc + 1) ls (aI (Int32.ofNat (g_L Γ)) :: st) μ Q) : aw Γ M pc ls (aR 65 i :: st) μ Q := by
  intro X hB hR H locs arr hH hS hL hl hw
  have hk' := k X hB hR H locs arr hH hS hL hl (List.forall_mem_cons.mpr ⟨trivial, (List.forall_mem_cons.mp hw).2⟩)
  obtain ⟨p, e, R, s, m, args, below, meth, c, cells, slots, QQ⟩ := X
  obtain ⟨hx, hb, hml, hown, hvm, -⟩ := hB
  show W _ _ _ _ _ _ _ _ _ _ _ _ _ _ _ (F0 m pc arr (.ref (g_ad Γ 65 i) :: st.map (cv (g_ad Γ))))
  rw [hb0]
  exact va_slen hx hb hvm.2.2.2.2.2.2.2.2.1 hvm.2.2.2.2.2.2.2.2.2 (Nat.not_le.mpr hvm.2.2.2.2.2.2.2.2.2) hS hd hk'
theorem aw_scI {i : Nat} {x : Int32} (hd : decode (m_c M) pc = .ok (.iaload, 1)) (hb0 : g_ad Γ 65 i = g_b Γ) (hin : vp_in x (g_L Γ)) (k : aw Γ M (pc + 1) ls (aI (g_xs Γ x.toNatClampNeg) :: st) μ Q) : aw Γ M pc ls (aI x :: aR 65 i :: st) μ Q := by
  intro X hB hR H locs arr hH hS hL hl hw
  have hk' := k X hB hR H locs arr hH hS hL hl (List.forall_mem_cons.mpr ⟨trivial, (List.forall_mem_cons.mp (List.forall_mem_cons.mp hw).2).2⟩)
  obtain ⟨p, e, R, s, m, args, below, meth, c, cells, slots, QQ⟩ := X
  obtain ⟨hx, hb, hml, hown, hvm, -⟩ := hB
  show W _ _ _ _ _ _ _ _ _ _ _ _ _ _ _ (F0 m pc arr (.int x :: .ref (g_ad Γ 65 i) :: st.map (cv (g_ad Γ))))
  rw [hb0]
  exact va_sld hx hb hvm.2.2.2.2.2.2.2.2.1 hvm.2.2.2.2.2.2.2.2.2 (Nat.not_le.mpr hvm.2.2.2.2.2.2.2.2.2) hS hin hd hk'
/-! returns -/
theorem aw_iret {x : Int32} {ty : FieldType} (hd : decode (m_c M) pc = .ok (.ireturn, 1)) (hr : m_r M = some ty) (hn : narrow ty (.int x) = .int x) (h : Q (aI x) μ) : aw Γ M pc ls [aI x] μ Q := fun _ _ hR H locs arr hH hS _ _ _ => (hR (aI x) μ trivial h H locs pc arr hH hS).1 hd x ty rfl hr hn
theorem aw_lret {x : Int64} (hd : decode (m_c M) pc = .ok (.lreturn, 1)) (hr : m_r M = some .long) (h : Q (aL x) μ) : aw Γ M pc ls [aL x] μ Q := fun _ _ hR H locs arr hH hS _ _ _ => (hR (aL x) μ trivial h H locs pc arr hH hS).2.1 hd x rfl hr
theorem aw_aret {K : Nat} {o : Option Nat} (hd : decode (m_c M) pc = .ok (.areturn, 1)) (hr : m_r M = some (.array .int)) (h : Q (aQ K o) μ) : aw Γ M pc ls [aQ K o] μ Q := fun _ _ hR H locs arr hH hS _ _ hw => (hR (aQ K o) μ (List.forall_mem_cons.mp hw).1 h H locs pc arr hH hS).2.2.1 hd _ rfl hr
theorem aw_vret (hd : decode (m_c M) pc = .ok (.return_, 1)) (hr : m_r M = none) (h : Q aX μ) : aw Γ M pc ls [] μ Q := fun _ _ hR H locs arr hH hS _ _ _ => (hR aX μ trivial h H locs pc arr hH hS).2.2.2 hd rfl hr
/-! the entry -/
theorem lv_args_in : ∀ (vs : List Value) (j : Nat), (∀ v ∈ vs, v.category = 1) → ∀ (i : Nat) (v : Value), vs[i]? = some v → (j + i, v) ∈ lv_args j vs
  | [], _, _, i, v, h => by simp at h
  | w :: vs, j, hc, i, v, h => by
    have h1 := hc w List.mem_cons_self
    unfold lv_args
    cases i with
    | zero =>
      rw [List.getElem?_cons_zero] at h
      cases h
      exact List.mem_cons_self
    | succ i =>
      rw [List.getElem?_cons_succ] at h
      refine List.mem_cons_of_mem _ ?_
      rw [if_neg (by rw [h1]; decide), show j + (i + 1) = (j + 1) + i by omega]
      exact lv_args_in vs (j + 1) (fun v hv => hc v (List.mem_cons_of_mem _ hv)) i v h
theorem lg_sl_len : ∀ (vs : List Value), (∀ v ∈ vs, v.category = 1) → (lg_sl vs).length = vs.length
  | [], _ => rfl
  | v :: vs, hc => by
    have h := lg_sl_len vs (fun v hv => hc v (List.mem_cons_of_mem _ hv))
    have h1 := hc v List.mem_cons_self
    unfold lg_sl at h ⊢
    rw [List.flatMap_cons, List.length_append, h, if_neg (by rw [h1]; decide)]
    simp only [List.length_cons, List.length_nil]
    omega
theorem cw_of {vs : List aV} (hpl : plainName (m_y M).cls = true) (hc : ∀ v ∈ vs, ∀ ad, (cv ad v).category = 1) (hn : vs.length ≤ m_L M) (he : vs ++ List.replicate (m_L M - vs.length) aX = ls) (h : aw Γ M 0 ls [] μ Q) : cw Γ M vs μ Q := by
  unfold cw
  refine Met.ofW (cc := m_c M) (maxL := m_L M) (ret := m_r M) hpl rfl ?_
  intro p e s m args below meth c s₁ B hml hv
  obtain ⟨rfl, hlv, hH, hS, hvm⟩ := hv
  have hcat : ∀ v ∈ vs.map (cv (g_ad Γ)), v.category = 1 := fun v hv => by
    obtain ⟨w, hw, rfl⟩ := List.mem_map.mp hv
    exact hc w hw _
  have hlen := lg_sl_len _ hcat
  rw [List.length_map] at hlen
  have hl := lv_entry (vs.map (cv (g_ad Γ))) (n := m_L M) (by rw [hlen]; exact hn)
  rw [lg_entry_eq]
  generalize (lg_sl (vs.map (cv (g_ad Γ))) ++ List.replicate (m_L M - (lg_sl (vs.map (cv (g_ad Γ)))).length) Slot.unset).toArray = arr at hl ⊢
  have hB : in_B Γ M (p, e, (headSpec [.code (m_y M) (m_c M) (m_L M) (m_r M)] { frames := m_f M, cells := 0, slots := 0, locals := m_w M }).room, s, m, (vs.map (cv (g_ad Γ))).toArray, below, meth, c, 0, 0, MQ below (cw_Q Γ M Q) (vs.map (cv (g_ad Γ))).toArray s 0 0 (g_A Γ)) :=
    ⟨B.exec, B.bytes, hml, findClass_of_methodNamed B.named, hvm, Nat.le_refl _, Nat.le_refl _, Nat.le_refl _, Nat.le_refl _, hS, Nat.le_of_eq hH.1, B.returns⟩
  have hlocks := B.notSynchronized
  refine h _ hB ?_ s.heap [] arr hH hS ⟨hl.1, hl.2.1, fun q hq => ?_⟩ ?_ (fun v hv => by cases hv)
  · intro r μ' hlr hq H locs pc arr hH hS
    have hfin : ∀ t : State, t.heap = H → cw_Q Γ M Q (vs.map (cv (g_ad Γ))).toArray s (cw_o Γ M r) t := fun t ht => ⟨r, μ', rfl, hlr, by rw [ht]; exact hH, ⟨by rw [ht]; exact hS.1, fun q h1 h2 => by rw [ht]; exact hS.2.1 q h1 h2, fun q hq => by cases hq⟩, hq⟩
    refine ⟨fun hd x ty hr hm hn => ?_, fun hd x hr hm => ?_, fun hd o hr hm => ?_, fun hd hr hm => ?_⟩
    · subst hr
      exact W.zret B.exec B.bytes (B.returns.trans hm) hn (fun t ht _ => by have := hfin t ht; unfold cw_o at this; rw [hm] at this; exact this) hS.2.2 hd hlocks
    · subst hr
      exact W.lret B.exec B.bytes (B.returns.trans hm) (fun t ht _ => by have := hfin t ht; unfold cw_o at this; rw [hm] at this; exact this) hS.2.2 hd hlocks
    · refine W.aret B.exec B.bytes (B.returns.trans hm) (Or.inr ⟨_, rfl⟩) ?_ (fun t ht _ => by have := hfin t ht; unfold cw_o at this; rw [hm] at this; exact this) hS.2.2 hd hlocks
      subst hr
      cases o with
      | none => exact Or.inl rfl
      | some q => exact Or.inr ⟨_, rfl⟩
    · exact W.vret B.exec B.bytes (B.returns.trans hm) (fun t ht _ => by have := hfin t ht; unfold cw_o at this; rw [hm] at this; exact this) hS.2.2 hd hlocks
  · obtain ⟨v, h1, h2, h3⟩ := lo_mem.mp hq
    subst he
    by_cases hi : q.1 < vs.length
    · rw [List.getElem?_append_left hi] at h1
      have := lv_args_in (vs.map (cv (g_ad Γ))) 0 hcat q.1 (cv (g_ad Γ) v) (by rw [List.getElem?_map, h1]; rfl)
      rw [Nat.zero_add] at this
      have h4 := hl.2.2 _ this
      rw [h3]
      exact h4
    · rw [List.getElem?_append_right (by omega)] at h1
      have := (List.mem_replicate.mp (List.mem_of_getElem? h1)).2
      exact absurd this h2
  · subst he
    intro v hv
    rcases List.mem_append.mp hv with h1 | h1
    · exact hlv v h1
    · rw [(List.mem_replicate.mp h1).2]; exact trivial
/-! calls -/
def mk_ok (M : mt_T) : Prop := Cond.code (m_y M) (m_c M) (m_L M) (m_r M) ∈ tb_g ∧ Cond.initialized (m_y M).cls ∈ tb_g ∧ (m_y M).cls ≠ "java/lang/invoke/MethodHandle" ∧ (m_y M).cls ≠ "java/lang/invoke/VarHandle"
def mi_ok (M : mt_T) : Prop := Cond.instanceMethod (m_y M) ∈ tb_g ∧ Cond.selects (m_y M).cls (m_y M) (m_y M) ∈ tb_g
def mp_n (M : mt_T) (n : Nat) : Prop := (parseMethodDescriptor (m_y M).desc).map (fun d => d.parameters.length) = some n
/-- the receiver's class -/
def rc_ok (K : Nat) (C : String) : Prop := (∃ (ci : Nat) (r : vw_C), kd K = some (.inl ci) ∧ vwCl[ci]? = some r ∧ r.1 = C) ∨ (K = 63 ∧ C = "java/lang/String")
def rm_ok (M M' : mt_T) : Prop := m_f M' + 1 ≤ m_f M ∧ 8 + (m_L M' + 11) + m_w M' ≤ m_w M
theorem cat_le {ad : Nat → Nat → Nat} : ∀ (st : List aV), ((st.map (cv ad)).map fun v => v.category).sum ≤ 2 * st.length
  | [] => Nat.zero_le _
  | v :: st => by
    have h := cat_le (ad := ad) st
    have h1 : (cv ad v).category ≤ 2 := by rcases lv_cat (cv ad v) with h | h <;> omega
    simp only [List.map_cons, List.sum_cons, List.length_cons]
    omega
theorem cw_blind {vs : List aV} : FrameBlind (cw_P Γ vs μ) := fun a U g mk h => ⟨h.1, h.2.1, h.2.2.1, h.2.2.2.1, vm_warm (s := U) (U := U.calling g mk a) (State.WarmedH.refl U) h.2.2.2.2⟩
theorem cb_of {p : Program} {e : Env} {R : Room} {s : State} {m : MethodId} {args : Array Value} {below : List Frame} {meth : Method} {c : Code} {cells slots : Nat} {QQ : State → Prop} (hB : in_B Γ M (p, e, R, s, m, args, below, meth, c, cells, slots, QQ)) {M' : mt_T} {idx n : Nat} (hm : mk_ok M') (hl : Cond.methodLink (m_y M).cls idx (m_y M') ∈ tb_g) (hp : mp_n M' n) (hr : rm_ok M M') :
    CallB R s args (m_y M).cls idx (m_y M') (m_c M') (m_L M') (m_r M') [.code (m_y M') (m_c M') (m_L M') (m_r M')] { frames := m_f M', cells := 0, slots := 0, locals := m_w M' } 0 0 n := by
  obtain ⟨hx, hb, hml, hown, hvm, hf, hw, -⟩ := hB
  refine ⟨rfl, rfl, Nat.le_trans hr.1 hf, Nat.le_trans hr.2 hw, fun w hw' a' U hW => ?_, List.mem_cons_self, hvm.2.1 _ hm.1 args, hvm.2.1 _ hm.2.1 args, hm.2.2, fun sig h => ?_, hvm.2.1 _ hl args⟩
  · rw [List.mem_singleton.mp hw']
    exact (vm_warm hW hvm).2.1 _ hm.1 a'
  · unfold mp_n at hp
    rw [h] at hp
    exact (Option.some.inj hp).symm
theorem cn_of {p : Program} {e : Env} {R : Room} {s : State} {m : MethodId} {args : Array Value} {below : List Frame} {meth : Method} {c : Code} {cells slots : Nat} {QQ : State → Prop} (hB : in_B Γ M (p, e, R, s, m, args, below, meth, c, cells, slots, QQ)) {M' : mt_T} {idx n : Nat} {host : String} (hm : mk_ok M') (hl : Cond.methodLinkNest (m_y M).cls idx (m_y M') host ∈ tb_n) (hp : mp_n M' n) (hr : rm_ok M M') :
    va_CN R s args (m_y M).cls idx (m_y M') host (m_c M') (m_L M') (m_r M') [.code (m_y M') (m_c M') (m_L M') (m_r M')] { frames := m_f M', cells := 0, slots := 0, locals := m_w M' } 0 0 n := by
  obtain ⟨hx, hb, hml, hown, hvm, hf, hw, -⟩ := hB
  refine ⟨⟨rfl, rfl, Nat.le_trans hr.1 hf, Nat.le_trans hr.2 hw, fun w hw' a' U hW => ?_, List.mem_cons_self⟩, hvm.2.1 _ hm.1 args, hvm.2.1 _ hm.2.1 args, hm.2.2, fun sig h => ?_, va_Nw.use rfl (hvm.2.2.1 _ hl)⟩
  · rw [List.mem_singleton.mp hw']
    exact (vm_warm hW hvm).2.1 _ hm.1 a'
  · unfold mp_n at hp
    rw [h] at hp
    exact (Option.some.inj hp).symm
theorem rc_cell {p : Program} {e : Env} {R : Room} {s : State} {m : MethodId} {args : Array Value} {below : List Frame} {meth : Method} {c : Code} {cells slots : Nat} {QQ : State → Prop} (hB : in_B Γ M (p, e, R, s, m, args, below, meth, c, cells, slots, QQ)) {H : Heap} {locs : List Loc} (hH : rp_H Γ μ H) (hS : va_S (g_A Γ) (g_H0 Γ) H locs) {K i : Nat} {C : String} (hi : i < kn K) (h : rc_ok K C) : ∃ cellB : Cell, H[g_ad Γ K i]? = some cellB ∧ cellB.vm.isStatics = false ∧ s.vm.findClass C = some cellB.cls := by
  have hS' := sh_S hB hH hS
  have hK' := sh_K hB
  obtain ⟨hx, hb, hml, hown, hvm, -⟩ := hB
  rcases h with ⟨ci, r, h1, h2, rfl⟩ | ⟨rfl, rfl⟩
  · obtain ⟨r', hr', cell, q1, q2, q3, q4⟩ := rp_obj hH hi h1
    cases h2.symm.trans hr'
    exact ⟨cell, q1, by rw [q3]; rfl, by rw [q2]; exact (hvm.2.2.2.1 ci r h2).2.1⟩
  · exact vk_recv (hvm.2.2.2.2.2.1.kept hK') hi hS'
/-- what a call leaves on the stack -/
def pu (M : mt_T) (r : aV) (st : List aV) : List aV := match m_r M with
  | none => st
  | some _ => r :: st
/-- behind any kind of call -/
theorem aw_run {M' : mt_T} {vs st0 : List aV} {a : Array Value} {Qk : aV → mH → Prop} (hk : ∀ r μ', Qk r μ' → aw Γ M (pc + 3) ls (pu M' r st) μ' Q) (X : mx_T) (hB : in_B Γ M X) (hR : rt_ok Γ M X Q) {H : Heap} {locs : List Loc} {arr : Array Slot} (hS : va_S (g_A Γ) (g_H0 Γ) H locs) (hL : lv_has arr (m_L M) (lo_l (g_ad Γ) ls)) (hl : ∀ v ∈ ls, liv v) (hw : ∀ v ∈ st, liv v)
    (hr : match X with | (p, e, R, s, m, args, below, meth, c, cells, slots, QQ) => va_Run p (g_l Γ) e R s m args below meth c H locs cells slots 0 0 (F0 m pc arr (st0.map (cv (g_ad Γ)))) (st.map (cv (g_ad Γ))) (cw_Q Γ M' Qk a) (g_A Γ)) : wx Γ X H locs pc arr (st0.map (cv (g_ad Γ))) := by
  have hk' := fun r μ' h H' locs' h1 h2 h3 => hk r μ' h X hB hR H' locs' arr h1 h2 hL hl h3
  obtain ⟨p, e, R, s, m, args, below, meth, c, cells, slots, QQ⟩ := X
  intro T hT Xs
  obtain ⟨v, st₀, t, T', L, h0, X', hL', e1, e2, ⟨r, μ', ho, hlr, hrp, hva, hq⟩, stp⟩ := hr T hT Xs
  have hS1 : va_S (g_A Γ) (g_H0 Γ) T'.heap (locs ++ L) := ⟨by rw [e1]; exact hva.1, fun q h1 h2 => by rw [e1]; exact hva.2.1 q h1 h2, fun q hq => by
    rcases List.mem_append.mp hq with h | h
    · exact hS.2.2 q h
    · exact hL' q h⟩
  have hst : ∀ w ∈ pu M' r st, liv w := by
    unfold pu
    split
    · exact hw
    · exact List.forall_mem_cons.mpr ⟨hlr, hw⟩
  obtain ⟨t2, a1, b1⟩ := hk' r μ' hq T'.heap (locs ++ L) (by rw [e1]; exact hrp) hS1 hst T' rfl X'
  refine ⟨t2, stp t2 ?_, b1⟩
  have : v.toList ++ st.map (cv (g_ad Γ)) = (pu M' r st).map (cv (g_ad Γ)) := by
    unfold cw_o at ho
    unfold pu
    split at ho
    · rename_i e; cases ho; rw [e]; rfl
    · rename_i e; cases ho; rw [e]; rfl
  rw [this]
  exact a1
theorem aw_callV {M' : mt_T} {idx K i : Nat} {vs st0 : List aV} (hd : decode (m_c M) pc = .ok (.invokevirtual idx, 3)) (hm : mk_ok M') (hI : mi_ok M') (hlk : Cond.methodLink (m_y M).cls idx (m_y M') ∈ tb_g) (hp : mp_n M' vs.length) (hrc : rc_ok K (m_y M').cls) (hr : rm_ok M M') (hst : st.length ≤ 4) (he : vs.reverse ++ aR K i :: st = st0) (k : cw Γ M' (aR K i :: vs) μ (fun r μ' => aw Γ M (pc + 3) ls (pu M' r st) μ' Q)) : aw Γ M pc ls st0 μ Q := by
  intro X hB hR H locs arr hH hS hL hl hw
  subst he
  have hw1 : ∀ v ∈ vs, liv v := fun v hv => hw v (List.mem_append_left _ (List.mem_reverse.mpr hv))
  have hw2 := fun v hv => hw v (List.mem_append_right _ hv)
  have hi : i < kn K := (List.forall_mem_cons.mp hw2).1
  refine aw_run (M' := M') (vs := vs) (Qk := fun r μ' => aw Γ M (pc + 3) ls (pu M' r st) μ' Q) (a := (Value.ref (g_ad Γ K i) :: vs.map (cv (g_ad Γ))).toArray) (fun _ _ h => h) X hB hR hS hL hl (List.forall_mem_cons.mp hw2).2 ?_
  obtain ⟨p, e, R, s, m, args, below, meth, c, cells, slots, QQ⟩ := X
  have hcb := cb_of hB hm hlk hp hr
  have hcell := rc_cell hB hH hS hi hrc
  obtain ⟨hx, hb, hml, hown, hvm, hf1, hf2, hf3, hf4, -⟩ := hB
  exact va_runV (Ts := []) (C := (m_y M').cls) (As := vs.map (cv (g_ad Γ))) ⟨hx, hb, hml, hown, fun w h => by cases h⟩ k ⟨hcb, hvm.2.1 _ hI.1 args, hvm.2.1 _ hI.2 args⟩ ⟨cw_blind, hcell, fun U hU hW => ⟨by simp [cv], List.forall_mem_cons.mpr ⟨hi, hw1⟩, by rw [hU]; exact hH, ⟨by rw [hU]; exact hS.1, fun q h1 h2 => by rw [hU]; exact hS.2.1 q h1 h2, fun q hq => by cases hq⟩, vm_warm hW hvm⟩⟩ rfl (by rw [List.length_map]) hL.1 (by simp [cv, List.map_reverse]) (lv_room (by have := cat_le (ad := g_ad Γ) st; omega)) hd ⟨hf3, hf4⟩
theorem aw_callVN {M' : mt_T} {idx K i : Nat} {host : String} {vs st0 : List aV} (hd : decode (m_c M) pc = .ok (.invokevirtual idx, 3)) (hm : mk_ok M') (hI : mi_ok M') (hlk : Cond.methodLinkNest (m_y M).cls idx (m_y M') host ∈ tb_n) (hp : mp_n M' vs.length) (hrc : rc_ok K (m_y M').cls) (hr : rm_ok M M') (hst : st.length ≤ 4) (he : vs.reverse ++ aR K i :: st = st0) (k : cw Γ M' (aR K i :: vs) μ (fun r μ' => aw Γ M (pc + 3) ls (pu M' r st) μ' Q)) : aw Γ M pc ls st0 μ Q := by
  intro X hB hR H locs arr hH hS hL hl hw
  subst he
  have hw1 : ∀ v ∈ vs, liv v := fun v hv => hw v (List.mem_append_left _ (List.mem_reverse.mpr hv))
  have hw2 := fun v hv => hw v (List.mem_append_right _ hv)
  have hi : i < kn K := (List.forall_mem_cons.mp hw2).1
  refine aw_run (M' := M') (vs := vs) (Qk := fun r μ' => aw Γ M (pc + 3) ls (pu M' r st) μ' Q) (a := (Value.ref (g_ad Γ K i) :: vs.map (cv (g_ad Γ))).toArray) (fun _ _ h => h) X hB hR hS hL hl (List.forall_mem_cons.mp hw2).2 ?_
  obtain ⟨p, e, R, s, m, args, below, meth, c, cells, slots, QQ⟩ := X
  have hcb := cn_of hB hm hlk hp hr
  have hcell := rc_cell hB hH hS hi hrc
  obtain ⟨hx, hb, hml, hown, hvm, hf1, hf2, hf3, hf4, -⟩ := hB
  exact va_runVN (Ts := []) (C := (m_y M').cls) (As := vs.map (cv (g_ad Γ))) ⟨hx, hb, hml, hown, fun w h => by cases h⟩ k ⟨hcb, hvm.2.1 _ hI.1 args, hvm.2.1 _ hI.2 args⟩ ⟨cw_blind, hcell, fun U hU hW => ⟨by simp [cv], List.forall_mem_cons.mpr ⟨hi, hw1⟩, by rw [hU]; exact hH, ⟨by rw [hU]; exact hS.1, fun q h1 h2 => by rw [hU]; exact hS.2.1 q h1 h2, fun q hq => by cases hq⟩, vm_warm hW hvm⟩⟩ rfl (by rw [List.length_map]) hL.1 (by simp [cv, List.map_reverse]) (lv_room (by have := cat_le (ad := g_ad Γ) st; omega)) hd ⟨hf3, hf4⟩
theorem aw_callS {M' : mt_T} {idx : Nat} {vs st0 : List aV} (hd : decode (m_c M) pc = .ok (.invokestatic idx, 3)) (hm : mk_ok M') (hI : Cond.static (m_y M') ∈ tb_g) (hlk : Cond.methodLink (m_y M).cls idx (m_y M') ∈ tb_g) (hp : mp_n M' vs.length) (hr : rm_ok M M') (hst : st.length ≤ 4) (he : vs.reverse ++ st = st0) (k : cw Γ M' vs μ (fun r μ' => aw Γ M (pc + 3) ls (pu M' r st) μ' Q)) : aw Γ M pc ls st0 μ Q := by
  intro X hB hR H locs arr hH hS hL hl hw
  subst he
  have hw1 : ∀ v ∈ vs, liv v := fun v hv => hw v (List.mem_append_left _ (List.mem_reverse.mpr hv))
  have hw2 := fun v hv => hw v (List.mem_append_right _ hv)
  refine aw_run (M' := M') (vs := vs) (Qk := fun r μ' => aw Γ M (pc + 3) ls (pu M' r st) μ' Q) (a := (vs.map (cv (g_ad Γ))).toArray) (fun _ _ h => h) X hB hR hS hL hl hw2 ?_
  obtain ⟨p, e, R, s, m, args, below, meth, c, cells, slots, QQ⟩ := X
  have hcb := cb_of hB hm hlk hp hr
  obtain ⟨hx, hb, hml, hown, hvm, hf1, hf2, hf3, hf4, -⟩ := hB
  exact va_runS (Ts := []) (As := vs.map (cv (g_ad Γ))) ⟨hx, hb, hml, hown, fun w h => by cases h⟩ k ⟨hcb, hvm.2.1 _ hI args⟩ ⟨cw_blind, fun U hU hW => ⟨rfl, hw1, by rw [hU]; exact hH, ⟨by rw [hU]; exact hS.1, fun q h1 h2 => by rw [hU]; exact hS.2.1 q h1 h2, fun q hq => by cases hq⟩, vm_warm hW hvm⟩⟩ rfl (by rw [List.length_map]) hL.1 (by simp [List.map_reverse]) (lv_room (by have := cat_le (ad := g_ad Γ) st; omega)) hd ⟨hf3, hf4⟩
theorem aw_callSN {M' : mt_T} {idx : Nat} {host : String} {vs st0 : List aV} (hd : decode (m_c M) pc = .ok (.invokestatic idx, 3)) (hm : mk_ok M') (hI : Cond.static (m_y M') ∈ tb_g) (hlk : Cond.methodLinkNest (m_y M).cls idx (m_y M') host ∈ tb_n) (hp : mp_n M' vs.length) (hr : rm_ok M M') (hst : st.length ≤ 4) (he : vs.reverse ++ st = st0) (k : cw Γ M' vs μ (fun r μ' => aw Γ M (pc + 3) ls (pu M' r st) μ' Q)) : aw Γ M pc ls st0 μ Q := by
  intro X hB hR H locs arr hH hS hL hl hw
  subst he
  have hw1 : ∀ v ∈ vs, liv v := fun v hv => hw v (List.mem_append_left _ (List.mem_reverse.mpr hv))
  have hw2 := fun v hv => hw v (List.mem_append_right _ hv)
  refine aw_run (M' := M') (vs := vs) (Qk := fun r μ' => aw Γ M (pc + 3) ls (pu M' r st) μ' Q) (a := (vs.map (cv (g_ad Γ))).toArray) (fun _ _ h => h) X hB hR hS hL hl hw2 ?_
  obtain ⟨p, e, R, s, m, args, below, meth, c, cells, slots, QQ⟩ := X
  have hcb := cn_of hB hm hlk hp hr
  obtain ⟨hx, hb, hml, hown, hvm, hf1, hf2, hf3, hf4, -⟩ := hB
  exact va_runSN (Ts := []) (As := vs.map (cv (g_ad Γ))) ⟨hx, hb, hml, hown, fun w h => by cases h⟩ k ⟨hcb, hvm.2.1 _ hI args, trivial⟩ ⟨cw_blind, fun U hU hW => ⟨rfl, hw1, by rw [hU]; exact hH, ⟨by rw [hU]; exact hS.1, fun q h1 h2 => by rw [hU]; exact hS.2.1 q h1 h2, fun q hq => by cases hq⟩, vm_warm hW hvm⟩⟩ rfl (by rw [List.length_map]) hL.1 (by simp [List.map_reverse]) (lv_room (by have := cat_le (ad := g_ad Γ) st; omega)) hd ⟨hf3, hf4⟩
end AC
end
section
/-- System.arraycopy among arrays of ints -/
def cpy (μ : mH) (K i K' i' sp dp n : Nat) : mH := fun A a s => if A = K' ∧ a = i' ∧ dp ≤ s ∧ s < dp + n then μ K i (sp + (s - dp)) else μ A a s
theorem look_cpy {μ : mH} {K i K' i' sp dp n : Nat} (hI : ∀ s, isI K' s = true) (A a s : Nat) : look (cpy μ K i K' i' sp dp n) A a s = if A = K' ∧ a = i' ∧ dp ≤ s ∧ s < dp + n then aI (μ K i (sp + (s - dp))) else look μ A a s := by
  by_cases h : A = K'
  · subst h
    rw [look_I (hI s), look_I (hI s)]
    unfold cpy
    split <;> rfl
  · rw [if_neg (fun q => h q.1)]
    have e : ∀ s, cpy μ K i K' i' sp dp n A a s = μ A a s := fun s => if_neg (fun q => h q.1)
    unfold look
    simp only [e]
section ACP
variable {Γ : cx_T} {M : mt_T} {pc : Nat} {ls ls' st : List aV} {μ : mH} {Q : aV → mH → Prop}
theorem aw_copy {K i n0 K' i' n1 idx : Nat} {sp dp n : Int32} (hd : decode (m_c M) pc = .ok (.invokestatic idx, 3)) (hlk : Cond.methodLink (m_y M).cls idx arraycopyName ∈ tb_g) (hw1 : Cond.native arraycopyName ∈ tb_g) (hw2 : Cond.static arraycopyName ∈ tb_g) (hw3 : Cond.initialized "java/lang/System" ∈ tb_g) (hk0 : kd K = some (.inr (.int, n0))) (hk1 : kd K' = some (.inr (.int, n1))) (hI0 : ∀ s, isI K s = true) (hI1 : ∀ s, isI K' s = true)
    (h1 : ¬ sp < 0) (h2 : ¬ dp < 0) (h3 : ¬ n < 0) (h4 : sp.toNatClampNeg + n.toNatClampNeg ≤ n0) (h5 : dp.toNatClampNeg + n.toNatClampNeg ≤ n1) (hf0 : 1 ≤ m_f M) (hm0 : 26 ≤ m_w M) (hst : st.length ≤ 4) (k : aw Γ M (pc + 3) ls st (cpy μ K i K' i' sp.toNatClampNeg dp.toNatClampNeg n.toNatClampNeg) Q) : aw Γ M pc ls (aI n :: aI dp :: aR K' i' :: aI sp :: aR K i :: st) μ Q := by
  intro X hB hR H locs arr hH hS hL hl hw
  have hw0 := (List.forall_mem_cons.mp (List.forall_mem_cons.mp hw).2).2
  have hi1 : i' < kn K' := (List.forall_mem_cons.mp hw0).1
  have hw0 := (List.forall_mem_cons.mp (List.forall_mem_cons.mp hw0).2).2
  have hi0 : i < kn K := (List.forall_mem_cons.mp hw0).1
  have hk' := fun H' locs' h1 h2 => k X hB hR H' locs' arr h1 h2 hL hl (List.forall_mem_cons.mp hw0).2
  obtain ⟨p, e, R, s, m, args, below, meth, c, cells, slots, QQ⟩ := X
  obtain ⟨hx, hb, hml, hown, hvm, hfr, hlo, -⟩ := hB
  have hcat := cat_le (ad := g_ad Γ) st
  have ef : (fun j => cv (g_ad Γ) (look μ K i j)) = fun j => Value.int (μ K i j) := funext fun j => by rw [look_I (hI0 j)]; rfl
  have eg : (fun j => cv (g_ad Γ) (look μ K' i' j)) = fun j => Value.int (μ K' i' j) := funext fun j => by rw [look_I (hI1 j)]; rfl
  have nn : ∀ z : Int32, ¬ z < 0 → z.toInt = (z.toNatClampNeg : Int) := by
    intro z hz
    have hz0 : (0 : Int) ≤ z.toInt := by
      have := Int32.not_lt.mp hz
      simpa using Int32.le_iff_toInt_le.mp this
    show z.toInt = ((z.toInt.toNat : Nat) : Int)
    omega
  intro T hT X
  have hc0 := rp_arr hH hi0 hk0
  have hc1 := rp_arr hH hi1 hk1
  rw [ef] at hc0
  rw [eg] at hc1
  obtain ⟨-, k0, hkk0, cm0, hkd0⟩ := (hvm.2.2.2.2.1 K _ n0 hk0).1 n0 (fun j => .int (μ K i j))
  obtain ⟨-, k1, hkk1, cm1, hkd1⟩ := (hvm.2.2.2.2.1 K' _ n1 hk1).1 n1 (fun j => .int (μ K' i' j))
  obtain ⟨vm', X', step⟩ := X.arraycopy hx hown (hvm.2.1 _ hlk args) (hvm.2.1 _ hw1 args) (hvm.2.1 _ hw2 args) (hvm.2.1 _ hw3 args) (src := g_ad Γ K i) (dst := g_ad Γ K' i') (cs := arrV (g_cA Γ K) n0 (fun j => .int (μ K i j))) (cd := arrV (g_cA Γ K') n1 (fun j => .int (μ K' i' j))) (srcPos := sp) (destPos := dp) (n := n) (by rw [hT]; exact hc0) (by rw [hT]; exact hc1)
    (fun _ h => by cases h) (fun _ h => by cases h) (fun h => by cases h) (fun h => by cases h) hkk0 hkk1 hkd0 hkd1 (by simp [refKind]) h1 h2 h3
    (by rw [nn sp h1, nn n h3, arrV_size]; omega)
    (by rw [nn dp h2, nn n h3, arrV_size]; omega)
    (fun vm₁ _ j hj => by
      have e : (arrV (g_cA Γ K) n0 (fun j => .int (μ K i j))).slots.getD (sp.toNatClampNeg + j) .null = .int (μ K i (sp.toNatClampNeg + j)) := by
        rw [Array.getD_eq_getD_getElem?, arrV_read _ _ (by omega)]
        rfl
      refine ⟨?_, ?_⟩
      · rw [e]
        rfl
      · rw [e]
        exact trivial)
    (g := F0 m pc arr ((aI n :: aI dp :: aR K' i' :: aI sp :: aR K i :: st).map (cv (g_ad Γ)))) rfl (by rw [hml]; exact hL.1) (rest := st.map (cv (g_ad Γ))) rfl (by rw [hb]; exact hd) (Nat.le_trans hf0 hfr) (by
      show 2 * 0 + ((st.map (cv (g_ad Γ))).map fun v => v.category).sum + (nativeFrameWords "java/lang/System" "arraycopy" 5 + 11) ≤ R.locals
      have : nativeFrameWords "java/lang/System" "arraycopy" 5 = 7 := by decide
      omega)
  have e1 : copied (arrV (g_cA Γ K) n0 (fun j => .int (μ K i j))) (arrV (g_cA Γ K') n1 (fun j => .int (μ K' i' j))) sp dp n = arrV (g_cA Γ K') n1 (fun j => .int (va_cpy (μ K i) (μ K' i') sp.toNatClampNeg dp.toNatClampNeg n.toNatClampNeg j)) := va_copied (fun z => .int z) _ _ (μ K i) (μ K' i') h4
  rw [e1] at X' step
  have hl : g_ad Γ K' i' < H.size := (Array.getElem?_eq_some_iff.mp hc1).1
  generalize hcell : arrV (g_cA Γ K') n1 (fun j => Value.int (va_cpy (μ K i) (μ K' i') sp.toNatClampNeg dp.toNatClampNeg n.toNatClampNeg j)) = cell at X' step
  have hheap : ((T.setVm vm').setCell (g_ad Γ K' i') cell).heap = H.setIfInBounds (g_ad Γ K' i') cell := by rw [← hT]; rfl
  have oq : ∀ q : Nat, q ≠ g_ad Γ K' i' → (H.setIfInBounds (g_ad Γ K' i') cell)[q]? = H[q]? := fun q hq => by simp [Array.getElem?_setIfInBounds, Ne.symm hq]
  have hA : g_A Γ (g_ad Γ K' i') := hvm.1.2 K' i' (by rw [hk1]; simp) hi1
  obtain ⟨t, a1, b1⟩ := hk' _ _ (rp_set (μ' := cpy μ K i K' i' sp.toNatClampNeg dp.toNatClampNeg n.toNatClampNeg) hvm.1 hH hi1 (by rw [hk1]; simp) (H' := H.setIfInBounds (g_ad Γ K' i') cell) (by simp) oq (by
      unfold rp_c
      rw [hk1]
      show (H.setIfInBounds (g_ad Γ K' i') cell)[g_ad Γ K' i']? = _
      rw [Array.getElem?_setIfInBounds, if_pos rfl, if_pos hl, ← hcell]
      refine congrArg some (congrArg (arrV (g_cA Γ K') n1) (funext fun q => ?_))
      rw [look_cpy hI1]
      unfold va_cpy
      by_cases hq : dp.toNatClampNeg ≤ q ∧ q < dp.toNatClampNeg + n.toNatClampNeg
      · rw [if_pos hq, if_pos ⟨rfl, rfl, hq⟩]
        rfl
      · rw [if_neg hq, if_neg (fun z => hq z.2.2), look_I (hI1 _)]
        rfl) (fun A a s h => by rw [look_cpy hI1, if_neg (fun z => h ⟨z.1, z.2.1⟩)])) ⟨by simp; exact hS.1, fun q g1 g2 => by
      rw [oq q (fun e => g2 (by rw [e]; exact hA))]
      exact hS.2.1 q g1 g2, fun q hq => by
      rcases List.mem_append.mp hq with h | h
      · exact hS.2.2 q h
      · obtain ⟨z, -, hz⟩ := List.mem_map.mp h
        rw [← hz]
        exact hA⟩ _ hheap X'
  exact ⟨t, step t a1, b1⟩
end ACP
end
section
abbrev tn (x : Int32) : Nat := x.toNatClampNeg
/-- what a method answers: an int, a long, nothing, a reference or null -/
abbrev rI (Q : Int32 → mH → Prop) : aV → mH → Prop := fun r μ => ∃ x, r = aI x ∧ Q x μ
abbrev rL (Q : Int64 → mH → Prop) : aV → mH → Prop := fun r μ => ∃ x, r = aL x ∧ Q x μ
abbrev rV (Q : mH → Prop) : aV → mH → Prop := fun _ μ => Q μ
abbrev rQ (K : Nat) (Q : Option Nat → mH → Prop) : aV → mH → Prop := fun r μ => ∃ o, r = aQ K o ∧ Q o μ
abbrev cwi (Γ : cx_T) (M : mt_T) (vs : List aV) (μ : mH) (Q : Int32 → mH → Prop) : Prop := cw Γ M vs μ (rI Q)
abbrev cwl (Γ : cx_T) (M : mt_T) (vs : List aV) (μ : mH) (Q : Int64 → mH → Prop) : Prop := cw Γ M vs μ (rL Q)
abbrev cwv (Γ : cx_T) (M : mt_T) (vs : List aV) (μ : mH) (Q : mH → Prop) : Prop := cw Γ M vs μ (rV Q)
abbrev cwq (K : Nat) (Γ : cx_T) (M : mt_T) (vs : List aV) (μ : mH) (Q : Option Nat → mH → Prop) : Prop := cw Γ M vs μ (rQ K Q)
theorem cwi_mono {Γ : cx_T} {M : mt_T} {vs : List aV} {μ : mH} {Q Q' : Int32 → mH → Prop} (h : cwi Γ M vs μ Q) (hQ : ∀ x μ', Q x μ' → Q' x μ') : cwi Γ M vs μ Q' := cw_mono h (fun _ μ' ⟨x, e, q⟩ => ⟨x, e, hQ x μ' q⟩)
theorem cwl_mono {Γ : cx_T} {M : mt_T} {vs : List aV} {μ : mH} {Q Q' : Int64 → mH → Prop} (h : cwl Γ M vs μ Q) (hQ : ∀ x μ', Q x μ' → Q' x μ') : cwl Γ M vs μ Q' := cw_mono h (fun _ μ' ⟨x, e, q⟩ => ⟨x, e, hQ x μ' q⟩)
theorem cwv_mono {Γ : cx_T} {M : mt_T} {vs : List aV} {μ : mH} {Q Q' : mH → Prop} (h : cwv Γ M vs μ Q) (hQ : ∀ μ', Q μ' → Q' μ') : cwv Γ M vs μ Q' := cw_mono h (fun _ μ' q => hQ μ' q)
theorem cwq_mono {K : Nat} {Γ : cx_T} {M : mt_T} {vs : List aV} {μ : mH} {Q Q' : Option Nat → mH → Prop} (h : cwq K Γ M vs μ Q) (hQ : ∀ o μ', Q o μ' → Q' o μ') : cwq K Γ M vs μ Q' := cw_mono h (fun _ μ' ⟨x, e, q⟩ => ⟨x, e, hQ x μ' q⟩)
def isC1 (v : aV) : Bool := match v with
  | .inr (.inl _) => false
  | _ => true
theorem isC1_cat {v : aV} (h : isC1 v = true) (ad : Nat → Nat → Nat) : (cv ad v).category = 1 := by
  rcases lv_cat (cv ad v) with h1 | h1
  · exact h1
  · obtain ⟨x, rfl⟩ := cv_cat h1
    cases h
def wkL : List aV → List aV → Prop
  | [], [] => True
  | a :: l, b :: r => (a = aX ∨ a = b) ∧ wkL l r
  | _, _ => False
section AU
variable {Γ : cx_T} {M : mt_T} {pc : Nat} {ls ls' st : List aV} {μ : mH} {Q : aV → mH → Prop}
theorem cw_ofU {vs : List aV} (hpl : plainName (m_y M).cls = true) (hc : vs.all isC1 = true) (hn : vs.length ≤ m_L M) (he : vs ++ List.replicate (m_L M - vs.length) aX = ls) (h : aw Γ M 0 ls [] μ Q) : cw Γ M vs μ Q :=
  cw_of hpl (fun v hv ad => isC1_cat (List.all_eq_true.mp hc v hv) ad) hn he h
theorem wk_at : ∀ (ls' ls : List aV), wkL ls' ls → ∀ (i : Nat) (v : aV), ls'[i]? = some v → v ≠ aX → ls[i]? = some v
  | [], [], _, i, v, h, _ => by simp at h
  | [], _ :: _, h0, _, _, _, _ => h0.elim
  | _ :: _, [], h0, _, _, _, _ => h0.elim
  | a :: l, b :: r, h0, 0, v, h, hv => by
    rw [List.getElem?_cons_zero] at h ⊢
    rcases h0.1 with e | e
    · rw [e] at h; cases h; exact absurd rfl hv
    · rw [← e]; exact h
  | a :: l, b :: r, h0, i + 1, v, h, hv => by
    rw [List.getElem?_cons_succ] at h ⊢
    exact wk_at l r h0.2 i v h hv
theorem aw_wk (h : wkL ls' ls) (k : aw Γ M pc ls' st μ Q) : aw Γ M pc ls st μ Q := aw_weak (wk_at ls' ls h) k
theorem look_R {K i s a b : Nat} (h : rs K s = true) (hq : rf K i s = (a, b)) : look μ K i s = aR a b := by
  unfold look
  rw [if_pos h, hq]
theorem look_cpo {i s j : Nat} (h : cpo (μ 26 i s) = some j) : look μ 26 i s = aR 7 j := by
  show aQ 7 (cpo (μ 26 i s)) = _
  rw [h]
  rfl
theorem aw_ia {K i n j : Nat} {x y : Int32} (hd : decode (m_c M) pc = .ok (.iaload, 1)) (hk : kd K = some (.inr (.int, n))) (hI : ∀ s, isI K s = true) (hin : vp_in x n) (hj : x.toNatClampNeg = j) (hv : μ K i j = y) (k : aw Γ M (pc + 1) ls (aI y :: st) μ Q) : aw Γ M pc ls (aI x :: aR K i :: st) μ Q := by
  subst hj; subst hv
  exact aw_iald hd hk hI hin k
theorem aw_ba {K i n j : Nat} {x y : Int32} (hd : decode (m_c M) pc = .ok (.baload, 1)) (hk : kd K = some (.inr (.byte, n))) (hI : ∀ s, isI K s = true) (hin : vp_in x n) (hj : x.toNatClampNeg = j) (hv : μ K i j = y) (k : aw Γ M (pc + 1) ls (aI y :: st) μ Q) : aw Γ M pc ls (aI x :: aR K i :: st) μ Q := by
  subst hj; subst hv
  exact aw_bald hd hk hI hin k
theorem aw_za {K i n j : Nat} {x y : Int32} (hd : decode (m_c M) pc = .ok (.baload, 1)) (hk : kd K = some (.inr (.boolean, n))) (hI : ∀ s, isI K s = true) (hin : vp_in x n) (hj : x.toNatClampNeg = j) (hv : μ K i j = y) (k : aw Γ M (pc + 1) ls (aI y :: st) μ Q) : aw Γ M pc ls (aI x :: aR K i :: st) μ Q := by
  subst hj; subst hv
  exact aw_zald hd hk hI hin k
theorem aw_is {K i n j : Nat} {x y : Int32} (hd : decode (m_c M) pc = .ok (.iastore, 1)) (hk : kd K = some (.inr (.int, n))) (hI : ∀ s, isI K s = true) (hin : vp_in x n) (hj : x.toNatClampNeg = j) (k : aw Γ M (pc + 1) ls st (sto μ K i j y) Q) : aw Γ M pc ls (aI y :: aI x :: aR K i :: st) μ Q := by
  subst hj
  exact aw_iast hd hk hI hin k
theorem aw_bs {K i n j : Nat} {x y : Int32} (hd : decode (m_c M) pc = .ok (.bastore, 1)) (hk : kd K = some (.inr (.byte, n))) (hI : ∀ s, isI K s = true) (hin : vp_in x n) (hj : x.toNatClampNeg = j) (k : aw Γ M (pc + 1) ls st (sto μ K i j y.toInt8.toInt32) Q) : aw Γ M pc ls (aI y :: aI x :: aR K i :: st) μ Q := by
  subst hj
  exact aw_bast hd hk hI hin k
theorem aw_zs {K i n j : Nat} {x y : Int32} (hd : decode (m_c M) pc = .ok (.bastore, 1)) (hk : kd K = some (.inr (.boolean, n))) (hI : ∀ s, isI K s = true) (hin : vp_in x n) (hj : x.toNatClampNeg = j) (k : aw Γ M (pc + 1) ls st (sto μ K i j (y &&& 1)) Q) : aw Γ M pc ls (aI y :: aI x :: aR K i :: st) μ Q := by
  subst hj
  exact aw_zast hd hk hI hin k
theorem le_trans2 {a b c : Nat} (h : a ≤ b) (h2 : b ≤ c) : a ≤ c := Nat.le_trans h h2
theorem cp_w1 : Cond.native arraycopyName ∈ tb_g := tb_gm 669 (by decide +kernel) (by decide +kernel)
theorem cp_w2 : Cond.static arraycopyName ∈ tb_g := tb_gm 668 (by decide +kernel) (by decide +kernel)
theorem cp_w3 : Cond.initialized "java/lang/System" ∈ tb_g := tb_gm 79 (by decide +kernel) (by decide +kernel)
theorem aw_copy0 {K i n0 K' i' n1 idx : Nat} {n : Int32} (hd : decode (m_c M) pc = .ok (.invokestatic idx, 3)) (hlk : Cond.methodLink (m_y M).cls idx arraycopyName ∈ tb_g) (hk0 : kd K = some (.inr (.int, n0))) (hk1 : kd K' = some (.inr (.int, n1))) (hI0 : ∀ s, isI K s = true) (hI1 : ∀ s, isI K' s = true)
    (h3 : ¬ n < 0) (h4 : n.toNatClampNeg ≤ n0) (h5 : n.toNatClampNeg ≤ n1) (hf0 : 1 ≤ m_f M) (hm0 : 26 ≤ m_w M) (k : aw Γ M (pc + 3) ls st (cpy μ K i K' i' 0 0 (tn n)) Q) (hst : st.length ≤ 4 := by decide) : aw Γ M pc ls (aI n :: aI (0 : Int32) :: aR K' i' :: aI (0 : Int32) :: aR K i :: st) μ Q :=
  aw_copy hd hlk cp_w1 cp_w2 cp_w3 hk0 hk1 hI0 hI1 (by decide) (by decide) h3 (by show 0 + _ ≤ _; omega) (by show 0 + _ ≤ _; omega) hf0 hm0 hst k
end AU
end
section
theorem cd_X0_write : Cond.code yX0_write cX0_write 4 none ∈ tb_g := tb_gm 852 (by decide +kernel) (by decide +kernel)
theorem cd_X0_add : Cond.code yX0_add cX0_add 3 none ∈ tb_g := tb_gm 861 (by decide +kernel) (by decide +kernel)
theorem cd_X0_holds : Cond.code yX0_holds cX0_holds 2 (some .boolean) ∈ tb_g := tb_gm 908 (by decide +kernel) (by decide +kernel)
theorem cd_X0_rowOf : Cond.code yX0_rowOf cX0_rowOf 2 (some (.array .int)) ∈ tb_g := tb_gm 869 (by decide +kernel) (by decide +kernel)
theorem cd_X0_walk : Cond.code yX0_walk cX0_walk 5 none ∈ tb_g := tb_gm 912 (by decide +kernel) (by decide +kernel)
theorem cd_X0_faultsBy : Cond.code yX0_faultsBy cX0_faultsBy 8 (some .int) ∈ tb_g := tb_gm 882 (by decide +kernel) (by decide +kernel)
theorem cd_X0_inFiles : Cond.code yX0_inFiles cX0_inFiles 5 (some .int) ∈ tb_g := tb_gm 948 (by decide +kernel) (by decide +kernel)
theorem cd_X0_lostOnes : Cond.code yX0_lostOnes cX0_lostOnes 4 (some .int) ∈ tb_g := tb_gm 891 (by decide +kernel) (by decide +kernel)
theorem cd_X0_findUnlike : Cond.code yX0_findUnlike cX0_findUnlike 2 (some .boolean) ∈ tb_g := tb_gm 873 (by decide +kernel) (by decide +kernel)
theorem cd_X0_join : Cond.code yX0_join cX0_join 6 none ∈ tb_g := tb_gm 877 (by decide +kernel) (by decide +kernel)
theorem cd_X0_choose : Cond.code yX0_choose cX0_choose 5 none ∈ tb_g := tb_gm 895 (by decide +kernel) (by decide +kernel)
theorem cd_X1_search : Cond.code yX1_search cX1_search 7 none ∈ tb_g := tb_gm 688 (by decide +kernel) (by decide +kernel)
theorem cd_X1_rightOnes : Cond.code yX1_rightOnes cX1_rightOnes 3 (some .int) ∈ tb_g := tb_gm 765 (by decide +kernel) (by decide +kernel)
theorem cd_X1_slipsOfRight : Cond.code yX1_slipsOfRight cX1_slipsOfRight 3 (some .int) ∈ tb_g := tb_gm 773 (by decide +kernel) (by decide +kernel)
theorem cd_X2_push : Cond.code yX2_push cX2_push 3 none ∈ tb_g := tb_gm 500 (by decide +kernel) (by decide +kernel)
theorem cd_X2_parse : Cond.code yX2_parse cX2_parse 4 (some .int) ∈ tb_g := tb_gm 515 (by decide +kernel) (by decide +kernel)
theorem cd_X2_lineBegun : Cond.code yX2_lineBegun cX2_lineBegun 1 (some .int) ∈ tb_g := tb_gm 539 (by decide +kernel) (by decide +kernel)
theorem cd_X2_takeRest : Cond.code yX2_takeRest cX2_takeRest 4 (some .boolean) ∈ tb_g := tb_gm 601 (by decide +kernel) (by decide +kernel)
theorem cd_X2_takeMark : Cond.code yX2_takeMark cX2_takeMark 2 (some .boolean) ∈ tb_g := tb_gm 609 (by decide +kernel) (by decide +kernel)
theorem cd_X2_takeSum : Cond.code yX2_takeSum cX2_takeSum 2 (some .boolean) ∈ tb_g := tb_gm 613 (by decide +kernel) (by decide +kernel)
theorem cd_X2_takeNumber : Cond.code yX2_takeNumber cX2_takeNumber 3 (some .boolean) ∈ tb_g := tb_gm 605 (by decide +kernel) (by decide +kernel)
theorem cd_X2_takeStop : Cond.code yX2_takeStop cX2_takeStop 1 (some .boolean) ∈ tb_g := tb_gm 621 (by decide +kernel) (by decide +kernel)
theorem cd_X2_isWord : Cond.code yX2_isWord cX2_isWord 3 (some .boolean) ∈ tb_g := tb_gm 544 (by decide +kernel) (by decide +kernel)
theorem cd_X2_step : Cond.code yX2_step cX2_step 1 none ∈ tb_g := tb_gm 523 (by decide +kernel) (by decide +kernel)
theorem cd_X2_isLong : Cond.code yX2_isLong cX2_isLong 1 (some .boolean) ∈ tb_g := tb_gm 531 (by decide +kernel) (by decide +kernel)
theorem cd_X2_kindAt : Cond.code yX2_kindAt cX2_kindAt 3 (some .int) ∈ tb_g := tb_gm 527 (by decide +kernel) (by decide +kernel)
theorem cd_X3_forget : Cond.code yX3_forget cX3_forget 1 none ∈ tb_g := tb_gm 634 (by decide +kernel) (by decide +kernel)
theorem cd_X3_judgeCluster : Cond.code yX3_judgeCluster cX3_judgeCluster 4 (some .int) ∈ tb_g := tb_gm 921 (by decide +kernel) (by decide +kernel)
theorem cd_X3_judge : Cond.code yX3_judge cX3_judge 5 none ∈ tb_g := tb_gm 785 (by decide +kernel) (by decide +kernel)
theorem cd_X3_vote : Cond.code yX3_vote cX3_vote 4 (some .int) ∈ tb_g := tb_gm 838 (by decide +kernel) (by decide +kernel)
theorem cd_X3_gather : Cond.code yX3_gather cX3_gather 6 none ∈ tb_g := tb_gm 789 (by decide +kernel) (by decide +kernel)
theorem cd_X3_rightAgree : Cond.code yX3_rightAgree cX3_rightAgree 4 (some .boolean) ∈ tb_g := tb_gm 794 (by decide +kernel) (by decide +kernel)
theorem cd_X3_mend : Cond.code yX3_mend cX3_mend 8 (some .boolean) ∈ tb_g := tb_gm 803 (by decide +kernel) (by decide +kernel)
theorem cd_X3_gatherKinds : Cond.code yX3_gatherKinds cX3_gatherKinds 6 (some .boolean) ∈ tb_g := tb_gm 808 (by decide +kernel) (by decide +kernel)
theorem cd_X3_hasKind : Cond.code yX3_hasKind cX3_hasKind 4 (some .boolean) ∈ tb_g := tb_gm 816 (by decide +kernel) (by decide +kernel)
theorem cd_X3_hasSum : Cond.code yX3_hasSum cX3_hasSum 3 (some .boolean) ∈ tb_g := tb_gm 822 (by decide +kernel) (by decide +kernel)
theorem cd_X3_keepRow : Cond.code yX3_keepRow cX3_keepRow 3 none ∈ tb_g := tb_gm 826 (by decide +kernel) (by decide +kernel)
theorem cd_X3_chooseAnother : Cond.code yX3_chooseAnother cX3_chooseAnother 3 (some .int) ∈ tb_g := tb_gm 830 (by decide +kernel) (by decide +kernel)
theorem cd_X4_clear : Cond.code yX4_clear cX4_clear 1 none ∈ tb_g := tb_gm 519 (by decide +kernel) (by decide +kernel)
theorem cd_X4_take : Cond.code yX4_take cX4_take 2 none ∈ tb_g := tb_gm 630 (by decide +kernel) (by decide +kernel)
theorem cd_X4_firstByte : Cond.code yX4_firstByte cX4_firstByte 3 (some .int) ∈ tb_g := tb_gm 701 (by decide +kernel) (by decide +kernel)
theorem cd_X4_secondByte : Cond.code yX4_secondByte cX4_secondByte 3 (some .int) ∈ tb_g := tb_gm 705 (by decide +kernel) (by decide +kernel)
theorem cd_X4_sumOfHead : Cond.code yX4_sumOfHead cX4_sumOfHead 4 (some .int) ∈ tb_g := tb_gm 714 (by decide +kernel) (by decide +kernel)
theorem cd_X4_sumOf : Cond.code yX4_sumOf cX4_sumOf 6 (some .int) ∈ tb_g := tb_gm 710 (by decide +kernel) (by decide +kernel)
theorem cd_X4_sumWith : Cond.code yX4_sumWith cX4_sumWith 5 (some .int) ∈ tb_g := tb_gm 719 (by decide +kernel) (by decide +kernel)
theorem cd_X5_fill : Cond.code yX5_fill cX5_fill 11 none ∈ tb_g := tb_gm 673 (by decide +kernel) (by decide +kernel)
theorem cd_X5_push : Cond.code yX5_push cX5_push 3 none ∈ tb_g := tb_gm 681 (by decide +kernel) (by decide +kernel)
theorem cd_X6_write : Cond.code yX6_write cX6_write 6 (some .boolean) ∈ tb_g := tb_gm 959 (by decide +kernel) (by decide +kernel)
theorem cd_X6_pushByte : Cond.code yX6_pushByte cX6_pushByte 4 none ∈ tb_g := tb_gm 968 (by decide +kernel) (by decide +kernel)
theorem cd_X6_pushBit : Cond.code yX6_pushBit cX6_pushBit 2 none ∈ tb_g := tb_gm 963 (by decide +kernel) (by decide +kernel)
theorem cd_X7_isRight : Cond.code yX7_isRight cX7_isRight 1 (some .boolean) ∈ tb_g := tb_gm 769 (by decide +kernel) (by decide +kernel)
theorem cd_X7_take : Cond.code yX7_take cX7_take 8 none ∈ tb_g := tb_gm 693 (by decide +kernel) (by decide +kernel)
theorem cd_X7_hasData : Cond.code yX7_hasData cX7_hasData 4 (some .boolean) ∈ tb_g := tb_gm 798 (by decide +kernel) (by decide +kernel)
theorem cd_X7_byteOrSum : Cond.code yX7_byteOrSum cX7_byteOrSum 3 (some .int) ∈ tb_g := tb_gm 812 (by decide +kernel) (by decide +kernel)
theorem cd_X7_byteAt : Cond.code yX7_byteAt cX7_byteAt 6 (some .int) ∈ tb_g := tb_gm 697 (by decide +kernel) (by decide +kernel)
theorem cd_X7_slipsIn : Cond.code yX7_slipsIn cX7_slipsIn 8 (some .int) ∈ tb_g := tb_gm 726 (by decide +kernel) (by decide +kernel)
theorem cd_X8_holds : Cond.code yX8_holds cX8_holds 2 (some .boolean) ∈ tb_g := tb_gm 742 (by decide +kernel) (by decide +kernel)
theorem cd_X8_put : Cond.code yX8_put cX8_put 6 none ∈ tb_g := tb_gm 662 (by decide +kernel) (by decide +kernel)
theorem cd_X8_tune : Cond.code yX8_tune cX8_tune 9 none ∈ tb_g := tb_gm 754 (by decide +kernel) (by decide +kernel)
theorem cd_X8_keepBetter : Cond.code yX8_keepBetter cX8_keepBetter 6 none ∈ tb_g := tb_gm 761 (by decide +kernel) (by decide +kernel)
theorem cd_X8_hopeOf : Cond.code yX8_hopeOf cX8_hopeOf 6 (some .int) ∈ tb_g := tb_gm 932 (by decide +kernel) (by decide +kernel)
theorem cd_X10_push : Cond.code yX10_push cX10_push 4 none ∈ tb_g := tb_gm 646 (by decide +kernel) (by decide +kernel)
theorem cd_X10_take : Cond.code yX10_take cX10_take 2 none ∈ tb_g := tb_gm 666 (by decide +kernel) (by decide +kernel)
theorem cd_X11_feed : Cond.code yX11_feed cX11_feed 6 (some .int) ∈ tb_g := tb_gm 496 (by decide +kernel) (by decide +kernel)
theorem cd_X11_end : Cond.code yX11_end cX11_end 2 (some .boolean) ∈ tb_g := tb_gm 507 (by decide +kernel) (by decide +kernel)
theorem cd_X11_fault : Cond.code yX11_fault cX11_fault 1 (some .int) ∈ tb_g := tb_gm 511 (by decide +kernel) (by decide +kernel)
theorem cd_X11_format : Cond.code yX11_format cX11_format 1 (some .int) ∈ tb_g := tb_gm 626 (by decide +kernel) (by decide +kernel)
theorem cd_X11_flux : Cond.code yX11_flux cX11_flux 7 (some .int) ∈ tb_g := tb_gm 638 (by decide +kernel) (by decide +kernel)
theorem cd_X11_wipe : Cond.code yX11_wipe cX11_wipe 2 (some .int) ∈ tb_g := tb_gm 651 (by decide +kernel) (by decide +kernel)
theorem cd_X11_read : Cond.code yX11_read cX11_read 2 (some .int) ∈ tb_g := tb_gm 655 (by decide +kernel) (by decide +kernel)
theorem cd_X11_raw : Cond.code yX11_raw cX11_raw 4 (some .int) ∈ tb_g := tb_gm 733 (by decide +kernel) (by decide +kernel)
theorem cd_X11_found : Cond.code yX11_found cX11_found 5 (some .int) ∈ tb_g := tb_gm 738 (by decide +kernel) (by decide +kernel)
theorem cd_X11_tuned : Cond.code yX11_tuned cX11_tuned 4 (some .int) ∈ tb_g := tb_gm 750 (by decide +kernel) (by decide +kernel)
theorem cd_X11_status : Cond.code yX11_status cX11_status 4 (some .int) ∈ tb_g := tb_gm 777 (by decide +kernel) (by decide +kernel)
theorem cd_X11_value : Cond.code yX11_value cX11_value 4 (some .int) ∈ tb_g := tb_gm 834 (by decide +kernel) (by decide +kernel)
theorem cd_X11_tell : Cond.code yX11_tell cX11_tell 4 (some .boolean) ∈ tb_g := tb_gm 845 (by decide +kernel) (by decide +kernel)
theorem cd_X11_file : Cond.code yX11_file cX11_file 3 (some .int) ∈ tb_g := tb_gm 857 (by decide +kernel) (by decide +kernel)
theorem cd_X11_mishaps : Cond.code yX11_mishaps cX11_mishaps 3 (some .int) ∈ tb_g := tb_gm 865 (by decide +kernel) (by decide +kernel)
theorem cd_X11_next : Cond.code yX11_next cX11_next 4 (some .int) ∈ tb_g := tb_gm 900 (by decide +kernel) (by decide +kernel)
theorem cd_X11_chain : Cond.code yX11_chain cX11_chain 5 (some .int) ∈ tb_g := tb_gm 904 (by decide +kernel) (by decide +kernel)
theorem cd_X11_gaps : Cond.code yX11_gaps cX11_gaps 5 (some .int) ∈ tb_g := tb_gm 917 (by decide +kernel) (by decide +kernel)
theorem cd_X11_hope : Cond.code yX11_hope cX11_hope 2 (some .int) ∈ tb_g := tb_gm 928 (by decide +kernel) (by decide +kernel)
theorem cd_X11_ask : Cond.code yX11_ask cX11_ask 2 (some .int) ∈ tb_g := tb_gm 936 (by decide +kernel) (by decide +kernel)
theorem cd_X11_written : Cond.code yX11_written cX11_written 4 (some .int) ∈ tb_g := tb_gm 955 (by decide +kernel) (by decide +kernel)
theorem cd_X11_count : Cond.code yX11_count cX11_count 2 (some .int) ∈ tb_g := tb_gm 975 (by decide +kernel) (by decide +kernel)
theorem cd_X11_ofSector : Cond.code yX11_ofSector cX11_ofSector 3 (some .int) ∈ tb_g := tb_gm 746 (by decide +kernel) (by decide +kernel)
theorem cd_X11_canJudge : Cond.code yX11_canJudge cX11_canJudge 3 (some .boolean) ∈ tb_g := tb_gm 781 (by decide +kernel) (by decide +kernel)
theorem cd_X11_bestDrive : Cond.code yX11_bestDrive cX11_bestDrive 5 (some .int) ∈ tb_g := tb_gm 940 (by decide +kernel) (by decide +kernel)
theorem cd_X11_worstTrack : Cond.code yX11_worstTrack cX11_worstTrack 9 (some .int) ∈ tb_g := tb_gm 944 (by decide +kernel) (by decide +kernel)
theorem cd_X11_isDrive : Cond.code yX11_isDrive cX11_isDrive 1 (some .boolean) ∈ tb_g := tb_gm 658 (by decide +kernel) (by decide +kernel)
theorem cd_X11_isCluster : Cond.code yX11_isCluster cX11_isCluster 1 (some .boolean) ∈ tb_g := tb_gm 848 (by decide +kernel) (by decide +kernel)
theorem cd_X11_soundStatus : Cond.code yX11_soundStatus cX11_soundStatus 1 (some .boolean) ∈ tb_g := tb_gm 841 (by decide +kernel) (by decide +kernel)
theorem cd_X11_byteOf : Cond.code yX11_byteOf cX11_byteOf 2 (some .int) ∈ tb_g := tb_gm 503 (by decide +kernel) (by decide +kernel)
theorem cd_X11_stepsIn : Cond.code yX11_stepsIn cX11_stepsIn 3 (some .int) ∈ tb_g := tb_gm 641 (by decide +kernel) (by decide +kernel)
theorem cd_X11_clockDue : Cond.code yX11_clockDue cX11_clockDue 2 (some .int) ∈ tb_g := tb_gm 729 (by decide +kernel) (by decide +kernel)
theorem cd_X12_in : Cond.code yX12_in cX12_in 3 (some .boolean) ∈ tb_g := tb_gm 1108 (by decide +kernel) (by decide +kernel)
theorem cd_X12_feed : Cond.code yX12_feed cX12_feed 8 (some .int) ∈ tb_g := tb_gm 1101 (by decide +kernel) (by decide +kernel)
theorem cd_X12_end : Cond.code yX12_end cX12_end 2 (some .boolean) ∈ tb_g := tb_gm 1105 (by decide +kernel) (by decide +kernel)
theorem cd_X12_isLetter : Cond.code yX12_isLetter cX12_isLetter 1 (some .boolean) ∈ tb_g := tb_gm 1119 (by decide +kernel) (by decide +kernel)
theorem cd_X12_isDigit : Cond.code yX12_isDigit cX12_isDigit 1 (some .boolean) ∈ tb_g := tb_gm 1122 (by decide +kernel) (by decide +kernel)
theorem cd_X12_leads : Cond.code yX12_leads cX12_leads 2 none ∈ tb_g := tb_gm 1116 (by decide +kernel) (by decide +kernel)
theorem cd_X12_packed : Cond.code yX12_packed cX12_packed 4 (some .long) ∈ tb_g := tb_gm 1137 (by decide +kernel) (by decide +kernel)
theorem cd_X12_isWord : Cond.code yX12_isWord cX12_isWord 2 (some .boolean) ∈ tb_g := tb_gm 1134 (by decide +kernel) (by decide +kernel)
theorem cd_X12_number : Cond.code yX12_number cX12_number 4 (some .boolean) ∈ tb_g := tb_gm 1148 (by decide +kernel) (by decide +kernel)
theorem cd_X12_closes : Cond.code yX12_closes cX12_closes 1 (some .boolean) ∈ tb_g := tb_gm 1160 (by decide +kernel) (by decide +kernel)
theorem cd_X12_sumHere : Cond.code yX12_sumHere cX12_sumHere 1 (some .boolean) ∈ tb_g := tb_gm 1152 (by decide +kernel) (by decide +kernel)
theorem cd_X12_line : Cond.code yX12_line cX12_line 3 (some .boolean) ∈ tb_g := tb_gm 1129 (by decide +kernel) (by decide +kernel)
theorem cd_X12_fault : Cond.code yX12_fault cX12_fault 2 (some .int) ∈ tb_g := tb_gm 1112 (by decide +kernel) (by decide +kernel)
theorem cd_X12_format : Cond.code yX12_format cX12_format 2 (some .int) ∈ tb_g := tb_gm 1164 (by decide +kernel) (by decide +kernel)
theorem cd_X12_flux : Cond.code yX12_flux cX12_flux 9 (some .int) ∈ tb_g := tb_gm 1169 (by decide +kernel) (by decide +kernel)
theorem cd_X12_byteOf : Cond.code yX12_byteOf cX12_byteOf 7 (some .int) ∈ tb_g := tb_gm 1172 (by decide +kernel) (by decide +kernel)
theorem cd_X12_wipe : Cond.code yX12_wipe cX12_wipe 2 (some .int) ∈ tb_g := tb_gm 1176 (by decide +kernel) (by decide +kernel)
theorem cd_X12_read : Cond.code yX12_read cX12_read 3 (some .int) ∈ tb_g := tb_gm 1180 (by decide +kernel) (by decide +kernel)
theorem cd_X12_turns : Cond.code yX12_turns cX12_turns 10 none ∈ tb_g := tb_gm 1188 (by decide +kernel) (by decide +kernel)
theorem cd_X12_raw : Cond.code yX12_raw cX12_raw 4 (some .int) ∈ tb_g := tb_gm 1184 (by decide +kernel) (by decide +kernel)
theorem cd_X12_many : Cond.code yX12_many cX12_many 1 (some .int) ∈ tb_g := tb_gm 1201 (by decide +kernel) (by decide +kernel)
theorem cd_X12_bitOf : Cond.code yX12_bitOf cX12_bitOf 2 (some .int) ∈ tb_g := tb_gm 1208 (by decide +kernel) (by decide +kernel)
theorem cd_X12_isMark : Cond.code yX12_isMark cX12_isMark 4 (some .boolean) ∈ tb_g := tb_gm 1205 (by decide +kernel) (by decide +kernel)
theorem cd_X12_finds : Cond.code yX12_finds cX12_finds 6 none ∈ tb_g := tb_gm 1197 (by decide +kernel) (by decide +kernel)
theorem cd_X12_takes : Cond.code yX12_takes cX12_takes 8 none ∈ tb_g := tb_gm 1212 (by decide +kernel) (by decide +kernel)
theorem cd_X12_sumOf : Cond.code yX12_sumOf cX12_sumOf 4 (some .int) ∈ tb_g := tb_gm 1232 (by decide +kernel) (by decide +kernel)
theorem cd_X12_sumOfSector : Cond.code yX12_sumOfSector cX12_sumOfSector 3 (some .int) ∈ tb_g := tb_gm 1228 (by decide +kernel) (by decide +kernel)
theorem cd_X12_told : Cond.code yX12_told cX12_told 2 (some .int) ∈ tb_g := tb_gm 1224 (by decide +kernel) (by decide +kernel)
theorem cd_X12_isRight : Cond.code yX12_isRight cX12_isRight 2 (some .boolean) ∈ tb_g := tb_gm 1242 (by decide +kernel) (by decide +kernel)
theorem cd_X12_trackOf : Cond.code yX12_trackOf cX12_trackOf 2 (some .int) ∈ tb_g := tb_gm 1216 (by decide +kernel) (by decide +kernel)
theorem cd_X12_numberOf : Cond.code yX12_numberOf cX12_numberOf 2 (some .int) ∈ tb_g := tb_gm 1220 (by decide +kernel) (by decide +kernel)
theorem cd_X12_found : Cond.code yX12_found cX12_found 4 (some .int) ∈ tb_g := tb_gm 1193 (by decide +kernel) (by decide +kernel)
theorem cd_X12_tuned : Cond.code yX12_tuned cX12_tuned 12 (some .int) ∈ tb_g := tb_gm 1236 (by decide +kernel) (by decide +kernel)
theorem cd_X12_gathers : Cond.code yX12_gathers cX12_gathers 6 none ∈ tb_g := tb_gm 1258 (by decide +kernel) (by decide +kernel)
theorem cd_X12_isAhead : Cond.code yX12_isAhead cX12_isAhead 4 (some .boolean) ∈ tb_g := tb_gm 1266 (by decide +kernel) (by decide +kernel)
theorem cd_X12_mends : Cond.code yX12_mends cX12_mends 6 (some .int) ∈ tb_g := tb_gm 1262 (by decide +kernel) (by decide +kernel)
theorem cd_X12_statusOf : Cond.code yX12_statusOf cX12_statusOf 7 (some .int) ∈ tb_g := tb_gm 1254 (by decide +kernel) (by decide +kernel)
theorem cd_X12_isWhole : Cond.code yX12_isWhole cX12_isWhole 1 (some .boolean) ∈ tb_g := tb_gm 1273 (by decide +kernel) (by decide +kernel)
theorem cd_X12_isSector : Cond.code yX12_isSector cX12_isSector 3 (some .boolean) ∈ tb_g := tb_gm 1250 (by decide +kernel) (by decide +kernel)
theorem cd_X12_status : Cond.code yX12_status cX12_status 7 (some .int) ∈ tb_g := tb_gm 1246 (by decide +kernel) (by decide +kernel)
theorem cd_X12_value : Cond.code yX12_value cX12_value 10 (some .int) ∈ tb_g := tb_gm 1270 (by decide +kernel) (by decide +kernel)
theorem cd_X12_isCluster : Cond.code yX12_isCluster cX12_isCluster 1 (some .boolean) ∈ tb_g := tb_gm 1280 (by decide +kernel) (by decide +kernel)
theorem cd_X12_tell : Cond.code yX12_tell cX12_tell 4 (some .boolean) ∈ tb_g := tb_gm 1277 (by decide +kernel) (by decide +kernel)
theorem cd_X12_file : Cond.code yX12_file cX12_file 3 (some .int) ∈ tb_g := tb_gm 1284 (by decide +kernel) (by decide +kernel)
theorem cd_X12_chains : Cond.code yX12_chains cX12_chains 4 none ∈ tb_g := tb_gm 1308 (by decide +kernel) (by decide +kernel)
theorem cd_X12_mishapsNow : Cond.code yX12_mishapsNow cX12_mishapsNow 5 (some .int) ∈ tb_g := tb_gm 1304 (by decide +kernel) (by decide +kernel)
theorem cd_X12_takesFrom : Cond.code yX12_takesFrom cX12_takesFrom 3 none ∈ tb_g := tb_gm 1297 (by decide +kernel) (by decide +kernel)
theorem cd_X12_ones : Cond.code yX12_ones cX12_ones 3 (some .int) ∈ tb_g := tb_gm 1300 (by decide +kernel) (by decide +kernel)
theorem cd_X12_asks : Cond.code yX12_asks cX12_asks 8 (some .boolean) ∈ tb_g := tb_gm 1292 (by decide +kernel) (by decide +kernel)
theorem cd_X12_mishaps : Cond.code yX12_mishaps cX12_mishaps 2 (some .int) ∈ tb_g := tb_gm 1288 (by decide +kernel) (by decide +kernel)
theorem cd_X12_next : Cond.code yX12_next cX12_next 3 (some .int) ∈ tb_g := tb_gm 1312 (by decide +kernel) (by decide +kernel)
theorem cd_X12_chain : Cond.code yX12_chain cX12_chain 4 (some .int) ∈ tb_g := tb_gm 1316 (by decide +kernel) (by decide +kernel)
theorem cd_X12_gaps : Cond.code yX12_gaps cX12_gaps 4 (some .int) ∈ tb_g := tb_gm 1320 (by decide +kernel) (by decide +kernel)
theorem cd_X12_hope : Cond.code yX12_hope cX12_hope 7 (some .int) ∈ tb_g := tb_gm 1324 (by decide +kernel) (by decide +kernel)
theorem cd_X12_ask : Cond.code yX12_ask cX12_ask 8 (some .int) ∈ tb_g := tb_gm 1328 (by decide +kernel) (by decide +kernel)
theorem cd_X12_lays : Cond.code yX12_lays cX12_lays 2 (some .boolean) ∈ tb_g := tb_gm 1341 (by decide +kernel) (by decide +kernel)
theorem cd_X12_writes : Cond.code yX12_writes cX12_writes 8 (some .boolean) ∈ tb_g := tb_gm 1337 (by decide +kernel) (by decide +kernel)
theorem cd_X12_written : Cond.code yX12_written cX12_written 4 (some .int) ∈ tb_g := tb_gm 1333 (by decide +kernel) (by decide +kernel)
theorem cd_X12_count : Cond.code yX12_count cX12_count 2 (some .int) ∈ tb_g := tb_gm 1345 (by decide +kernel) (by decide +kernel)
theorem cd_J6_bitCount_0f7a4 : Cond.code yJ6_bitCount_0f7a4 cJ6_bitCount_0f7a4 1 (some .int) ∈ tb_g := tb_gm 885 (by decide +kernel) (by decide +kernel)
theorem cd_J9_floorDiv_7cf53 : Cond.code yJ9_floorDiv_7cf53 cJ9_floorDiv_7cf53 3 (some .int) ∈ tb_g := tb_gm 684 (by decide +kernel) (by decide +kernel)
theorem cd_J9_max_7cf53 : Cond.code yJ9_max_7cf53 cJ9_max_7cf53 2 (some .int) ∈ tb_g := tb_gm 676 (by decide +kernel) (by decide +kernel)
theorem cd_J9_min_7cf53 : Cond.code yJ9_min_7cf53 cJ9_min_7cf53 2 (some .int) ∈ tb_g := tb_gm 535 (by decide +kernel) (by decide +kernel)
theorem cd_J0_length_8abf5 : Cond.code yJ0_length_8abf5 cJ0_length_8abf5 1 (some .int) ∈ tb_g := tb_gm 548 (by decide +kernel) (by decide +kernel)
theorem cd_J0_charAt_5068e : Cond.code yJ0_charAt_5068e cJ0_charAt_5068e 2 (some .char) ∈ tb_g := tb_gm 558 (by decide +kernel) (by decide +kernel)
theorem cd_J0_coder_7d493 : Cond.code yJ0_coder_7d493 cJ0_coder_7d493 1 (some .byte) ∈ tb_g := tb_gm 552 (by decide +kernel) (by decide +kernel)
theorem cd_J0_isLatin1_aae02 : Cond.code yJ0_isLatin1_aae02 cJ0_isLatin1_aae02 1 (some .boolean) ∈ tb_g := tb_gm 562 (by decide +kernel) (by decide +kernel)
theorem cd_J0_checkIndex_df160 : Cond.code yJ0_checkIndex_df160 cJ0_checkIndex_df160 2 none ∈ tb_g := tb_gm 568 (by decide +kernel) (by decide +kernel)
theorem cd_J1_charAt_3b067 : Cond.code yJ1_charAt_3b067 cJ1_charAt_3b067 2 (some .char) ∈ tb_g := tb_gm 565 (by decide +kernel) (by decide +kernel)
theorem cd_J7_fill_53178 : Cond.code yJ7_fill_53178 cJ7_fill_53178 4 none ∈ tb_g := tb_gm 346 (by decide +kernel) (by decide +kernel)
theorem cd_J3_checkIndex_8e157 : Cond.code yJ3_checkIndex_8e157 cJ3_checkIndex_8e157 3 (some .int) ∈ tb_g := tb_gm 573 (by decide +kernel) (by decide +kernel)
end
