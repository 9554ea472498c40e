-- ===== PART A: goes FIRST, ahead of the names: the tables' words, and 'selects' of the private methods out of them =====
/-- a private method of a class that the tables say can be made, by its rows of tables_1 -/
def lw_okq (q : MethodName × Nat) : Prop := (q.1.cls ≠ "java/lang/invoke/MethodHandle" ∧ q.1.cls ≠ "java/lang/invoke/VarHandle") ∧ Cond.instantiable q.1.cls q.2 ∈ tables_1 ∧ Cond.privateMethod q.1 ∈ tables_1 ∧ Cond.instanceMethod q.1 ∈ tables_1
theorem lw_p0 : lw_okq (⟨"RingDrive", "sendText", "(II)Z"⟩, 9) := ⟨⟨by decide +kernel, by decide +kernel⟩, List.mem_of_getElem? (i := 22) (by decide +kernel), List.mem_of_getElem? (i := 507) (by decide +kernel), List.mem_of_getElem? (i := 508) (by decide +kernel)⟩
theorem lw_p1 : lw_okq (⟨"RingDrive$Commands", "newDisk", "()I"⟩, 10) := ⟨⟨by decide +kernel, by decide +kernel⟩, List.mem_of_getElem? (i := 424) (by decide +kernel), List.mem_of_getElem? (i := 539) (by decide +kernel), List.mem_of_getElem? (i := 540) (by decide +kernel)⟩
theorem lw_p2 : lw_okq (⟨"RingDrive$Commands", "formatAll", "(II)I"⟩, 10) := ⟨⟨by decide +kernel, by decide +kernel⟩, List.mem_of_getElem? (i := 424) (by decide +kernel), List.mem_of_getElem? (i := 562) (by decide +kernel), List.mem_of_getElem? (i := 563) (by decide +kernel)⟩
theorem lw_p3 : lw_okq (⟨"RingDrive$Disk", "codeData", "([I)V"⟩, 10) := ⟨⟨by decide +kernel, by decide +kernel⟩, List.mem_of_getElem? (i := 97) (by decide +kernel), List.mem_of_getElem? (i := 583) (by decide +kernel), List.mem_of_getElem? (i := 584) (by decide +kernel)⟩
theorem lw_p4 : lw_okq (⟨"RingDrive$Disk", "fillHeader", "(IIII)V"⟩, 10) := ⟨⟨by decide +kernel, by decide +kernel⟩, List.mem_of_getElem? (i := 97) (by decide +kernel), List.mem_of_getElem? (i := 592) (by decide +kernel), List.mem_of_getElem? (i := 593) (by decide +kernel)⟩
theorem lw_p5 : lw_okq (⟨"RingDrive$Disk", "isHeader", "()Z"⟩, 10) := ⟨⟨by decide +kernel, by decide +kernel⟩, List.mem_of_getElem? (i := 97) (by decide +kernel), List.mem_of_getElem? (i := 651) (by decide +kernel), List.mem_of_getElem? (i := 652) (by decide +kernel)⟩
theorem lw_p6 : lw_okq (⟨"RingDrive$Pattern", "padded", "(I)I"⟩, 2) := ⟨⟨by decide +kernel, by decide +kernel⟩, List.mem_of_getElem? (i := 232) (by decide +kernel), List.mem_of_getElem? (i := 681) (by decide +kernel), List.mem_of_getElem? (i := 682) (by decide +kernel)⟩
theorem lw_p7 : lw_okq (⟨"RingDrive$Disk", "seek", "(LRingDrive$Ring;II)I"⟩, 10) := ⟨⟨by decide +kernel, by decide +kernel⟩, List.mem_of_getElem? (i := 97) (by decide +kernel), List.mem_of_getElem? (i := 694) (by decide +kernel), List.mem_of_getElem? (i := 695) (by decide +kernel)⟩
theorem lw_p8 : lw_okq (⟨"RingDrive$Commands", "scratch", "()I"⟩, 10) := ⟨⟨by decide +kernel, by decide +kernel⟩, List.mem_of_getElem? (i := 424) (by decide +kernel), List.mem_of_getElem? (i := 720) (by decide +kernel), List.mem_of_getElem? (i := 721) (by decide +kernel)⟩
theorem lw_p9 : lw_okq (⟨"RingDrive$Disk", "dataFault", "()I"⟩, 10) := ⟨⟨by decide +kernel, by decide +kernel⟩, List.mem_of_getElem? (i := 97) (by decide +kernel), List.mem_of_getElem? (i := 740) (by decide +kernel), List.mem_of_getElem? (i := 741) (by decide +kernel)⟩
theorem lw_p10 : lw_okq (⟨"RingDrive$Directory", "isWanted", "(ILRingDrive$Pattern;)Z"⟩, 9) := ⟨⟨by decide +kernel, by decide +kernel⟩, List.mem_of_getElem? (i := 269) (by decide +kernel), List.mem_of_getElem? (i := 747) (by decide +kernel), List.mem_of_getElem? (i := 748) (by decide +kernel)⟩
theorem lw_p11 : lw_okq (⟨"RingDrive$Directory", "base", "()I"⟩, 9) := ⟨⟨by decide +kernel, by decide +kernel⟩, List.mem_of_getElem? (i := 269) (by decide +kernel), List.mem_of_getElem? (i := 751) (by decide +kernel), List.mem_of_getElem? (i := 752) (by decide +kernel)⟩
theorem lw_p12 : lw_okq (⟨"RingDrive$Dos", "giveBackChain", "(II)I"⟩, 12) := ⟨⟨by decide +kernel, by decide +kernel⟩, List.mem_of_getElem? (i := 224) (by decide +kernel), List.mem_of_getElem? (i := 794) (by decide +kernel), List.mem_of_getElem? (i := 795) (by decide +kernel)⟩
theorem lw_p13 : lw_okq (⟨"RingDrive$Commands", "rename", "()I"⟩, 10) := ⟨⟨by decide +kernel, by decide +kernel⟩, List.mem_of_getElem? (i := 424) (by decide +kernel), List.mem_of_getElem? (i := 810) (by decide +kernel), List.mem_of_getElem? (i := 811) (by decide +kernel)⟩
theorem lw_p14 : lw_okq (⟨"RingDrive$Commands", "initialise", "()I"⟩, 10) := ⟨⟨by decide +kernel, by decide +kernel⟩, List.mem_of_getElem? (i := 424) (by decide +kernel), List.mem_of_getElem? (i := 819) (by decide +kernel), List.mem_of_getElem? (i := 820) (by decide +kernel)⟩
theorem lw_p15 : lw_okq (⟨"RingDrive$Commands", "unknown", "()I"⟩, 10) := ⟨⟨by decide +kernel, by decide +kernel⟩, List.mem_of_getElem? (i := 424) (by decide +kernel), List.mem_of_getElem? (i := 824) (by decide +kernel), List.mem_of_getElem? (i := 825) (by decide +kernel)⟩
def lw_privs_1 : List (MethodName × Nat) := [(⟨"RingDrive", "sendText", "(II)Z"⟩, 9), (⟨"RingDrive$Commands", "newDisk", "()I"⟩, 10), (⟨"RingDrive$Commands", "formatAll", "(II)I"⟩, 10), (⟨"RingDrive$Disk", "codeData", "([I)V"⟩, 10), (⟨"RingDrive$Disk", "fillHeader", "(IIII)V"⟩, 10), (⟨"RingDrive$Disk", "isHeader", "()Z"⟩, 10), (⟨"RingDrive$Pattern", "padded", "(I)I"⟩, 2), (⟨"RingDrive$Disk", "seek", "(LRingDrive$Ring;II)I"⟩, 10), (⟨"RingDrive$Commands", "scratch", "()I"⟩, 10), (⟨"RingDrive$Disk", "dataFault", "()I"⟩, 10), (⟨"RingDrive$Directory", "isWanted", "(ILRingDrive$Pattern;)Z"⟩, 9), (⟨"RingDrive$Directory", "base", "()I"⟩, 9), (⟨"RingDrive$Dos", "giveBackChain", "(II)I"⟩, 12), (⟨"RingDrive$Commands", "rename", "()I"⟩, 10), (⟨"RingDrive$Commands", "initialise", "()I"⟩, 10), (⟨"RingDrive$Commands", "unknown", "()I"⟩, 10)]
theorem lw_r1 : ∀ q ∈ lw_privs_1, lw_okq q := List.forall_mem_cons.mpr ⟨lw_p0, List.forall_mem_cons.mpr ⟨lw_p1, List.forall_mem_cons.mpr ⟨lw_p2, List.forall_mem_cons.mpr ⟨lw_p3, List.forall_mem_cons.mpr ⟨lw_p4, List.forall_mem_cons.mpr ⟨lw_p5, List.forall_mem_cons.mpr ⟨lw_p6, List.forall_mem_cons.mpr ⟨lw_p7, List.forall_mem_cons.mpr ⟨lw_p8, List.forall_mem_cons.mpr ⟨lw_p9, List.forall_mem_cons.mpr ⟨lw_p10, List.forall_mem_cons.mpr ⟨lw_p11, List.forall_mem_cons.mpr ⟨lw_p12, List.forall_mem_cons.mpr ⟨lw_p13, List.forall_mem_cons.mpr ⟨lw_p14, List.forall_mem_cons.mpr ⟨lw_p15, fun _ h => absurd h List.not_mem_nil⟩⟩⟩⟩⟩⟩⟩⟩⟩⟩⟩⟩⟩⟩⟩⟩
theorem lw_p16 : lw_okq (⟨"RingDrive$Commands", "validate", "()I"⟩, 10) := ⟨⟨by decide +kernel, by decide +kernel⟩, List.mem_of_getElem? (i := 424) (by decide +kernel), List.mem_of_getElem? (i := 828) (by decide +kernel), List.mem_of_getElem? (i := 829) (by decide +kernel)⟩
theorem lw_p17 : lw_okq (⟨"RingDrive$Commands", "takeDirectory", "()I"⟩, 10) := ⟨⟨by decide +kernel, by decide +kernel⟩, List.mem_of_getElem? (i := 424) (by decide +kernel), List.mem_of_getElem? (i := 834) (by decide +kernel), List.mem_of_getElem? (i := 835) (by decide +kernel)⟩
theorem lw_p18 : lw_okq (⟨"RingDrive$Commands", "takeChain", "(II)I"⟩, 10) := ⟨⟨by decide +kernel, by decide +kernel⟩, List.mem_of_getElem? (i := 424) (by decide +kernel), List.mem_of_getElem? (i := 846) (by decide +kernel), List.mem_of_getElem? (i := 847) (by decide +kernel)⟩
theorem lw_p19 : lw_okq (⟨"RingDrive$Commands", "user", "()I"⟩, 10) := ⟨⟨by decide +kernel, by decide +kernel⟩, List.mem_of_getElem? (i := 424) (by decide +kernel), List.mem_of_getElem? (i := 855) (by decide +kernel), List.mem_of_getElem? (i := 856) (by decide +kernel)⟩
theorem lw_p20 : lw_okq (⟨"RingDrive$Commands", "moveBlock", "(Z)I"⟩, 10) := ⟨⟨by decide +kernel, by decide +kernel⟩, List.mem_of_getElem? (i := 424) (by decide +kernel), List.mem_of_getElem? (i := 859) (by decide +kernel), List.mem_of_getElem? (i := 860) (by decide +kernel)⟩
theorem lw_p21 : lw_okq (⟨"RingDrive$Commands", "restart", "()I"⟩, 10) := ⟨⟨by decide +kernel, by decide +kernel⟩, List.mem_of_getElem? (i := 424) (by decide +kernel), List.mem_of_getElem? (i := 881) (by decide +kernel), List.mem_of_getElem? (i := 882) (by decide +kernel)⟩
theorem lw_p22 : lw_okq (⟨"RingDrive$Commands", "block", "()I"⟩, 10) := ⟨⟨by decide +kernel, by decide +kernel⟩, List.mem_of_getElem? (i := 424) (by decide +kernel), List.mem_of_getElem? (i := 886) (by decide +kernel), List.mem_of_getElem? (i := 887) (by decide +kernel)⟩
theorem lw_p23 : lw_okq (⟨"RingDrive$Commands", "setPlace", "()I"⟩, 10) := ⟨⟨by decide +kernel, by decide +kernel⟩, List.mem_of_getElem? (i := 424) (by decide +kernel), List.mem_of_getElem? (i := 890) (by decide +kernel), List.mem_of_getElem? (i := 891) (by decide +kernel)⟩
theorem lw_p24 : lw_okq (⟨"RingDrive$Commands", "allocate", "(Z)I"⟩, 10) := ⟨⟨by decide +kernel, by decide +kernel⟩, List.mem_of_getElem? (i := 424) (by decide +kernel), List.mem_of_getElem? (i := 894) (by decide +kernel), List.mem_of_getElem? (i := 895) (by decide +kernel)⟩
theorem lw_p25 : lw_okq (⟨"RingDrive$Commands", "tellNextFree", "(II)I"⟩, 10) := ⟨⟨by decide +kernel, by decide +kernel⟩, List.mem_of_getElem? (i := 424) (by decide +kernel), List.mem_of_getElem? (i := 898) (by decide +kernel), List.mem_of_getElem? (i := 899) (by decide +kernel)⟩
theorem lw_p26 : lw_okq (⟨"RingDrive$Commands", "program", "()I"⟩, 10) := ⟨⟨by decide +kernel, by decide +kernel⟩, List.mem_of_getElem? (i := 424) (by decide +kernel), List.mem_of_getElem? (i := 904) (by decide +kernel), List.mem_of_getElem? (i := 905) (by decide +kernel)⟩
theorem lw_p27 : lw_okq (⟨"RingDrive$Commands", "argument", "(I)I"⟩, 10) := ⟨⟨by decide +kernel, by decide +kernel⟩, List.mem_of_getElem? (i := 424) (by decide +kernel), List.mem_of_getElem? (i := 908) (by decide +kernel), List.mem_of_getElem? (i := 909) (by decide +kernel)⟩
theorem lw_p28 : lw_okq (⟨"RingDrive$Processor", "begin", "(I)V"⟩, 10) := ⟨⟨by decide +kernel, by decide +kernel⟩, List.mem_of_getElem? (i := 180) (by decide +kernel), List.mem_of_getElem? (i := 929) (by decide +kernel), List.mem_of_getElem? (i := 930) (by decide +kernel)⟩
theorem lw_p29 : lw_okq (⟨"RingDrive$Processor", "locate", "(I)V"⟩, 10) := ⟨⟨by decide +kernel, by decide +kernel⟩, List.mem_of_getElem? (i := 180) (by decide +kernel), List.mem_of_getElem? (i := 940) (by decide +kernel), List.mem_of_getElem? (i := 941) (by decide +kernel)⟩
theorem lw_p30 : lw_okq (⟨"RingDrive$Processor", "fetch", "()I"⟩, 10) := ⟨⟨by decide +kernel, by decide +kernel⟩, List.mem_of_getElem? (i := 180) (by decide +kernel), List.mem_of_getElem? (i := 944) (by decide +kernel), List.mem_of_getElem? (i := 945) (by decide +kernel)⟩
theorem lw_p31 : lw_okq (⟨"RingDrive$Processor", "fetchTwo", "()I"⟩, 10) := ⟨⟨by decide +kernel, by decide +kernel⟩, List.mem_of_getElem? (i := 180) (by decide +kernel), List.mem_of_getElem? (i := 948) (by decide +kernel), List.mem_of_getElem? (i := 949) (by decide +kernel)⟩
def lw_privs_2 : List (MethodName × Nat) := [(⟨"RingDrive$Commands", "validate", "()I"⟩, 10), (⟨"RingDrive$Commands", "takeDirectory", "()I"⟩, 10), (⟨"RingDrive$Commands", "takeChain", "(II)I"⟩, 10), (⟨"RingDrive$Commands", "user", "()I"⟩, 10), (⟨"RingDrive$Commands", "moveBlock", "(Z)I"⟩, 10), (⟨"RingDrive$Commands", "restart", "()I"⟩, 10), (⟨"RingDrive$Commands", "block", "()I"⟩, 10), (⟨"RingDrive$Commands", "setPlace", "()I"⟩, 10), (⟨"RingDrive$Commands", "allocate", "(Z)I"⟩, 10), (⟨"RingDrive$Commands", "tellNextFree", "(II)I"⟩, 10), (⟨"RingDrive$Commands", "program", "()I"⟩, 10), (⟨"RingDrive$Commands", "argument", "(I)I"⟩, 10), (⟨"RingDrive$Processor", "begin", "(I)V"⟩, 10), (⟨"RingDrive$Processor", "locate", "(I)V"⟩, 10), (⟨"RingDrive$Processor", "fetch", "()I"⟩, 10), (⟨"RingDrive$Processor", "fetchTwo", "()I"⟩, 10)]
theorem lw_r2 : ∀ q ∈ lw_privs_2, lw_okq q := List.forall_mem_cons.mpr ⟨lw_p16, List.forall_mem_cons.mpr ⟨lw_p17, List.forall_mem_cons.mpr ⟨lw_p18, List.forall_mem_cons.mpr ⟨lw_p19, List.forall_mem_cons.mpr ⟨lw_p20, List.forall_mem_cons.mpr ⟨lw_p21, List.forall_mem_cons.mpr ⟨lw_p22, List.forall_mem_cons.mpr ⟨lw_p23, List.forall_mem_cons.mpr ⟨lw_p24, List.forall_mem_cons.mpr ⟨lw_p25, List.forall_mem_cons.mpr ⟨lw_p26, List.forall_mem_cons.mpr ⟨lw_p27, List.forall_mem_cons.mpr ⟨lw_p28, List.forall_mem_cons.mpr ⟨lw_p29, List.forall_mem_cons.mpr ⟨lw_p30, List.forall_mem_cons.mpr ⟨lw_p31, fun _ h => absurd h List.not_mem_nil⟩⟩⟩⟩⟩⟩⟩⟩⟩⟩⟩⟩⟩⟩⟩⟩
theorem lw_p32 : lw_okq (⟨"RingDrive$Processor", "indexed", "(II)V"⟩, 10) := ⟨⟨by decide +kernel, by decide +kernel⟩, List.mem_of_getElem? (i := 180) (by decide +kernel), List.mem_of_getElem? (i := 952) (by decide +kernel), List.mem_of_getElem? (i := 953) (by decide +kernel)⟩
theorem lw_p33 : lw_okq (⟨"RingDrive$Processor", "pair", "(I)I"⟩, 10) := ⟨⟨by decide +kernel, by decide +kernel⟩, List.mem_of_getElem? (i := 180) (by decide +kernel), List.mem_of_getElem? (i := 956) (by decide +kernel), List.mem_of_getElem? (i := 957) (by decide +kernel)⟩
theorem lw_p34 : lw_okq (⟨"RingDrive$Processor", "perform", "(II)V"⟩, 10) := ⟨⟨by decide +kernel, by decide +kernel⟩, List.mem_of_getElem? (i := 180) (by decide +kernel), List.mem_of_getElem? (i := 961) (by decide +kernel), List.mem_of_getElem? (i := 962) (by decide +kernel)⟩
theorem lw_p35 : lw_okq (⟨"RingDrive$Processor", "useValue", "(II)V"⟩, 10) := ⟨⟨by decide +kernel, by decide +kernel⟩, List.mem_of_getElem? (i := 180) (by decide +kernel), List.mem_of_getElem? (i := 965) (by decide +kernel), List.mem_of_getElem? (i := 966) (by decide +kernel)⟩
theorem lw_p36 : lw_okq (⟨"RingDrive$Processor", "marked", "(I)I"⟩, 10) := ⟨⟨by decide +kernel, by decide +kernel⟩, List.mem_of_getElem? (i := 180) (by decide +kernel), List.mem_of_getElem? (i := 969) (by decide +kernel), List.mem_of_getElem? (i := 970) (by decide +kernel)⟩
theorem lw_p37 : lw_okq (⟨"RingDrive$Processor", "add", "(I)V"⟩, 10) := ⟨⟨by decide +kernel, by decide +kernel⟩, List.mem_of_getElem? (i := 180) (by decide +kernel), List.mem_of_getElem? (i := 973) (by decide +kernel), List.mem_of_getElem? (i := 974) (by decide +kernel)⟩
theorem lw_p38 : lw_okq (⟨"RingDrive$Processor", "has", "(I)Z"⟩, 10) := ⟨⟨by decide +kernel, by decide +kernel⟩, List.mem_of_getElem? (i := 180) (by decide +kernel), List.mem_of_getElem? (i := 977) (by decide +kernel), List.mem_of_getElem? (i := 978) (by decide +kernel)⟩
theorem lw_p39 : lw_okq (⟨"RingDrive$Processor", "addBinary", "(I)V"⟩, 10) := ⟨⟨by decide +kernel, by decide +kernel⟩, List.mem_of_getElem? (i := 180) (by decide +kernel), List.mem_of_getElem? (i := 981) (by decide +kernel), List.mem_of_getElem? (i := 982) (by decide +kernel)⟩
theorem lw_p40 : lw_okq (⟨"RingDrive$Processor", "flag", "(IZ)V"⟩, 10) := ⟨⟨by decide +kernel, by decide +kernel⟩, List.mem_of_getElem? (i := 180) (by decide +kernel), List.mem_of_getElem? (i := 985) (by decide +kernel), List.mem_of_getElem? (i := 986) (by decide +kernel)⟩
theorem lw_p41 : lw_okq (⟨"RingDrive$Processor", "subtract", "(I)V"⟩, 10) := ⟨⟨by decide +kernel, by decide +kernel⟩, List.mem_of_getElem? (i := 180) (by decide +kernel), List.mem_of_getElem? (i := 989) (by decide +kernel), List.mem_of_getElem? (i := 990) (by decide +kernel)⟩
theorem lw_p42 : lw_okq (⟨"RingDrive$Processor", "compare", "(II)V"⟩, 10) := ⟨⟨by decide +kernel, by decide +kernel⟩, List.mem_of_getElem? (i := 180) (by decide +kernel), List.mem_of_getElem? (i := 993) (by decide +kernel), List.mem_of_getElem? (i := 994) (by decide +kernel)⟩
theorem lw_p43 : lw_okq (⟨"RingDrive$Processor", "changeValue", "(IZ)V"⟩, 10) := ⟨⟨by decide +kernel, by decide +kernel⟩, List.mem_of_getElem? (i := 180) (by decide +kernel), List.mem_of_getElem? (i := 998) (by decide +kernel), List.mem_of_getElem? (i := 999) (by decide +kernel)⟩
theorem lw_p44 : lw_okq (⟨"RingDrive$Processor", "branch", "(I)V"⟩, 10) := ⟨⟨by decide +kernel, by decide +kernel⟩, List.mem_of_getElem? (i := 180) (by decide +kernel), List.mem_of_getElem? (i := 1002) (by decide +kernel), List.mem_of_getElem? (i := 1003) (by decide +kernel)⟩
theorem lw_p45 : lw_okq (⟨"RingDrive$Processor", "move", "(I)V"⟩, 10) := ⟨⟨by decide +kernel, by decide +kernel⟩, List.mem_of_getElem? (i := 180) (by decide +kernel), List.mem_of_getElem? (i := 1006) (by decide +kernel), List.mem_of_getElem? (i := 1007) (by decide +kernel)⟩
theorem lw_p46 : lw_okq (⟨"RingDrive$Processor", "changeFlag", "(I)V"⟩, 10) := ⟨⟨by decide +kernel, by decide +kernel⟩, List.mem_of_getElem? (i := 180) (by decide +kernel), List.mem_of_getElem? (i := 1010) (by decide +kernel), List.mem_of_getElem? (i := 1011) (by decide +kernel)⟩
theorem lw_p47 : lw_okq (⟨"RingDrive$Processor", "stack", "(I)V"⟩, 10) := ⟨⟨by decide +kernel, by decide +kernel⟩, List.mem_of_getElem? (i := 180) (by decide +kernel), List.mem_of_getElem? (i := 1014) (by decide +kernel), List.mem_of_getElem? (i := 1015) (by decide +kernel)⟩
def lw_privs_3 : List (MethodName × Nat) := [(⟨"RingDrive$Processor", "indexed", "(II)V"⟩, 10), (⟨"RingDrive$Processor", "pair", "(I)I"⟩, 10), (⟨"RingDrive$Processor", "perform", "(II)V"⟩, 10), (⟨"RingDrive$Processor", "useValue", "(II)V"⟩, 10), (⟨"RingDrive$Processor", "marked", "(I)I"⟩, 10), (⟨"RingDrive$Processor", "add", "(I)V"⟩, 10), (⟨"RingDrive$Processor", "has", "(I)Z"⟩, 10), (⟨"RingDrive$Processor", "addBinary", "(I)V"⟩, 10), (⟨"RingDrive$Processor", "flag", "(IZ)V"⟩, 10), (⟨"RingDrive$Processor", "subtract", "(I)V"⟩, 10), (⟨"RingDrive$Processor", "compare", "(II)V"⟩, 10), (⟨"RingDrive$Processor", "changeValue", "(IZ)V"⟩, 10), (⟨"RingDrive$Processor", "branch", "(I)V"⟩, 10), (⟨"RingDrive$Processor", "move", "(I)V"⟩, 10), (⟨"RingDrive$Processor", "changeFlag", "(I)V"⟩, 10), (⟨"RingDrive$Processor", "stack", "(I)V"⟩, 10)]
theorem lw_r3 : ∀ q ∈ lw_privs_3, lw_okq q := List.forall_mem_cons.mpr ⟨lw_p32, List.forall_mem_cons.mpr ⟨lw_p33, List.forall_mem_cons.mpr ⟨lw_p34, List.forall_mem_cons.mpr ⟨lw_p35, List.forall_mem_cons.mpr ⟨lw_p36, List.forall_mem_cons.mpr ⟨lw_p37, List.forall_mem_cons.mpr ⟨lw_p38, List.forall_mem_cons.mpr ⟨lw_p39, List.forall_mem_cons.mpr ⟨lw_p40, List.forall_mem_cons.mpr ⟨lw_p41, List.forall_mem_cons.mpr ⟨lw_p42, List.forall_mem_cons.mpr ⟨lw_p43, List.forall_mem_cons.mpr ⟨lw_p44, List.forall_mem_cons.mpr ⟨lw_p45, List.forall_mem_cons.mpr ⟨lw_p46, List.forall_mem_cons.mpr ⟨lw_p47, fun _ h => absurd h List.not_mem_nil⟩⟩⟩⟩⟩⟩⟩⟩⟩⟩⟩⟩⟩⟩⟩⟩
theorem lw_p48 : lw_okq (⟨"RingDrive$Processor", "push", "(I)V"⟩, 10) := ⟨⟨by decide +kernel, by decide +kernel⟩, List.mem_of_getElem? (i := 180) (by decide +kernel), List.mem_of_getElem? (i := 1018) (by decide +kernel), List.mem_of_getElem? (i := 1019) (by decide +kernel)⟩
theorem lw_p49 : lw_okq (⟨"RingDrive$Processor", "pull", "()I"⟩, 10) := ⟨⟨by decide +kernel, by decide +kernel⟩, List.mem_of_getElem? (i := 180) (by decide +kernel), List.mem_of_getElem? (i := 1022) (by decide +kernel), List.mem_of_getElem? (i := 1023) (by decide +kernel)⟩
theorem lw_p50 : lw_okq (⟨"RingDrive$Processor", "pullTwo", "()I"⟩, 10) := ⟨⟨by decide +kernel, by decide +kernel⟩, List.mem_of_getElem? (i := 180) (by decide +kernel), List.mem_of_getElem? (i := 1026) (by decide +kernel), List.mem_of_getElem? (i := 1027) (by decide +kernel)⟩
theorem lw_p51 : lw_okq (⟨"RingDrive$Dos", "goToEntryOf", "(LRingDrive$Channel;)V"⟩, 12) := ⟨⟨by decide +kernel, by decide +kernel⟩, List.mem_of_getElem? (i := 224) (by decide +kernel), List.mem_of_getElem? (i := 1041) (by decide +kernel), List.mem_of_getElem? (i := 1042) (by decide +kernel)⟩
theorem lw_p52 : lw_okq (⟨"RingDrive$Dos", "openBuffer", "(LRingDrive$Channel;)I"⟩, 12) := ⟨⟨by decide +kernel, by decide +kernel⟩, List.mem_of_getElem? (i := 224) (by decide +kernel), List.mem_of_getElem? (i := 1055) (by decide +kernel), List.mem_of_getElem? (i := 1056) (by decide +kernel)⟩
theorem lw_p53 : lw_okq (⟨"RingDrive$Dos", "openList", "(LRingDrive$Channel;)I"⟩, 12) := ⟨⟨by decide +kernel, by decide +kernel⟩, List.mem_of_getElem? (i := 224) (by decide +kernel), List.mem_of_getElem? (i := 1064) (by decide +kernel), List.mem_of_getElem? (i := 1065) (by decide +kernel)⟩
theorem lw_p54 : lw_okq (⟨"RingDrive$Dos", "parseFile", "(I)I"⟩, 12) := ⟨⟨by decide +kernel, by decide +kernel⟩, List.mem_of_getElem? (i := 224) (by decide +kernel), List.mem_of_getElem? (i := 1076) (by decide +kernel), List.mem_of_getElem? (i := 1077) (by decide +kernel)⟩
theorem lw_p55 : lw_okq (⟨"RingDrive$Dos", "sortTold", "(I)I"⟩, 12) := ⟨⟨by decide +kernel, by decide +kernel⟩, List.mem_of_getElem? (i := 224) (by decide +kernel), List.mem_of_getElem? (i := 1081) (by decide +kernel), List.mem_of_getElem? (i := 1082) (by decide +kernel)⟩
theorem lw_p56 : lw_okq (⟨"RingDrive$Dos", "wayTold", "(I)I"⟩, 12) := ⟨⟨by decide +kernel, by decide +kernel⟩, List.mem_of_getElem? (i := 224) (by decide +kernel), List.mem_of_getElem? (i := 1085) (by decide +kernel), List.mem_of_getElem? (i := 1086) (by decide +kernel)⟩
theorem lw_p57 : lw_okq (⟨"RingDrive$Dos", "openToRead", "(LRingDrive$Channel;)I"⟩, 12) := ⟨⟨by decide +kernel, by decide +kernel⟩, List.mem_of_getElem? (i := 224) (by decide +kernel), List.mem_of_getElem? (i := 1090) (by decide +kernel), List.mem_of_getElem? (i := 1091) (by decide +kernel)⟩
theorem lw_p58 : lw_okq (⟨"RingDrive$Dos", "openToWrite", "(LRingDrive$Channel;)I"⟩, 12) := ⟨⟨by decide +kernel, by decide +kernel⟩, List.mem_of_getElem? (i := 224) (by decide +kernel), List.mem_of_getElem? (i := 1105) (by decide +kernel), List.mem_of_getElem? (i := 1106) (by decide +kernel)⟩
theorem lw_p59 : lw_okq (⟨"RingDrive$Dos", "findRoom", "()I"⟩, 12) := ⟨⟨by decide +kernel, by decide +kernel⟩, List.mem_of_getElem? (i := 224) (by decide +kernel), List.mem_of_getElem? (i := 1110) (by decide +kernel), List.mem_of_getElem? (i := 1111) (by decide +kernel)⟩
theorem lw_p60 : lw_okq (⟨"RingDrive$BlockMap", "pickOf", "(II)Z"⟩, 4) := ⟨⟨by decide +kernel, by decide +kernel⟩, List.mem_of_getElem? (i := 245) (by decide +kernel), List.mem_of_getElem? (i := 1119) (by decide +kernel), List.mem_of_getElem? (i := 1120) (by decide +kernel)⟩
theorem lw_p61 : lw_okq (⟨"RingDrive$Dos", "startFile", "(LRingDrive$Channel;)I"⟩, 12) := ⟨⟨by decide +kernel, by decide +kernel⟩, List.mem_of_getElem? (i := 224) (by decide +kernel), List.mem_of_getElem? (i := 1129) (by decide +kernel), List.mem_of_getElem? (i := 1130) (by decide +kernel)⟩
theorem lw_p62 : lw_okq (⟨"RingDrive$Dos", "addToFile", "(LRingDrive$Channel;I)I"⟩, 12) := ⟨⟨by decide +kernel, by decide +kernel⟩, List.mem_of_getElem? (i := 224) (by decide +kernel), List.mem_of_getElem? (i := 1159) (by decide +kernel), List.mem_of_getElem? (i := 1160) (by decide +kernel)⟩
theorem lw_p63 : lw_okq (⟨"RingDrive$Dos", "goToNextBlock", "(LRingDrive$Channel;)I"⟩, 12) := ⟨⟨by decide +kernel, by decide +kernel⟩, List.mem_of_getElem? (i := 224) (by decide +kernel), List.mem_of_getElem? (i := 1168) (by decide +kernel), List.mem_of_getElem? (i := 1169) (by decide +kernel)⟩
def lw_privs_4 : List (MethodName × Nat) := [(⟨"RingDrive$Processor", "push", "(I)V"⟩, 10), (⟨"RingDrive$Processor", "pull", "()I"⟩, 10), (⟨"RingDrive$Processor", "pullTwo", "()I"⟩, 10), (⟨"RingDrive$Dos", "goToEntryOf", "(LRingDrive$Channel;)V"⟩, 12), (⟨"RingDrive$Dos", "openBuffer", "(LRingDrive$Channel;)I"⟩, 12), (⟨"RingDrive$Dos", "openList", "(LRingDrive$Channel;)I"⟩, 12), (⟨"RingDrive$Dos", "parseFile", "(I)I"⟩, 12), (⟨"RingDrive$Dos", "sortTold", "(I)I"⟩, 12), (⟨"RingDrive$Dos", "wayTold", "(I)I"⟩, 12), (⟨"RingDrive$Dos", "openToRead", "(LRingDrive$Channel;)I"⟩, 12), (⟨"RingDrive$Dos", "openToWrite", "(LRingDrive$Channel;)I"⟩, 12), (⟨"RingDrive$Dos", "findRoom", "()I"⟩, 12), (⟨"RingDrive$BlockMap", "pickOf", "(II)Z"⟩, 4), (⟨"RingDrive$Dos", "startFile", "(LRingDrive$Channel;)I"⟩, 12), (⟨"RingDrive$Dos", "addToFile", "(LRingDrive$Channel;I)I"⟩, 12), (⟨"RingDrive$Dos", "goToNextBlock", "(LRingDrive$Channel;)I"⟩, 12)]
theorem lw_r4 : ∀ q ∈ lw_privs_4, lw_okq q := List.forall_mem_cons.mpr ⟨lw_p48, List.forall_mem_cons.mpr ⟨lw_p49, List.forall_mem_cons.mpr ⟨lw_p50, List.forall_mem_cons.mpr ⟨lw_p51, List.forall_mem_cons.mpr ⟨lw_p52, List.forall_mem_cons.mpr ⟨lw_p53, List.forall_mem_cons.mpr ⟨lw_p54, List.forall_mem_cons.mpr ⟨lw_p55, List.forall_mem_cons.mpr ⟨lw_p56, List.forall_mem_cons.mpr ⟨lw_p57, List.forall_mem_cons.mpr ⟨lw_p58, List.forall_mem_cons.mpr ⟨lw_p59, List.forall_mem_cons.mpr ⟨lw_p60, List.forall_mem_cons.mpr ⟨lw_p61, List.forall_mem_cons.mpr ⟨lw_p62, List.forall_mem_cons.mpr ⟨lw_p63, fun _ h => absurd h List.not_mem_nil⟩⟩⟩⟩⟩⟩⟩⟩⟩⟩⟩⟩⟩⟩⟩⟩
theorem lw_p64 : lw_okq (⟨"RingDrive$Dos", "giveUpFile", "(LRingDrive$Channel;)I"⟩, 12) := ⟨⟨by decide +kernel, by decide +kernel⟩, List.mem_of_getElem? (i := 224) (by decide +kernel), List.mem_of_getElem? (i := 1172) (by decide +kernel), List.mem_of_getElem? (i := 1173) (by decide +kernel)⟩
theorem lw_p65 : lw_okq (⟨"RingDrive$Status", "replyByte", "()I"⟩, 10) := ⟨⟨by decide +kernel, by decide +kernel⟩, List.mem_of_getElem? (i := 53) (by decide +kernel), List.mem_of_getElem? (i := 1194) (by decide +kernel), List.mem_of_getElem? (i := 1195) (by decide +kernel)⟩
theorem lw_p66 : lw_okq (⟨"RingDrive$Status", "textByte", "()I"⟩, 10) := ⟨⟨by decide +kernel, by decide +kernel⟩, List.mem_of_getElem? (i := 53) (by decide +kernel), List.mem_of_getElem? (i := 1198) (by decide +kernel), List.mem_of_getElem? (i := 1199) (by decide +kernel)⟩
theorem lw_p67 : lw_okq (⟨"RingDrive$Status", "spell", "()V"⟩, 10) := ⟨⟨by decide +kernel, by decide +kernel⟩, List.mem_of_getElem? (i := 53) (by decide +kernel), List.mem_of_getElem? (i := 1202) (by decide +kernel), List.mem_of_getElem? (i := 1203) (by decide +kernel)⟩
theorem lw_p68 : lw_okq (⟨"RingDrive$Status", "addTwoDigits", "(I)V"⟩, 10) := ⟨⟨by decide +kernel, by decide +kernel⟩, List.mem_of_getElem? (i := 53) (by decide +kernel), List.mem_of_getElem? (i := 1206) (by decide +kernel), List.mem_of_getElem? (i := 1207) (by decide +kernel)⟩
theorem lw_p69 : lw_okq (⟨"RingDrive$Status", "add", "(I)V"⟩, 10) := ⟨⟨by decide +kernel, by decide +kernel⟩, List.mem_of_getElem? (i := 53) (by decide +kernel), List.mem_of_getElem? (i := 1210) (by decide +kernel), List.mem_of_getElem? (i := 1211) (by decide +kernel)⟩
theorem lw_p70 : lw_okq (⟨"RingDrive$Status", "words", "()Ljava/lang/String;"⟩, 10) := ⟨⟨by decide +kernel, by decide +kernel⟩, List.mem_of_getElem? (i := 53) (by decide +kernel), List.mem_of_getElem? (i := 1214) (by decide +kernel), List.mem_of_getElem? (i := 1215) (by decide +kernel)⟩
theorem lw_p71 : lw_okq (⟨"RingDrive$Dos", "nextByte", "(LRingDrive$Channel;)I"⟩, 12) := ⟨⟨by decide +kernel, by decide +kernel⟩, List.mem_of_getElem? (i := 224) (by decide +kernel), List.mem_of_getElem? (i := 1289) (by decide +kernel), List.mem_of_getElem? (i := 1290) (by decide +kernel)⟩
theorem lw_p72 : lw_okq (⟨"RingDrive$Dos", "makeLine", "(LRingDrive$Channel;)I"⟩, 12) := ⟨⟨by decide +kernel, by decide +kernel⟩, List.mem_of_getElem? (i := 224) (by decide +kernel), List.mem_of_getElem? (i := 1293) (by decide +kernel), List.mem_of_getElem? (i := 1294) (by decide +kernel)⟩
theorem lw_p73 : lw_okq (⟨"RingDrive$Dos", "addTitle", "(LRingDrive$Channel;)V"⟩, 12) := ⟨⟨by decide +kernel, by decide +kernel⟩, List.mem_of_getElem? (i := 224) (by decide +kernel), List.mem_of_getElem? (i := 1301) (by decide +kernel), List.mem_of_getElem? (i := 1302) (by decide +kernel)⟩
theorem lw_p74 : lw_okq (⟨"RingDrive$Dos", "addEntry", "(LRingDrive$Channel;)V"⟩, 12) := ⟨⟨by decide +kernel, by decide +kernel⟩, List.mem_of_getElem? (i := 224) (by decide +kernel), List.mem_of_getElem? (i := 1309) (by decide +kernel), List.mem_of_getElem? (i := 1310) (by decide +kernel)⟩
theorem lw_p75 : lw_okq (⟨"RingDrive$Dos", "addFree", "(LRingDrive$Channel;)V"⟩, 12) := ⟨⟨by decide +kernel, by decide +kernel⟩, List.mem_of_getElem? (i := 224) (by decide +kernel), List.mem_of_getElem? (i := 1328) (by decide +kernel), List.mem_of_getElem? (i := 1329) (by decide +kernel)⟩
theorem lw_p76 : lw_okq (⟨"RingDrive$Dos", "readNext", "(LRingDrive$Channel;)I"⟩, 12) := ⟨⟨by decide +kernel, by decide +kernel⟩, List.mem_of_getElem? (i := 224) (by decide +kernel), List.mem_of_getElem? (i := 1336) (by decide +kernel), List.mem_of_getElem? (i := 1337) (by decide +kernel)⟩
theorem lw_p77 : lw_okq (⟨"RingDrive$Ring", "eight", "(I)I"⟩, 8) := ⟨⟨by decide +kernel, by decide +kernel⟩, List.mem_of_getElem? (i := 104) (by decide +kernel), List.mem_of_getElem? (i := 1363) (by decide +kernel), List.mem_of_getElem? (i := 1364) (by decide +kernel)⟩
theorem lw_p78 : lw_okq (⟨"RingDriveModel", "types", "(I)V"⟩, 84) := ⟨⟨by decide +kernel, by decide +kernel⟩, List.mem_of_getElem? (i := 1401) (by decide +kernel), List.mem_of_getElem? (i := 1399) (by decide +kernel), List.mem_of_getElem? (i := 1400) (by decide +kernel)⟩
theorem lw_p79 : lw_okq (⟨"RingDriveModel", "sends", "(I)V"⟩, 84) := ⟨⟨by decide +kernel, by decide +kernel⟩, List.mem_of_getElem? (i := 1401) (by decide +kernel), List.mem_of_getElem? (i := 1408) (by decide +kernel), List.mem_of_getElem? (i := 1409) (by decide +kernel)⟩
def lw_privs_5 : List (MethodName × Nat) := [(⟨"RingDrive$Dos", "giveUpFile", "(LRingDrive$Channel;)I"⟩, 12), (⟨"RingDrive$Status", "replyByte", "()I"⟩, 10), (⟨"RingDrive$Status", "textByte", "()I"⟩, 10), (⟨"RingDrive$Status", "spell", "()V"⟩, 10), (⟨"RingDrive$Status", "addTwoDigits", "(I)V"⟩, 10), (⟨"RingDrive$Status", "add", "(I)V"⟩, 10), (⟨"RingDrive$Status", "words", "()Ljava/lang/String;"⟩, 10), (⟨"RingDrive$Dos", "nextByte", "(LRingDrive$Channel;)I"⟩, 12), (⟨"RingDrive$Dos", "makeLine", "(LRingDrive$Channel;)I"⟩, 12), (⟨"RingDrive$Dos", "addTitle", "(LRingDrive$Channel;)V"⟩, 12), (⟨"RingDrive$Dos", "addEntry", "(LRingDrive$Channel;)V"⟩, 12), (⟨"RingDrive$Dos", "addFree", "(LRingDrive$Channel;)V"⟩, 12), (⟨"RingDrive$Dos", "readNext", "(LRingDrive$Channel;)I"⟩, 12), (⟨"RingDrive$Ring", "eight", "(I)I"⟩, 8), (⟨"RingDriveModel", "types", "(I)V"⟩, 84), (⟨"RingDriveModel", "sends", "(I)V"⟩, 84)]
theorem lw_r5 : ∀ q ∈ lw_privs_5, lw_okq q := List.forall_mem_cons.mpr ⟨lw_p64, List.forall_mem_cons.mpr ⟨lw_p65, List.forall_mem_cons.mpr ⟨lw_p66, List.forall_mem_cons.mpr ⟨lw_p67, List.forall_mem_cons.mpr ⟨lw_p68, List.forall_mem_cons.mpr ⟨lw_p69, List.forall_mem_cons.mpr ⟨lw_p70, List.forall_mem_cons.mpr ⟨lw_p71, List.forall_mem_cons.mpr ⟨lw_p72, List.forall_mem_cons.mpr ⟨lw_p73, List.forall_mem_cons.mpr ⟨lw_p74, List.forall_mem_cons.mpr ⟨lw_p75, List.forall_mem_cons.mpr ⟨lw_p76, List.forall_mem_cons.mpr ⟨lw_p77, List.forall_mem_cons.mpr ⟨lw_p78, List.forall_mem_cons.mpr ⟨lw_p79, fun _ h => absurd h List.not_mem_nil⟩⟩⟩⟩⟩⟩⟩⟩⟩⟩⟩⟩⟩⟩⟩⟩
theorem lw_p80 : lw_okq (⟨"RingDriveModel", "commands", "(I)I"⟩, 84) := ⟨⟨by decide +kernel, by decide +kernel⟩, List.mem_of_getElem? (i := 1401) (by decide +kernel), List.mem_of_getElem? (i := 1412) (by decide +kernel), List.mem_of_getElem? (i := 1413) (by decide +kernel)⟩
theorem lw_p81 : lw_okq (⟨"RingDriveModel", "begins", "()V"⟩, 84) := ⟨⟨by decide +kernel, by decide +kernel⟩, List.mem_of_getElem? (i := 1401) (by decide +kernel), List.mem_of_getElem? (i := 1416) (by decide +kernel), List.mem_of_getElem? (i := 1417) (by decide +kernel)⟩
theorem lw_p82 : lw_okq (⟨"RingDriveModel", "sets", "(III)V"⟩, 84) := ⟨⟨by decide +kernel, by decide +kernel⟩, List.mem_of_getElem? (i := 1401) (by decide +kernel), List.mem_of_getElem? (i := 1420) (by decide +kernel), List.mem_of_getElem? (i := 1421) (by decide +kernel)⟩
theorem lw_p83 : lw_okq (⟨"RingDriveModel", "fault", "(III)I"⟩, 84) := ⟨⟨by decide +kernel, by decide +kernel⟩, List.mem_of_getElem? (i := 1401) (by decide +kernel), List.mem_of_getElem? (i := 1424) (by decide +kernel), List.mem_of_getElem? (i := 1425) (by decide +kernel)⟩
theorem lw_p84 : lw_okq (⟨"RingDriveModel", "ends", "(I)I"⟩, 84) := ⟨⟨by decide +kernel, by decide +kernel⟩, List.mem_of_getElem? (i := 1401) (by decide +kernel), List.mem_of_getElem? (i := 1428) (by decide +kernel), List.mem_of_getElem? (i := 1429) (by decide +kernel)⟩
theorem lw_p85 : lw_okq (⟨"RingDriveModel", "does", "(I)I"⟩, 84) := ⟨⟨by decide +kernel, by decide +kernel⟩, List.mem_of_getElem? (i := 1401) (by decide +kernel), List.mem_of_getElem? (i := 1432) (by decide +kernel), List.mem_of_getElem? (i := 1433) (by decide +kernel)⟩
theorem lw_p86 : lw_okq (⟨"RingDriveModel", "again", "()I"⟩, 84) := ⟨⟨by decide +kernel, by decide +kernel⟩, List.mem_of_getElem? (i := 1401) (by decide +kernel), List.mem_of_getElem? (i := 1436) (by decide +kernel), List.mem_of_getElem? (i := 1437) (by decide +kernel)⟩
theorem lw_p87 : lw_okq (⟨"RingDriveModel", "takeId", "()I"⟩, 84) := ⟨⟨by decide +kernel, by decide +kernel⟩, List.mem_of_getElem? (i := 1401) (by decide +kernel), List.mem_of_getElem? (i := 1440) (by decide +kernel), List.mem_of_getElem? (i := 1441) (by decide +kernel)⟩
theorem lw_p88 : lw_okq (⟨"RingDriveModel", "round", "(I)I"⟩, 84) := ⟨⟨by decide +kernel, by decide +kernel⟩, List.mem_of_getElem? (i := 1401) (by decide +kernel), List.mem_of_getElem? (i := 1444) (by decide +kernel), List.mem_of_getElem? (i := 1445) (by decide +kernel)⟩
theorem lw_p89 : lw_okq (⟨"RingDriveModel", "bitAt", "(II)I"⟩, 84) := ⟨⟨by decide +kernel, by decide +kernel⟩, List.mem_of_getElem? (i := 1401) (by decide +kernel), List.mem_of_getElem? (i := 1451) (by decide +kernel), List.mem_of_getElem? (i := 1452) (by decide +kernel)⟩
theorem lw_p90 : lw_okq (⟨"RingDriveModel", "along", "(III)V"⟩, 84) := ⟨⟨by decide +kernel, by decide +kernel⟩, List.mem_of_getElem? (i := 1401) (by decide +kernel), List.mem_of_getElem? (i := 1455) (by decide +kernel), List.mem_of_getElem? (i := 1456) (by decide +kernel)⟩
theorem lw_p91 : lw_okq (⟨"RingDriveModel", "goes", "()Z"⟩, 84) := ⟨⟨by decide +kernel, by decide +kernel⟩, List.mem_of_getElem? (i := 1401) (by decide +kernel), List.mem_of_getElem? (i := 1459) (by decide +kernel), List.mem_of_getElem? (i := 1460) (by decide +kernel)⟩
theorem lw_p92 : lw_okq (⟨"RingDriveModel", "comes", "()I"⟩, 84) := ⟨⟨by decide +kernel, by decide +kernel⟩, List.mem_of_getElem? (i := 1401) (by decide +kernel), List.mem_of_getElem? (i := 1463) (by decide +kernel), List.mem_of_getElem? (i := 1464) (by decide +kernel)⟩
theorem lw_p93 : lw_okq (⟨"RingDriveModel", "reads", "(I)Z"⟩, 84) := ⟨⟨by decide +kernel, by decide +kernel⟩, List.mem_of_getElem? (i := 1401) (by decide +kernel), List.mem_of_getElem? (i := 1467) (by decide +kernel), List.mem_of_getElem? (i := 1468) (by decide +kernel)⟩
theorem lw_p94 : lw_okq (⟨"RingDriveModel", "group", "(I)I"⟩, 84) := ⟨⟨by decide +kernel, by decide +kernel⟩, List.mem_of_getElem? (i := 1401) (by decide +kernel), List.mem_of_getElem? (i := 1471) (by decide +kernel), List.mem_of_getElem? (i := 1472) (by decide +kernel)⟩
theorem lw_p95 : lw_okq (⟨"RingDriveModel", "loads", "()I"⟩, 84) := ⟨⟨by decide +kernel, by decide +kernel⟩, List.mem_of_getElem? (i := 1401) (by decide +kernel), List.mem_of_getElem? (i := 1481) (by decide +kernel), List.mem_of_getElem? (i := 1482) (by decide +kernel)⟩
def lw_privs_6 : List (MethodName × Nat) := [(⟨"RingDriveModel", "commands", "(I)I"⟩, 84), (⟨"RingDriveModel", "begins", "()V"⟩, 84), (⟨"RingDriveModel", "sets", "(III)V"⟩, 84), (⟨"RingDriveModel", "fault", "(III)I"⟩, 84), (⟨"RingDriveModel", "ends", "(I)I"⟩, 84), (⟨"RingDriveModel", "does", "(I)I"⟩, 84), (⟨"RingDriveModel", "again", "()I"⟩, 84), (⟨"RingDriveModel", "takeId", "()I"⟩, 84), (⟨"RingDriveModel", "round", "(I)I"⟩, 84), (⟨"RingDriveModel", "bitAt", "(II)I"⟩, 84), (⟨"RingDriveModel", "along", "(III)V"⟩, 84), (⟨"RingDriveModel", "goes", "()Z"⟩, 84), (⟨"RingDriveModel", "comes", "()I"⟩, 84), (⟨"RingDriveModel", "reads", "(I)Z"⟩, 84), (⟨"RingDriveModel", "group", "(I)I"⟩, 84), (⟨"RingDriveModel", "loads", "()I"⟩, 84)]
theorem lw_r6 : ∀ q ∈ lw_privs_6, lw_okq q := List.forall_mem_cons.mpr ⟨lw_p80, List.forall_mem_cons.mpr ⟨lw_p81, List.forall_mem_cons.mpr ⟨lw_p82, List.forall_mem_cons.mpr ⟨lw_p83, List.forall_mem_cons.mpr ⟨lw_p84, List.forall_mem_cons.mpr ⟨lw_p85, List.forall_mem_cons.mpr ⟨lw_p86, List.forall_mem_cons.mpr ⟨lw_p87, List.forall_mem_cons.mpr ⟨lw_p88, List.forall_mem_cons.mpr ⟨lw_p89, List.forall_mem_cons.mpr ⟨lw_p90, List.forall_mem_cons.mpr ⟨lw_p91, List.forall_mem_cons.mpr ⟨lw_p92, List.forall_mem_cons.mpr ⟨lw_p93, List.forall_mem_cons.mpr ⟨lw_p94, List.forall_mem_cons.mpr ⟨lw_p95, fun _ h => absurd h List.not_mem_nil⟩⟩⟩⟩⟩⟩⟩⟩⟩⟩⟩⟩⟩⟩⟩⟩
theorem lw_p96 : lw_okq (⟨"RingDriveModel", "readBlock", "(II[II)I"⟩, 84) := ⟨⟨by decide +kernel, by decide +kernel⟩, List.mem_of_getElem? (i := 1401) (by decide +kernel), List.mem_of_getElem? (i := 1485) (by decide +kernel), List.mem_of_getElem? (i := 1486) (by decide +kernel)⟩
theorem lw_p97 : lw_okq (⟨"RingDriveModel", "seek", "(II)I"⟩, 84) := ⟨⟨by decide +kernel, by decide +kernel⟩, List.mem_of_getElem? (i := 1401) (by decide +kernel), List.mem_of_getElem? (i := 1489) (by decide +kernel), List.mem_of_getElem? (i := 1490) (by decide +kernel)⟩
theorem lw_p98 : lw_okq (⟨"RingDriveModel", "header", "(IIII)V"⟩, 84) := ⟨⟨by decide +kernel, by decide +kernel⟩, List.mem_of_getElem? (i := 1401) (by decide +kernel), List.mem_of_getElem? (i := 1493) (by decide +kernel), List.mem_of_getElem? (i := 1494) (by decide +kernel)⟩
theorem lw_p99 : lw_okq (⟨"RingDriveModel", "codes", "(I)V"⟩, 84) := ⟨⟨by decide +kernel, by decide +kernel⟩, List.mem_of_getElem? (i := 1401) (by decide +kernel), List.mem_of_getElem? (i := 1497) (by decide +kernel), List.mem_of_getElem? (i := 1498) (by decide +kernel)⟩
theorem lw_p100 : lw_okq (⟨"RingDriveModel", "gets", "()V"⟩, 84) := ⟨⟨by decide +kernel, by decide +kernel⟩, List.mem_of_getElem? (i := 1401) (by decide +kernel), List.mem_of_getElem? (i := 1501) (by decide +kernel), List.mem_of_getElem? (i := 1502) (by decide +kernel)⟩
theorem lw_p101 : lw_okq (⟨"RingDriveModel", "validates", "()I"⟩, 84) := ⟨⟨by decide +kernel, by decide +kernel⟩, List.mem_of_getElem? (i := 1401) (by decide +kernel), List.mem_of_getElem? (i := 1505) (by decide +kernel), List.mem_of_getElem? (i := 1506) (by decide +kernel)⟩
theorem lw_p102 : lw_okq (⟨"RingDriveModel", "freesAll", "()V"⟩, 84) := ⟨⟨by decide +kernel, by decide +kernel⟩, List.mem_of_getElem? (i := 1401) (by decide +kernel), List.mem_of_getElem? (i := 1509) (by decide +kernel), List.mem_of_getElem? (i := 1510) (by decide +kernel)⟩
theorem lw_p103 : lw_okq (⟨"RingDriveModel", "takes", "(II)V"⟩, 84) := ⟨⟨by decide +kernel, by decide +kernel⟩, List.mem_of_getElem? (i := 1401) (by decide +kernel), List.mem_of_getElem? (i := 1516) (by decide +kernel), List.mem_of_getElem? (i := 1517) (by decide +kernel)⟩
theorem lw_p104 : lw_okq (⟨"RingDriveModel", "isFree", "(II)Z"⟩, 84) := ⟨⟨by decide +kernel, by decide +kernel⟩, List.mem_of_getElem? (i := 1401) (by decide +kernel), List.mem_of_getElem? (i := 1523) (by decide +kernel), List.mem_of_getElem? (i := 1524) (by decide +kernel)⟩
theorem lw_p105 : lw_okq (⟨"RingDriveModel", "entries", "()I"⟩, 84) := ⟨⟨by decide +kernel, by decide +kernel⟩, List.mem_of_getElem? (i := 1401) (by decide +kernel), List.mem_of_getElem? (i := 1527) (by decide +kernel), List.mem_of_getElem? (i := 1528) (by decide +kernel)⟩
theorem lw_p106 : lw_okq (⟨"RingDriveModel", "used", "(III)I"⟩, 84) := ⟨⟨by decide +kernel, by decide +kernel⟩, List.mem_of_getElem? (i := 1401) (by decide +kernel), List.mem_of_getElem? (i := 1531) (by decide +kernel), List.mem_of_getElem? (i := 1532) (by decide +kernel)⟩
theorem lw_p107 : lw_okq (⟨"RingDriveModel", "changesType", "(IIII)I"⟩, 84) := ⟨⟨by decide +kernel, by decide +kernel⟩, List.mem_of_getElem? (i := 1401) (by decide +kernel), List.mem_of_getElem? (i := 1535) (by decide +kernel), List.mem_of_getElem? (i := 1536) (by decide +kernel)⟩
theorem lw_p108 : lw_okq (⟨"RingDriveModel", "writeBlock", "(II[II)I"⟩, 84) := ⟨⟨by decide +kernel, by decide +kernel⟩, List.mem_of_getElem? (i := 1401) (by decide +kernel), List.mem_of_getElem? (i := 1539) (by decide +kernel), List.mem_of_getElem? (i := 1540) (by decide +kernel)⟩
theorem lw_p109 : lw_okq (⟨"RingDriveModel", "lays", "(II)V"⟩, 84) := ⟨⟨by decide +kernel, by decide +kernel⟩, List.mem_of_getElem? (i := 1401) (by decide +kernel), List.mem_of_getElem? (i := 1543) (by decide +kernel), List.mem_of_getElem? (i := 1544) (by decide +kernel)⟩
theorem lw_p110 : lw_okq (⟨"RingDriveModel", "setBit", "(III)V"⟩, 84) := ⟨⟨by decide +kernel, by decide +kernel⟩, List.mem_of_getElem? (i := 1401) (by decide +kernel), List.mem_of_getElem? (i := 1547) (by decide +kernel), List.mem_of_getElem? (i := 1548) (by decide +kernel)⟩
theorem lw_p111 : lw_okq (⟨"RingDriveModel", "data", "([II)V"⟩, 84) := ⟨⟨by decide +kernel, by decide +kernel⟩, List.mem_of_getElem? (i := 1401) (by decide +kernel), List.mem_of_getElem? (i := 1551) (by decide +kernel), List.mem_of_getElem? (i := 1552) (by decide +kernel)⟩
def lw_privs_7 : List (MethodName × Nat) := [(⟨"RingDriveModel", "readBlock", "(II[II)I"⟩, 84), (⟨"RingDriveModel", "seek", "(II)I"⟩, 84), (⟨"RingDriveModel", "header", "(IIII)V"⟩, 84), (⟨"RingDriveModel", "codes", "(I)V"⟩, 84), (⟨"RingDriveModel", "gets", "()V"⟩, 84), (⟨"RingDriveModel", "validates", "()I"⟩, 84), (⟨"RingDriveModel", "freesAll", "()V"⟩, 84), (⟨"RingDriveModel", "takes", "(II)V"⟩, 84), (⟨"RingDriveModel", "isFree", "(II)Z"⟩, 84), (⟨"RingDriveModel", "entries", "()I"⟩, 84), (⟨"RingDriveModel", "used", "(III)I"⟩, 84), (⟨"RingDriveModel", "changesType", "(IIII)I"⟩, 84), (⟨"RingDriveModel", "writeBlock", "(II[II)I"⟩, 84), (⟨"RingDriveModel", "lays", "(II)V"⟩, 84), (⟨"RingDriveModel", "setBit", "(III)V"⟩, 84), (⟨"RingDriveModel", "data", "([II)V"⟩, 84)]
theorem lw_r7 : ∀ q ∈ lw_privs_7, lw_okq q := List.forall_mem_cons.mpr ⟨lw_p96, List.forall_mem_cons.mpr ⟨lw_p97, List.forall_mem_cons.mpr ⟨lw_p98, List.forall_mem_cons.mpr ⟨lw_p99, List.forall_mem_cons.mpr ⟨lw_p100, List.forall_mem_cons.mpr ⟨lw_p101, List.forall_mem_cons.mpr ⟨lw_p102, List.forall_mem_cons.mpr ⟨lw_p103, List.forall_mem_cons.mpr ⟨lw_p104, List.forall_mem_cons.mpr ⟨lw_p105, List.forall_mem_cons.mpr ⟨lw_p106, List.forall_mem_cons.mpr ⟨lw_p107, List.forall_mem_cons.mpr ⟨lw_p108, List.forall_mem_cons.mpr ⟨lw_p109, List.forall_mem_cons.mpr ⟨lw_p110, List.forall_mem_cons.mpr ⟨lw_p111, fun _ h => absurd h List.not_mem_nil⟩⟩⟩⟩⟩⟩⟩⟩⟩⟩⟩⟩⟩⟩⟩⟩
theorem lw_p112 : lw_okq (⟨"RingDriveModel", "uses", "(II)I"⟩, 84) := ⟨⟨by decide +kernel, by decide +kernel⟩, List.mem_of_getElem? (i := 1401) (by decide +kernel), List.mem_of_getElem? (i := 1555) (by decide +kernel), List.mem_of_getElem? (i := 1556) (by decide +kernel)⟩
theorem lw_p113 : lw_okq (⟨"RingDriveModel", "stores", "()I"⟩, 84) := ⟨⟨by decide +kernel, by decide +kernel⟩, List.mem_of_getElem? (i := 1401) (by decide +kernel), List.mem_of_getElem? (i := 1559) (by decide +kernel), List.mem_of_getElem? (i := 1560) (by decide +kernel)⟩
theorem lw_p114 : lw_okq (⟨"RingDriveModel", "shutsAll", "()V"⟩, 84) := ⟨⟨by decide +kernel, by decide +kernel⟩, List.mem_of_getElem? (i := 1401) (by decide +kernel), List.mem_of_getElem? (i := 1563) (by decide +kernel), List.mem_of_getElem? (i := 1564) (by decide +kernel)⟩
theorem lw_p115 : lw_okq (⟨"RingDriveModel", "news", "(I)I"⟩, 84) := ⟨⟨by decide +kernel, by decide +kernel⟩, List.mem_of_getElem? (i := 1401) (by decide +kernel), List.mem_of_getElem? (i := 1567) (by decide +kernel), List.mem_of_getElem? (i := 1568) (by decide +kernel)⟩
theorem lw_p116 : lw_okq (⟨"RingDriveModel", "isWild", "(II)Z"⟩, 84) := ⟨⟨by decide +kernel, by decide +kernel⟩, List.mem_of_getElem? (i := 1401) (by decide +kernel), List.mem_of_getElem? (i := 1571) (by decide +kernel), List.mem_of_getElem? (i := 1572) (by decide +kernel)⟩
theorem lw_p117 : lw_okq (⟨"RingDriveModel", "format", "(III)I"⟩, 84) := ⟨⟨by decide +kernel, by decide +kernel⟩, List.mem_of_getElem? (i := 1401) (by decide +kernel), List.mem_of_getElem? (i := 1575) (by decide +kernel), List.mem_of_getElem? (i := 1576) (by decide +kernel)⟩
theorem lw_p118 : lw_okq (⟨"RingDriveModel", "maps", "(I)I"⟩, 84) := ⟨⟨by decide +kernel, by decide +kernel⟩, List.mem_of_getElem? (i := 1401) (by decide +kernel), List.mem_of_getElem? (i := 1579) (by decide +kernel), List.mem_of_getElem? (i := 1580) (by decide +kernel)⟩
theorem lw_p119 : lw_okq (⟨"RingDriveModel", "scratch", "(I)I"⟩, 84) := ⟨⟨by decide +kernel, by decide +kernel⟩, List.mem_of_getElem? (i := 1401) (by decide +kernel), List.mem_of_getElem? (i := 1583) (by decide +kernel), List.mem_of_getElem? (i := 1584) (by decide +kernel)⟩
theorem lw_p120 : lw_okq (⟨"RingDriveModel", "finds", "(I[III)I"⟩, 84) := ⟨⟨by decide +kernel, by decide +kernel⟩, List.mem_of_getElem? (i := 1401) (by decide +kernel), List.mem_of_getElem? (i := 1587) (by decide +kernel), List.mem_of_getElem? (i := 1588) (by decide +kernel)⟩
theorem lw_p121 : lw_okq (⟨"RingDriveModel", "scratches", "()I"⟩, 84) := ⟨⟨by decide +kernel, by decide +kernel⟩, List.mem_of_getElem? (i := 1401) (by decide +kernel), List.mem_of_getElem? (i := 1597) (by decide +kernel), List.mem_of_getElem? (i := 1598) (by decide +kernel)⟩
theorem lw_p122 : lw_okq (⟨"RingDriveModel", "freesChain", "(II)I"⟩, 84) := ⟨⟨by decide +kernel, by decide +kernel⟩, List.mem_of_getElem? (i := 1401) (by decide +kernel), List.mem_of_getElem? (i := 1601) (by decide +kernel), List.mem_of_getElem? (i := 1602) (by decide +kernel)⟩
theorem lw_p123 : lw_okq (⟨"RingDriveModel", "givesBack", "(II)V"⟩, 84) := ⟨⟨by decide +kernel, by decide +kernel⟩, List.mem_of_getElem? (i := 1401) (by decide +kernel), List.mem_of_getElem? (i := 1605) (by decide +kernel), List.mem_of_getElem? (i := 1606) (by decide +kernel)⟩
theorem lw_p124 : lw_okq (⟨"RingDriveModel", "renames", "(I)I"⟩, 84) := ⟨⟨by decide +kernel, by decide +kernel⟩, List.mem_of_getElem? (i := 1401) (by decide +kernel), List.mem_of_getElem? (i := 1609) (by decide +kernel), List.mem_of_getElem? (i := 1610) (by decide +kernel)⟩
theorem lw_p125 : lw_okq (⟨"RingDriveModel", "blockOf", "(IZ)I"⟩, 84) := ⟨⟨by decide +kernel, by decide +kernel⟩, List.mem_of_getElem? (i := 1401) (by decide +kernel), List.mem_of_getElem? (i := 1613) (by decide +kernel), List.mem_of_getElem? (i := 1614) (by decide +kernel)⟩
theorem lw_p126 : lw_okq (⟨"RingDriveModel", "numbers", "(I)Z"⟩, 84) := ⟨⟨by decide +kernel, by decide +kernel⟩, List.mem_of_getElem? (i := 1401) (by decide +kernel), List.mem_of_getElem? (i := 1617) (by decide +kernel), List.mem_of_getElem? (i := 1618) (by decide +kernel)⟩
theorem lw_p127 : lw_okq (⟨"RingDriveModel", "numberNext", "(I)I"⟩, 84) := ⟨⟨by decide +kernel, by decide +kernel⟩, List.mem_of_getElem? (i := 1401) (by decide +kernel), List.mem_of_getElem? (i := 1621) (by decide +kernel), List.mem_of_getElem? (i := 1622) (by decide +kernel)⟩
def lw_privs_8 : List (MethodName × Nat) := [(⟨"RingDriveModel", "uses", "(II)I"⟩, 84), (⟨"RingDriveModel", "stores", "()I"⟩, 84), (⟨"RingDriveModel", "shutsAll", "()V"⟩, 84), (⟨"RingDriveModel", "news", "(I)I"⟩, 84), (⟨"RingDriveModel", "isWild", "(II)Z"⟩, 84), (⟨"RingDriveModel", "format", "(III)I"⟩, 84), (⟨"RingDriveModel", "maps", "(I)I"⟩, 84), (⟨"RingDriveModel", "scratch", "(I)I"⟩, 84), (⟨"RingDriveModel", "finds", "(I[III)I"⟩, 84), (⟨"RingDriveModel", "scratches", "()I"⟩, 84), (⟨"RingDriveModel", "freesChain", "(II)I"⟩, 84), (⟨"RingDriveModel", "givesBack", "(II)V"⟩, 84), (⟨"RingDriveModel", "renames", "(I)I"⟩, 84), (⟨"RingDriveModel", "blockOf", "(IZ)I"⟩, 84), (⟨"RingDriveModel", "numbers", "(I)Z"⟩, 84), (⟨"RingDriveModel", "numberNext", "(I)I"⟩, 84)]
theorem lw_r8 : ∀ q ∈ lw_privs_8, lw_okq q := List.forall_mem_cons.mpr ⟨lw_p112, List.forall_mem_cons.mpr ⟨lw_p113, List.forall_mem_cons.mpr ⟨lw_p114, List.forall_mem_cons.mpr ⟨lw_p115, List.forall_mem_cons.mpr ⟨lw_p116, List.forall_mem_cons.mpr ⟨lw_p117, List.forall_mem_cons.mpr ⟨lw_p118, List.forall_mem_cons.mpr ⟨lw_p119, List.forall_mem_cons.mpr ⟨lw_p120, List.forall_mem_cons.mpr ⟨lw_p121, List.forall_mem_cons.mpr ⟨lw_p122, List.forall_mem_cons.mpr ⟨lw_p123, List.forall_mem_cons.mpr ⟨lw_p124, List.forall_mem_cons.mpr ⟨lw_p125, List.forall_mem_cons.mpr ⟨lw_p126, List.forall_mem_cons.mpr ⟨lw_p127, fun _ h => absurd h List.not_mem_nil⟩⟩⟩⟩⟩⟩⟩⟩⟩⟩⟩⟩⟩⟩⟩⟩
theorem lw_p128 : lw_okq (⟨"RingDriveModel", "begins3", "(III)Z"⟩, 84) := ⟨⟨by decide +kernel, by decide +kernel⟩, List.mem_of_getElem? (i := 1401) (by decide +kernel), List.mem_of_getElem? (i := 1628) (by decide +kernel), List.mem_of_getElem? (i := 1629) (by decide +kernel)⟩
theorem lw_p129 : lw_okq (⟨"RingDriveModel", "pointer", "(I)I"⟩, 84) := ⟨⟨by decide +kernel, by decide +kernel⟩, List.mem_of_getElem? (i := 1401) (by decide +kernel), List.mem_of_getElem? (i := 1632) (by decide +kernel), List.mem_of_getElem? (i := 1633) (by decide +kernel)⟩
theorem lw_p130 : lw_okq (⟨"RingDriveModel", "allocates", "(I)I"⟩, 84) := ⟨⟨by decide +kernel, by decide +kernel⟩, List.mem_of_getElem? (i := 1401) (by decide +kernel), List.mem_of_getElem? (i := 1636) (by decide +kernel), List.mem_of_getElem? (i := 1637) (by decide +kernel)⟩
theorem lw_p131 : lw_okq (⟨"RingDriveModel", "frees", "(I)I"⟩, 84) := ⟨⟨by decide +kernel, by decide +kernel⟩, List.mem_of_getElem? (i := 1401) (by decide +kernel), List.mem_of_getElem? (i := 1640) (by decide +kernel), List.mem_of_getElem? (i := 1641) (by decide +kernel)⟩
theorem lw_p132 : lw_okq (⟨"RingDriveModel", "memories", "(I)I"⟩, 84) := ⟨⟨by decide +kernel, by decide +kernel⟩, List.mem_of_getElem? (i := 1401) (by decide +kernel), List.mem_of_getElem? (i := 1644) (by decide +kernel), List.mem_of_getElem? (i := 1645) (by decide +kernel)⟩
theorem lw_p133 : lw_okq (⟨"RingDriveModel", "put", "(II)V"⟩, 84) := ⟨⟨by decide +kernel, by decide +kernel⟩, List.mem_of_getElem? (i := 1401) (by decide +kernel), List.mem_of_getElem? (i := 1648) (by decide +kernel), List.mem_of_getElem? (i := 1649) (by decide +kernel)⟩
theorem lw_p134 : lw_okq (⟨"RingDriveModel", "get", "(I)I"⟩, 84) := ⟨⟨by decide +kernel, by decide +kernel⟩, List.mem_of_getElem? (i := 1401) (by decide +kernel), List.mem_of_getElem? (i := 1652) (by decide +kernel), List.mem_of_getElem? (i := 1653) (by decide +kernel)⟩
theorem lw_p135 : lw_okq (⟨"RingDriveModel", "runs", "(I)I"⟩, 84) := ⟨⟨by decide +kernel, by decide +kernel⟩, List.mem_of_getElem? (i := 1401) (by decide +kernel), List.mem_of_getElem? (i := 1656) (by decide +kernel), List.mem_of_getElem? (i := 1657) (by decide +kernel)⟩
theorem lw_p136 : lw_okq (⟨"RingDriveModel", "step", "(I)Z"⟩, 84) := ⟨⟨by decide +kernel, by decide +kernel⟩, List.mem_of_getElem? (i := 1401) (by decide +kernel), List.mem_of_getElem? (i := 1660) (by decide +kernel), List.mem_of_getElem? (i := 1661) (by decide +kernel)⟩
theorem lw_p137 : lw_okq (⟨"RingDriveModel", "works", "(I)Z"⟩, 84) := ⟨⟨by decide +kernel, by decide +kernel⟩, List.mem_of_getElem? (i := 1401) (by decide +kernel), List.mem_of_getElem? (i := 1664) (by decide +kernel), List.mem_of_getElem? (i := 1665) (by decide +kernel)⟩
theorem lw_p138 : lw_okq (⟨"RingDriveModel", "address", "(I)I"⟩, 84) := ⟨⟨by decide +kernel, by decide +kernel⟩, List.mem_of_getElem? (i := 1401) (by decide +kernel), List.mem_of_getElem? (i := 1671) (by decide +kernel), List.mem_of_getElem? (i := 1672) (by decide +kernel)⟩
theorem lw_p139 : lw_okq (⟨"RingDriveModel", "byteNext", "()I"⟩, 84) := ⟨⟨by decide +kernel, by decide +kernel⟩, List.mem_of_getElem? (i := 1401) (by decide +kernel), List.mem_of_getElem? (i := 1675) (by decide +kernel), List.mem_of_getElem? (i := 1676) (by decide +kernel)⟩
theorem lw_p140 : lw_okq (⟨"RingDriveModel", "wordNext", "()I"⟩, 84) := ⟨⟨by decide +kernel, by decide +kernel⟩, List.mem_of_getElem? (i := 1401) (by decide +kernel), List.mem_of_getElem? (i := 1679) (by decide +kernel), List.mem_of_getElem? (i := 1680) (by decide +kernel)⟩
theorem lw_p141 : lw_okq (⟨"RingDriveModel", "readTime", "(I)I"⟩, 84) := ⟨⟨by decide +kernel, by decide +kernel⟩, List.mem_of_getElem? (i := 1401) (by decide +kernel), List.mem_of_getElem? (i := 1686) (by decide +kernel), List.mem_of_getElem? (i := 1687) (by decide +kernel)⟩
theorem lw_p142 : lw_okq (⟨"RingDriveModel", "marks", "(I)I"⟩, 84) := ⟨⟨by decide +kernel, by decide +kernel⟩, List.mem_of_getElem? (i := 1401) (by decide +kernel), List.mem_of_getElem? (i := 1690) (by decide +kernel), List.mem_of_getElem? (i := 1691) (by decide +kernel)⟩
theorem lw_p143 : lw_okq (⟨"RingDriveModel", "flag", "(IZ)V"⟩, 84) := ⟨⟨by decide +kernel, by decide +kernel⟩, List.mem_of_getElem? (i := 1401) (by decide +kernel), List.mem_of_getElem? (i := 1694) (by decide +kernel), List.mem_of_getElem? (i := 1695) (by decide +kernel)⟩
def lw_privs_9 : List (MethodName × Nat) := [(⟨"RingDriveModel", "begins3", "(III)Z"⟩, 84), (⟨"RingDriveModel", "pointer", "(I)I"⟩, 84), (⟨"RingDriveModel", "allocates", "(I)I"⟩, 84), (⟨"RingDriveModel", "frees", "(I)I"⟩, 84), (⟨"RingDriveModel", "memories", "(I)I"⟩, 84), (⟨"RingDriveModel", "put", "(II)V"⟩, 84), (⟨"RingDriveModel", "get", "(I)I"⟩, 84), (⟨"RingDriveModel", "runs", "(I)I"⟩, 84), (⟨"RingDriveModel", "step", "(I)Z"⟩, 84), (⟨"RingDriveModel", "works", "(I)Z"⟩, 84), (⟨"RingDriveModel", "address", "(I)I"⟩, 84), (⟨"RingDriveModel", "byteNext", "()I"⟩, 84), (⟨"RingDriveModel", "wordNext", "()I"⟩, 84), (⟨"RingDriveModel", "readTime", "(I)I"⟩, 84), (⟨"RingDriveModel", "marks", "(I)I"⟩, 84), (⟨"RingDriveModel", "flag", "(IZ)V"⟩, 84)]
theorem lw_r9 : ∀ q ∈ lw_privs_9, lw_okq q := List.forall_mem_cons.mpr ⟨lw_p128, List.forall_mem_cons.mpr ⟨lw_p129, List.forall_mem_cons.mpr ⟨lw_p130, List.forall_mem_cons.mpr ⟨lw_p131, List.forall_mem_cons.mpr ⟨lw_p132, List.forall_mem_cons.mpr ⟨lw_p133, List.forall_mem_cons.mpr ⟨lw_p134, List.forall_mem_cons.mpr ⟨lw_p135, List.forall_mem_cons.mpr ⟨lw_p136, List.forall_mem_cons.mpr ⟨lw_p137, List.forall_mem_cons.mpr ⟨lw_p138, List.forall_mem_cons.mpr ⟨lw_p139, List.forall_mem_cons.mpr ⟨lw_p140, List.forall_mem_cons.mpr ⟨lw_p141, List.forall_mem_cons.mpr ⟨lw_p142, List.forall_mem_cons.mpr ⟨lw_p143, fun _ h => absurd h List.not_mem_nil⟩⟩⟩⟩⟩⟩⟩⟩⟩⟩⟩⟩⟩⟩⟩⟩
theorem lw_p144 : lw_okq (⟨"RingDriveModel", "adds", "(I)V"⟩, 84) := ⟨⟨by decide +kernel, by decide +kernel⟩, List.mem_of_getElem? (i := 1401) (by decide +kernel), List.mem_of_getElem? (i := 1698) (by decide +kernel), List.mem_of_getElem? (i := 1699) (by decide +kernel)⟩
theorem lw_p145 : lw_okq (⟨"RingDriveModel", "is", "(I)Z"⟩, 84) := ⟨⟨by decide +kernel, by decide +kernel⟩, List.mem_of_getElem? (i := 1401) (by decide +kernel), List.mem_of_getElem? (i := 1702) (by decide +kernel), List.mem_of_getElem? (i := 1703) (by decide +kernel)⟩
theorem lw_p146 : lw_okq (⟨"RingDriveModel", "compares", "(II)V"⟩, 84) := ⟨⟨by decide +kernel, by decide +kernel⟩, List.mem_of_getElem? (i := 1401) (by decide +kernel), List.mem_of_getElem? (i := 1706) (by decide +kernel), List.mem_of_getElem? (i := 1707) (by decide +kernel)⟩
theorem lw_p147 : lw_okq (⟨"RingDriveModel", "takesOff", "(I)V"⟩, 84) := ⟨⟨by decide +kernel, by decide +kernel⟩, List.mem_of_getElem? (i := 1401) (by decide +kernel), List.mem_of_getElem? (i := 1710) (by decide +kernel), List.mem_of_getElem? (i := 1711) (by decide +kernel)⟩
theorem lw_p148 : lw_okq (⟨"RingDriveModel", "twos", "(I)Z"⟩, 84) := ⟨⟨by decide +kernel, by decide +kernel⟩, List.mem_of_getElem? (i := 1401) (by decide +kernel), List.mem_of_getElem? (i := 1714) (by decide +kernel), List.mem_of_getElem? (i := 1715) (by decide +kernel)⟩
theorem lw_p149 : lw_okq (⟨"RingDriveModel", "shifted", "(II)I"⟩, 84) := ⟨⟨by decide +kernel, by decide +kernel⟩, List.mem_of_getElem? (i := 1401) (by decide +kernel), List.mem_of_getElem? (i := 1718) (by decide +kernel), List.mem_of_getElem? (i := 1719) (by decide +kernel)⟩
theorem lw_p150 : lw_okq (⟨"RingDriveModel", "takes2", "(I)Z"⟩, 84) := ⟨⟨by decide +kernel, by decide +kernel⟩, List.mem_of_getElem? (i := 1401) (by decide +kernel), List.mem_of_getElem? (i := 1722) (by decide +kernel), List.mem_of_getElem? (i := 1723) (by decide +kernel)⟩
theorem lw_p151 : lw_okq (⟨"RingDriveModel", "changes", "(II)V"⟩, 84) := ⟨⟨by decide +kernel, by decide +kernel⟩, List.mem_of_getElem? (i := 1401) (by decide +kernel), List.mem_of_getElem? (i := 1726) (by decide +kernel), List.mem_of_getElem? (i := 1727) (by decide +kernel)⟩
theorem lw_p152 : lw_okq (⟨"RingDriveModel", "keeps", "(II)Z"⟩, 84) := ⟨⟨by decide +kernel, by decide +kernel⟩, List.mem_of_getElem? (i := 1401) (by decide +kernel), List.mem_of_getElem? (i := 1730) (by decide +kernel), List.mem_of_getElem? (i := 1731) (by decide +kernel)⟩
theorem lw_p153 : lw_okq (⟨"RingDriveModel", "fetches", "(II)Z"⟩, 84) := ⟨⟨by decide +kernel, by decide +kernel⟩, List.mem_of_getElem? (i := 1401) (by decide +kernel), List.mem_of_getElem? (i := 1734) (by decide +kernel), List.mem_of_getElem? (i := 1735) (by decide +kernel)⟩
theorem lw_p154 : lw_okq (⟨"RingDriveModel", "zeros", "(I)Z"⟩, 84) := ⟨⟨by decide +kernel, by decide +kernel⟩, List.mem_of_getElem? (i := 1401) (by decide +kernel), List.mem_of_getElem? (i := 1738) (by decide +kernel), List.mem_of_getElem? (i := 1739) (by decide +kernel)⟩
theorem lw_p155 : lw_okq (⟨"RingDriveModel", "branch", "(Z)V"⟩, 84) := ⟨⟨by decide +kernel, by decide +kernel⟩, List.mem_of_getElem? (i := 1401) (by decide +kernel), List.mem_of_getElem? (i := 1742) (by decide +kernel), List.mem_of_getElem? (i := 1743) (by decide +kernel)⟩
theorem lw_p156 : lw_okq (⟨"RingDriveModel", "tests", "(I)Z"⟩, 84) := ⟨⟨by decide +kernel, by decide +kernel⟩, List.mem_of_getElem? (i := 1401) (by decide +kernel), List.mem_of_getElem? (i := 1746) (by decide +kernel), List.mem_of_getElem? (i := 1747) (by decide +kernel)⟩
theorem lw_p157 : lw_okq (⟨"RingDriveModel", "compared", "(II)Z"⟩, 84) := ⟨⟨by decide +kernel, by decide +kernel⟩, List.mem_of_getElem? (i := 1401) (by decide +kernel), List.mem_of_getElem? (i := 1750) (by decide +kernel), List.mem_of_getElem? (i := 1751) (by decide +kernel)⟩
theorem lw_p158 : lw_okq (⟨"RingDriveModel", "push", "(I)V"⟩, 84) := ⟨⟨by decide +kernel, by decide +kernel⟩, List.mem_of_getElem? (i := 1401) (by decide +kernel), List.mem_of_getElem? (i := 1754) (by decide +kernel), List.mem_of_getElem? (i := 1755) (by decide +kernel)⟩
theorem lw_p159 : lw_okq (⟨"RingDriveModel", "pull", "()I"⟩, 84) := ⟨⟨by decide +kernel, by decide +kernel⟩, List.mem_of_getElem? (i := 1401) (by decide +kernel), List.mem_of_getElem? (i := 1758) (by decide +kernel), List.mem_of_getElem? (i := 1759) (by decide +kernel)⟩
def lw_privs_10 : List (MethodName × Nat) := [(⟨"RingDriveModel", "adds", "(I)V"⟩, 84), (⟨"RingDriveModel", "is", "(I)Z"⟩, 84), (⟨"RingDriveModel", "compares", "(II)V"⟩, 84), (⟨"RingDriveModel", "takesOff", "(I)V"⟩, 84), (⟨"RingDriveModel", "twos", "(I)Z"⟩, 84), (⟨"RingDriveModel", "shifted", "(II)I"⟩, 84), (⟨"RingDriveModel", "takes2", "(I)Z"⟩, 84), (⟨"RingDriveModel", "changes", "(II)V"⟩, 84), (⟨"RingDriveModel", "keeps", "(II)Z"⟩, 84), (⟨"RingDriveModel", "fetches", "(II)Z"⟩, 84), (⟨"RingDriveModel", "zeros", "(I)Z"⟩, 84), (⟨"RingDriveModel", "branch", "(Z)V"⟩, 84), (⟨"RingDriveModel", "tests", "(I)Z"⟩, 84), (⟨"RingDriveModel", "compared", "(II)Z"⟩, 84), (⟨"RingDriveModel", "push", "(I)V"⟩, 84), (⟨"RingDriveModel", "pull", "()I"⟩, 84)]
theorem lw_r10 : ∀ q ∈ lw_privs_10, lw_okq q := List.forall_mem_cons.mpr ⟨lw_p144, List.forall_mem_cons.mpr ⟨lw_p145, List.forall_mem_cons.mpr ⟨lw_p146, List.forall_mem_cons.mpr ⟨lw_p147, List.forall_mem_cons.mpr ⟨lw_p148, List.forall_mem_cons.mpr ⟨lw_p149, List.forall_mem_cons.mpr ⟨lw_p150, List.forall_mem_cons.mpr ⟨lw_p151, List.forall_mem_cons.mpr ⟨lw_p152, List.forall_mem_cons.mpr ⟨lw_p153, List.forall_mem_cons.mpr ⟨lw_p154, List.forall_mem_cons.mpr ⟨lw_p155, List.forall_mem_cons.mpr ⟨lw_p156, List.forall_mem_cons.mpr ⟨lw_p157, List.forall_mem_cons.mpr ⟨lw_p158, List.forall_mem_cons.mpr ⟨lw_p159, fun _ h => absurd h List.not_mem_nil⟩⟩⟩⟩⟩⟩⟩⟩⟩⟩⟩⟩⟩⟩⟩⟩
theorem lw_p160 : lw_okq (⟨"RingDriveModel", "jumps", "(I)Z"⟩, 84) := ⟨⟨by decide +kernel, by decide +kernel⟩, List.mem_of_getElem? (i := 1401) (by decide +kernel), List.mem_of_getElem? (i := 1762) (by decide +kernel), List.mem_of_getElem? (i := 1763) (by decide +kernel)⟩
theorem lw_p161 : lw_okq (⟨"RingDriveModel", "opens", "(II)I"⟩, 84) := ⟨⟨by decide +kernel, by decide +kernel⟩, List.mem_of_getElem? (i := 1401) (by decide +kernel), List.mem_of_getElem? (i := 1766) (by decide +kernel), List.mem_of_getElem? (i := 1767) (by decide +kernel)⟩
theorem lw_p162 : lw_okq (⟨"RingDriveModel", "shuts", "(I)I"⟩, 84) := ⟨⟨by decide +kernel, by decide +kernel⟩, List.mem_of_getElem? (i := 1401) (by decide +kernel), List.mem_of_getElem? (i := 1770) (by decide +kernel), List.mem_of_getElem? (i := 1771) (by decide +kernel)⟩
theorem lw_p163 : lw_okq (⟨"RingDriveModel", "openMany", "()I"⟩, 84) := ⟨⟨by decide +kernel, by decide +kernel⟩, List.mem_of_getElem? (i := 1401) (by decide +kernel), List.mem_of_getElem? (i := 1774) (by decide +kernel), List.mem_of_getElem? (i := 1775) (by decide +kernel)⟩
theorem lw_p164 : lw_okq (⟨"RingDriveModel", "opensList", "(II)I"⟩, 84) := ⟨⟨by decide +kernel, by decide +kernel⟩, List.mem_of_getElem? (i := 1401) (by decide +kernel), List.mem_of_getElem? (i := 1778) (by decide +kernel), List.mem_of_getElem? (i := 1779) (by decide +kernel)⟩
theorem lw_p165 : lw_okq (⟨"RingDriveModel", "opensFile", "(II)I"⟩, 84) := ⟨⟨by decide +kernel, by decide +kernel⟩, List.mem_of_getElem? (i := 1401) (by decide +kernel), List.mem_of_getElem? (i := 1782) (by decide +kernel), List.mem_of_getElem? (i := 1783) (by decide +kernel)⟩
theorem lw_p166 : lw_okq (⟨"RingDriveModel", "opensNew", "(IIIIZ)I"⟩, 84) := ⟨⟨by decide +kernel, by decide +kernel⟩, List.mem_of_getElem? (i := 1401) (by decide +kernel), List.mem_of_getElem? (i := 1786) (by decide +kernel), List.mem_of_getElem? (i := 1787) (by decide +kernel)⟩
theorem lw_p167 : lw_okq (⟨"RingDriveModel", "makesEntry", "()I"⟩, 84) := ⟨⟨by decide +kernel, by decide +kernel⟩, List.mem_of_getElem? (i := 1401) (by decide +kernel), List.mem_of_getElem? (i := 1790) (by decide +kernel), List.mem_of_getElem? (i := 1791) (by decide +kernel)⟩
theorem lw_p168 : lw_okq (⟨"RingDriveModel", "lowest", "(I)I"⟩, 84) := ⟨⟨by decide +kernel, by decide +kernel⟩, List.mem_of_getElem? (i := 1401) (by decide +kernel), List.mem_of_getElem? (i := 1794) (by decide +kernel), List.mem_of_getElem? (i := 1795) (by decide +kernel)⟩
theorem lw_p169 : lw_okq (⟨"RingDriveModel", "takesOne", "()I"⟩, 84) := ⟨⟨by decide +kernel, by decide +kernel⟩, List.mem_of_getElem? (i := 1401) (by decide +kernel), List.mem_of_getElem? (i := 1798) (by decide +kernel), List.mem_of_getElem? (i := 1799) (by decide +kernel)⟩
theorem lw_p170 : lw_okq (⟨"RingDriveModel", "clears", "(I)V"⟩, 84) := ⟨⟨by decide +kernel, by decide +kernel⟩, List.mem_of_getElem? (i := 1401) (by decide +kernel), List.mem_of_getElem? (i := 1805) (by decide +kernel), List.mem_of_getElem? (i := 1806) (by decide +kernel)⟩
theorem lw_p171 : lw_okq (⟨"RingDriveModel", "opensOld", "(IIII)I"⟩, 84) := ⟨⟨by decide +kernel, by decide +kernel⟩, List.mem_of_getElem? (i := 1401) (by decide +kernel), List.mem_of_getElem? (i := 1809) (by decide +kernel), List.mem_of_getElem? (i := 1810) (by decide +kernel)⟩
theorem lw_p172 : lw_okq (⟨"RingDriveModel", "begun", "(I)V"⟩, 84) := ⟨⟨by decide +kernel, by decide +kernel⟩, List.mem_of_getElem? (i := 1401) (by decide +kernel), List.mem_of_getElem? (i := 1813) (by decide +kernel), List.mem_of_getElem? (i := 1814) (by decide +kernel)⟩
theorem lw_p173 : lw_okq (⟨"RingDriveModel", "givesMore", "(I)V"⟩, 84) := ⟨⟨by decide +kernel, by decide +kernel⟩, List.mem_of_getElem? (i := 1401) (by decide +kernel), List.mem_of_getElem? (i := 1825) (by decide +kernel), List.mem_of_getElem? (i := 1826) (by decide +kernel)⟩
theorem lw_p174 : lw_okq (⟨"RingDriveModel", "gives", "(I)V"⟩, 84) := ⟨⟨by decide +kernel, by decide +kernel⟩, List.mem_of_getElem? (i := 1401) (by decide +kernel), List.mem_of_getElem? (i := 1829) (by decide +kernel), List.mem_of_getElem? (i := 1830) (by decide +kernel)⟩
theorem lw_p175 : lw_okq (⟨"RingDriveModel", "givesStatus", "(I)V"⟩, 84) := ⟨⟨by decide +kernel, by decide +kernel⟩, List.mem_of_getElem? (i := 1401) (by decide +kernel), List.mem_of_getElem? (i := 1833) (by decide +kernel), List.mem_of_getElem? (i := 1834) (by decide +kernel)⟩
def lw_privs_11 : List (MethodName × Nat) := [(⟨"RingDriveModel", "jumps", "(I)Z"⟩, 84), (⟨"RingDriveModel", "opens", "(II)I"⟩, 84), (⟨"RingDriveModel", "shuts", "(I)I"⟩, 84), (⟨"RingDriveModel", "openMany", "()I"⟩, 84), (⟨"RingDriveModel", "opensList", "(II)I"⟩, 84), (⟨"RingDriveModel", "opensFile", "(II)I"⟩, 84), (⟨"RingDriveModel", "opensNew", "(IIIIZ)I"⟩, 84), (⟨"RingDriveModel", "makesEntry", "()I"⟩, 84), (⟨"RingDriveModel", "lowest", "(I)I"⟩, 84), (⟨"RingDriveModel", "takesOne", "()I"⟩, 84), (⟨"RingDriveModel", "clears", "(I)V"⟩, 84), (⟨"RingDriveModel", "opensOld", "(IIII)I"⟩, 84), (⟨"RingDriveModel", "begun", "(I)V"⟩, 84), (⟨"RingDriveModel", "givesMore", "(I)V"⟩, 84), (⟨"RingDriveModel", "gives", "(I)V"⟩, 84), (⟨"RingDriveModel", "givesStatus", "(I)V"⟩, 84)]
theorem lw_r11 : ∀ q ∈ lw_privs_11, lw_okq q := List.forall_mem_cons.mpr ⟨lw_p160, List.forall_mem_cons.mpr ⟨lw_p161, List.forall_mem_cons.mpr ⟨lw_p162, List.forall_mem_cons.mpr ⟨lw_p163, List.forall_mem_cons.mpr ⟨lw_p164, List.forall_mem_cons.mpr ⟨lw_p165, List.forall_mem_cons.mpr ⟨lw_p166, List.forall_mem_cons.mpr ⟨lw_p167, List.forall_mem_cons.mpr ⟨lw_p168, List.forall_mem_cons.mpr ⟨lw_p169, List.forall_mem_cons.mpr ⟨lw_p170, List.forall_mem_cons.mpr ⟨lw_p171, List.forall_mem_cons.mpr ⟨lw_p172, List.forall_mem_cons.mpr ⟨lw_p173, List.forall_mem_cons.mpr ⟨lw_p174, List.forall_mem_cons.mpr ⟨lw_p175, fun _ h => absurd h List.not_mem_nil⟩⟩⟩⟩⟩⟩⟩⟩⟩⟩⟩⟩⟩⟩⟩⟩
theorem lw_p176 : lw_okq (⟨"RingDriveModel", "saysTwo", "(I)V"⟩, 84) := ⟨⟨by decide +kernel, by decide +kernel⟩, List.mem_of_getElem? (i := 1401) (by decide +kernel), List.mem_of_getElem? (i := 1837) (by decide +kernel), List.mem_of_getElem? (i := 1838) (by decide +kernel)⟩
theorem lw_p177 : lw_okq (⟨"RingDriveModel", "says", "(I)V"⟩, 84) := ⟨⟨by decide +kernel, by decide +kernel⟩, List.mem_of_getElem? (i := 1401) (by decide +kernel), List.mem_of_getElem? (i := 1841) (by decide +kernel), List.mem_of_getElem? (i := 1842) (by decide +kernel)⟩
theorem lw_p178 : lw_okq (⟨"RingDriveModel", "saysWords", "(I)V"⟩, 84) := ⟨⟨by decide +kernel, by decide +kernel⟩, List.mem_of_getElem? (i := 1401) (by decide +kernel), List.mem_of_getElem? (i := 1845) (by decide +kernel), List.mem_of_getElem? (i := 1846) (by decide +kernel)⟩
theorem lw_p179 : lw_okq (⟨"RingDriveModel", "says8", "(J)V"⟩, 84) := ⟨⟨by decide +kernel, by decide +kernel⟩, List.mem_of_getElem? (i := 1401) (by decide +kernel), List.mem_of_getElem? (i := 1850) (by decide +kernel), List.mem_of_getElem? (i := 1851) (by decide +kernel)⟩
theorem lw_p180 : lw_okq (⟨"RingDriveModel", "readsFile", "(II)I"⟩, 84) := ⟨⟨by decide +kernel, by decide +kernel⟩, List.mem_of_getElem? (i := 1401) (by decide +kernel), List.mem_of_getElem? (i := 1891) (by decide +kernel), List.mem_of_getElem? (i := 1892) (by decide +kernel)⟩
theorem lw_p181 : lw_okq (⟨"RingDriveModel", "readsList", "(II)I"⟩, 84) := ⟨⟨by decide +kernel, by decide +kernel⟩, List.mem_of_getElem? (i := 1401) (by decide +kernel), List.mem_of_getElem? (i := 1895) (by decide +kernel), List.mem_of_getElem? (i := 1896) (by decide +kernel)⟩
theorem lw_p182 : lw_okq (⟨"RingDriveModel", "title", "(I)I"⟩, 84) := ⟨⟨by decide +kernel, by decide +kernel⟩, List.mem_of_getElem? (i := 1401) (by decide +kernel), List.mem_of_getElem? (i := 1899) (by decide +kernel), List.mem_of_getElem? (i := 1900) (by decide +kernel)⟩
theorem lw_p183 : lw_okq (⟨"RingDriveModel", "next", "(I)I"⟩, 84) := ⟨⟨by decide +kernel, by decide +kernel⟩, List.mem_of_getElem? (i := 1401) (by decide +kernel), List.mem_of_getElem? (i := 1903) (by decide +kernel), List.mem_of_getElem? (i := 1904) (by decide +kernel)⟩
theorem lw_p184 : lw_okq (⟨"RingDriveModel", "entryLine", "(I)V"⟩, 84) := ⟨⟨by decide +kernel, by decide +kernel⟩, List.mem_of_getElem? (i := 1401) (by decide +kernel), List.mem_of_getElem? (i := 1907) (by decide +kernel), List.mem_of_getElem? (i := 1908) (by decide +kernel)⟩
theorem lw_p185 : lw_okq (⟨"RingDriveModel", "saysNumber", "(I)V"⟩, 84) := ⟨⟨by decide +kernel, by decide +kernel⟩, List.mem_of_getElem? (i := 1401) (by decide +kernel), List.mem_of_getElem? (i := 1911) (by decide +kernel), List.mem_of_getElem? (i := 1912) (by decide +kernel)⟩
theorem lw_p186 : lw_okq (⟨"RingDriveModel", "total", "(I)I"⟩, 84) := ⟨⟨by decide +kernel, by decide +kernel⟩, List.mem_of_getElem? (i := 1401) (by decide +kernel), List.mem_of_getElem? (i := 1915) (by decide +kernel), List.mem_of_getElem? (i := 1916) (by decide +kernel)⟩
theorem lw_p187 : lw_okq (⟨"RingDriveModel", "readsBuffer", "(II)I"⟩, 84) := ⟨⟨by decide +kernel, by decide +kernel⟩, List.mem_of_getElem? (i := 1401) (by decide +kernel), List.mem_of_getElem? (i := 1920) (by decide +kernel), List.mem_of_getElem? (i := 1921) (by decide +kernel)⟩
theorem lw_p188 : lw_okq (⟨"RingDriveModel", "writesByte", "(II)I"⟩, 84) := ⟨⟨by decide +kernel, by decide +kernel⟩, List.mem_of_getElem? (i := 1401) (by decide +kernel), List.mem_of_getElem? (i := 1932) (by decide +kernel), List.mem_of_getElem? (i := 1933) (by decide +kernel)⟩
theorem lw_p189 : lw_okq (⟨"RingDriveModel", "goesOn", "(I)I"⟩, 84) := ⟨⟨by decide +kernel, by decide +kernel⟩, List.mem_of_getElem? (i := 1401) (by decide +kernel), List.mem_of_getElem? (i := 1936) (by decide +kernel), List.mem_of_getElem? (i := 1937) (by decide +kernel)⟩
theorem lw_p190 : lw_okq (⟨"RingDriveModel", "takesNext", "(II)I"⟩, 84) := ⟨⟨by decide +kernel, by decide +kernel⟩, List.mem_of_getElem? (i := 1401) (by decide +kernel), List.mem_of_getElem? (i := 1940) (by decide +kernel), List.mem_of_getElem? (i := 1941) (by decide +kernel)⟩
theorem lw_p191 : lw_okq (⟨"RingDriveModel", "isFull", "(I)I"⟩, 84) := ⟨⟨by decide +kernel, by decide +kernel⟩, List.mem_of_getElem? (i := 1401) (by decide +kernel), List.mem_of_getElem? (i := 1944) (by decide +kernel), List.mem_of_getElem? (i := 1945) (by decide +kernel)⟩
def lw_privs_12 : List (MethodName × Nat) := [(⟨"RingDriveModel", "saysTwo", "(I)V"⟩, 84), (⟨"RingDriveModel", "says", "(I)V"⟩, 84), (⟨"RingDriveModel", "saysWords", "(I)V"⟩, 84), (⟨"RingDriveModel", "says8", "(J)V"⟩, 84), (⟨"RingDriveModel", "readsFile", "(II)I"⟩, 84), (⟨"RingDriveModel", "readsList", "(II)I"⟩, 84), (⟨"RingDriveModel", "title", "(I)I"⟩, 84), (⟨"RingDriveModel", "next", "(I)I"⟩, 84), (⟨"RingDriveModel", "entryLine", "(I)V"⟩, 84), (⟨"RingDriveModel", "saysNumber", "(I)V"⟩, 84), (⟨"RingDriveModel", "total", "(I)I"⟩, 84), (⟨"RingDriveModel", "readsBuffer", "(II)I"⟩, 84), (⟨"RingDriveModel", "writesByte", "(II)I"⟩, 84), (⟨"RingDriveModel", "goesOn", "(I)I"⟩, 84), (⟨"RingDriveModel", "takesNext", "(II)I"⟩, 84), (⟨"RingDriveModel", "isFull", "(I)I"⟩, 84)]
theorem lw_r12 : ∀ q ∈ lw_privs_12, lw_okq q := List.forall_mem_cons.mpr ⟨lw_p176, List.forall_mem_cons.mpr ⟨lw_p177, List.forall_mem_cons.mpr ⟨lw_p178, List.forall_mem_cons.mpr ⟨lw_p179, List.forall_mem_cons.mpr ⟨lw_p180, List.forall_mem_cons.mpr ⟨lw_p181, List.forall_mem_cons.mpr ⟨lw_p182, List.forall_mem_cons.mpr ⟨lw_p183, List.forall_mem_cons.mpr ⟨lw_p184, List.forall_mem_cons.mpr ⟨lw_p185, List.forall_mem_cons.mpr ⟨lw_p186, List.forall_mem_cons.mpr ⟨lw_p187, List.forall_mem_cons.mpr ⟨lw_p188, List.forall_mem_cons.mpr ⟨lw_p189, List.forall_mem_cons.mpr ⟨lw_p190, List.forall_mem_cons.mpr ⟨lw_p191, fun _ h => absurd h List.not_mem_nil⟩⟩⟩⟩⟩⟩⟩⟩⟩⟩⟩⟩⟩⟩⟩⟩
def lw_privs : List (MethodName × Nat) := lw_privs_1 ++ (lw_privs_2 ++ (lw_privs_3 ++ (lw_privs_4 ++ (lw_privs_5 ++ (lw_privs_6 ++ (lw_privs_7 ++ (lw_privs_8 ++ (lw_privs_9 ++ (lw_privs_10 ++ (lw_privs_11 ++ (lw_privs_12)))))))))))
def lw_tbl : List Cond := k2_sels lw_privs ++ tables_1
theorem lw_privs_ok : ∀ q ∈ lw_privs, lw_okq q := by
  show ∀ q ∈ lw_privs_1 ++ (lw_privs_2 ++ (lw_privs_3 ++ (lw_privs_4 ++ (lw_privs_5 ++ (lw_privs_6 ++ (lw_privs_7 ++ (lw_privs_8 ++ (lw_privs_9 ++ (lw_privs_10 ++ (lw_privs_11 ++ (lw_privs_12))))))))))), lw_okq q
  exact List.forall_mem_append.mpr ⟨lw_r1, List.forall_mem_append.mpr ⟨lw_r2, List.forall_mem_append.mpr ⟨lw_r3, List.forall_mem_append.mpr ⟨lw_r4, List.forall_mem_append.mpr ⟨lw_r5, List.forall_mem_append.mpr ⟨lw_r6, List.forall_mem_append.mpr ⟨lw_r7, List.forall_mem_append.mpr ⟨lw_r8, List.forall_mem_append.mpr ⟨lw_r9, List.forall_mem_append.mpr ⟨lw_r10, List.forall_mem_append.mpr ⟨lw_r11, lw_r12⟩⟩⟩⟩⟩⟩⟩⟩⟩⟩⟩
def RX0 : String := "RingDrive$BlockMap"
def TX0 : u_T := fun k => match k with
  | 0 => ("RingDrive$BlockMap", "row", "[I", true)
  | 1 => ("RingDrive$BlockMap", "track", "I", false)
  | 2 => ("RingDrive$BlockMap", "sector", "I", false)
  | _ => ("RingDrive$BlockMap", "disk", "LRingDrive$Disk;", true)
def tyX0 : Nat → FieldType := fun k => match k with
  | 0 => .array .int
  | 1 => .int
  | 2 => .int
  | _ => .object "RingDrive$Disk"
def RX1 : String := "RingDrive$Channel"
def TX1 : u_T := fun k => match k with
  | 0 => ("RingDrive$Channel", "mode", "I", false)
  | 1 => ("RingDrive$Channel", "row", "[I", true)
  | 2 => ("RingDrive$Channel", "place", "I", false)
  | 3 => ("RingDrive$Channel", "end", "I", false)
  | 4 => ("RingDrive$Channel", "isLast", "Z", false)
  | 5 => ("RingDrive$Channel", "track", "I", false)
  | 6 => ("RingDrive$Channel", "sector", "I", false)
  | 7 => ("RingDrive$Channel", "firstTrack", "I", false)
  | 8 => ("RingDrive$Channel", "firstSector", "I", false)
  | 9 => ("RingDrive$Channel", "count", "I", false)
  | 10 => ("RingDrive$Channel", "entryTrack", "I", false)
  | 11 => ("RingDrive$Channel", "entrySector", "I", false)
  | 12 => ("RingDrive$Channel", "entryBlocks", "I", false)
  | 13 => ("RingDrive$Channel", "entry", "I", false)
  | 14 => ("RingDrive$Channel", "pattern", "LRingDrive$Pattern;", true)
  | _ => ("RingDrive$Channel", "titled", "Z", false)
def tyX1 : Nat → FieldType := fun k => match k with
  | 0 => .int
  | 1 => .array .int
  | 2 => .int
  | 3 => .int
  | 4 => .boolean
  | 5 => .int
  | 6 => .int
  | 7 => .int
  | 8 => .int
  | 9 => .int
  | 10 => .int
  | 11 => .int
  | 12 => .int
  | 13 => .int
  | 14 => .object "RingDrive$Pattern"
  | _ => .boolean
def RX2 : String := "RingDrive$Commands"
def TX2 : u_T := fun k => match k with
  | 0 => ("RingDrive$Commands", "dos", "LRingDrive$Dos;", true)
  | 1 => ("RingDrive$Commands", "status", "LRingDrive$Status;", true)
  | 2 => ("RingDrive$Commands", "disk", "LRingDrive$Disk;", true)
  | 3 => ("RingDrive$Commands", "tape", "LRingDrive$Tape;", true)
  | 4 => ("RingDrive$Commands", "map", "LRingDrive$BlockMap;", true)
  | 5 => ("RingDrive$Commands", "directory", "LRingDrive$Directory;", true)
  | 6 => ("RingDrive$Commands", "processor", "LRingDrive$Processor;", true)
  | 7 => ("RingDrive$Commands", "name", "LRingDrive$Pattern;", true)
  | 8 => ("RingDrive$Commands", "old", "LRingDrive$Pattern;", true)
  | _ => ("RingDrive$Commands", "all", "LRingDrive$Pattern;", true)
def tyX2 : Nat → FieldType := fun k => match k with
  | 0 => .object "RingDrive$Dos"
  | 1 => .object "RingDrive$Status"
  | 2 => .object "RingDrive$Disk"
  | 3 => .object "RingDrive$Tape"
  | 4 => .object "RingDrive$BlockMap"
  | 5 => .object "RingDrive$Directory"
  | 6 => .object "RingDrive$Processor"
  | 7 => .object "RingDrive$Pattern"
  | 8 => .object "RingDrive$Pattern"
  | _ => .object "RingDrive$Pattern"
def RX3 : String := "RingDrive$Directory"
def TX3 : u_T := fun k => match k with
  | 0 => ("RingDrive$Directory", "row", "[I", true)
  | 1 => ("RingDrive$Directory", "track", "I", false)
  | 2 => ("RingDrive$Directory", "sector", "I", false)
  | 3 => ("RingDrive$Directory", "blocks", "I", false)
  | 4 => ("RingDrive$Directory", "entry", "I", false)
  | 5 => ("RingDrive$Directory", "found", "Z", false)
  | 6 => ("RingDrive$Directory", "held", "Z", false)
  | 7 => ("RingDrive$Directory", "disk", "LRingDrive$Disk;", true)
  | _ => ("RingDrive$Directory", "status", "LRingDrive$Status;", true)
def tyX3 : Nat → FieldType := fun k => match k with
  | 0 => .array .int
  | 1 => .int
  | 2 => .int
  | 3 => .int
  | 4 => .int
  | 5 => .boolean
  | 6 => .boolean
  | 7 => .object "RingDrive$Disk"
  | _ => .object "RingDrive$Status"
def RX4 : String := "RingDrive$Disk"
def TX4 : u_T := fun k => match k with
  | 0 => ("RingDrive$Disk", "guarded", "Z", false)
  | 1 => ("RingDrive$Disk", "idFirst", "I", false)
  | 2 => ("RingDrive$Disk", "idSecond", "I", false)
  | 3 => ("RingDrive$Disk", "status", "LRingDrive$Status;", true)
  | 4 => ("RingDrive$Disk", "rings", "[LRingDrive$Ring;", true)
  | 5 => ("RingDrive$Disk", "header", "[I", true)
  | 6 => ("RingDrive$Disk", "codedHeader", "[I", true)
  | 7 => ("RingDrive$Disk", "data", "[I", true)
  | 8 => ("RingDrive$Disk", "codedData", "[I", true)
  | _ => ("RingDrive$Disk", "came", "[I", true)
def tyX4 : Nat → FieldType := fun k => match k with
  | 0 => .boolean
  | 1 => .int
  | 2 => .int
  | 3 => .object "RingDrive$Status"
  | 4 => .array (.object "RingDrive$Ring")
  | 5 => .array .int
  | 6 => .array .int
  | 7 => .array .int
  | 8 => .array .int
  | _ => .array .int
def RX5 : String := "RingDrive$Dos"
def TX5 : u_T := fun k => match k with
  | 0 => ("RingDrive$Dos", "status", "LRingDrive$Status;", true)
  | 1 => ("RingDrive$Dos", "disk", "LRingDrive$Disk;", true)
  | 2 => ("RingDrive$Dos", "tape", "LRingDrive$Tape;", true)
  | 3 => ("RingDrive$Dos", "map", "LRingDrive$BlockMap;", true)
  | 4 => ("RingDrive$Dos", "directory", "LRingDrive$Directory;", true)
  | 5 => ("RingDrive$Dos", "row", "[I", true)
  | 6 => ("RingDrive$Dos", "ended", "Z", false)
  | 7 => ("RingDrive$Dos", "channels", "[LRingDrive$Channel;", true)
  | 8 => ("RingDrive$Dos", "name", "LRingDrive$Pattern;", true)
  | 9 => ("RingDrive$Dos", "replaces", "Z", false)
  | 10 => ("RingDrive$Dos", "sort", "I", false)
  | _ => ("RingDrive$Dos", "way", "I", false)
def tyX5 : Nat → FieldType := fun k => match k with
  | 0 => .object "RingDrive$Status"
  | 1 => .object "RingDrive$Disk"
  | 2 => .object "RingDrive$Tape"
  | 3 => .object "RingDrive$BlockMap"
  | 4 => .object "RingDrive$Directory"
  | 5 => .array .int
  | 6 => .boolean
  | 7 => .array (.object "RingDrive$Channel")
  | 8 => .object "RingDrive$Pattern"
  | 9 => .boolean
  | 10 => .int
  | _ => .int
def RX6 : String := "RingDrive$Pattern"
def TX6 : u_T := fun k => match k with
  | 0 => ("RingDrive$Pattern", "row", "[I", true)
  | _ => ("RingDrive$Pattern", "length", "I", false)
def tyX6 : Nat → FieldType := fun k => match k with
  | 0 => .array .int
  | _ => .int
def RX7 : String := "RingDrive$Processor"
def TX7 : u_T := fun k => match k with
  | 0 => ("RingDrive$Processor", "a", "I", false)
  | 1 => ("RingDrive$Processor", "x", "I", false)
  | 2 => ("RingDrive$Processor", "y", "I", false)
  | 3 => ("RingDrive$Processor", "s", "I", false)
  | 4 => ("RingDrive$Processor", "p", "I", false)
  | 5 => ("RingDrive$Processor", "pc", "I", false)
  | 6 => ("RingDrive$Processor", "cycles", "I", false)
  | 7 => ("RingDrive$Processor", "cells", "[I", true)
  | 8 => ("RingDrive$Processor", "address", "I", false)
  | _ => ("RingDrive$Processor", "left", "Z", false)
def tyX7 : Nat → FieldType := fun k => match k with
  | 0 => .int
  | 1 => .int
  | 2 => .int
  | 3 => .int
  | 4 => .int
  | 5 => .int
  | 6 => .int
  | 7 => .array .int
  | 8 => .int
  | _ => .boolean
def RX8 : String := "RingDrive$Ring"
def TX8 : u_T := fun k => match k with
  | 0 => ("RingDrive$Ring", "sectors", "I", true)
  | 1 => ("RingDrive$Ring", "size", "I", true)
  | 2 => ("RingDrive$Ring", "cells", "[I", true)
  | 3 => ("RingDrive$Ring", "at", "I", false)
  | 4 => ("RingDrive$Ring", "ones", "I", false)
  | 5 => ("RingDrive$Ring", "first", "Z", false)
  | 6 => ("RingDrive$Ring", "roundCell", "I", false)
  | _ => ("RingDrive$Ring", "roundOnes", "I", false)
def tyX8 : Nat → FieldType := fun k => match k with
  | 0 => .int
  | 1 => .int
  | 2 => .array .int
  | 3 => .int
  | 4 => .int
  | 5 => .boolean
  | 6 => .int
  | _ => .int
def RX9 : String := "RingDrive$Status"
def TX9 : u_T := fun k => match k with
  | 0 => ("RingDrive$Status", "number", "I", false)
  | 1 => ("RingDrive$Status", "track", "I", false)
  | 2 => ("RingDrive$Status", "sector", "I", false)
  | 3 => ("RingDrive$Status", "ended", "Z", false)
  | 4 => ("RingDrive$Status", "text", "[I", true)
  | 5 => ("RingDrive$Status", "length", "I", false)
  | 6 => ("RingDrive$Status", "place", "I", false)
  | 7 => ("RingDrive$Status", "reply", "[I", true)
  | 8 => ("RingDrive$Status", "replyLength", "I", false)
  | _ => ("RingDrive$Status", "replyPlace", "I", false)
def tyX9 : Nat → FieldType := fun k => match k with
  | 0 => .int
  | 1 => .int
  | 2 => .int
  | 3 => .boolean
  | 4 => .array .int
  | 5 => .int
  | 6 => .int
  | 7 => .array .int
  | 8 => .int
  | _ => .int
def RX10 : String := "RingDrive$Tape"
def TX10 : u_T := fun k => match k with
  | 0 => ("RingDrive$Tape", "row", "[I", true)
  | 1 => ("RingDrive$Tape", "count", "I", false)
  | 2 => ("RingDrive$Tape", "length", "I", false)
  | _ => ("RingDrive$Tape", "taken", "I", false)
def tyX10 : Nat → FieldType := fun k => match k with
  | 0 => .array .int
  | 1 => .int
  | 2 => .int
  | _ => .int
def RX11 : String := "RingDrive"
def TX11 : u_T := fun k => match k with
  | 0 => ("RingDrive", "tape", "LRingDrive$Tape;", true)
  | 1 => ("RingDrive", "status", "LRingDrive$Status;", true)
  | 2 => ("RingDrive", "disk", "LRingDrive$Disk;", true)
  | 3 => ("RingDrive", "processor", "LRingDrive$Processor;", true)
  | 4 => ("RingDrive", "dos", "LRingDrive$Dos;", true)
  | 5 => ("RingDrive", "commands", "LRingDrive$Commands;", true)
  | 6 => ("RingDrive", "outRow", "[I", true)
  | 7 => ("RingDrive", "outCount", "I", false)
  | _ => ("RingDrive", "outEnded", "Z", false)
def tyX11 : Nat → FieldType := fun k => match k with
  | 0 => .object "RingDrive$Tape"
  | 1 => .object "RingDrive$Status"
  | 2 => .object "RingDrive$Disk"
  | 3 => .object "RingDrive$Processor"
  | 4 => .object "RingDrive$Dos"
  | 5 => .object "RingDrive$Commands"
  | 6 => .array .int
  | 7 => .int
  | _ => .boolean
def RX12 : String := "RingDriveModel"
def TX12 : u_T := fun k => match k with
  | 0 => ("RingDriveModel", "rings", "[B", true)
  | 1 => ("RingDriveModel", "isProtected", "Z", false)
  | 2 => ("RingDriveModel", "idOne", "I", false)
  | 3 => ("RingDriveModel", "idTwo", "I", false)
  | 4 => ("RingDriveModel", "faultTrack", "I", false)
  | 5 => ("RingDriveModel", "faultSector", "I", false)
  | 6 => ("RingDriveModel", "jobTrack", "I", false)
  | 7 => ("RingDriveModel", "jobBits", "I", false)
  | 8 => ("RingDriveModel", "jobAt", "I", false)
  | 9 => ("RingDriveModel", "jobRun", "I", false)
  | 10 => ("RingDriveModel", "jobMode", "I", false)
  | 11 => ("RingDriveModel", "jobMany", "I", false)
  | 12 => ("RingDriveModel", "jobValue", "I", false)
  | 13 => ("RingDriveModel", "jobFirst", "Z", false)
  | 14 => ("RingDriveModel", "came", "I", false)
  | 15 => ("RingDriveModel", "cameFirst", "Z", false)
  | 16 => ("RingDriveModel", "firsts", "[I", true)
  | 17 => ("RingDriveModel", "plain", "[I", true)
  | 18 => ("RingDriveModel", "coded", "[I", true)
  | 19 => ("RingDriveModel", "got", "[I", true)
  | 20 => ("RingDriveModel", "place", "I", false)
  | 21 => ("RingDriveModel", "zeros", "[I", true)
  | 22 => ("RingDriveModel", "map", "[I", true)
  | 23 => ("RingDriveModel", "dir", "[I", true)
  | 24 => ("RingDriveModel", "work", "[I", true)
  | 25 => ("RingDriveModel", "takenTrack", "I", false)
  | 26 => ("RingDriveModel", "takenSector", "I", false)
  | 27 => ("RingDriveModel", "entryTrack", "I", false)
  | 28 => ("RingDriveModel", "entrySector", "I", false)
  | 29 => ("RingDriveModel", "entry", "I", false)
  | 30 => ("RingDriveModel", "lastTrack", "I", false)
  | 31 => ("RingDriveModel", "lastSector", "I", false)
  | 32 => ("RingDriveModel", "looked", "I", false)
  | 33 => ("RingDriveModel", "kind", "[I", true)
  | 34 => ("RingDriveModel", "hold", "[I", true)
  | 35 => ("RingDriveModel", "at", "[I", true)
  | 36 => ("RingDriveModel", "last", "[I", true)
  | 37 => ("RingDriveModel", "isFinal", "[Z", true)
  | 38 => ("RingDriveModel", "firstTrack", "[I", true)
  | 39 => ("RingDriveModel", "firstSector", "[I", true)
  | 40 => ("RingDriveModel", "nowTrack", "[I", true)
  | 41 => ("RingDriveModel", "nowSector", "[I", true)
  | 42 => ("RingDriveModel", "blocks", "[I", true)
  | 43 => ("RingDriveModel", "itsTrack", "[I", true)
  | 44 => ("RingDriveModel", "itsSector", "[I", true)
  | 45 => ("RingDriveModel", "itsEntry", "[I", true)
  | 46 => ("RingDriveModel", "stage", "[I", true)
  | 47 => ("RingDriveModel", "listTrack", "[I", true)
  | 48 => ("RingDriveModel", "listSector", "[I", true)
  | 49 => ("RingDriveModel", "listBlock", "[I", true)
  | 50 => ("RingDriveModel", "listEntry", "[I", true)
  | 51 => ("RingDriveModel", "patternMany", "[I", true)
  | 52 => ("RingDriveModel", "lineMany", "[I", true)
  | 53 => ("RingDriveModel", "lineAt", "[I", true)
  | 54 => ("RingDriveModel", "pattern", "[I", true)
  | 55 => ("RingDriveModel", "line", "[I", true)
  | 56 => ("RingDriveModel", "number", "I", false)
  | 57 => ("RingDriveModel", "track", "I", false)
  | 58 => ("RingDriveModel", "sector", "I", false)
  | 59 => ("RingDriveModel", "statusAt", "I", false)
  | 60 => ("RingDriveModel", "more", "[I", true)
  | 61 => ("RingDriveModel", "moreMany", "I", false)
  | 62 => ("RingDriveModel", "moreAt", "I", false)
  | 63 => ("RingDriveModel", "tape", "[B", true)
  | 64 => ("RingDriveModel", "taped", "I", false)
  | 65 => ("RingDriveModel", "text", "[I", true)
  | 66 => ("RingDriveModel", "out", "[I", true)
  | 67 => ("RingDriveModel", "outMany", "I", false)
  | 68 => ("RingDriveModel", "ended", "I", false)
  | 69 => ("RingDriveModel", "words", "[I", true)
  | 70 => ("RingDriveModel", "wordMany", "I", false)
  | 71 => ("RingDriveModel", "wanted", "[I", true)
  | 72 => ("RingDriveModel", "numberAt", "I", false)
  | 73 => ("RingDriveModel", "numberFault", "I", false)
  | 74 => ("RingDriveModel", "memory", "[B", true)
  | 75 => ("RingDriveModel", "ra", "I", false)
  | 76 => ("RingDriveModel", "rx", "I", false)
  | 77 => ("RingDriveModel", "ry", "I", false)
  | 78 => ("RingDriveModel", "rs", "I", false)
  | 79 => ("RingDriveModel", "rp", "I", false)
  | 80 => ("RingDriveModel", "pc", "I", false)
  | 81 => ("RingDriveModel", "cycles", "I", false)
  | 82 => ("RingDriveModel", "endedAt", "I", false)
  | _ => ("RingDriveModel", "isCrossed", "Z", false)
def tyX12 : Nat → FieldType := fun k => match k with
  | 0 => .array .byte
  | 1 => .boolean
  | 2 => .int
  | 3 => .int
  | 4 => .int
  | 5 => .int
  | 6 => .int
  | 7 => .int
  | 8 => .int
  | 9 => .int
  | 10 => .int
  | 11 => .int
  | 12 => .int
  | 13 => .boolean
  | 14 => .int
  | 15 => .boolean
  | 16 => .array .int
  | 17 => .array .int
  | 18 => .array .int
  | 19 => .array .int
  | 20 => .int
  | 21 => .array .int
  | 22 => .array .int
  | 23 => .array .int
  | 24 => .array .int
  | 25 => .int
  | 26 => .int
  | 27 => .int
  | 28 => .int
  | 29 => .int
  | 30 => .int
  | 31 => .int
  | 32 => .int
  | 33 => .array .int
  | 34 => .array .int
  | 35 => .array .int
  | 36 => .array .int
  | 37 => .array .boolean
  | 38 => .array .int
  | 39 => .array .int
  | 40 => .array .int
  | 41 => .array .int
  | 42 => .array .int
  | 43 => .array .int
  | 44 => .array .int
  | 45 => .array .int
  | 46 => .array .int
  | 47 => .array .int
  | 48 => .array .int
  | 49 => .array .int
  | 50 => .array .int
  | 51 => .array .int
  | 52 => .array .int
  | 53 => .array .int
  | 54 => .array .int
  | 55 => .array .int
  | 56 => .int
  | 57 => .int
  | 58 => .int
  | 59 => .int
  | 60 => .array .int
  | 61 => .int
  | 62 => .int
  | 63 => .array .byte
  | 64 => .int
  | 65 => .array .int
  | 66 => .array .int
  | 67 => .int
  | 68 => .int
  | 69 => .array .int
  | 70 => .int
  | 71 => .array .int
  | 72 => .int
  | 73 => .int
  | 74 => .array .byte
  | 75 => .int
  | 76 => .int
  | 77 => .int
  | 78 => .int
  | 79 => .int
  | 80 => .int
  | 81 => .int
  | 82 => .int
  | _ => .boolean
abbrev wsX00 : List Cond := u_ws RX0 TX0 4
theorem nmX0 : ∀ a, a < 4 → ∀ b, b < 4 → a ≠ b → (TX0 a).2.1 ≠ (TX0 b).2.1 := by decide +kernel
theorem tyX0_ok : ∀ k, k < 4 → parseFieldDescriptor (TX0 k).2.2.1 = some (tyX0 k) := by decide +kernel
abbrev wsX10 : List Cond := u_ws RX1 TX1 16
theorem nmX1 : ∀ a, a < 16 → ∀ b, b < 16 → a ≠ b → (TX1 a).2.1 ≠ (TX1 b).2.1 := by decide +kernel
theorem tyX1_ok : ∀ k, k < 16 → parseFieldDescriptor (TX1 k).2.2.1 = some (tyX1 k) := by decide +kernel
abbrev wsX20 : List Cond := u_ws RX2 TX2 10
theorem nmX2 : ∀ a, a < 10 → ∀ b, b < 10 → a ≠ b → (TX2 a).2.1 ≠ (TX2 b).2.1 := by decide +kernel
theorem tyX2_ok : ∀ k, k < 10 → parseFieldDescriptor (TX2 k).2.2.1 = some (tyX2 k) := by decide +kernel
abbrev wsX30 : List Cond := u_ws RX3 TX3 9
theorem nmX3 : ∀ a, a < 9 → ∀ b, b < 9 → a ≠ b → (TX3 a).2.1 ≠ (TX3 b).2.1 := by decide +kernel
theorem tyX3_ok : ∀ k, k < 9 → parseFieldDescriptor (TX3 k).2.2.1 = some (tyX3 k) := by decide +kernel
abbrev wsX40 : List Cond := u_ws RX4 TX4 10
theorem nmX4 : ∀ a, a < 10 → ∀ b, b < 10 → a ≠ b → (TX4 a).2.1 ≠ (TX4 b).2.1 := by decide +kernel
theorem tyX4_ok : ∀ k, k < 10 → parseFieldDescriptor (TX4 k).2.2.1 = some (tyX4 k) := by decide +kernel
abbrev wsX50 : List Cond := u_ws RX5 TX5 12
theorem nmX5 : ∀ a, a < 12 → ∀ b, b < 12 → a ≠ b → (TX5 a).2.1 ≠ (TX5 b).2.1 := by decide +kernel
theorem tyX5_ok : ∀ k, k < 12 → parseFieldDescriptor (TX5 k).2.2.1 = some (tyX5 k) := by decide +kernel
abbrev wsX60 : List Cond := u_ws RX6 TX6 2
theorem nmX6 : ∀ a, a < 2 → ∀ b, b < 2 → a ≠ b → (TX6 a).2.1 ≠ (TX6 b).2.1 := by decide +kernel
theorem tyX6_ok : ∀ k, k < 2 → parseFieldDescriptor (TX6 k).2.2.1 = some (tyX6 k) := by decide +kernel
abbrev wsX70 : List Cond := u_ws RX7 TX7 10
theorem nmX7 : ∀ a, a < 10 → ∀ b, b < 10 → a ≠ b → (TX7 a).2.1 ≠ (TX7 b).2.1 := by decide +kernel
theorem tyX7_ok : ∀ k, k < 10 → parseFieldDescriptor (TX7 k).2.2.1 = some (tyX7 k) := by decide +kernel
abbrev wsX80 : List Cond := u_ws RX8 TX8 8
theorem nmX8 : ∀ a, a < 8 → ∀ b, b < 8 → a ≠ b → (TX8 a).2.1 ≠ (TX8 b).2.1 := by decide +kernel
theorem tyX8_ok : ∀ k, k < 8 → parseFieldDescriptor (TX8 k).2.2.1 = some (tyX8 k) := by decide +kernel
abbrev wsX90 : List Cond := u_ws RX9 TX9 10
theorem nmX9 : ∀ a, a < 10 → ∀ b, b < 10 → a ≠ b → (TX9 a).2.1 ≠ (TX9 b).2.1 := by decide +kernel
theorem tyX9_ok : ∀ k, k < 10 → parseFieldDescriptor (TX9 k).2.2.1 = some (tyX9 k) := by decide +kernel
abbrev wsX100 : List Cond := u_ws RX10 TX10 4
theorem nmX10 : ∀ a, a < 4 → ∀ b, b < 4 → a ≠ b → (TX10 a).2.1 ≠ (TX10 b).2.1 := by decide +kernel
theorem tyX10_ok : ∀ k, k < 4 → parseFieldDescriptor (TX10 k).2.2.1 = some (tyX10 k) := by decide +kernel
abbrev wsX110 : List Cond := u_ws RX11 TX11 9
theorem nmX11 : ∀ a, a < 9 → ∀ b, b < 9 → a ≠ b → (TX11 a).2.1 ≠ (TX11 b).2.1 := by decide +kernel
theorem tyX11_ok : ∀ k, k < 9 → parseFieldDescriptor (TX11 k).2.2.1 = some (tyX11 k) := by decide +kernel
abbrev wsX120 : List Cond := u_ws RX12 TX12 84
theorem nmX12 : ∀ a, a < 84 → ∀ b, b < 84 → a ≠ b → (TX12 a).2.1 ≠ (TX12 b).2.1 := by decide +kernel
theorem tyX12_ok : ∀ k, k < 84 → parseFieldDescriptor (TX12 k).2.2.1 = some (tyX12 k) := by decide +kernel
abbrev vwCl : List vw_C := [(RX0, TX0, 4), (RX1, TX1, 16), (RX2, TX2, 10), (RX3, TX3, 9), (RX4, TX4, 10), (RX5, TX5, 12), (RX6, TX6, 2), (RX7, TX7, 10), (RX8, TX8, 8), (RX9, TX9, 10), (RX10, TX10, 4), (RX11, TX11, 9), (RX12, TX12, 84)]
def rx_Ts : List Cond := lw_tbl.filter goodWord
def rx_grp (k : Nat) : List Cond := match k with
  | 1 => tables_1_1
  | 2 => tables_1_2
  | 3 => tables_1_3
  | 4 => tables_1_4
  | 5 => tables_1_5
  | 6 => tables_1_6
  | 7 => tables_1_7
  | 8 => tables_1_8
  | 9 => tables_1_9
  | 10 => tables_1_10
  | 21 => k2_sels lw_privs_1
  | 22 => k2_sels lw_privs_2
  | 23 => k2_sels lw_privs_3
  | 24 => k2_sels lw_privs_4
  | 25 => k2_sels lw_privs_5
  | 26 => k2_sels lw_privs_6
  | 27 => k2_sels lw_privs_7
  | 28 => k2_sels lw_privs_8
  | 29 => k2_sels lw_privs_9
  | 30 => k2_sels lw_privs_10
  | 31 => k2_sels lw_privs_11
  | 32 => k2_sels lw_privs_12
  | _ => []
theorem rx_tab1 {w : Cond} (h : w ∈ tables_1_1) : w ∈ tables_1 := List.mem_append_left _ h
theorem rx_tab2 {w : Cond} (h : w ∈ tables_1_2) : w ∈ tables_1 := List.mem_append_right _ (List.mem_append_left _ h)
theorem rx_tab3 {w : Cond} (h : w ∈ tables_1_3) : w ∈ tables_1 := List.mem_append_right _ (List.mem_append_right _ (List.mem_append_left _ h))
theorem rx_tab4 {w : Cond} (h : w ∈ tables_1_4) : w ∈ tables_1 := List.mem_append_right _ (List.mem_append_right _ (List.mem_append_right _ (List.mem_append_left _ h)))
theorem rx_tab5 {w : Cond} (h : w ∈ tables_1_5) : w ∈ tables_1 := List.mem_append_right _ (List.mem_append_right _ (List.mem_append_right _ (List.mem_append_right _ (List.mem_append_left _ h))))
theorem rx_tab6 {w : Cond} (h : w ∈ tables_1_6) : w ∈ tables_1 := List.mem_append_right _ (List.mem_append_right _ (List.mem_append_right _ (List.mem_append_right _ (List.mem_append_right _ (List.mem_append_left _ h)))))
theorem rx_tab7 {w : Cond} (h : w ∈ tables_1_7) : w ∈ tables_1 := List.mem_append_right _ (List.mem_append_right _ (List.mem_append_right _ (List.mem_append_right _ (List.mem_append_right _ (List.mem_append_right _ (List.mem_append_left _ h))))))
theorem rx_tab8 {w : Cond} (h : w ∈ tables_1_8) : w ∈ tables_1 := List.mem_append_right _ (List.mem_append_right _ (List.mem_append_right _ (List.mem_append_right _ (List.mem_append_right _ (List.mem_append_right _ (List.mem_append_right _ (List.mem_append_left _ h)))))))
theorem rx_tab9 {w : Cond} (h : w ∈ tables_1_9) : w ∈ tables_1 := List.mem_append_right _ (List.mem_append_right _ (List.mem_append_right _ (List.mem_append_right _ (List.mem_append_right _ (List.mem_append_right _ (List.mem_append_right _ (List.mem_append_right _ (List.mem_append_left _ h))))))))
theorem rx_tab10 {w : Cond} (h : w ∈ tables_1_10) : w ∈ tables_1 := List.mem_append_right _ (List.mem_append_right _ (List.mem_append_right _ (List.mem_append_right _ (List.mem_append_right _ (List.mem_append_right _ (List.mem_append_right _ (List.mem_append_right _ (List.mem_append_right _ (h)))))))))
theorem rx_sels_mem {a b : List (MethodName × Nat)} {w : Cond} (h : ∀ q ∈ a, q ∈ b) (hw : w ∈ k2_sels a) : w ∈ k2_sels b := by
  obtain ⟨q, h1, h2⟩ := List.mem_map.mp hw
  exact List.mem_map.mpr ⟨q, h q h1, h2⟩
theorem rx_prv1 : ∀ q ∈ lw_privs_1, q ∈ lw_privs := fun q h => List.mem_append_left _ h
theorem rx_prv2 : ∀ q ∈ lw_privs_2, q ∈ lw_privs := fun q h => List.mem_append_right _ (List.mem_append_left _ h)
theorem rx_prv3 : ∀ q ∈ lw_privs_3, q ∈ lw_privs := fun q h => List.mem_append_right _ (List.mem_append_right _ (List.mem_append_left _ h))
theorem rx_prv4 : ∀ q ∈ lw_privs_4, q ∈ lw_privs := fun q h => List.mem_append_right _ (List.mem_append_right _ (List.mem_append_right _ (List.mem_append_left _ h)))
theorem rx_prv5 : ∀ q ∈ lw_privs_5, q ∈ lw_privs := fun q h => List.mem_append_right _ (List.mem_append_right _ (List.mem_append_right _ (List.mem_append_right _ (List.mem_append_left _ h))))
theorem rx_prv6 : ∀ q ∈ lw_privs_6, q ∈ lw_privs := fun q h => List.mem_append_right _ (List.mem_append_right _ (List.mem_append_right _ (List.mem_append_right _ (List.mem_append_right _ (List.mem_append_left _ h)))))
theorem rx_prv7 : ∀ q ∈ lw_privs_7, q ∈ lw_privs := fun q h => List.mem_append_right _ (List.mem_append_right _ (List.mem_append_right _ (List.mem_append_right _ (List.mem_append_right _ (List.mem_append_right _ (List.mem_append_left _ h))))))
theorem rx_prv8 : ∀ q ∈ lw_privs_8, q ∈ lw_privs := fun q h => List.mem_append_right _ (List.mem_append_right _ (List.mem_append_right _ (List.mem_append_right _ (List.mem_append_right _ (List.mem_append_right _ (List.mem_append_right _ (List.mem_append_left _ h)))))))
theorem rx_prv9 : ∀ q ∈ lw_privs_9, q ∈ lw_privs := fun q h => List.mem_append_right _ (List.mem_append_right _ (List.mem_append_right _ (List.mem_append_right _ (List.mem_append_right _ (List.mem_append_right _ (List.mem_append_right _ (List.mem_append_right _ (List.mem_append_left _ h))))))))
theorem rx_prv10 : ∀ q ∈ lw_privs_10, q ∈ lw_privs := fun q h => List.mem_append_right _ (List.mem_append_right _ (List.mem_append_right _ (List.mem_append_right _ (List.mem_append_right _ (List.mem_append_right _ (List.mem_append_right _ (List.mem_append_right _ (List.mem_append_right _ (List.mem_append_left _ h)))))))))
theorem rx_prv11 : ∀ q ∈ lw_privs_11, q ∈ lw_privs := fun q h => List.mem_append_right _ (List.mem_append_right _ (List.mem_append_right _ (List.mem_append_right _ (List.mem_append_right _ (List.mem_append_right _ (List.mem_append_right _ (List.mem_append_right _ (List.mem_append_right _ (List.mem_append_right _ (List.mem_append_left _ h))))))))))
theorem rx_prv12 : ∀ q ∈ lw_privs_12, q ∈ lw_privs := fun q h => List.mem_append_right _ (List.mem_append_right _ (List.mem_append_right _ (List.mem_append_right _ (List.mem_append_right _ (List.mem_append_right _ (List.mem_append_right _ (List.mem_append_right _ (List.mem_append_right _ (List.mem_append_right _ (List.mem_append_right _ (h)))))))))))
theorem rx_grp_mem {k : Nat} {w : Cond} (h : w ∈ rx_grp k) : w ∈ lw_tbl := by
  unfold rx_grp at h
  split at h
  · exact List.mem_append_right _ (rx_tab1 h)
  · exact List.mem_append_right _ (rx_tab2 h)
  · exact List.mem_append_right _ (rx_tab3 h)
  · exact List.mem_append_right _ (rx_tab4 h)
  · exact List.mem_append_right _ (rx_tab5 h)
  · exact List.mem_append_right _ (rx_tab6 h)
  · exact List.mem_append_right _ (rx_tab7 h)
  · exact List.mem_append_right _ (rx_tab8 h)
  · exact List.mem_append_right _ (rx_tab9 h)
  · exact List.mem_append_right _ (rx_tab10 h)
  · exact List.mem_append_left _ (rx_sels_mem rx_prv1 h)
  · exact List.mem_append_left _ (rx_sels_mem rx_prv2 h)
  · exact List.mem_append_left _ (rx_sels_mem rx_prv3 h)
  · exact List.mem_append_left _ (rx_sels_mem rx_prv4 h)
  · exact List.mem_append_left _ (rx_sels_mem rx_prv5 h)
  · exact List.mem_append_left _ (rx_sels_mem rx_prv6 h)
  · exact List.mem_append_left _ (rx_sels_mem rx_prv7 h)
  · exact List.mem_append_left _ (rx_sels_mem rx_prv8 h)
  · exact List.mem_append_left _ (rx_sels_mem rx_prv9 h)
  · exact List.mem_append_left _ (rx_sels_mem rx_prv10 h)
  · exact List.mem_append_left _ (rx_sels_mem rx_prv11 h)
  · exact List.mem_append_left _ (rx_sels_mem rx_prv12 h)
  · exact absurd h List.not_mem_nil
def rx_has (i : Nat) (w : Cond) : Bool := decide ((rx_grp (i / 1000))[i % 1000]? = some w) && goodWord w
def rx_cns : List String := ["RingDrive$BlockMap", "RingDrive$Channel", "RingDrive$Commands", "RingDrive$Directory", "RingDrive$Disk", "RingDrive$Dos", "RingDrive$Pattern", "RingDrive$Processor", "RingDrive$Ring", "RingDrive$Status", "RingDrive$Tape", "RingDrive", "RingDriveModel", "RingDriveLaw", "java/lang/Math", "java/lang/Object", "java/lang/String", "java/lang/StringLatin1", "java/lang/StringUTF16", "java/util/Arrays", "jdk/internal/util/Preconditions"]
def rx_cn (c : Nat) : String := rx_cns.getD c ""
/-- the kinds of arrays -/
def rx_ty : List FieldType := [.int, .byte, .boolean, (.object "RingDrive$Channel"), (.object "RingDrive$Ring")]
/-- the class of the elements of a kind of arrays of references -/
def rx_el : List (Nat × Nat) := [(3, 1), (4, 8)]
/-- links to fields of objects: class, entry; class, place, type, final; the place of its word -/
def rx_FLs : List ((Nat × Nat) × (Nat × Nat × FieldType × Bool) × Nat) := [((10, 11), (10, 0, (.array .int), true), 1035), ((11, 69), (10, 1, .int, false), 1036), ((10, 15), (10, 1, .int, false), 1037), ((2, 62), (10, 2, .int, false), 1038), ((10, 19), (10, 2, .int, false), 1039), ((5, 146), (10, 2, .int, false), 1040), ((10, 31), (10, 3, .int, false), 1041), ((9, 9), (9, 0, .int, false), 1058), ((11, 84), (9, 0, .int, false), 1059), ((4, 101), (9, 0, .int, false), 1060), ((9, 32), (9, 1, .int, false), 1061), ((11, 122), (9, 1, .int, false), 1062), ((5, 237), (9, 1, .int, false), 1063), ((9, 35), (9, 2, .int, false), 1064), ((11, 125), (9, 2, .int, false), 1065), ((5, 238), (9, 2, .int, false), 1066), ((9, 44), (9, 3, .boolean, false), 1067), ((11, 115), (9, 3, .boolean, false), 1068), ((9, 15), (9, 4, (.array .int), true), 1069), ((9, 38), (9, 5, .int, false), 1070), ((9, 41), (9, 6, .int, false), 1071), ((9, 19), (9, 7, (.array .int), true), 1072), ((9, 26), (9, 8, .int, false), 1073), ((9, 29), (9, 9, .int, false), 1074), ((8, 25), (8, 0, .int, true), 1116), ((4, 137), (8, 0, .int, true), 1117), ((8, 21), (8, 1, .int, true), 1118), ((4, 154), (8, 1, .int, true), 1119), ((8, 15), (8, 2, (.array .int), true), 1120), ((8, 36), (8, 3, .int, false), 1121), ((8, 43), (8, 4, .int, false), 1122), ((8, 52), (8, 5, .boolean, false), 1123), ((8, 46), (8, 6, .int, false), 1124), ((8, 49), (8, 7, .int, false), 1125), ((11, 174), (4, 0, .boolean, false), 1143), ((4, 121), (4, 0, .boolean, false), 1144), ((4, 9), (4, 1, .int, false), 1145), ((0, 44), (4, 1, .int, false), 1146), ((11, 128), (4, 1, .int, false), 1147), ((4, 15), (4, 2, .int, false), 1148), ((0, 48), (4, 2, .int, false), 1149), ((11, 131), (4, 2, .int, false), 1150), ((4, 40), (4, 3, (.object "RingDrive$Status"), true), 1151), ((4, 20), (4, 4, (.array (.object "RingDrive$Ring")), true), 1152), ((4, 24), (4, 5, (.array .int), true), 1153), ((4, 28), (4, 6, (.array .int), true), 1154), ((4, 31), (4, 7, (.array .int), true), 1155), ((4, 34), (4, 8, (.array .int), true), 1156), ((4, 37), (4, 9, (.array .int), true), 1157), ((7, 30), (7, 0, .int, false), 1185), ((11, 137), (7, 0, .int, false), 1186), ((7, 33), (7, 1, .int, false), 1187), ((11, 140), (7, 1, .int, false), 1188), ((7, 36), (7, 2, .int, false), 1189), ((11, 143), (7, 2, .int, false), 1190), ((7, 23), (7, 3, .int, false), 1191), ((11, 146), (7, 3, .int, false), 1192), ((7, 27), (7, 4, .int, false), 1193), ((11, 149), (7, 4, .int, false), 1194), ((7, 39), (7, 5, .int, false), 1195), ((11, 152), (7, 5, .int, false), 1196), ((7, 42), (7, 6, .int, false), 1197), ((11, 155), (7, 6, .int, false), 1198), ((7, 9), (7, 7, (.array .int), true), 1199), ((7, 69), (7, 8, .int, false), 1200), ((7, 65), (7, 9, .boolean, false), 1201), ((6, 9), (6, 0, (.array .int), true), 1237), ((6, 19), (6, 1, .int, false), 1238), ((0, 9), (0, 0, (.array .int), true), 2010), ((5, 317), (0, 0, (.array .int), true), 2011), ((0, 72), (0, 1, .int, false), 2012), ((3, 95), (0, 1, .int, false), 2013), ((5, 255), (0, 1, .int, false), 2014), ((0, 75), (0, 2, .int, false), 2015), ((3, 98), (0, 2, .int, false), 2016), ((5, 256), (0, 2, .int, false), 2017), ((0, 15), (0, 3, (.object "RingDrive$Disk"), true), 2018), ((3, 9), (3, 0, (.array .int), true), 2034), ((3, 27), (3, 1, .int, false), 2035), ((1, 51), (3, 1, .int, false), 2036), ((3, 31), (3, 2, .int, false), 2037), ((1, 57), (3, 2, .int, false), 2038), ((3, 34), (3, 3, .int, false), 2039), ((1, 61), (3, 3, .int, false), 2040), ((3, 37), (3, 4, .int, false), 2041), ((1, 67), (3, 4, .int, false), 2042), ((3, 44), (3, 5, .boolean, false), 2043), ((2, 164), (3, 5, .boolean, false), 2044), ((5, 197), (3, 5, .boolean, false), 2045), ((3, 40), (3, 6, .boolean, false), 2046), ((3, 15), (3, 7, (.object "RingDrive$Disk"), true), 2047), ((3, 19), (3, 8, (.object "RingDrive$Status"), true), 2048), ((1, 9), (1, 0, .int, false), 2075), ((5, 61), (1, 0, .int, false), 2076), ((1, 15), (1, 1, (.array .int), true), 2077), ((5, 72), (1, 1, (.array .int), true), 2078), ((2, 237), (1, 1, (.array .int), true), 2079), ((1, 32), (1, 2, .int, false), 2080), ((5, 73), (1, 2, .int, false), 2081), ((2, 243), (1, 2, .int, false), 2082), ((1, 35), (1, 3, .int, false), 2083), ((5, 287), (1, 3, .int, false), 2084), ((1, 38), (1, 4, .boolean, false), 2085), ((5, 290), (1, 4, .boolean, false), 2086), ((1, 45), (1, 5, .int, false), 2087), ((5, 76), (1, 5, .int, false), 2088), ((1, 48), (1, 6, .int, false), 2089), ((5, 79), (1, 6, .int, false), 2090), ((5, 273), (1, 7, .int, false), 2091), ((5, 275), (1, 8, .int, false), 2092), ((5, 90), (1, 9, .int, false), 2093), ((1, 54), (1, 10, .int, false), 2094), ((5, 96), (1, 10, .int, false), 2095), ((1, 58), (1, 11, .int, false), 2096), ((5, 99), (1, 11, .int, false), 2097), ((1, 64), (1, 12, .int, false), 2098), ((5, 102), (1, 12, .int, false), 2099), ((1, 70), (1, 13, .int, false), 2100), ((5, 105), (1, 13, .int, false), 2101), ((1, 22), (1, 14, (.object "RingDrive$Pattern"), true), 2102), ((5, 164), (1, 14, (.object "RingDrive$Pattern"), true), 2103), ((1, 42), (1, 15, .boolean, false), 2104), ((5, 302), (1, 15, .boolean, false), 2105), ((5, 30), (5, 0, (.object "RingDrive$Status"), true), 2139), ((2, 32), (5, 0, (.object "RingDrive$Status"), true), 2140), ((5, 34), (5, 1, (.object "RingDrive$Disk"), true), 2141), ((2, 39), (5, 1, (.object "RingDrive$Disk"), true), 2142), ((5, 38), (5, 2, (.object "RingDrive$Tape"), true), 2143), ((2, 44), (5, 2, (.object "RingDrive$Tape"), true), 2144), ((5, 47), (5, 3, (.object "RingDrive$BlockMap"), true), 2145), ((2, 49), (5, 3, (.object "RingDrive$BlockMap"), true), 2146), ((5, 56), (5, 4, (.object "RingDrive$Directory"), true), 2147), ((2, 54), (5, 4, (.object "RingDrive$Directory"), true), 2148), ((5, 11), (5, 5, (.array .int), true), 2149), ((2, 206), (5, 5, (.array .int), true), 2150), ((11, 121), (5, 6, .boolean, false), 2151), ((5, 281), (5, 6, .boolean, false), 2152), ((5, 19), (5, 7, (.array (.object "RingDrive$Channel")), true), 2153), ((5, 26), (5, 8, (.object "RingDrive$Pattern"), true), 2154), ((5, 171), (5, 9, .boolean, false), 2155), ((5, 182), (5, 10, .int, false), 2156), ((5, 137), (5, 11, .int, false), 2157), ((2, 24), (2, 0, (.object "RingDrive$Dos"), true), 2195), ((2, 38), (2, 1, (.object "RingDrive$Status"), true), 2196), ((2, 43), (2, 2, (.object "RingDrive$Disk"), true), 2197), ((2, 48), (2, 3, (.object "RingDrive$Tape"), true), 2198), ((2, 53), (2, 4, (.object "RingDrive$BlockMap"), true), 2199), ((2, 58), (2, 5, (.object "RingDrive$Directory"), true), 2200), ((2, 28), (2, 6, (.object "RingDrive$Processor"), true), 2201), ((2, 12), (2, 7, (.object "RingDrive$Pattern"), true), 2202), ((2, 18), (2, 8, (.object "RingDrive$Pattern"), true), 2203), ((2, 21), (2, 9, (.object "RingDrive$Pattern"), true), 2204), ((11, 10), (11, 0, (.object "RingDrive$Tape"), true), 2226), ((11, 19), (11, 1, (.object "RingDrive$Status"), true), 2227), ((11, 28), (11, 2, (.object "RingDrive$Disk"), true), 2228), ((11, 35), (11, 3, (.object "RingDrive$Processor"), true), 2229), ((11, 44), (11, 4, (.object "RingDrive$Dos"), true), 2230), ((11, 53), (11, 5, (.object "RingDrive$Commands"), true), 2231), ((11, 57), (11, 6, (.array .int), true), 2232), ((11, 61), (11, 7, .int, false), 2233), ((11, 65), (11, 8, .boolean, false), 2234), ((12, 14), (12, 0, (.array .byte), true), 9059), ((12, 131), (12, 1, .boolean, false), 9060), ((12, 90), (12, 2, .int, false), 9061), ((12, 93), (12, 3, .int, false), 9062), ((12, 7), (12, 4, .int, false), 9063), ((12, 11), (12, 5, .int, false), 9064), ((12, 18), (12, 6, .int, false), 9065), ((12, 24), (12, 7, .int, false), 9066), ((12, 27), (12, 8, .int, false), 9067), ((12, 30), (12, 9, .int, false), 9068), ((12, 33), (12, 10, .int, false), 9069), ((12, 36), (12, 11, .int, false), 9070), ((12, 39), (12, 12, .int, false), 9071), ((12, 42), (12, 13, .boolean, false), 9072), ((12, 50), (12, 14, .int, false), 9073), ((12, 53), (12, 15, .boolean, false), 9074), ((12, 64), (12, 16, (.array .int), true), 9075), ((12, 71), (12, 17, (.array .int), true), 9076), ((12, 74), (12, 18, (.array .int), true), 9077), ((12, 104), (12, 19, (.array .int), true), 9078), ((12, 125), (12, 20, .int, false), 9079), ((12, 142), (12, 21, (.array .int), true), 9080), ((12, 145), (12, 22, (.array .int), true), 9081), ((12, 195), (12, 23, (.array .int), true), 9082), ((12, 186), (12, 24, (.array .int), true), 9083), ((12, 155), (12, 25, .int, false), 9084), ((12, 158), (12, 26, .int, false), 9085), ((12, 211), (12, 27, .int, false), 9086), ((12, 214), (12, 28, .int, false), 9087), ((12, 217), (12, 29, .int, false), 9088), ((12, 198), (12, 30, .int, false), 9089), ((12, 201), (12, 31, .int, false), 9090), ((12, 192), (12, 32, .int, false), 9091), ((12, 248), (12, 33, (.array .int), true), 9092), ((12, 284), (12, 34, (.array .int), true), 9093), ((12, 287), (12, 35, (.array .int), true), 9094), ((12, 322), (12, 36, (.array .int), true), 9095), ((12, 318), (12, 37, (.array .boolean), true), 9096), ((12, 341), (12, 38, (.array .int), true), 9097), ((12, 344), (12, 39, (.array .int), true), 9098), ((12, 347), (12, 40, (.array .int), true), 9099), ((12, 350), (12, 41, (.array .int), true), 9100), ((12, 353), (12, 42, (.array .int), true), 9101), ((12, 356), (12, 43, (.array .int), true), 9102), ((12, 359), (12, 44, (.array .int), true), 9103), ((12, 362), (12, 45, (.array .int), true), 9104), ((12, 302), (12, 46, (.array .int), true), 9105), ((12, 502), (12, 47, (.array .int), true), 9106), ((12, 505), (12, 48, (.array .int), true), 9107), ((12, 508), (12, 49, (.array .int), true), 9108), ((12, 511), (12, 50, (.array .int), true), 9109), ((12, 299), (12, 51, (.array .int), true), 9110), ((12, 305), (12, 52, (.array .int), true), 9111), ((12, 308), (12, 53, (.array .int), true), 9112), ((12, 296), (12, 54, (.array .int), true), 9113), ((12, 493), (12, 55, (.array .int), true), 9114), ((12, 227), (12, 56, .int, false), 9115), ((12, 230), (12, 57, .int, false), 9116), ((12, 233), (12, 58, .int, false), 9117), ((12, 236), (12, 59, .int, false), 9118), ((12, 392), (12, 60, (.array .int), true), 9119), ((12, 242), (12, 61, .int, false), 9120), ((12, 245), (12, 62, .int, false), 9121), ((12, 251), (12, 63, (.array .byte), true), 9122), ((12, 254), (12, 64, .int, false), 9123), ((12, 260), (12, 65, (.array .int), true), 9124), ((12, 368), (12, 66, (.array .int), true), 9125), ((12, 371), (12, 67, .int, false), 9126), ((12, 374), (12, 68, .int, false), 9127), ((12, 398), (12, 69, (.array .int), true), 9128), ((12, 401), (12, 70, .int, false), 9129), ((12, 587), (12, 71, (.array .int), true), 9130), ((12, 599), (12, 72, .int, false), 9131), ((12, 602), (12, 73, .int, false), 9132), ((12, 614), (12, 74, (.array .byte), true), 9133), ((12, 626), (12, 75, .int, false), 9134), ((12, 629), (12, 76, .int, false), 9135), ((12, 632), (12, 77, .int, false), 9136), ((12, 635), (12, 78, .int, false), 9137), ((12, 638), (12, 79, .int, false), 9138), ((12, 644), (12, 80, .int, false), 9139), ((12, 641), (12, 81, .int, false), 9140), ((12, 647), (12, 82, .int, false), 9141), ((12, 660), (12, 83, .boolean, false), 9142)]
def rx_sn : List (String × String × String × (Int32 ⊕ (Nat × List Int32))) := [("RingDrive$Disk", "LENGTHS", "[I", .inr (12, [1000, 1000, 1000, 880, 880, 880, 760, 760, 760, 640, 640, 640])), ("RingDrive$Disk", "SECTORS", "[I", .inr (12, [8, 8, 8, 7, 7, 7, 6, 6, 6, 5, 5, 5])), ("RingDrive$Disk", "GROUPS", "[I", .inr (16, [10, 11, 18, 19, 14, 15, 22, 23, 9, 25, 26, 27, 13, 29, 30, 21])), ("RingDrive$Disk", "VALUES", "[I", .inr (32, [-1, -1, -1, -1, -1, -1, -1, -1, -1, 8, 0, 1, -1, 12, 4, 5, -1, -1, 2, 3, -1, 15, 6, 7, -1, 9, 10, 11, -1, 13, 14, -1])), ("RingDrive$Processor", "CODES", "[I", .inr (256, [56, 7, 0, 0, 0, 7, 16, 0, 49, 7, 16, 0, 0, 7, 16, 0, 22, 7, 0, 0, 0, 7, 16, 0, 40, 7, 0, 0, 0, 7, 16, 0, 53, 6, 0, 0, 12, 6, 18, 0, 51, 6, 18, 0, 12, 6, 18, 0, 23, 6, 0, 0, 0, 6, 18, 0, 41, 6, 0, 0, 0, 6, 18, 0, 55, 8, 0, 0, 0, 8, 17, 0, 48, 8, 17, 0, 52, 8, 17, 0, 24, 8, 0, 0, 0, 8, 17, 0, 42, 8, 0, 0, 0, 8, 17, 0, 54, 4, 0, 0, 0, 4, 19, 0, 50, 4, 19, 0, 52, 4, 19, 0, 25, 4, 0, 0, 0, 4, 19, 0, 43, 4, 0, 0, 0, 4, 19, 0, 0, 13, 0, 0, 15, 13, 14, 0, 39, 0, 32, 0, 15, 13, 14, 0, 26, 13, 0, 0, 15, 13, 14, 0, 33, 13, 35, 0, 0, 13, 0, 0, 3, 1, 2, 0, 3, 1, 2, 0, 31, 1, 30, 0, 3, 1, 2, 0, 27, 1, 0, 0, 3, 1, 2, 0, 44, 1, 34, 0, 3, 1, 2, 0, 11, 9, 0, 0, 11, 9, 21, 0, 37, 9, 38, 0, 11, 9, 21, 0, 28, 9, 0, 0, 0, 9, 21, 0, 45, 9, 0, 0, 0, 9, 21, 0, 10, 5, 0, 0, 10, 5, 20, 0, 36, 5, 47, 0, 10, 5, 20, 0, 29, 5, 0, 0, 0, 5, 20, 0, 46, 5, 0, 0, 0, 5, 20, 0])), ("RingDrive$Processor", "TAKES", "[I", .inr (256, [7, 6, 0, 0, 0, 3, 5, 0, 3, 2, 2, 0, 0, 4, 6, 0, 2, 5, 0, 0, 0, 4, 6, 0, 2, 4, 0, 0, 0, 4, 7, 0, 6, 6, 0, 0, 3, 3, 5, 0, 4, 2, 2, 0, 4, 4, 6, 0, 2, 5, 0, 0, 0, 4, 6, 0, 2, 4, 0, 0, 0, 4, 7, 0, 6, 6, 0, 0, 0, 3, 5, 0, 3, 2, 2, 0, 3, 4, 6, 0, 2, 5, 0, 0, 0, 4, 6, 0, 2, 4, 0, 0, 0, 4, 7, 0, 6, 6, 0, 0, 0, 3, 5, 0, 4, 2, 2, 0, 5, 4, 6, 0, 2, 5, 0, 0, 0, 4, 6, 0, 2, 4, 0, 0, 0, 4, 7, 0, 0, 6, 0, 0, 3, 3, 3, 0, 2, 0, 2, 0, 4, 4, 4, 0, 2, 6, 0, 0, 4, 4, 4, 0, 2, 5, 2, 0, 0, 5, 0, 0, 2, 6, 2, 0, 3, 3, 3, 0, 2, 2, 2, 0, 4, 4, 4, 0, 2, 5, 0, 0, 4, 4, 4, 0, 2, 4, 2, 0, 4, 4, 4, 0, 2, 6, 0, 0, 3, 3, 5, 0, 2, 2, 2, 0, 4, 4, 6, 0, 2, 5, 0, 0, 0, 4, 6, 0, 2, 4, 0, 0, 0, 4, 7, 0, 2, 6, 0, 0, 3, 3, 5, 0, 2, 2, 2, 0, 4, 4, 6, 0, 2, 5, 0, 0, 0, 4, 6, 0, 2, 4, 0, 0, 0, 4, 7, 0])), ("RingDrive$Processor", "WAYS", "[I", .inr (256, [0, 9, 0, 0, 0, 3, 3, 0, 0, 2, 1, 0, 0, 6, 6, 0, 11, 10, 0, 0, 0, 4, 4, 0, 0, 8, 0, 0, 0, 7, 7, 0, 6, 9, 0, 0, 3, 3, 3, 0, 0, 2, 1, 0, 6, 6, 6, 0, 11, 10, 0, 0, 0, 4, 4, 0, 0, 8, 0, 0, 0, 7, 7, 0, 0, 9, 0, 0, 0, 3, 3, 0, 0, 2, 1, 0, 6, 6, 6, 0, 11, 10, 0, 0, 0, 4, 4, 0, 0, 8, 0, 0, 0, 7, 7, 0, 0, 9, 0, 0, 0, 3, 3, 0, 0, 2, 1, 0, 12, 6, 6, 0, 11, 10, 0, 0, 0, 4, 4, 0, 0, 8, 0, 0, 0, 7, 7, 0, 0, 9, 0, 0, 3, 3, 3, 0, 0, 0, 0, 0, 6, 6, 6, 0, 11, 10, 0, 0, 4, 4, 5, 0, 0, 8, 0, 0, 0, 7, 0, 0, 2, 9, 2, 0, 3, 3, 3, 0, 0, 2, 0, 0, 6, 6, 6, 0, 11, 10, 0, 0, 4, 4, 5, 0, 0, 8, 0, 0, 7, 7, 8, 0, 2, 9, 0, 0, 3, 3, 3, 0, 0, 2, 0, 0, 6, 6, 6, 0, 11, 10, 0, 0, 0, 4, 4, 0, 0, 8, 0, 0, 0, 7, 7, 0, 2, 9, 0, 0, 3, 3, 3, 0, 0, 2, 0, 0, 6, 6, 6, 0, 11, 10, 0, 0, 0, 4, 4, 0, 0, 8, 0, 0, 0, 7, 7, 0])), ("RingDrive$BlockMap", "ORDER", "[I", .inr (11, [6, 8, 5, 9, 4, 10, 3, 11, 2, 12, 1])), ("java/lang/String", "COMPACT_STRINGS", "Z", .inl 1), ("java/lang/StringUTF16", "$assertionsDisabled", "Z", .inl 1), ("java/lang/StringUTF16", "HI_BYTE_SHIFT", "I", .inl 0), ("java/lang/StringUTF16", "LO_BYTE_SHIFT", "I", .inl 8)]
/-- links to statics: class, entry; which of rx_sn; the place of its word -/
def rx_SLs : List ((Nat × Nat) × Nat × Nat) := [((4, 44), 0, 1105), ((4, 47), 1, 1107), ((4, 161), 2, 3109), ((4, 164), 3, 3168), ((7, 49), 4, 4213), ((7, 52), 5, 4215), ((7, 55), 6, 4217), ((0, 55), 7, 5176), ((16, 38), 8, 6044), ((18, 44), 9, 6078), ((18, 59), 10, 6080), ((18, 63), 11, 6082)]
/-- links to a String's fields: 0 coder, 1 value -/
def rx_KLs : List ((Nat × Nat) × Nat × Nat) := [((16, 9), 1, 10073), ((16, 15), 0, 10074)]
/-- texts -/
def rx_tx : List String := ["OK", "FILES SCRATCHED", "WRITE ERROR", "WRITE PROTECT ON", "PROGRAM ERROR", "FILE OPEN", "FILE NOT OPEN", "FILE NOT FOUND", "FILE EXISTS", "FILE TYPE MISMATCH", "NO BLOCK", "ILLEGAL BLOCK", "NO CHANNEL", "DIR ERROR", "DISK FULL", "RING DOS 1", "DRIVE NOT READY", "READ ERROR", "SYNTAX ERROR", "?SPU"]
def rx_tb : List (List Int32) := [[79, 75], [70, 73, 76, 69, 83, 32, 83, 67, 82, 65, 84, 67, 72, 69, 68], [87, 82, 73, 84, 69, 32, 69, 82, 82, 79, 82], [87, 82, 73, 84, 69, 32, 80, 82, 79, 84, 69, 67, 84, 32, 79, 78], [80, 82, 79, 71, 82, 65, 77, 32, 69, 82, 82, 79, 82], [70, 73, 76, 69, 32, 79, 80, 69, 78], [70, 73, 76, 69, 32, 78, 79, 84, 32, 79, 80, 69, 78], [70, 73, 76, 69, 32, 78, 79, 84, 32, 70, 79, 85, 78, 68], [70, 73, 76, 69, 32, 69, 88, 73, 83, 84, 83], [70, 73, 76, 69, 32, 84, 89, 80, 69, 32, 77, 73, 83, 77, 65, 84, 67, 72], [78, 79, 32, 66, 76, 79, 67, 75], [73, 76, 76, 69, 71, 65, 76, 32, 66, 76, 79, 67, 75], [78, 79, 32, 67, 72, 65, 78, 78, 69, 76], [68, 73, 82, 32, 69, 82, 82, 79, 82], [68, 73, 83, 75, 32, 70, 85, 76, 76], [82, 73, 78, 71, 32, 68, 79, 83, 32, 49], [68, 82, 73, 86, 69, 32, 78, 79, 84, 32, 82, 69, 65, 68, 89], [82, 69, 65, 68, 32, 69, 82, 82, 79, 82], [83, 89, 78, 84, 65, 88, 32, 69, 82, 82, 79, 82], [63, 83, 80, 85]]
def rx_STs : List ((Nat × Nat) × Nat) := [((9, 77), 0), ((9, 79), 1), ((9, 81), 2), ((9, 83), 3), ((9, 85), 4), ((9, 87), 5), ((9, 89), 6), ((9, 91), 7), ((9, 93), 8), ((9, 95), 9), ((9, 97), 10), ((9, 99), 11), ((9, 101), 12), ((9, 103), 13), ((9, 105), 14), ((9, 107), 15), ((9, 109), 16), ((9, 111), 17), ((9, 113), 18), ((5, 326), 19)]
def rx_CIs : List ((Nat × Nat) × Int32 × Nat) := [((7, 107), 65280, 4239)]
def rx_CJs : List ((Nat × Nat) × Int64 × Nat) := [((12, 409), 5928216245358121554, 8168), ((12, 404), 255, 8173), ((12, 415), 20306, 8174), ((12, 417), 6005917701855780933, 8175), ((12, 419), 1381125970, 8176), ((12, 421), 20299, 8177), ((12, 423), 5064663116585915203, 8178), ((12, 425), 23152778252141892, 8179), ((12, 427), 6292172255675827538, 8180), ((12, 429), 5394258, 8181), ((12, 431), 96010929194272, 8182), ((12, 433), 22608498806571860, 8183), ((12, 435), 2117454, 8184), ((12, 437), 5787775638865792288, 8185), ((12, 439), 297733869394, 8186), ((12, 441), 5064663115733356613, 8187), ((12, 443), 78, 8188), ((12, 445), 5064663115733290836, 8189), ((12, 447), 138769614158, 8190), ((12, 449), 35486350790212, 8191), ((12, 451), 5064663115732703305, 8192), ((12, 453), 5461075, 8193), ((12, 455), 5064663115733686608, 8194), ((12, 457), 4981066165197291860, 8195), ((12, 459), 17224, 8196), ((12, 461), 5642764327238714187, 8197), ((12, 463), 5281680323430665248, 8198), ((12, 465), 284748104523, 8199), ((12, 467), 5642764331465657934, 8200), ((12, 469), 17740, 8201), ((12, 471), 4920554366434431567, 8202), ((12, 473), 82, 8203), ((12, 475), 4920555650008110412, 8204), ((12, 477), 76, 8205), ((12, 479), 5929356451800960851, 8206), ((12, 481), 8241, 8207), ((12, 483), 4923077977545133647, 8208), ((12, 485), 23679435765007449, 8209), ((12, 523), 1179796805, 8238)]
def rx_NLs : List ((Nat × Nat) × Nat × Nat) := [((13, 7), 11, 1021), ((11, 7), 10, 1029), ((11, 16), 9, 1052), ((11, 23), 4, 1096), ((4, 18), 8, 1102), ((11, 32), 7, 1179), ((11, 39), 5, 1223), ((5, 17), 1, 1229), ((5, 23), 6, 1231), ((5, 42), 0, 2004), ((5, 51), 3, 2028), ((1, 19), 6, 2073), ((11, 48), 2, 2183), ((2, 9), 6, 2189), ((13, 10), 12, 9054)]
def rx_ALs : List ((Nat × Nat) × Nat × Nat) := [((4, 18), 4, 1102), ((5, 17), 3, 1229)]
abbrev rx_M : Type := Nat × MethodName × ByteArray × Nat × Option FieldType × Nat × Nat × Nat × Nat × Nat × Nat
def rx_MT_0 : List rx_M := [(11, ⟨"RingDrive", "<init>", "()V"⟩, prog_1_method_1_code, 1, none, 0, 2, 4, 84, 115, 16888),
  (10, ⟨"RingDrive$Tape", "<init>", "()V"⟩, prog_12_method_1_code, 1, none, 0, 2, 1, 20, 1, 400),
  (9, ⟨"RingDrive$Status", "<init>", "()V"⟩, prog_11_method_1_code, 1, none, 0, 2, 1, 20, 2, 72),
  (4, ⟨"RingDrive$Disk", "<init>", "(LRingDrive$Status;)V"⟩, prog_6_method_1_code, 3, none, 1, 2, 2, 46, 30, 12364),
  (8, ⟨"RingDrive$Ring", "<init>", "(II)V"⟩, prog_10_method_1_code, 3, none, 2, 2, 1, 24, 1, 1000),
  (7, ⟨"RingDrive$Processor", "<init>", "()V"⟩, prog_9_method_1_code, 1, none, 0, 2, 1, 20, 1, 2048),
  (5, ⟨"RingDrive$Dos", "<init>", "(LRingDrive$Status;LRingDrive$Disk;LRingDrive$Tape;)V"⟩, prog_7_method_1_code, 5, none, 3, 2, 3, 60, 68, 1612),
  (6, ⟨"RingDrive$Pattern", "<init>", "()V"⟩, prog_8_method_1_code, 1, none, 0, 2, 1, 20, 1, 10),
  (0, ⟨"RingDrive$BlockMap", "<init>", "(LRingDrive$Disk;)V"⟩, prog_2_method_1_code, 2, none, 1, 2, 1, 20, 1, 64),
  (3, ⟨"RingDrive$Directory", "<init>", "(LRingDrive$Disk;LRingDrive$Status;)V"⟩, prog_5_method_1_code, 3, none, 2, 2, 1, 20, 1, 64),
  (1, ⟨"RingDrive$Channel", "<init>", "()V"⟩, prog_3_method_1_code, 1, none, 0, 2, 2, 40, 3, 76),
  (2, ⟨"RingDrive$Commands", "<init>", "(LRingDrive$Dos;LRingDrive$Processor;)V"⟩, prog_4_method_1_code, 3, none, 2, 2, 2, 40, 6, 36),
  (6, ⟨"RingDrive$Pattern", "fitAll", "()V"⟩, prog_8_method_4_code, 1, none, 0, 0, 0, 0, 0, 0),
  (11, ⟨"RingDrive", "feed", "(IIIII)I"⟩, prog_1_method_2_code, 6, (Option.some Jvm.ClassFile.FieldType.int), 5, 0, 1, 22, 0, 0),
  (10, ⟨"RingDrive$Tape", "add", "(I)V"⟩, prog_12_method_3_code, 3, none, 1, 0, 0, 0, 0, 0),
  (11, ⟨"RingDrive", "open", "(II)I"⟩, prog_1_method_3_code, 3, (Option.some Jvm.ClassFile.FieldType.int), 2, 0, 7, 184, 0, 0),
  (11, ⟨"RingDrive", "sendText", "(II)Z"⟩, prog_1_method_15_code, 3, (Option.some Jvm.ClassFile.FieldType.boolean), 2, 0, 1, 21, 0, 0),
  (11, ⟨"RingDrive", "isChannel", "(I)Z"⟩, prog_1_method_14_code, 1, (Option.some Jvm.ClassFile.FieldType.boolean), 1, 1, 0, 0, 0, 0),
  (10, ⟨"RingDrive$Tape", "has", "(I)Z"⟩, prog_12_method_2_code, 2, (Option.some Jvm.ClassFile.FieldType.boolean), 1, 0, 0, 0, 0, 0),
  (10, ⟨"RingDrive$Tape", "send", "(I)V"⟩, prog_12_method_4_code, 2, none, 1, 0, 0, 0, 0, 0),
  (2, ⟨"RingDrive$Commands", "run", "()I"⟩, prog_4_method_2_code, 1, (Option.some Jvm.ClassFile.FieldType.int), 0, 0, 6, 163, 0, 0),
  (9, ⟨"RingDrive$Status", "begin", "()V"⟩, prog_11_method_2_code, 1, none, 0, 0, 1, 23, 0, 0),
  (9, ⟨"RingDrive$Status", "set", "(III)I"⟩, prog_11_method_3_code, 4, (Option.some Jvm.ClassFile.FieldType.int), 3, 0, 0, 0, 0, 0),
  (10, ⟨"RingDrive$Tape", "byteAt", "(I)I"⟩, prog_12_method_5_code, 2, (Option.some Jvm.ClassFile.FieldType.int), 1, 0, 0, 0, 0, 0),
  (2, ⟨"RingDrive$Commands", "newDisk", "()I"⟩, prog_4_method_4_code, 5, (Option.some Jvm.ClassFile.FieldType.int), 0, 0, 5, 118, 0, 0),
  (10, ⟨"RingDrive$Tape", "find", "(II)I"⟩, prog_12_method_6_code, 4, (Option.some Jvm.ClassFile.FieldType.int), 2, 0, 1, 24, 0, 0),
  (6, ⟨"RingDrive$Pattern", "take", "(LRingDrive$Tape;II)Z"⟩, prog_8_method_2_code, 5, (Option.some Jvm.ClassFile.FieldType.boolean), 3, 0, 1, 24, 0, 0),
  (6, ⟨"RingDrive$Pattern", "isEmpty", "()Z"⟩, prog_8_method_3_code, 1, (Option.some Jvm.ClassFile.FieldType.boolean), 0, 0, 0, 0, 0, 0),
  (6, ⟨"RingDrive$Pattern", "isWild", "()Z"⟩, prog_8_method_6_code, 2, (Option.some Jvm.ClassFile.FieldType.boolean), 0, 0, 0, 0, 0, 0),
  (2, ⟨"RingDrive$Commands", "formatAll", "(II)I"⟩, prog_4_method_5_code, 5, (Option.some Jvm.ClassFile.FieldType.int), 2, 0, 4, 94, 0, 0),
  (5, ⟨"RingDrive$Dos", "dropAll", "()V"⟩, prog_7_method_4_code, 2, none, 0, 0, 0, 0, 0, 0),
  (4, ⟨"RingDrive$Disk", "format", "(III)I"⟩, prog_6_method_12_code, 6, (Option.some Jvm.ClassFile.FieldType.int), 3, 0, 3, 69, 0, 0),
  (4, ⟨"RingDrive$Disk", "ring", "(I)LRingDrive$Ring;"⟩, prog_6_method_2_code, 2, (Option.some (Jvm.ClassFile.FieldType.object "RingDrive$Ring")), 1, 0, 0, 0, 0, 0),
  (8, ⟨"RingDrive$Ring", "goTo", "(II)V"⟩, prog_10_method_11_code, 3, none, 2, 0, 0, 0, 0, 0),
  (4, ⟨"RingDrive$Disk", "codeData", "([I)V"⟩, prog_6_method_16_code, 4, none, 1, 0, 1, 26, 0, 0),
  (4, ⟨"RingDrive$Disk", "encode", "([I[I)V"⟩, prog_6_method_17_code, 7, none, 2, 1, 0, 0, 0, 0),
  (4, ⟨"RingDrive$Disk", "fillHeader", "(IIII)V"⟩, prog_6_method_15_code, 5, none, 4, 0, 0, 0, 0, 0),
  (8, ⟨"RingDrive$Ring", "putMarked", "([I)V"⟩, prog_10_method_7_code, 4, none, 1, 0, 1, 27, 0, 0),
  (8, ⟨"RingDrive$Ring", "put", "(II)V"⟩, prog_10_method_6_code, 8, none, 2, 0, 0, 0, 0, 0),
  (8, ⟨"RingDrive$Ring", "putGap", "(I)V"⟩, prog_10_method_8_code, 3, none, 1, 0, 1, 27, 0, 0)]
def rx_MT_1 : List rx_M := [(8, ⟨"RingDrive$Ring", "putGapToEnd", "()V"⟩, prog_10_method_9_code, 1, none, 0, 0, 2, 49, 0, 0),
  (4, ⟨"RingDrive$Disk", "setId", "(II)V"⟩, prog_6_method_7_code, 3, none, 2, 0, 0, 0, 0, 0),
  (4, ⟨"RingDrive$Disk", "hasId", "()Z"⟩, prog_6_method_5_code, 1, (Option.some Jvm.ClassFile.FieldType.boolean), 0, 0, 0, 0, 0, 0),
  (4, ⟨"RingDrive$Disk", "takeId", "()I"⟩, prog_6_method_8_code, 5, (Option.some Jvm.ClassFile.FieldType.int), 0, 0, 1, 26, 0, 0),
  (4, ⟨"RingDrive$Disk", "dropId", "()V"⟩, prog_6_method_6_code, 1, none, 0, 0, 0, 0, 0, 0),
  (8, ⟨"RingDrive$Ring", "onesAhead", "(I)I"⟩, prog_10_method_10_code, 5, (Option.some Jvm.ClassFile.FieldType.int), 1, 0, 0, 0, 0, 0),
  (8, ⟨"RingDrive$Ring", "startRound", "(I)V"⟩, prog_10_method_12_code, 2, none, 1, 0, 0, 0, 0, 0),
  (8, ⟨"RingDrive$Ring", "nextFirst", "()I"⟩, prog_10_method_13_code, 5, (Option.some Jvm.ClassFile.FieldType.int), 0, 0, 0, 0, 0, 0),
  (8, ⟨"RingDrive$Ring", "next", "()I"⟩, prog_10_method_15_code, 5, (Option.some Jvm.ClassFile.FieldType.int), 0, 0, 0, 0, 0, 0),
  (4, ⟨"RingDrive$Disk", "decode", "([I[I)Z"⟩, prog_6_method_18_code, 7, (Option.some Jvm.ClassFile.FieldType.boolean), 2, 1, 0, 0, 0, 0),
  (4, ⟨"RingDrive$Disk", "isHeader", "()Z"⟩, prog_6_method_9_code, 1, (Option.some Jvm.ClassFile.FieldType.boolean), 0, 0, 0, 0, 0, 0),
  (0, ⟨"RingDrive$BlockMap", "begin", "(LRingDrive$Pattern;)V"⟩, prog_2_method_4_code, 2, none, 1, 0, 2, 44, 0, 0),
  (19, ⟨"java/util/Arrays", "fill", "([II)V"⟩, prog_20_method_103_code, 4, none, 2, 1, 0, 0, 0, 0),
  (0, ⟨"RingDrive$BlockMap", "freeAll", "()V"⟩, prog_2_method_5_code, 2, none, 0, 0, 1, 20, 0, 0),
  (4, ⟨"RingDrive$Disk", "sectorsOf", "(I)I"⟩, prog_6_method_3_code, 1, (Option.some Jvm.ClassFile.FieldType.int), 1, 1, 0, 0, 0, 0),
  (0, ⟨"RingDrive$BlockMap", "takeBlock", "(II)V"⟩, prog_2_method_8_code, 3, none, 2, 0, 1, 21, 0, 0),
  (4, ⟨"RingDrive$Disk", "isLegal", "(II)Z"⟩, prog_6_method_4_code, 2, (Option.some Jvm.ClassFile.FieldType.boolean), 2, 1, 0, 0, 0, 0),
  (6, ⟨"RingDrive$Pattern", "putInto", "([II)V"⟩, prog_8_method_9_code, 4, none, 2, 0, 1, 21, 0, 0),
  (6, ⟨"RingDrive$Pattern", "padded", "(I)I"⟩, prog_8_method_10_code, 2, (Option.some Jvm.ClassFile.FieldType.int), 1, 0, 0, 0, 0, 0),
  (0, ⟨"RingDrive$BlockMap", "store", "()I"⟩, prog_2_method_3_code, 1, (Option.some Jvm.ClassFile.FieldType.int), 0, 0, 3, 78, 0, 0),
  (4, ⟨"RingDrive$Disk", "writeBlock", "(II[I)I"⟩, prog_6_method_11_code, 7, (Option.some Jvm.ClassFile.FieldType.int), 3, 0, 2, 52, 0, 0),
  (4, ⟨"RingDrive$Disk", "seek", "(LRingDrive$Ring;II)I"⟩, prog_6_method_13_code, 7, (Option.some Jvm.ClassFile.FieldType.int), 3, 0, 1, 26, 0, 0),
  (8, ⟨"RingDrive$Ring", "holds", "(I[I)Z"⟩, prog_10_method_14_code, 7, (Option.some Jvm.ClassFile.FieldType.boolean), 2, 0, 0, 0, 0, 0),
  (8, ⟨"RingDrive$Ring", "skip", "(I)V"⟩, prog_10_method_16_code, 3, none, 1, 0, 1, 24, 0, 0),
  (8, ⟨"RingDrive$Ring", "gatherFromFirst", "([I)V"⟩, prog_10_method_17_code, 4, none, 1, 0, 1, 24, 0, 0),
  (4, ⟨"RingDrive$Disk", "areSame", "([I[I)Z"⟩, prog_6_method_19_code, 3, (Option.some Jvm.ClassFile.FieldType.boolean), 2, 1, 0, 0, 0, 0),
  (3, ⟨"RingDrive$Directory", "writeEmpty", "(II)I"⟩, prog_5_method_19_code, 3, (Option.some Jvm.ClassFile.FieldType.int), 2, 0, 3, 78, 0, 0),
  (2, ⟨"RingDrive$Commands", "scratch", "()I"⟩, prog_4_method_6_code, 5, (Option.some Jvm.ClassFile.FieldType.int), 0, 0, 5, 139, 0, 0),
  (3, ⟨"RingDrive$Directory", "rewind", "()V"⟩, prog_5_method_2_code, 1, none, 0, 0, 1, 24, 0, 0),
  (3, ⟨"RingDrive$Directory", "goTo", "(IIII)V"⟩, prog_5_method_3_code, 5, none, 4, 0, 0, 0, 0, 0),
  (3, ⟨"RingDrive$Directory", "find", "(ILRingDrive$Pattern;)I"⟩, prog_5_method_4_code, 5, (Option.some Jvm.ClassFile.FieldType.int), 2, 0, 3, 89, 0, 0),
  (4, ⟨"RingDrive$Disk", "readBlock", "(II[I)I"⟩, prog_6_method_10_code, 6, (Option.some Jvm.ClassFile.FieldType.int), 3, 0, 2, 64, 0, 0),
  (4, ⟨"RingDrive$Disk", "dataFault", "()I"⟩, prog_6_method_14_code, 3, (Option.some Jvm.ClassFile.FieldType.int), 0, 0, 1, 26, 0, 0),
  (3, ⟨"RingDrive$Directory", "isWanted", "(ILRingDrive$Pattern;)Z"⟩, prog_5_method_7_code, 4, (Option.some Jvm.ClassFile.FieldType.boolean), 2, 0, 2, 44, 0, 0),
  (3, ⟨"RingDrive$Directory", "base", "()I"⟩, prog_5_method_8_code, 1, (Option.some Jvm.ClassFile.FieldType.int), 0, 0, 0, 0, 0, 0),
  (3, ⟨"RingDrive$Directory", "type", "()I"⟩, prog_5_method_9_code, 1, (Option.some Jvm.ClassFile.FieldType.int), 0, 0, 1, 20, 0, 0),
  (6, ⟨"RingDrive$Pattern", "isSame", "([II)Z"⟩, prog_8_method_8_code, 4, (Option.some Jvm.ClassFile.FieldType.boolean), 2, 0, 1, 21, 0, 0),
  (6, ⟨"RingDrive$Pattern", "fits", "([II)Z"⟩, prog_8_method_7_code, 5, (Option.some Jvm.ClassFile.FieldType.boolean), 2, 0, 0, 0, 0, 0),
  (3, ⟨"RingDrive$Directory", "isLast", "()Z"⟩, prog_5_method_5_code, 1, (Option.some Jvm.ClassFile.FieldType.boolean), 0, 0, 1, 20, 0, 0),
  (3, ⟨"RingDrive$Directory", "isFull", "()Z"⟩, prog_5_method_6_code, 1, (Option.some Jvm.ClassFile.FieldType.boolean), 0, 0, 0, 0, 0, 0)]
def rx_MT_2 : List rx_M := [(5, ⟨"RingDrive$Dos", "scratchFound", "()I"⟩, prog_7_method_16_code, 5, (Option.some Jvm.ClassFile.FieldType.int), 0, 0, 4, 115, 0, 0),
  (0, ⟨"RingDrive$BlockMap", "load", "()I"⟩, prog_2_method_2_code, 1, (Option.some Jvm.ClassFile.FieldType.int), 0, 0, 3, 89, 0, 0),
  (3, ⟨"RingDrive$Directory", "firstTrack", "()I"⟩, prog_5_method_11_code, 1, (Option.some Jvm.ClassFile.FieldType.int), 0, 0, 1, 20, 0, 0),
  (3, ⟨"RingDrive$Directory", "firstSector", "()I"⟩, prog_5_method_12_code, 1, (Option.some Jvm.ClassFile.FieldType.int), 0, 0, 1, 20, 0, 0),
  (5, ⟨"RingDrive$Dos", "giveBackChain", "(II)I"⟩, prog_7_method_17_code, 7, (Option.some Jvm.ClassFile.FieldType.int), 2, 0, 3, 89, 0, 0),
  (0, ⟨"RingDrive$BlockMap", "giveBack", "(II)V"⟩, prog_2_method_9_code, 3, none, 2, 0, 1, 21, 0, 0),
  (3, ⟨"RingDrive$Directory", "changeType", "(I)I"⟩, prog_5_method_15_code, 3, (Option.some Jvm.ClassFile.FieldType.int), 1, 0, 3, 89, 0, 0),
  (2, ⟨"RingDrive$Commands", "rename", "()I"⟩, prog_4_method_7_code, 4, (Option.some Jvm.ClassFile.FieldType.int), 0, 0, 4, 113, 0, 0),
  (3, ⟨"RingDrive$Directory", "changeName", "(LRingDrive$Pattern;)I"⟩, prog_5_method_16_code, 3, (Option.some Jvm.ClassFile.FieldType.int), 1, 0, 3, 89, 0, 0),
  (2, ⟨"RingDrive$Commands", "initialise", "()I"⟩, prog_4_method_8_code, 2, (Option.some Jvm.ClassFile.FieldType.int), 0, 0, 4, 109, 0, 0),
  (2, ⟨"RingDrive$Commands", "unknown", "()I"⟩, prog_4_method_3_code, 1, (Option.some Jvm.ClassFile.FieldType.int), 0, 0, 1, 23, 0, 0),
  (2, ⟨"RingDrive$Commands", "validate", "()I"⟩, prog_4_method_9_code, 3, (Option.some Jvm.ClassFile.FieldType.int), 0, 0, 4, 115, 0, 0),
  (2, ⟨"RingDrive$Commands", "takeDirectory", "()I"⟩, prog_4_method_10_code, 5, (Option.some Jvm.ClassFile.FieldType.int), 0, 0, 3, 89, 0, 0),
  (3, ⟨"RingDrive$Directory", "isClosed", "()Z"⟩, prog_5_method_10_code, 1, (Option.some Jvm.ClassFile.FieldType.boolean), 0, 0, 2, 40, 0, 0),
  (2, ⟨"RingDrive$Commands", "takeChain", "(II)I"⟩, prog_4_method_11_code, 7, (Option.some Jvm.ClassFile.FieldType.int), 2, 0, 3, 89, 0, 0),
  (0, ⟨"RingDrive$BlockMap", "isFree", "(II)Z"⟩, prog_2_method_7_code, 3, (Option.some Jvm.ClassFile.FieldType.boolean), 2, 0, 1, 21, 0, 0),
  (2, ⟨"RingDrive$Commands", "user", "()I"⟩, prog_4_method_12_code, 1, (Option.some Jvm.ClassFile.FieldType.int), 0, 0, 4, 115, 0, 0),
  (2, ⟨"RingDrive$Commands", "moveBlock", "(Z)I"⟩, prog_4_method_14_code, 7, (Option.some Jvm.ClassFile.FieldType.int), 1, 0, 3, 89, 0, 0),
  (10, ⟨"RingDrive$Tape", "startNumbers", "()V"⟩, prog_12_method_7_code, 1, none, 0, 0, 2, 47, 0, 0),
  (10, ⟨"RingDrive$Tape", "nextNumber", "()I"⟩, prog_12_method_8_code, 4, (Option.some Jvm.ClassFile.FieldType.int), 0, 0, 1, 21, 0, 0),
  (10, ⟨"RingDrive$Tape", "isDigit", "(I)Z"⟩, prog_12_method_9_code, 1, (Option.some Jvm.ClassFile.FieldType.boolean), 1, 1, 0, 0, 0, 0),
  (5, ⟨"RingDrive$Dos", "buffer", "(I)LRingDrive$Channel;"⟩, prog_7_method_2_code, 3, (Option.some (Jvm.ClassFile.FieldType.object "RingDrive$Channel")), 1, 0, 0, 0, 0, 0),
  (2, ⟨"RingDrive$Commands", "restart", "()I"⟩, prog_4_method_13_code, 1, (Option.some Jvm.ClassFile.FieldType.int), 0, 0, 1, 23, 0, 0),
  (2, ⟨"RingDrive$Commands", "block", "()I"⟩, prog_4_method_15_code, 1, (Option.some Jvm.ClassFile.FieldType.int), 0, 0, 5, 133, 0, 0),
  (2, ⟨"RingDrive$Commands", "setPlace", "()I"⟩, prog_4_method_16_code, 4, (Option.some Jvm.ClassFile.FieldType.int), 0, 0, 3, 67, 0, 0),
  (2, ⟨"RingDrive$Commands", "allocate", "(Z)I"⟩, prog_4_method_17_code, 5, (Option.some Jvm.ClassFile.FieldType.int), 1, 0, 4, 109, 0, 0),
  (2, ⟨"RingDrive$Commands", "tellNextFree", "(II)I"⟩, prog_4_method_18_code, 6, (Option.some Jvm.ClassFile.FieldType.int), 2, 0, 2, 43, 0, 0),
  (2, ⟨"RingDrive$Commands", "program", "()I"⟩, prog_4_method_19_code, 4, (Option.some Jvm.ClassFile.FieldType.int), 0, 0, 5, 116, 0, 0),
  (2, ⟨"RingDrive$Commands", "argument", "(I)I"⟩, prog_4_method_20_code, 2, (Option.some Jvm.ClassFile.FieldType.int), 1, 0, 1, 24, 0, 0),
  (7, ⟨"RingDrive$Processor", "set", "(II)V"⟩, prog_9_method_3_code, 3, none, 2, 0, 0, 0, 0, 0),
  (7, ⟨"RingDrive$Processor", "get", "(I)I"⟩, prog_9_method_2_code, 2, (Option.some Jvm.ClassFile.FieldType.int), 1, 0, 0, 0, 0, 0),
  (9, ⟨"RingDrive$Status", "addReply", "(I)V"⟩, prog_11_method_4_code, 2, none, 1, 0, 0, 0, 0, 0),
  (7, ⟨"RingDrive$Processor", "run", "(I)I"⟩, prog_9_method_6_code, 5, (Option.some Jvm.ClassFile.FieldType.int), 1, 0, 4, 92, 0, 0),
  (7, ⟨"RingDrive$Processor", "begin", "(I)V"⟩, prog_9_method_5_code, 2, none, 1, 0, 0, 0, 0, 0),
  (7, ⟨"RingDrive$Processor", "locate", "(I)V"⟩, prog_9_method_12_code, 4, none, 1, 0, 2, 42, 0, 0),
  (7, ⟨"RingDrive$Processor", "fetch", "()I"⟩, prog_9_method_8_code, 2, (Option.some Jvm.ClassFile.FieldType.int), 0, 0, 0, 0, 0, 0),
  (7, ⟨"RingDrive$Processor", "fetchTwo", "()I"⟩, prog_9_method_9_code, 2, (Option.some Jvm.ClassFile.FieldType.int), 0, 0, 1, 21, 0, 0),
  (7, ⟨"RingDrive$Processor", "indexed", "(II)V"⟩, prog_9_method_11_code, 3, none, 2, 0, 0, 0, 0, 0),
  (7, ⟨"RingDrive$Processor", "pair", "(I)I"⟩, prog_9_method_10_code, 2, (Option.some Jvm.ClassFile.FieldType.int), 1, 0, 0, 0, 0, 0),
  (7, ⟨"RingDrive$Processor", "perform", "(II)V"⟩, prog_9_method_7_code, 3, none, 2, 0, 3, 70, 0, 0)]
def rx_MT_3 : List rx_M := [(7, ⟨"RingDrive$Processor", "useValue", "(II)V"⟩, prog_9_method_16_code, 3, none, 2, 0, 2, 48, 0, 0),
  (7, ⟨"RingDrive$Processor", "marked", "(I)I"⟩, prog_9_method_15_code, 3, (Option.some Jvm.ClassFile.FieldType.int), 1, 0, 0, 0, 0, 0),
  (7, ⟨"RingDrive$Processor", "add", "(I)V"⟩, prog_9_method_19_code, 4, none, 1, 0, 1, 25, 0, 0),
  (7, ⟨"RingDrive$Processor", "has", "(I)Z"⟩, prog_9_method_14_code, 2, (Option.some Jvm.ClassFile.FieldType.boolean), 1, 0, 0, 0, 0, 0),
  (7, ⟨"RingDrive$Processor", "addBinary", "(I)V"⟩, prog_9_method_18_code, 6, none, 1, 0, 0, 0, 0, 0),
  (7, ⟨"RingDrive$Processor", "flag", "(IZ)V"⟩, prog_9_method_13_code, 3, none, 2, 0, 0, 0, 0, 0),
  (7, ⟨"RingDrive$Processor", "subtract", "(I)V"⟩, prog_9_method_20_code, 4, none, 1, 0, 1, 25, 0, 0),
  (7, ⟨"RingDrive$Processor", "compare", "(II)V"⟩, prog_9_method_17_code, 3, none, 2, 0, 1, 22, 0, 0),
  (7, ⟨"RingDrive$Processor", "changeValue", "(IZ)V"⟩, prog_9_method_21_code, 5, none, 2, 0, 1, 22, 0, 0),
  (7, ⟨"RingDrive$Processor", "branch", "(I)V"⟩, prog_9_method_22_code, 3, none, 1, 0, 1, 21, 0, 0),
  (7, ⟨"RingDrive$Processor", "move", "(I)V"⟩, prog_9_method_23_code, 2, none, 1, 0, 1, 22, 0, 0),
  (7, ⟨"RingDrive$Processor", "changeFlag", "(I)V"⟩, prog_9_method_24_code, 2, none, 1, 0, 1, 22, 0, 0),
  (7, ⟨"RingDrive$Processor", "stack", "(I)V"⟩, prog_9_method_28_code, 3, none, 1, 0, 2, 41, 0, 0),
  (7, ⟨"RingDrive$Processor", "push", "(I)V"⟩, prog_9_method_25_code, 2, none, 1, 0, 0, 0, 0, 0),
  (7, ⟨"RingDrive$Processor", "pull", "()I"⟩, prog_9_method_26_code, 1, (Option.some Jvm.ClassFile.FieldType.int), 0, 0, 0, 0, 0, 0),
  (7, ⟨"RingDrive$Processor", "pullTwo", "()I"⟩, prog_9_method_27_code, 2, (Option.some Jvm.ClassFile.FieldType.int), 0, 0, 1, 20, 0, 0),
  (5, ⟨"RingDrive$Dos", "openChannel", "(I)I"⟩, prog_7_method_8_code, 4, (Option.some Jvm.ClassFile.FieldType.int), 1, 0, 6, 161, 0, 0),
  (5, ⟨"RingDrive$Dos", "closeChannel", "(I)I"⟩, prog_7_method_6_code, 4, (Option.some Jvm.ClassFile.FieldType.int), 1, 0, 4, 111, 0, 0),
  (5, ⟨"RingDrive$Dos", "goToEntryOf", "(LRingDrive$Channel;)V"⟩, prog_7_method_7_code, 2, none, 1, 0, 1, 24, 0, 0),
  (3, ⟨"RingDrive$Directory", "changeToClosed", "(I)I"⟩, prog_5_method_17_code, 3, (Option.some Jvm.ClassFile.FieldType.int), 1, 0, 3, 89, 0, 0),
  (5, ⟨"RingDrive$Dos", "countOpen", "()I"⟩, prog_7_method_3_code, 3, (Option.some Jvm.ClassFile.FieldType.int), 0, 0, 0, 0, 0, 0),
  (5, ⟨"RingDrive$Dos", "openBuffer", "(LRingDrive$Channel;)I"⟩, prog_7_method_9_code, 2, (Option.some Jvm.ClassFile.FieldType.int), 1, 0, 2, 44, 0, 0),
  (1, ⟨"RingDrive$Channel", "begin", "(I)V"⟩, prog_3_method_2_code, 2, none, 1, 0, 1, 23, 0, 0),
  (5, ⟨"RingDrive$Dos", "openList", "(LRingDrive$Channel;)I"⟩, prog_7_method_10_code, 3, (Option.some Jvm.ClassFile.FieldType.int), 1, 0, 2, 85, 0, 0),
  (6, ⟨"RingDrive$Pattern", "copyFrom", "(LRingDrive$Pattern;)V"⟩, prog_8_method_5_code, 2, none, 1, 0, 1, 64, 0, 0),
  (5, ⟨"RingDrive$Dos", "parseFile", "(I)I"⟩, prog_7_method_11_code, 5, (Option.some Jvm.ClassFile.FieldType.int), 1, 0, 2, 48, 0, 0),
  (5, ⟨"RingDrive$Dos", "sortTold", "(I)I"⟩, prog_7_method_12_code, 2, (Option.some Jvm.ClassFile.FieldType.int), 1, 0, 1, 21, 0, 0),
  (5, ⟨"RingDrive$Dos", "wayTold", "(I)I"⟩, prog_7_method_13_code, 3, (Option.some Jvm.ClassFile.FieldType.int), 1, 0, 1, 21, 0, 0),
  (5, ⟨"RingDrive$Dos", "openToRead", "(LRingDrive$Channel;)I"⟩, prog_7_method_14_code, 5, (Option.some Jvm.ClassFile.FieldType.int), 1, 0, 4, 113, 0, 0),
  (1, ⟨"RingDrive$Channel", "unfold", "()V"⟩, prog_3_method_5_code, 1, none, 0, 0, 1, 24, 0, 0),
  (5, ⟨"RingDrive$Dos", "openToWrite", "(LRingDrive$Channel;)I"⟩, prog_7_method_15_code, 3, (Option.some Jvm.ClassFile.FieldType.int), 1, 0, 5, 139, 0, 0),
  (5, ⟨"RingDrive$Dos", "findRoom", "()I"⟩, prog_7_method_18_code, 2, (Option.some Jvm.ClassFile.FieldType.int), 0, 0, 4, 113, 0, 0),
  (0, ⟨"RingDrive$BlockMap", "pickForDirectory", "()Z"⟩, prog_2_method_12_code, 1, (Option.some Jvm.ClassFile.FieldType.boolean), 0, 0, 3, 68, 0, 0),
  (0, ⟨"RingDrive$BlockMap", "pickOf", "(II)Z"⟩, prog_2_method_13_code, 6, (Option.some Jvm.ClassFile.FieldType.boolean), 2, 0, 2, 43, 0, 0),
  (3, ⟨"RingDrive$Directory", "lengthen", "(II)I"⟩, prog_5_method_20_code, 4, (Option.some Jvm.ClassFile.FieldType.int), 2, 0, 3, 89, 0, 0),
  (5, ⟨"RingDrive$Dos", "startFile", "(LRingDrive$Channel;)I"⟩, prog_7_method_19_code, 3, (Option.some Jvm.ClassFile.FieldType.int), 1, 0, 4, 113, 0, 0),
  (0, ⟨"RingDrive$BlockMap", "pick", "()Z"⟩, prog_2_method_10_code, 2, (Option.some Jvm.ClassFile.FieldType.boolean), 0, 0, 3, 68, 0, 0),
  (3, ⟨"RingDrive$Directory", "changeToNew", "(ILRingDrive$BlockMap;LRingDrive$Pattern;)I"⟩, prog_5_method_18_code, 5, (Option.some Jvm.ClassFile.FieldType.int), 3, 0, 3, 89, 0, 0),
  (1, ⟨"RingDrive$Channel", "beginBlock", "(II)V"⟩, prog_3_method_3_code, 3, none, 2, 0, 1, 23, 0, 0),
  (1, ⟨"RingDrive$Channel", "keepEntry", "(LRingDrive$Directory;)V"⟩, prog_3_method_4_code, 2, none, 1, 0, 0, 0, 0, 0)]
def rx_MT_4 : List rx_M := [(11, ⟨"RingDrive", "write", "(II)I"⟩, prog_1_method_4_code, 3, (Option.some Jvm.ClassFile.FieldType.int), 2, 0, 7, 184, 0, 0),
  (5, ⟨"RingDrive$Dos", "sendBytes", "(I)V"⟩, prog_7_method_27_code, 5, none, 1, 0, 6, 160, 0, 0),
  (5, ⟨"RingDrive$Dos", "addToFile", "(LRingDrive$Channel;I)I"⟩, prog_7_method_28_code, 5, (Option.some Jvm.ClassFile.FieldType.int), 2, 0, 5, 136, 0, 0),
  (0, ⟨"RingDrive$BlockMap", "pickBehind", "(II)Z"⟩, prog_2_method_11_code, 3, (Option.some Jvm.ClassFile.FieldType.boolean), 2, 0, 4, 89, 0, 0),
  (5, ⟨"RingDrive$Dos", "goToNextBlock", "(LRingDrive$Channel;)I"⟩, prog_7_method_29_code, 3, (Option.some Jvm.ClassFile.FieldType.int), 1, 0, 4, 98, 0, 0),
  (5, ⟨"RingDrive$Dos", "giveUpFile", "(LRingDrive$Channel;)I"⟩, prog_7_method_30_code, 6, (Option.some Jvm.ClassFile.FieldType.int), 1, 0, 4, 111, 0, 0),
  (11, ⟨"RingDrive", "close", "(I)I"⟩, prog_1_method_5_code, 2, (Option.some Jvm.ClassFile.FieldType.int), 1, 0, 6, 156, 0, 0),
  (5, ⟨"RingDrive$Dos", "closeAll", "()V"⟩, prog_7_method_5_code, 3, none, 0, 0, 5, 134, 0, 0),
  (11, ⟨"RingDrive", "read", "(II)I"⟩, prog_1_method_6_code, 3, (Option.some Jvm.ClassFile.FieldType.int), 2, 0, 9, 197, 0, 0),
  (9, ⟨"RingDrive$Status", "receive", "(I[I)I"⟩, prog_11_method_5_code, 4, (Option.some Jvm.ClassFile.FieldType.int), 2, 0, 7, 149, 0, 0),
  (9, ⟨"RingDrive$Status", "replyByte", "()I"⟩, prog_11_method_6_code, 2, (Option.some Jvm.ClassFile.FieldType.int), 0, 0, 0, 0, 0, 0),
  (9, ⟨"RingDrive$Status", "textByte", "()I"⟩, prog_11_method_7_code, 2, (Option.some Jvm.ClassFile.FieldType.int), 0, 0, 6, 128, 0, 0),
  (9, ⟨"RingDrive$Status", "spell", "()V"⟩, prog_11_method_8_code, 3, none, 0, 0, 5, 106, 0, 0),
  (9, ⟨"RingDrive$Status", "addTwoDigits", "(I)V"⟩, prog_11_method_9_code, 2, none, 1, 0, 1, 21, 0, 0),
  (9, ⟨"RingDrive$Status", "add", "(I)V"⟩, prog_11_method_10_code, 2, none, 1, 0, 0, 0, 0, 0),
  (9, ⟨"RingDrive$Status", "words", "()Ljava/lang/String;"⟩, prog_11_method_11_code, 1, (Option.some (Jvm.ClassFile.FieldType.object "java/lang/String")), 0, 0, 0, 0, 0, 0),
  (16, ⟨"java/lang/String", "length", "()I"⟩, prog_16_method_54_code, 1, (Option.some Jvm.ClassFile.FieldType.int), 0, 0, 1, 20, 0, 0),
  (16, ⟨"java/lang/String", "coder", "()B"⟩, prog_16_method_152_code, 1, (Option.some Jvm.ClassFile.FieldType.byte), 0, 0, 0, 0, 0, 0),
  (16, ⟨"java/lang/String", "charAt", "(I)C"⟩, prog_16_method_56_code, 2, (Option.some Jvm.ClassFile.FieldType.char), 1, 0, 4, 85, 0, 0),
  (16, ⟨"java/lang/String", "isLatin1", "()Z"⟩, prog_16_method_154_code, 1, (Option.some Jvm.ClassFile.FieldType.boolean), 0, 0, 0, 0, 0, 0),
  (17, ⟨"java/lang/StringLatin1", "charAt", "([BI)C"⟩, prog_17_method_2_code, 2, (Option.some Jvm.ClassFile.FieldType.char), 2, 1, 2, 43, 0, 0),
  (16, ⟨"java/lang/String", "checkIndex", "(II)V"⟩, prog_16_method_155_code, 2, none, 2, 1, 1, 22, 0, 0),
  (20, ⟨"jdk/internal/util/Preconditions", "checkIndex", "(IILjava/util/function/BiFunction;)I"⟩, prog_21_method_11_code, 3, (Option.some Jvm.ClassFile.FieldType.int), 3, 1, 0, 0, 0, 0),
  (18, ⟨"java/lang/StringUTF16", "charAt", "([BI)C"⟩, prog_18_method_83_code, 2, (Option.some Jvm.ClassFile.FieldType.char), 2, 1, 3, 64, 0, 0),
  (18, ⟨"java/lang/StringUTF16", "checkIndex", "(I[B)V"⟩, prog_18_method_91_code, 2, none, 2, 1, 2, 43, 0, 0),
  (18, ⟨"java/lang/StringUTF16", "length", "([B)I"⟩, prog_18_method_6_code, 1, (Option.some Jvm.ClassFile.FieldType.int), 1, 1, 0, 0, 0, 0),
  (18, ⟨"java/lang/StringUTF16", "getChar", "([BI)C"⟩, prog_18_method_5_code, 2, (Option.some Jvm.ClassFile.FieldType.char), 2, 1, 1, 20, 0, 0),
  (5, ⟨"RingDrive$Dos", "receive", "(II[I)I"⟩, prog_7_method_20_code, 6, (Option.some Jvm.ClassFile.FieldType.int), 3, 0, 8, 172, 0, 0),
  (5, ⟨"RingDrive$Dos", "nextByte", "(LRingDrive$Channel;)I"⟩, prog_7_method_21_code, 3, (Option.some Jvm.ClassFile.FieldType.int), 1, 0, 7, 150, 0, 0),
  (5, ⟨"RingDrive$Dos", "makeLine", "(LRingDrive$Channel;)I"⟩, prog_7_method_23_code, 3, (Option.some Jvm.ClassFile.FieldType.int), 1, 0, 6, 128, 0, 0),
  (1, ⟨"RingDrive$Channel", "startLine", "()V"⟩, prog_3_method_6_code, 1, none, 0, 0, 0, 0, 0, 0),
  (5, ⟨"RingDrive$Dos", "addTitle", "(LRingDrive$Channel;)V"⟩, prog_7_method_24_code, 4, none, 1, 0, 1, 21, 0, 0),
  (1, ⟨"RingDrive$Channel", "add", "(I)V"⟩, prog_3_method_7_code, 2, none, 1, 0, 0, 0, 0, 0),
  (5, ⟨"RingDrive$Dos", "addEntry", "(LRingDrive$Channel;)V"⟩, prog_7_method_25_code, 3, none, 1, 0, 5, 106, 0, 0),
  (3, ⟨"RingDrive$Directory", "count", "()I"⟩, prog_5_method_14_code, 1, (Option.some Jvm.ClassFile.FieldType.int), 0, 0, 1, 20, 0, 0),
  (1, ⟨"RingDrive$Channel", "addNumber", "(I)V"⟩, prog_3_method_8_code, 4, none, 1, 0, 1, 21, 0, 0),
  (3, ⟨"RingDrive$Directory", "nameByte", "(I)I"⟩, prog_5_method_13_code, 2, (Option.some Jvm.ClassFile.FieldType.int), 1, 0, 1, 20, 0, 0),
  (5, ⟨"RingDrive$Dos", "addFree", "(LRingDrive$Channel;)V"⟩, prog_7_method_26_code, 2, none, 1, 0, 2, 44, 0, 0),
  (0, ⟨"RingDrive$BlockMap", "freeSum", "()I"⟩, prog_2_method_6_code, 3, (Option.some Jvm.ClassFile.FieldType.int), 0, 0, 0, 0, 0, 0),
  (5, ⟨"RingDrive$Dos", "readNext", "(LRingDrive$Channel;)I"⟩, prog_7_method_22_code, 5, (Option.some Jvm.ClassFile.FieldType.int), 1, 0, 3, 89, 0, 0)]
def rx_MT_5 : List rx_M := [(11, ⟨"RingDrive", "out", "(I)I"⟩, prog_1_method_7_code, 2, (Option.some Jvm.ClassFile.FieldType.int), 1, 0, 0, 0, 0, 0),
  (11, ⟨"RingDrive", "look", "(I)I"⟩, prog_1_method_8_code, 2, (Option.some Jvm.ClassFile.FieldType.int), 1, 0, 1, 22, 0, 0),
  (11, ⟨"RingDrive", "bits", "(II)I"⟩, prog_1_method_9_code, 4, (Option.some Jvm.ClassFile.FieldType.int), 2, 0, 2, 47, 0, 0),
  (8, ⟨"RingDrive$Ring", "hasBit", "(I)Z"⟩, prog_10_method_2_code, 2, (Option.some Jvm.ClassFile.FieldType.boolean), 1, 0, 0, 0, 0, 0),
  (8, ⟨"RingDrive$Ring", "word", "(I)I"⟩, prog_10_method_3_code, 4, (Option.some Jvm.ClassFile.FieldType.int), 1, 0, 1, 24, 0, 0),
  (8, ⟨"RingDrive$Ring", "eight", "(I)I"⟩, prog_10_method_5_code, 5, (Option.some Jvm.ClassFile.FieldType.int), 1, 0, 0, 0, 0, 0),
  (11, ⟨"RingDrive", "turn", "(III)Z"⟩, prog_1_method_10_code, 5, (Option.some Jvm.ClassFile.FieldType.boolean), 3, 0, 2, 50, 0, 0),
  (8, ⟨"RingDrive$Ring", "flip", "(II)V"⟩, prog_10_method_4_code, 4, none, 2, 0, 1, 27, 0, 0),
  (11, ⟨"RingDrive", "protect", "(Z)V"⟩, prog_1_method_11_code, 2, none, 1, 0, 0, 0, 0, 0),
  (11, ⟨"RingDrive", "power", "()V"⟩, prog_1_method_12_code, 1, none, 0, 0, 2, 43, 0, 0),
  (7, ⟨"RingDrive$Processor", "reset", "()V"⟩, prog_9_method_4_code, 1, none, 0, 0, 1, 23, 0, 0),
  (11, ⟨"RingDrive", "memory", "(I)I"⟩, prog_1_method_13_code, 2, (Option.some Jvm.ClassFile.FieldType.int), 1, 0, 1, 21, 0, 0),
  (12, ⟨"RingDriveModel", "feed", "(IIIII)I"⟩, prog_14_method_45_code, 6, (Option.some Jvm.ClassFile.FieldType.int), 5, 0, 1, 22, 0, 0),
  (12, ⟨"RingDriveModel", "types", "(I)V"⟩, prog_14_method_44_code, 3, none, 1, 0, 0, 0, 0, 0),
  (12, ⟨"RingDriveModel", "open", "(II)I"⟩, prog_14_method_47_code, 3, (Option.some Jvm.ClassFile.FieldType.int), 2, 0, 11, 277, 0, 0),
  (12, ⟨"RingDriveModel", "sends", "(I)V"⟩, prog_14_method_46_code, 3, none, 1, 0, 0, 0, 0, 0),
  (12, ⟨"RingDriveModel", "commands", "(I)I"⟩, prog_14_method_81_code, 2, (Option.some Jvm.ClassFile.FieldType.int), 1, 0, 10, 248, 0, 0),
  (12, ⟨"RingDriveModel", "begins", "()V"⟩, prog_14_method_41_code, 1, none, 0, 0, 1, 23, 0, 0),
  (12, ⟨"RingDriveModel", "sets", "(III)V"⟩, prog_14_method_40_code, 4, none, 3, 0, 0, 0, 0, 0),
  (12, ⟨"RingDriveModel", "fault", "(III)I"⟩, prog_14_method_4_code, 4, (Option.some Jvm.ClassFile.FieldType.int), 3, 0, 0, 0, 0, 0),
  (12, ⟨"RingDriveModel", "ends", "(I)I"⟩, prog_14_method_42_code, 2, (Option.some Jvm.ClassFile.FieldType.int), 1, 0, 1, 23, 0, 0),
  (12, ⟨"RingDriveModel", "does", "(I)I"⟩, prog_14_method_83_code, 4, (Option.some Jvm.ClassFile.FieldType.int), 1, 0, 9, 225, 0, 0),
  (12, ⟨"RingDriveModel", "again", "()I"⟩, prog_14_method_84_code, 2, (Option.some Jvm.ClassFile.FieldType.int), 0, 0, 6, 143, 0, 0),
  (12, ⟨"RingDriveModel", "takeId", "()I"⟩, prog_14_method_24_code, 4, (Option.some Jvm.ClassFile.FieldType.int), 0, 0, 3, 69, 0, 0),
  (12, ⟨"RingDriveModel", "round", "(I)I"⟩, prog_14_method_10_code, 7, (Option.some Jvm.ClassFile.FieldType.int), 1, 0, 2, 43, 0, 0),
  (12, ⟨"RingDriveModel", "bytesOf", "(I)I"⟩, prog_14_method_1_code, 1, (Option.some Jvm.ClassFile.FieldType.int), 1, 1, 0, 0, 0, 0),
  (12, ⟨"RingDriveModel", "bitAt", "(II)I"⟩, prog_14_method_5_code, 3, (Option.some Jvm.ClassFile.FieldType.int), 2, 0, 0, 0, 0, 0),
  (12, ⟨"RingDriveModel", "along", "(III)V"⟩, prog_14_method_7_code, 4, none, 3, 0, 1, 20, 0, 0),
  (12, ⟨"RingDriveModel", "goes", "()Z"⟩, prog_14_method_8_code, 2, (Option.some Jvm.ClassFile.FieldType.boolean), 0, 0, 1, 22, 0, 0),
  (12, ⟨"RingDriveModel", "comes", "()I"⟩, prog_14_method_9_code, 2, (Option.some Jvm.ClassFile.FieldType.int), 0, 0, 2, 43, 0, 0),
  (12, ⟨"RingDriveModel", "reads", "(I)Z"⟩, prog_14_method_15_code, 6, (Option.some Jvm.ClassFile.FieldType.boolean), 1, 0, 2, 42, 0, 0),
  (12, ⟨"RingDriveModel", "group", "(I)I"⟩, prog_14_method_14_code, 4, (Option.some Jvm.ClassFile.FieldType.int), 1, 0, 0, 0, 0, 0),
  (12, ⟨"RingDriveModel", "valueOf", "(I)I"⟩, prog_14_method_12_code, 3, (Option.some Jvm.ClassFile.FieldType.int), 1, 1, 1, 20, 0, 0),
  (12, ⟨"RingDriveModel", "groupOf", "(I)I"⟩, prog_14_method_11_code, 1, (Option.some Jvm.ClassFile.FieldType.int), 1, 1, 0, 0, 0, 0),
  (12, ⟨"RingDriveModel", "loads", "()I"⟩, prog_14_method_25_code, 1, (Option.some Jvm.ClassFile.FieldType.int), 0, 0, 5, 123, 0, 0),
  (12, ⟨"RingDriveModel", "readBlock", "(II[II)I"⟩, prog_14_method_20_code, 8, (Option.some Jvm.ClassFile.FieldType.int), 4, 0, 4, 96, 0, 0),
  (12, ⟨"RingDriveModel", "seek", "(II)I"⟩, prog_14_method_18_code, 7, (Option.some Jvm.ClassFile.FieldType.int), 2, 0, 3, 70, 0, 0),
  (12, ⟨"RingDriveModel", "header", "(IIII)V"⟩, prog_14_method_16_code, 5, none, 4, 0, 2, 46, 0, 0),
  (12, ⟨"RingDriveModel", "codes", "(I)V"⟩, prog_14_method_13_code, 7, none, 1, 0, 1, 20, 0, 0),
  (12, ⟨"RingDriveModel", "gets", "()V"⟩, prog_14_method_19_code, 3, none, 0, 0, 3, 64, 0, 0)]
def rx_MT_6 : List rx_M := [(12, ⟨"RingDriveModel", "validates", "()I"⟩, prog_14_method_91_code, 6, (Option.some Jvm.ClassFile.FieldType.int), 0, 0, 8, 200, 0, 0),
  (12, ⟨"RingDriveModel", "freesAll", "()V"⟩, prog_14_method_87_code, 2, none, 0, 0, 1, 20, 0, 0),
  (12, ⟨"RingDriveModel", "sectorsOf", "(I)I"⟩, prog_14_method_2_code, 1, (Option.some Jvm.ClassFile.FieldType.int), 1, 1, 0, 0, 0, 0),
  (12, ⟨"RingDriveModel", "takes", "(II)V"⟩, prog_14_method_28_code, 3, none, 2, 0, 0, 0, 0, 0),
  (12, ⟨"RingDriveModel", "isLegal", "(II)Z"⟩, prog_14_method_3_code, 2, (Option.some Jvm.ClassFile.FieldType.boolean), 2, 1, 1, 20, 0, 0),
  (12, ⟨"RingDriveModel", "isFree", "(II)Z"⟩, prog_14_method_27_code, 3, (Option.some Jvm.ClassFile.FieldType.boolean), 2, 0, 0, 0, 0, 0),
  (12, ⟨"RingDriveModel", "entries", "()I"⟩, prog_14_method_92_code, 6, (Option.some Jvm.ClassFile.FieldType.int), 0, 0, 7, 175, 0, 0),
  (12, ⟨"RingDriveModel", "used", "(III)I"⟩, prog_14_method_93_code, 8, (Option.some Jvm.ClassFile.FieldType.int), 3, 0, 6, 148, 0, 0),
  (12, ⟨"RingDriveModel", "changesType", "(IIII)I"⟩, prog_14_method_38_code, 6, (Option.some Jvm.ClassFile.FieldType.int), 4, 0, 5, 123, 0, 0),
  (12, ⟨"RingDriveModel", "writeBlock", "(II[II)I"⟩, prog_14_method_22_code, 8, (Option.some Jvm.ClassFile.FieldType.int), 4, 0, 4, 96, 0, 0),
  (12, ⟨"RingDriveModel", "lays", "(II)V"⟩, prog_14_method_21_code, 4, none, 2, 0, 1, 25, 0, 0),
  (12, ⟨"RingDriveModel", "setBit", "(III)V"⟩, prog_14_method_6_code, 6, none, 3, 0, 0, 0, 0, 0),
  (12, ⟨"RingDriveModel", "data", "([II)V"⟩, prog_14_method_17_code, 5, none, 2, 0, 2, 46, 0, 0),
  (12, ⟨"RingDriveModel", "uses", "(II)I"⟩, prog_14_method_90_code, 3, (Option.some Jvm.ClassFile.FieldType.int), 2, 0, 2, 41, 0, 0),
  (12, ⟨"RingDriveModel", "stores", "()I"⟩, prog_14_method_26_code, 1, (Option.some Jvm.ClassFile.FieldType.int), 0, 0, 5, 123, 0, 0),
  (12, ⟨"RingDriveModel", "shutsAll", "()V"⟩, prog_14_method_59_code, 2, none, 0, 0, 0, 0, 0, 0),
  (12, ⟨"RingDriveModel", "news", "(I)I"⟩, prog_14_method_85_code, 9, (Option.some Jvm.ClassFile.FieldType.int), 1, 0, 7, 166, 0, 0),
  (12, ⟨"RingDriveModel", "isWild", "(II)Z"⟩, prog_14_method_51_code, 5, (Option.some Jvm.ClassFile.FieldType.boolean), 2, 0, 0, 0, 0, 0),
  (12, ⟨"RingDriveModel", "format", "(III)I"⟩, prog_14_method_23_code, 6, (Option.some Jvm.ClassFile.FieldType.int), 3, 0, 3, 70, 0, 0),
  (12, ⟨"RingDriveModel", "maps", "(I)I"⟩, prog_14_method_86_code, 4, (Option.some Jvm.ClassFile.FieldType.int), 1, 0, 6, 143, 0, 0),
  (12, ⟨"RingDriveModel", "scratch", "(I)I"⟩, prog_14_method_88_code, 5, (Option.some Jvm.ClassFile.FieldType.int), 1, 0, 8, 197, 0, 0),
  (12, ⟨"RingDriveModel", "finds", "(I[III)I"⟩, prog_14_method_37_code, 11, (Option.some Jvm.ClassFile.FieldType.int), 4, 0, 5, 123, 0, 0),
  (12, ⟨"RingDriveModel", "fits", "([III[II)Z"⟩, prog_14_method_35_code, 7, (Option.some Jvm.ClassFile.FieldType.boolean), 5, 1, 0, 0, 0, 0),
  (12, ⟨"RingDriveModel", "same", "([III[II)Z"⟩, prog_14_method_36_code, 7, (Option.some Jvm.ClassFile.FieldType.boolean), 5, 1, 0, 0, 0, 0),
  (12, ⟨"RingDriveModel", "scratches", "()I"⟩, prog_14_method_39_code, 5, (Option.some Jvm.ClassFile.FieldType.int), 0, 0, 7, 173, 0, 0),
  (12, ⟨"RingDriveModel", "freesChain", "(II)I"⟩, prog_14_method_34_code, 11, (Option.some Jvm.ClassFile.FieldType.int), 2, 0, 6, 143, 0, 0),
  (12, ⟨"RingDriveModel", "givesBack", "(II)V"⟩, prog_14_method_29_code, 3, none, 2, 0, 2, 41, 0, 0),
  (12, ⟨"RingDriveModel", "renames", "(I)I"⟩, prog_14_method_89_code, 7, (Option.some Jvm.ClassFile.FieldType.int), 1, 0, 6, 153, 0, 0),
  (12, ⟨"RingDriveModel", "blockOf", "(IZ)I"⟩, prog_14_method_97_code, 7, (Option.some Jvm.ClassFile.FieldType.int), 2, 0, 5, 123, 0, 0),
  (12, ⟨"RingDriveModel", "numbers", "(I)Z"⟩, prog_14_method_94_code, 2, (Option.some Jvm.ClassFile.FieldType.boolean), 1, 0, 0, 0, 0, 0),
  (12, ⟨"RingDriveModel", "numberNext", "(I)I"⟩, prog_14_method_96_code, 4, (Option.some Jvm.ClassFile.FieldType.int), 1, 0, 1, 20, 0, 0),
  (12, ⟨"RingDriveModel", "isDigit", "(I)Z"⟩, prog_14_method_95_code, 1, (Option.some Jvm.ClassFile.FieldType.boolean), 1, 1, 0, 0, 0, 0),
  (12, ⟨"RingDriveModel", "begins3", "(III)Z"⟩, prog_14_method_82_code, 4, (Option.some Jvm.ClassFile.FieldType.boolean), 3, 0, 0, 0, 0, 0),
  (12, ⟨"RingDriveModel", "pointer", "(I)I"⟩, prog_14_method_98_code, 4, (Option.some Jvm.ClassFile.FieldType.int), 1, 0, 2, 43, 0, 0),
  (12, ⟨"RingDriveModel", "allocates", "(I)I"⟩, prog_14_method_99_code, 7, (Option.some Jvm.ClassFile.FieldType.int), 1, 0, 6, 143, 0, 0),
  (12, ⟨"RingDriveModel", "frees", "(I)I"⟩, prog_14_method_100_code, 5, (Option.some Jvm.ClassFile.FieldType.int), 1, 0, 6, 143, 0, 0),
  (12, ⟨"RingDriveModel", "memories", "(I)I"⟩, prog_14_method_103_code, 7, (Option.some Jvm.ClassFile.FieldType.int), 1, 0, 8, 174, 0, 0),
  (12, ⟨"RingDriveModel", "put", "(II)V"⟩, prog_14_method_102_code, 3, none, 2, 0, 0, 0, 0, 0),
  (12, ⟨"RingDriveModel", "get", "(I)I"⟩, prog_14_method_101_code, 2, (Option.some Jvm.ClassFile.FieldType.int), 1, 0, 0, 0, 0, 0),
  (12, ⟨"RingDriveModel", "runs", "(I)I"⟩, prog_14_method_104_code, 4, (Option.some Jvm.ClassFile.FieldType.int), 1, 0, 7, 151, 0, 0)]
def rx_MT_7 : List rx_M := [(12, ⟨"RingDriveModel", "step", "(I)Z"⟩, prog_14_method_128_code, 2, (Option.some Jvm.ClassFile.FieldType.boolean), 1, 0, 6, 130, 0, 0),
  (12, ⟨"RingDriveModel", "works", "(I)Z"⟩, prog_14_method_119_code, 6, (Option.some Jvm.ClassFile.FieldType.boolean), 1, 0, 4, 86, 0, 0),
  (12, ⟨"RingDriveModel", "howOf", "(I)I"⟩, prog_14_method_115_code, 1, (Option.some Jvm.ClassFile.FieldType.int), 1, 1, 0, 0, 0, 0),
  (12, ⟨"RingDriveModel", "address", "(I)I"⟩, prog_14_method_112_code, 4, (Option.some Jvm.ClassFile.FieldType.int), 1, 0, 3, 63, 0, 0),
  (12, ⟨"RingDriveModel", "byteNext", "()I"⟩, prog_14_method_105_code, 2, (Option.some Jvm.ClassFile.FieldType.int), 0, 0, 1, 21, 0, 0),
  (12, ⟨"RingDriveModel", "wordNext", "()I"⟩, prog_14_method_106_code, 2, (Option.some Jvm.ClassFile.FieldType.int), 0, 0, 2, 42, 0, 0),
  (12, ⟨"RingDriveModel", "storeTime", "(I)I"⟩, prog_14_method_114_code, 1, (Option.some Jvm.ClassFile.FieldType.int), 1, 1, 0, 0, 0, 0),
  (12, ⟨"RingDriveModel", "readTime", "(I)I"⟩, prog_14_method_113_code, 3, (Option.some Jvm.ClassFile.FieldType.int), 1, 0, 0, 0, 0, 0),
  (12, ⟨"RingDriveModel", "marks", "(I)I"⟩, prog_14_method_109_code, 2, (Option.some Jvm.ClassFile.FieldType.int), 1, 0, 1, 22, 0, 0),
  (12, ⟨"RingDriveModel", "flag", "(IZ)V"⟩, prog_14_method_108_code, 3, none, 2, 0, 0, 0, 0, 0),
  (12, ⟨"RingDriveModel", "adds", "(I)V"⟩, prog_14_method_116_code, 6, none, 1, 0, 2, 43, 0, 0),
  (12, ⟨"RingDriveModel", "is", "(I)Z"⟩, prog_14_method_107_code, 2, (Option.some Jvm.ClassFile.FieldType.boolean), 1, 0, 0, 0, 0, 0),
  (12, ⟨"RingDriveModel", "compares", "(II)V"⟩, prog_14_method_118_code, 3, none, 2, 0, 2, 43, 0, 0),
  (12, ⟨"RingDriveModel", "takesOff", "(I)V"⟩, prog_14_method_117_code, 8, none, 1, 0, 2, 43, 0, 0),
  (12, ⟨"RingDriveModel", "twos", "(I)Z"⟩, prog_14_method_129_code, 2, (Option.some Jvm.ClassFile.FieldType.boolean), 1, 0, 5, 109, 0, 0),
  (12, ⟨"RingDriveModel", "shifted", "(II)I"⟩, prog_14_method_120_code, 4, (Option.some Jvm.ClassFile.FieldType.int), 2, 0, 2, 43, 0, 0),
  (12, ⟨"RingDriveModel", "takes2", "(I)Z"⟩, prog_14_method_127_code, 2, (Option.some Jvm.ClassFile.FieldType.boolean), 1, 0, 0, 0, 0, 0),
  (12, ⟨"RingDriveModel", "changes", "(II)V"⟩, prog_14_method_121_code, 4, none, 2, 0, 4, 86, 0, 0),
  (12, ⟨"RingDriveModel", "keeps", "(II)Z"⟩, prog_14_method_124_code, 3, (Option.some Jvm.ClassFile.FieldType.boolean), 2, 0, 4, 86, 0, 0),
  (12, ⟨"RingDriveModel", "fetches", "(II)Z"⟩, prog_14_method_123_code, 4, (Option.some Jvm.ClassFile.FieldType.boolean), 2, 0, 4, 86, 0, 0),
  (12, ⟨"RingDriveModel", "zeros", "(I)Z"⟩, prog_14_method_130_code, 2, (Option.some Jvm.ClassFile.FieldType.boolean), 1, 0, 5, 109, 0, 0),
  (12, ⟨"RingDriveModel", "branch", "(Z)V"⟩, prog_14_method_122_code, 4, none, 1, 0, 2, 42, 0, 0),
  (12, ⟨"RingDriveModel", "tests", "(I)Z"⟩, prog_14_method_126_code, 3, (Option.some Jvm.ClassFile.FieldType.boolean), 1, 0, 4, 86, 0, 0),
  (12, ⟨"RingDriveModel", "compared", "(II)Z"⟩, prog_14_method_125_code, 4, (Option.some Jvm.ClassFile.FieldType.boolean), 2, 0, 4, 86, 0, 0),
  (12, ⟨"RingDriveModel", "push", "(I)V"⟩, prog_14_method_110_code, 2, none, 1, 0, 1, 22, 0, 0),
  (12, ⟨"RingDriveModel", "pull", "()I"⟩, prog_14_method_111_code, 1, (Option.some Jvm.ClassFile.FieldType.int), 0, 0, 1, 21, 0, 0),
  (12, ⟨"RingDriveModel", "jumps", "(I)Z"⟩, prog_14_method_131_code, 4, (Option.some Jvm.ClassFile.FieldType.boolean), 1, 0, 3, 63, 0, 0),
  (12, ⟨"RingDriveModel", "opens", "(II)I"⟩, prog_14_method_48_code, 4, (Option.some Jvm.ClassFile.FieldType.int), 2, 0, 10, 254, 0, 0),
  (12, ⟨"RingDriveModel", "shuts", "(I)I"⟩, prog_14_method_57_code, 5, (Option.some Jvm.ClassFile.FieldType.int), 1, 0, 5, 123, 0, 0),
  (12, ⟨"RingDriveModel", "openMany", "()I"⟩, prog_14_method_43_code, 3, (Option.some Jvm.ClassFile.FieldType.int), 0, 0, 0, 0, 0, 0),
  (12, ⟨"RingDriveModel", "opensList", "(II)I"⟩, prog_14_method_49_code, 5, (Option.some Jvm.ClassFile.FieldType.int), 2, 0, 1, 23, 0, 0),
  (12, ⟨"RingDriveModel", "opensFile", "(II)I"⟩, prog_14_method_50_code, 10, (Option.some Jvm.ClassFile.FieldType.int), 2, 0, 9, 225, 0, 0),
  (12, ⟨"RingDriveModel", "opensNew", "(IIIIZ)I"⟩, prog_14_method_55_code, 9, (Option.some Jvm.ClassFile.FieldType.int), 5, 0, 8, 197, 0, 0),
  (12, ⟨"RingDriveModel", "makesEntry", "()I"⟩, prog_14_method_54_code, 6, (Option.some Jvm.ClassFile.FieldType.int), 0, 0, 6, 153, 0, 0),
  (12, ⟨"RingDriveModel", "lowest", "(I)I"⟩, prog_14_method_30_code, 4, (Option.some Jvm.ClassFile.FieldType.int), 1, 0, 1, 22, 0, 0),
  (12, ⟨"RingDriveModel", "takesOne", "()I"⟩, prog_14_method_32_code, 4, (Option.some Jvm.ClassFile.FieldType.int), 0, 0, 2, 45, 0, 0),
  (12, ⟨"RingDriveModel", "trackOf", "(I)I"⟩, prog_14_method_31_code, 1, (Option.some Jvm.ClassFile.FieldType.int), 1, 1, 0, 0, 0, 0),
  (12, ⟨"RingDriveModel", "clears", "(I)V"⟩, prog_14_method_56_code, 3, none, 1, 0, 0, 0, 0, 0),
  (12, ⟨"RingDriveModel", "opensOld", "(IIII)I"⟩, prog_14_method_53_code, 9, (Option.some Jvm.ClassFile.FieldType.int), 4, 0, 6, 153, 0, 0),
  (12, ⟨"RingDriveModel", "begun", "(I)V"⟩, prog_14_method_52_code, 4, none, 1, 0, 0, 0, 0, 0)]
def rx_MT_8 : List rx_M := [(12, ⟨"RingDriveModel", "close", "(I)I"⟩, prog_14_method_58_code, 4, (Option.some Jvm.ClassFile.FieldType.int), 1, 0, 6, 147, 0, 0),
  (12, ⟨"RingDriveModel", "read", "(II)I"⟩, prog_14_method_61_code, 4, (Option.some Jvm.ClassFile.FieldType.int), 2, 0, 9, 218, 0, 0),
  (12, ⟨"RingDriveModel", "givesMore", "(I)V"⟩, prog_14_method_62_code, 2, none, 1, 0, 1, 21, 0, 0),
  (12, ⟨"RingDriveModel", "gives", "(I)V"⟩, prog_14_method_60_code, 2, none, 1, 0, 0, 0, 0, 0),
  (12, ⟨"RingDriveModel", "givesStatus", "(I)V"⟩, prog_14_method_68_code, 2, none, 1, 0, 3, 66, 0, 0),
  (12, ⟨"RingDriveModel", "saysTwo", "(I)V"⟩, prog_14_method_66_code, 2, none, 1, 0, 1, 21, 0, 0),
  (12, ⟨"RingDriveModel", "says", "(I)V"⟩, prog_14_method_63_code, 2, none, 1, 0, 0, 0, 0, 0),
  (12, ⟨"RingDriveModel", "saysWords", "(I)V"⟩, prog_14_method_67_code, 2, none, 1, 0, 2, 45, 0, 0),
  (12, ⟨"RingDriveModel", "says8", "(J)V"⟩, prog_14_method_64_code, 5, none, 1, 0, 1, 21, 0, 0),
  (12, ⟨"RingDriveModel", "readsFile", "(II)I"⟩, prog_14_method_69_code, 8, (Option.some Jvm.ClassFile.FieldType.int), 2, 0, 5, 123, 0, 0),
  (12, ⟨"RingDriveModel", "readsList", "(II)I"⟩, prog_14_method_71_code, 6, (Option.some Jvm.ClassFile.FieldType.int), 2, 0, 8, 193, 0, 0),
  (12, ⟨"RingDriveModel", "title", "(I)I"⟩, prog_14_method_72_code, 4, (Option.some Jvm.ClassFile.FieldType.int), 1, 0, 6, 143, 0, 0),
  (12, ⟨"RingDriveModel", "next", "(I)I"⟩, prog_14_method_73_code, 7, (Option.some Jvm.ClassFile.FieldType.int), 1, 0, 7, 167, 0, 0),
  (12, ⟨"RingDriveModel", "entryLine", "(I)V"⟩, prog_14_method_74_code, 4, none, 1, 0, 2, 42, 0, 0),
  (12, ⟨"RingDriveModel", "saysNumber", "(I)V"⟩, prog_14_method_65_code, 2, none, 1, 0, 1, 21, 0, 0),
  (12, ⟨"RingDriveModel", "total", "(I)I"⟩, prog_14_method_75_code, 5, (Option.some Jvm.ClassFile.FieldType.int), 1, 0, 6, 143, 0, 0),
  (12, ⟨"RingDriveModel", "readsBuffer", "(II)I"⟩, prog_14_method_70_code, 4, (Option.some Jvm.ClassFile.FieldType.int), 2, 0, 1, 21, 0, 0),
  (12, ⟨"RingDriveModel", "out", "(I)I"⟩, prog_14_method_76_code, 2, (Option.some Jvm.ClassFile.FieldType.int), 1, 0, 0, 0, 0, 0),
  (12, ⟨"RingDriveModel", "write", "(II)I"⟩, prog_14_method_77_code, 5, (Option.some Jvm.ClassFile.FieldType.int), 2, 0, 11, 269, 0, 0),
  (12, ⟨"RingDriveModel", "writesByte", "(II)I"⟩, prog_14_method_78_code, 4, (Option.some Jvm.ClassFile.FieldType.int), 2, 0, 8, 197, 0, 0),
  (12, ⟨"RingDriveModel", "goesOn", "(I)I"⟩, prog_14_method_79_code, 5, (Option.some Jvm.ClassFile.FieldType.int), 1, 0, 7, 173, 0, 0),
  (12, ⟨"RingDriveModel", "takesNext", "(II)I"⟩, prog_14_method_33_code, 6, (Option.some Jvm.ClassFile.FieldType.int), 2, 0, 3, 68, 0, 0),
  (12, ⟨"RingDriveModel", "isFull", "(I)I"⟩, prog_14_method_80_code, 6, (Option.some Jvm.ClassFile.FieldType.int), 1, 0, 6, 148, 0, 0),
  (12, ⟨"RingDriveModel", "look", "(I)I"⟩, prog_14_method_132_code, 2, (Option.some Jvm.ClassFile.FieldType.int), 1, 0, 1, 22, 0, 0),
  (12, ⟨"RingDriveModel", "bits", "(II)I"⟩, prog_14_method_134_code, 6, (Option.some Jvm.ClassFile.FieldType.int), 2, 0, 2, 41, 0, 0),
  (12, ⟨"RingDriveModel", "isBit", "(II)Z"⟩, prog_14_method_133_code, 2, (Option.some Jvm.ClassFile.FieldType.boolean), 2, 1, 1, 20, 0, 0),
  (12, ⟨"RingDriveModel", "turn", "(III)Z"⟩, prog_14_method_135_code, 7, (Option.some Jvm.ClassFile.FieldType.boolean), 3, 0, 2, 41, 0, 0),
  (12, ⟨"RingDriveModel", "protect", "(Z)V"⟩, prog_14_method_136_code, 2, none, 1, 0, 0, 0, 0, 0),
  (12, ⟨"RingDriveModel", "memory", "(I)I"⟩, prog_14_method_137_code, 2, (Option.some Jvm.ClassFile.FieldType.int), 1, 0, 0, 0, 0, 0),
  (12, ⟨"RingDriveModel", "power", "()V"⟩, prog_14_method_138_code, 2, none, 0, 0, 1, 23, 0, 0),
  (12, ⟨"RingDriveModel", "<init>", "()V"⟩, prog_14_method_139_code, 1, none, 0, 2, 1, 20, 39, 18895)]
def rx_MT : List rx_M := rx_MT_0 ++ rx_MT_1 ++ rx_MT_2 ++ rx_MT_3 ++ rx_MT_4 ++ rx_MT_5 ++ rx_MT_6 ++ rx_MT_7 ++ rx_MT_8
def rx_ME_0 : List (Nat × Nat × Nat × Nat) := [(1025, 1024, 1001, 0), (1033, 1032, 1002, 0), (1056, 1055, 1003, 0), (1100, 1099, 1004, 0), (1111, 1110, 1005, 0), (1183, 1182, 1007, 0), (1227, 1226, 1008, 0), (1235, 1234, 1009, 0), (2008, 2007, 1010, 0), (2032, 2031, 1011, 0), (2071, 2070, 1012, 0), (2187, 2186, 1013, 0), (2194, 2192, 1009, 2193), (3017, 3015, 1001, 3016), (3021, 3019, 1002, 3020), (3025, 3023, 1001, 3024), (3029, 3028, 1001, 21000), (3032, 3031, 1001, 0), (3036, 3034, 1002, 3035), (3040, 3038, 1002, 3039), (3044, 3042, 1013, 3043), (3048, 3046, 1003, 3047), (3052, 3050, 1003, 3051), (3057, 3055, 1002, 3056), (3061, 3060, 1013, 21001), (3065, 3063, 1002, 3064), (3070, 3068, 1009, 3069), (3076, 3074, 1009, 3075), (3080, 3078, 1009, 3079), (3084, 3083, 1013, 21002), (3088, 3086, 1008, 3087), (3092, 3090, 1004, 3091), (3096, 3094, 1004, 3095), (3101, 3099, 1005, 3100), (3105, 3104, 1004, 21003), (3108, 3107, 1004, 0), (3114, 3113, 1004, 21004), (3118, 3116, 1005, 3117), (3122, 3120, 1005, 3121), (3126, 3124, 1005, 3125)]
def rx_ME_1 : List (Nat × Nat × Nat × Nat) := [(3130, 3128, 1005, 3129), (3135, 3133, 1004, 3134), (3139, 3137, 1004, 3138), (3143, 3141, 1004, 3142), (3147, 3145, 1004, 3146), (3151, 3149, 1005, 3150), (3155, 3153, 1005, 3154), (3159, 3157, 1005, 3158), (3164, 3162, 1005, 3163), (3167, 3166, 1004, 0), (3173, 3172, 1004, 21005), (3178, 3176, 1010, 3177), (3181, 3180, 1015, 0), (3185, 3183, 1010, 3184), (3188, 3187, 1004, 0), (3192, 3190, 1010, 3191), (3195, 3194, 1004, 0), (3199, 3197, 1009, 3198), (3203, 3202, 1009, 21006), (3207, 3205, 1010, 3206), (3211, 3209, 1004, 3210), (3216, 3215, 1004, 21007), (3220, 3218, 1005, 3219), (3224, 3222, 1005, 3223), (3229, 3227, 1005, 3228), (3232, 3231, 1004, 0), (3236, 3234, 1011, 3235), (4002, 4001, 1013, 21008), (4006, 4004, 1011, 4005), (4010, 4008, 1011, 4009), (4014, 4012, 1011, 4013), (4018, 4016, 1004, 4017), (4022, 4021, 1004, 21009), (4029, 4028, 1011, 21010), (4033, 4032, 1011, 21011), (4037, 4035, 1011, 4036), (4041, 4039, 1009, 4040), (4045, 4043, 1009, 4044), (4049, 4047, 1011, 4048), (4053, 4051, 1011, 4052)]
def rx_ME_2 : List (Nat × Nat × Nat × Nat) := [(4059, 4057, 1008, 4058), (4063, 4061, 1010, 4062), (4068, 4066, 1011, 4067), (4072, 4070, 1011, 4071), (4076, 4075, 1008, 21012), (4082, 4080, 1010, 4081), (4088, 4086, 1011, 4087), (4092, 4091, 1013, 21013), (4096, 4094, 1011, 4095), (4101, 4100, 1013, 21014), (4106, 4105, 1013, 21015), (4110, 4109, 1013, 22000), (4116, 4115, 1013, 22001), (4122, 4120, 1011, 4121), (4128, 4127, 1013, 22002), (4132, 4130, 1010, 4131), (4137, 4136, 1013, 22003), (4141, 4140, 1013, 22004), (4145, 4143, 1002, 4144), (4150, 4148, 1002, 4149), (4154, 4153, 1002, 0), (4158, 4156, 1008, 4157), (4163, 4162, 1013, 22005), (4168, 4167, 1013, 22006), (4172, 4171, 1013, 22007), (4176, 4175, 1013, 22008), (4180, 4179, 1013, 22009), (4186, 4185, 1013, 22010), (4190, 4189, 1013, 22011), (4195, 4193, 1007, 4194), (4199, 4197, 1007, 4198), (4203, 4201, 1003, 4202), (4207, 4205, 1007, 4206), (4211, 4210, 1007, 22012), (4222, 4221, 1007, 22013), (4226, 4225, 1007, 22014), (4230, 4229, 1007, 22015), (4234, 4233, 1007, 23000), (4238, 4237, 1007, 23001), (5003, 5002, 1007, 23002)]
def rx_ME_3 : List (Nat × Nat × Nat × Nat) := [(5007, 5006, 1007, 23003), (5011, 5010, 1007, 23004), (5015, 5014, 1007, 23005), (5019, 5018, 1007, 23006), (5023, 5022, 1007, 23007), (5027, 5026, 1007, 23008), (5031, 5030, 1007, 23009), (5035, 5034, 1007, 23010), (5040, 5039, 1007, 23011), (5044, 5043, 1007, 23012), (5048, 5047, 1007, 23013), (5052, 5051, 1007, 23014), (5056, 5055, 1007, 23015), (5060, 5059, 1007, 24000), (5064, 5063, 1007, 24001), (5068, 5067, 1007, 24002), (5074, 5072, 1008, 5073), (5078, 5076, 1008, 5077), (5083, 5082, 1008, 24003), (5088, 5086, 1011, 5087), (5092, 5090, 1008, 5091), (5097, 5096, 1008, 24004), (5101, 5099, 1012, 5100), (5106, 5105, 1008, 24005), (5113, 5111, 1009, 5112), (5118, 5117, 1008, 24006), (5123, 5122, 1008, 24007), (5127, 5126, 1008, 24008), (5132, 5131, 1008, 24009), (5140, 5138, 1012, 5139), (5147, 5146, 1008, 24010), (5152, 5151, 1008, 24011), (5157, 5155, 1010, 5156), (5161, 5160, 1010, 24012), (5167, 5165, 1011, 5166), (5171, 5170, 1008, 24013), (5175, 5173, 1010, 5174), (5181, 5179, 1011, 5180), (5185, 5183, 1012, 5184), (5189, 5187, 1012, 5188)]
def rx_ME_4 : List (Nat × Nat × Nat × Nat) := [(5193, 5191, 1001, 5192), (5197, 5195, 1008, 5196), (5201, 5200, 1008, 24014), (5205, 5203, 1010, 5204), (5210, 5209, 1008, 24015), (5214, 5213, 1008, 25000), (5218, 5216, 1001, 5217), (5222, 5220, 1008, 5221), (5228, 5226, 1001, 5227), (5232, 5230, 1003, 5231), (5236, 5235, 1003, 25001), (6000, 5239, 1003, 25002), (6004, 6003, 1003, 25003), (6008, 6007, 1003, 25004), (6012, 6011, 1003, 25005), (6016, 6015, 1003, 25006), (6039, 6037, 1017, 6038), (6043, 6041, 1017, 6042), (6049, 6047, 1017, 6048), (6053, 6051, 1017, 6052), (6056, 6055, 1018, 0), (6059, 6058, 1017, 0), (6064, 6063, 1019, 0), (6067, 6066, 1020, 0), (6070, 6069, 1020, 0), (6073, 6072, 1020, 0), (6077, 6076, 1020, 0), (6087, 6085, 1008, 6086), (6091, 6090, 1008, 25007), (6095, 6094, 1008, 25008), (6099, 6097, 1012, 6098), (6103, 6102, 1008, 25009), (6107, 6105, 1012, 6106), (6111, 6110, 1008, 25010), (6115, 6113, 1011, 6114), (6119, 6117, 1012, 6118), (6124, 6122, 1011, 6123), (6130, 6129, 1008, 25011), (6134, 6132, 1010, 6133), (6138, 6137, 1008, 25012)]
def rx_ME_5 : List (Nat × Nat × Nat × Nat) := [(6143, 6141, 1001, 6142), (6147, 6145, 1001, 6146), (6152, 6150, 1001, 6151), (6157, 6155, 1005, 6156), (6161, 6159, 1005, 6160), (6165, 6164, 1005, 25013), (6169, 6167, 1001, 6168), (6173, 6171, 1005, 6172), (6177, 6175, 1001, 6176), (6181, 6179, 1001, 6180), (6187, 6185, 1007, 6186), (6192, 6190, 1001, 6191), (6197, 6195, 1014, 6196), (6202, 6200, 1014, 25014), (6206, 6204, 1014, 6205), (6210, 6209, 1014, 25015), (6214, 6213, 1014, 26000), (6218, 6217, 1014, 26001), (6222, 6221, 1014, 26002), (6226, 6225, 1014, 26003), (6230, 6229, 1014, 26004), (6234, 6233, 1014, 26005), (6238, 6237, 1014, 26006), (7002, 7001, 1014, 26007), (7006, 7005, 1014, 26008), (7009, 7008, 1014, 0), (7013, 7012, 1014, 26009), (7017, 7016, 1014, 26010), (7021, 7020, 1014, 26011), (7025, 7024, 1014, 26012), (7029, 7028, 1014, 26013), (7033, 7032, 1014, 26014), (7036, 7035, 1014, 0), (7039, 7038, 1014, 0), (7043, 7042, 1014, 26015), (7047, 7046, 1014, 27000), (7051, 7050, 1014, 27001), (7055, 7054, 1014, 27002), (7059, 7058, 1014, 27003), (7063, 7062, 1014, 27004)]
def rx_ME_6 : List (Nat × Nat × Nat × Nat) := [(7067, 7066, 1014, 27005), (7071, 7070, 1014, 27006), (7074, 7073, 1014, 0), (7078, 7077, 1014, 27007), (7081, 7080, 1014, 0), (7085, 7084, 1014, 27008), (7089, 7088, 1014, 27009), (7093, 7092, 1014, 27010), (7097, 7096, 1014, 27011), (7101, 7100, 1014, 27012), (7105, 7104, 1014, 27013), (7109, 7108, 1014, 27014), (7113, 7112, 1014, 27015), (7117, 7116, 1014, 28000), (7121, 7120, 1014, 28001), (7125, 7124, 1014, 28002), (7129, 7128, 1014, 28003), (7133, 7132, 1014, 28004), (7137, 7136, 1014, 28005), (7141, 7140, 1014, 28006), (7145, 7144, 1014, 28007), (7149, 7148, 1014, 28008), (7152, 7151, 1014, 0), (7155, 7154, 1014, 0), (7159, 7158, 1014, 28009), (7163, 7162, 1014, 28010), (7167, 7166, 1014, 28011), (7171, 7170, 1014, 28012), (7175, 7174, 1014, 28013), (7179, 7178, 1014, 28014), (7183, 7182, 1014, 28015), (7186, 7185, 1014, 0), (7190, 7189, 1014, 29000), (7194, 7193, 1014, 29001), (7198, 7197, 1014, 29002), (7202, 7201, 1014, 29003), (7206, 7205, 1014, 29004), (7210, 7209, 1014, 29005), (7214, 7213, 1014, 29006), (7218, 7217, 1014, 29007)]
def rx_ME_7 : List (Nat × Nat × Nat × Nat) := [(7222, 7221, 1014, 29008), (7226, 7225, 1014, 29009), (7229, 7228, 1014, 0), (7233, 7232, 1014, 29010), (7237, 7236, 1014, 29011), (8001, 8000, 1014, 29012), (8004, 8003, 1014, 0), (8008, 8007, 1014, 29013), (8012, 8011, 1014, 29014), (8016, 8015, 1014, 29015), (8020, 8019, 1014, 30000), (8024, 8023, 1014, 30001), (8028, 8027, 1014, 30002), (8032, 8031, 1014, 30003), (8036, 8035, 1014, 30004), (8040, 8039, 1014, 30005), (8044, 8043, 1014, 30006), (8048, 8047, 1014, 30007), (8052, 8051, 1014, 30008), (8056, 8055, 1014, 30009), (8060, 8059, 1014, 30010), (8064, 8063, 1014, 30011), (8068, 8067, 1014, 30012), (8072, 8071, 1014, 30013), (8076, 8075, 1014, 30014), (8080, 8079, 1014, 30015), (8084, 8083, 1014, 31000), (8088, 8087, 1014, 31001), (8092, 8091, 1014, 31002), (8096, 8095, 1014, 31003), (8100, 8099, 1014, 31004), (8104, 8103, 1014, 31005), (8108, 8107, 1014, 31006), (8112, 8111, 1014, 31007), (8116, 8115, 1014, 31008), (8120, 8119, 1014, 31009), (8123, 8122, 1014, 0), (8127, 8126, 1014, 31010), (8131, 8130, 1014, 31011), (8135, 8134, 1014, 31012)]
def rx_ME_8 : List (Nat × Nat × Nat × Nat) := [(8139, 8137, 1014, 8138), (8143, 8141, 1014, 8142), (8147, 8146, 1014, 31013), (8151, 8150, 1014, 31014), (8155, 8154, 1014, 31015), (8159, 8158, 1014, 32000), (8163, 8162, 1014, 32001), (8167, 8166, 1014, 32002), (8172, 8171, 1014, 32003), (8213, 8212, 1014, 32004), (8217, 8216, 1014, 32005), (8221, 8220, 1014, 32006), (8225, 8224, 1014, 32007), (8229, 8228, 1014, 32008), (8233, 8232, 1014, 32009), (8237, 8236, 1014, 32010), (9002, 9001, 1014, 32011), (9006, 9004, 1014, 9005), (9010, 9008, 1014, 9009), (9014, 9013, 1014, 32012), (9018, 9017, 1014, 32013), (9022, 9021, 1014, 32014), (9026, 9025, 1014, 32015), (9030, 9028, 1014, 9029), (9034, 9032, 1014, 9033), (9037, 9036, 1014, 0), (9041, 9039, 1014, 9040), (9045, 9043, 1014, 9044), (9049, 9047, 1014, 9048), (9053, 9051, 1014, 9052), (9057, 9056, 1014, 0)]
def rx_MEs : Nat := 9
/-- links to methods: class, entry; method, whether by the nest; the place of its word -/
def rx_MLs : List ((Nat × Nat) × (Nat × Bool) × Nat) := [((13, 9), (0, false), 1023), ((11, 25), (3, false), 1098), ((4, 50), (4, false), 1109), ((11, 41), (6, false), 1225), ((5, 44), (8, false), 2006), ((5, 53), (9, false), 2030), ((11, 50), (11, false), 2185), ((2, 59), (12, false), 2191), ((13, 13), (13, false), 3014), ((11, 72), (14, false), 3018), ((13, 18), (15, false), 3022), ((11, 76), (16, false), 3026), ((11, 101), (17, false), 3030), ((11, 189), (18, false), 3033), ((11, 192), (19, false), 3037), ((11, 80), (20, false), 3041), ((2, 68), (21, false), 3045), ((9, 22), (22, false), 3049), ((2, 73), (22, false), 3053), ((2, 77), (23, false), 3054), ((2, 81), (24, false), 3058), ((2, 109), (25, false), 3062), ((2, 113), (26, false), 3067), ((6, 23), (23, false), 3072), ((2, 117), (27, false), 3073), ((2, 121), (28, false), 3077), ((2, 124), (29, false), 3081), ((2, 148), (30, false), 3085), ((2, 151), (31, false), 3089), ((4, 94), (32, false), 3093), ((4, 88), (22, false), 3097), ((4, 72), (33, false), 3098), ((4, 125), (34, false), 3102), ((4, 144), (35, false), 3106), ((4, 140), (36, false), 3111), ((4, 131), (37, false), 3115), ((8, 32), (38, false), 3119), ((4, 148), (39, false), 3123), ((4, 151), (40, false), 3127), ((8, 39), (39, false), 3131), ((2, 154), (41, false), 3132), ((2, 127), (42, false), 3136), ((2, 132), (43, false), 3140), ((4, 53), (44, false), 3144), ((4, 56), (45, false), 3148), ((4, 60), (46, false), 3152), ((4, 64), (47, false), 3156), ((4, 68), (42, false), 3160), ((4, 75), (48, false), 3161), ((4, 78), (49, false), 3165), ((4, 82), (50, false), 3170), ((4, 85), (41, false), 3174), ((2, 135), (51, false), 3175), ((0, 26), (52, false), 3179), ((0, 32), (53, false), 3182), ((0, 51), (54, false), 3186), ((0, 35), (55, false), 3189), ((0, 58), (56, false), 3193), ((0, 39), (57, false), 3196), ((6, 35), (58, false), 3200), ((2, 140), (59, false), 3204), ((0, 23), (60, false), 3208), ((4, 98), (43, false), 3212), ((4, 104), (61, false), 3213), ((4, 157), (62, false), 3217), ((4, 128), (63, false), 3221), ((8, 56), (48, false), 3225), ((4, 108), (64, false), 3226), ((4, 134), (65, false), 3230), ((2, 143), (66, false), 3233), ((3, 99), (52, false), 3237), ((3, 88), (60, false), 3238), ((2, 85), (67, false), 3239), ((2, 158), (68, false), 4003), ((3, 23), (69, false), 4007), ((2, 161), (70, false), 4011), ((3, 47), (71, false), 4015), ((4, 112), (72, false), 4019), ((3, 51), (73, false), 4026), ((3, 72), (74, false), 4030), ((3, 76), (75, false), 4034), ((3, 79), (76, false), 4038), ((3, 85), (77, false), 4042), ((3, 55), (78, false), 4046), ((3, 69), (79, false), 4050), ((3, 59), (56, false), 4054), ((3, 63), (22, false), 4055), ((2, 168), (80, false), 4056), ((5, 231), (81, false), 4060), ((0, 19), (71, false), 4064), ((5, 206), (82, false), 4065), ((5, 209), (83, false), 4069), ((5, 234), (84, false), 4073), ((5, 212), (56, false), 4077), ((5, 116), (22, false), 4078), ((5, 245), (85, false), 4079), ((5, 216), (71, false), 4083), ((5, 239), (59, false), 4084), ((5, 242), (86, false), 4085), ((2, 88), (87, false), 4089), ((2, 171), (88, false), 4093), ((3, 91), (57, false), 4097), ((2, 91), (89, false), 4098), ((2, 175), (81, false), 4102), ((2, 94), (90, false), 4103), ((2, 97), (91, false), 4107), ((2, 178), (53, false), 4111), ((2, 181), (55, false), 4112), ((2, 184), (92, false), 4113), ((2, 202), (56, false), 4117), ((2, 210), (71, false), 4118), ((2, 187), (93, false), 4119), ((2, 190), (82, false), 4123), ((2, 193), (83, false), 4124), ((2, 196), (94, false), 4125), ((2, 214), (95, false), 4129), ((2, 199), (86, false), 4133), ((2, 100), (96, false), 4134), ((2, 217), (97, false), 4138), ((2, 227), (98, false), 4142), ((10, 28), (25, false), 4146), ((2, 230), (99, false), 4147), ((10, 34), (23, false), 4151), ((10, 38), (100, false), 4152), ((2, 233), (101, false), 4155), ((2, 240), (60, false), 4159), ((2, 221), (102, false), 4160), ((2, 224), (44, false), 4164), ((2, 103), (103, false), 4165), ((2, 246), (104, false), 4169), ((2, 249), (105, false), 4173), ((2, 252), (106, false), 4177), ((2, 258), (54, false), 4181), ((2, 255), (85, false), 4182), ((2, 106), (107, false), 4183), ((2, 261), (108, false), 4187), ((2, 264), (109, false), 4192), ((2, 268), (110, false), 4196), ((2, 271), (111, false), 4200), ((2, 275), (112, false), 4204), ((7, 19), (113, false), 4208), ((7, 45), (110, false), 4212), ((7, 58), (114, false), 4219), ((7, 94), (115, false), 4223), ((7, 98), (116, false), 4227), ((7, 101), (117, false), 4231), ((7, 104), (118, false), 4235), ((7, 61), (119, false), 5000), ((7, 72), (120, false), 5004), ((7, 108), (121, false), 5008), ((7, 111), (122, false), 5012), ((7, 123), (123, false), 5016), ((7, 127), (124, false), 5020), ((7, 117), (125, false), 5024), ((7, 114), (126, false), 5028), ((7, 120), (127, false), 5032), ((7, 75), (109, false), 5036), ((7, 78), (128, false), 5037), ((7, 82), (129, false), 5041), ((7, 85), (130, false), 5045), ((7, 88), (131, false), 5049), ((7, 91), (132, false), 5053), ((7, 133), (133, false), 5057), ((7, 130), (134, false), 5061), ((7, 136), (135, false), 5065), ((11, 87), (21, false), 5069), ((11, 90), (22, false), 5070), ((11, 94), (136, false), 5071), ((5, 65), (137, false), 5075), ((5, 82), (60, false), 5079), ((5, 86), (138, false), 5080), ((5, 108), (69, false), 5084), ((5, 93), (139, false), 5085), ((5, 112), (140, false), 5089), ((5, 122), (23, false), 5093), ((5, 127), (141, false), 5094), ((5, 149), (142, false), 5098), ((1, 26), (52, false), 5102), ((5, 131), (143, false), 5103), ((5, 153), (26, false), 5107), ((5, 157), (27, false), 5108), ((5, 161), (12, false), 5109), ((5, 167), (144, false), 5110), ((5, 134), (145, false), 5115), ((5, 175), (25, false), 5119), ((5, 179), (146, false), 5120), ((5, 185), (147, false), 5124), ((5, 188), (28, false), 5128), ((5, 140), (148, false), 5129), ((5, 191), (68, false), 5133), ((5, 194), (70, false), 5134), ((5, 200), (93, false), 5135), ((5, 203), (75, false), 5136), ((5, 219), (149, false), 5137), ((5, 143), (150, false), 5144), ((5, 222), (80, false), 5148), ((5, 225), (151, false), 5149), ((5, 249), (79, false), 5153), ((5, 252), (152, false), 5154), ((0, 62), (153, false), 5158), ((0, 69), (95, false), 5162), ((5, 257), (66, false), 5163), ((5, 260), (154, false), 5164), ((5, 228), (155, false), 5168), ((5, 263), (156, false), 5172), ((5, 266), (157, false), 5178), ((5, 270), (158, false), 5182), ((5, 277), (159, false), 5186), ((13, 23), (160, false), 5190), ((11, 98), (161, false), 5194), ((5, 337), (162, false), 5198), ((5, 341), (163, false), 5202), ((0, 65), (156, false), 5206), ((5, 344), (164, false), 5207), ((5, 347), (165, false), 5211), ((13, 27), (166, false), 5215), ((11, 105), (167, false), 5219), ((5, 69), (30, false), 5223), ((11, 108), (137, false), 5224), ((13, 32), (168, false), 5225), ((11, 111), (169, false), 5229), ((9, 48), (170, false), 5233), ((9, 52), (171, false), 5237), ((9, 55), (172, false), 6001), ((9, 58), (173, false), 6005), ((9, 62), (174, false), 6009), ((9, 65), (175, false), 6013), ((9, 69), (176, false), 6036), ((16, 335), (177, false), 6040), ((9, 73), (178, false), 6046), ((16, 492), (179, false), 6050), ((16, 495), (180, false), 6054), ((17, 9), (181, false), 6057), ((16, 1059), (182, false), 6062), ((16, 498), (183, false), 6065), ((18, 67), (184, false), 6068), ((18, 48), (185, false), 6071), ((18, 414), (181, false), 6074), ((18, 71), (186, false), 6075), ((11, 118), (187, false), 6084), ((5, 284), (188, false), 6088), ((5, 293), (189, false), 6092), ((5, 299), (190, false), 6096), ((5, 305), (191, false), 6100), ((5, 314), (192, false), 6104), ((5, 308), (193, false), 6108), ((5, 318), (194, false), 6112), ((5, 320), (195, false), 6116), ((1, 77), (192, false), 6120), ((5, 323), (196, false), 6121), ((5, 328), (178, false), 6126), ((5, 311), (197, false), 6127), ((5, 334), (198, false), 6131), ((5, 296), (199, false), 6135), ((13, 36), (200, false), 6140), ((13, 40), (201, false), 6144), ((11, 134), (140, false), 6148), ((13, 44), (202, false), 6149), ((11, 158), (32, false), 6153), ((11, 162), (203, false), 6154), ((11, 167), (204, false), 6158), ((8, 28), (205, false), 6162), ((13, 48), (206, false), 6166), ((11, 170), (207, false), 6170), ((13, 53), (208, false), 6174), ((13, 58), (209, false), 6178), ((11, 177), (30, false), 6182), ((11, 180), (44, false), 6183), ((11, 183), (210, false), 6184), ((7, 13), (52, false), 6188), ((13, 62), (211, false), 6189), ((11, 186), (110, false), 6193), ((13, 17), (212, false), 6194), ((12, 257), (213, false), 6198), ((13, 22), (214, false), 6203), ((12, 263), (215, false), 6207), ((12, 266), (216, false), 6211), ((12, 269), (217, false), 6215), ((12, 239), (218, false), 6219), ((12, 113), (219, false), 6223), ((12, 272), (220, false), 6227), ((12, 537), (221, false), 6231), ((12, 540), (222, false), 6235), ((12, 107), (223, false), 6239), ((12, 87), (224, false), 7003), ((12, 21), (225, false), 7007), ((12, 46), (226, false), 7010), ((12, 60), (227, false), 7014), ((12, 56), (228, false), 7018), ((12, 100), (229, false), 7022), ((12, 121), (230, false), 7026), ((12, 77), (231, false), 7030), ((12, 80), (232, false), 7034), ((12, 68), (233, false), 7037), ((12, 180), (234, false), 7040), ((12, 148), (235, false), 7044), ((12, 110), (236, false), 7048), ((12, 96), (237, false), 7052), ((12, 83), (238, false), 7056), ((12, 117), (239, false), 7060), ((12, 543), (240, false), 7064), ((12, 584), (241, false), 7068), ((12, 1), (242, false), 7072), ((12, 174), (243, false), 7075), ((12, 161), (244, false), 7079), ((12, 165), (245, false), 7082), ((12, 590), (246, false), 7086), ((12, 593), (247, false), 7090), ((12, 223), (248, false), 7094), ((12, 152), (249, false), 7098), ((12, 134), (250, false), 7102), ((12, 128), (251, false), 7106), ((12, 138), (252, false), 7110), ((12, 596), (253, false), 7114), ((12, 189), (254, false), 7118), ((12, 546), (255, false), 7122), ((12, 549), (256, false), 7126), ((12, 332), (257, false), 7130), ((12, 578), (258, false), 7134), ((12, 581), (259, false), 7138), ((12, 552), (260, false), 7142), ((12, 325), (261, false), 7146), ((12, 204), (262, false), 7150), ((12, 208), (263, false), 7153), ((12, 335), (264, false), 7156), ((12, 220), (265, false), 7160), ((12, 183), (266, false), 7164), ((12, 555), (267, false), 7168), ((12, 558), (268, false), 7172), ((12, 608), (269, false), 7176), ((12, 611), (270, false), 7180), ((12, 605), (271, false), 7184), ((12, 562), (272, false), 7187), ((12, 566), (273, false), 7191), ((12, 569), (274, false), 7195), ((12, 572), (275, false), 7199), ((12, 575), (276, false), 7203), ((12, 617), (277, false), 7207), ((12, 620), (278, false), 7211), ((12, 623), (279, false), 7215), ((12, 650), (280, false), 7219), ((12, 696), (281, false), 7223), ((12, 672), (282, false), 7227), ((12, 675), (283, false), 7230), ((12, 653), (284, false), 7234), ((12, 663), (285, false), 7238), ((12, 678), (286, false), 8002), ((12, 681), (287, false), 8005), ((12, 669), (288, false), 8009), ((12, 656), (289, false), 8013), ((12, 684), (290, false), 8017), ((12, 666), (291, false), 8021), ((12, 687), (292, false), 8025), ((12, 690), (293, false), 8029), ((12, 699), (294, false), 8033), ((12, 693), (295, false), 8037), ((12, 704), (296, false), 8041), ((12, 707), (297, false), 8045), ((12, 710), (298, false), 8049), ((12, 713), (299, false), 8053), ((12, 702), (300, false), 8057), ((12, 716), (301, false), 8061), ((12, 720), (302, false), 8065), ((12, 723), (303, false), 8069), ((12, 726), (304, false), 8073), ((12, 729), (305, false), 8077), ((12, 732), (306, false), 8081), ((12, 275), (307, false), 8085), ((12, 278), (308, false), 8089), ((12, 281), (309, false), 8093), ((12, 290), (310, false), 8097), ((12, 293), (311, false), 8101), ((12, 311), (312, false), 8105), ((12, 338), (313, false), 8109), ((12, 171), (314, false), 8113), ((12, 177), (315, false), 8117), ((12, 168), (316, false), 8121), ((12, 365), (317, false), 8124), ((12, 315), (318, false), 8128), ((12, 329), (319, false), 8132), ((13, 31), (320, false), 8136), ((13, 35), (321, false), 8140), ((12, 377), (322, false), 8144), ((12, 395), (323, false), 8148), ((12, 380), (324, false), 8152), ((12, 487), (325, false), 8156), ((12, 406), (326, false), 8160), ((12, 490), (327, false), 8164), ((12, 411), (328, false), 8169), ((12, 383), (329, false), 8210), ((12, 386), (330, false), 8214), ((12, 496), (331, false), 8218), ((12, 499), (332, false), 8222), ((12, 514), (333, false), 8226), ((12, 520), (334, false), 8230), ((12, 517), (335, false), 8234), ((12, 389), (336, false), 8239), ((13, 39), (337, false), 9003), ((13, 26), (338, false), 9007), ((12, 525), (339, false), 9011), ((12, 528), (340, false), 9015), ((12, 531), (341, false), 9019), ((12, 534), (342, false), 9023), ((13, 43), (343, false), 9027), ((13, 47), (344, false), 9031), ((12, 735), (345, false), 9035), ((13, 52), (346, false), 9038), ((13, 57), (347, false), 9042), ((13, 65), (348, false), 9046), ((13, 61), (349, false), 9050), ((13, 12), (350, false), 9055), ((11, 9), (1, true), 1031), ((11, 18), (2, true), 1054), ((11, 34), (5, true), 1181), ((5, 25), (7, true), 1233), ((5, 60), (10, true), 2069), ((1, 21), (7, true), 2074), ((2, 11), (7, true), 2190)]
def rx_host : String := "RingDrive"
def rx_OLs : List ((Nat × Nat) × Nat) := [((11, 1), 1026), ((10, 3), 1034), ((9, 3), 1057), ((4, 3), 1101), ((8, 3), 1112), ((7, 3), 1184), ((5, 3), 1228), ((6, 1), 1236), ((0, 1), 2009), ((3, 1), 2033), ((1, 1), 2072), ((2, 3), 2188), ((12, 738), 9058)]
def rx_YLs : List ((Nat × Nat) × Nat) := [((4, 115), 4023), ((6, 29), 5114)]
def rx_ciM : rx_M := (16, ⟨"java/lang/String", "checkIndex", "(II)V"⟩, prog_16_method_155_code, 2, none, 2, 1, 1, 22, 0, 0)
def rx_pcM : rx_M := (20, ⟨"jdk/internal/util/Preconditions", "checkIndex", "(IILjava/util/function/BiFunction;)I"⟩, prog_21_method_11_code, 3, (Option.some Jvm.ClassFile.FieldType.int), 3, 1, 0, 0, 0, 0)
/-- links to String.checkIndex -/
def rx_XLs : List ((Nat × Nat) × Nat) := [((17, 9), 6057), ((18, 414), 6074)]
/-- within String.checkIndex: the entries of the static and of the call -/
def rx_cii : Nat × Nat := (1053, 1059)
/-- links to Math.max (0), Math.min (1) -/
def rx_JLs : List ((Nat × Nat) × Nat × Nat) := [((8, 9), 0, 1113), ((10, 22), 0, 3066), ((6, 13), 0, 3071), ((2, 278), 0, 4191), ((1, 71), 1, 5141)]
def rx_cf : List (Nat → FieldType) := [tyX0, tyX1, tyX2, tyX3, tyX4, tyX5, tyX6, tyX7, tyX8, tyX9, tyX10, tyX11, tyX12]
