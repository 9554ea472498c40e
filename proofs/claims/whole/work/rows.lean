section
-- ===== PART A: goes FIRST, ahead of the names: the tables' words, and 'selects' of the private methods out of them =====
/-- a private method of a class that the tables say can be made, by its rows of tables_1 -/
def lw_okq (q : MethodName × Nat) : Prop := (q.1.cls ≠ "java/lang/invoke/MethodHandle" ∧ q.1.cls ≠ "java/lang/invoke/VarHandle") ∧ Cond.instantiable q.1.cls q.2 ∈ tables_1 ∧ Cond.privateMethod q.1 ∈ tables_1 ∧ Cond.instanceMethod q.1 ∈ tables_1
theorem lw_p0 : lw_okq (⟨"RingDrive", "sendText", "(II)Z"⟩, 9) := ⟨⟨by decide +kernel, by decide +kernel⟩, List.mem_of_getElem? (i := 22) (by decide +kernel), List.mem_of_getElem? (i := 507) (by decide +kernel), List.mem_of_getElem? (i := 508) (by decide +kernel)⟩
theorem lw_p1 : lw_okq (⟨"RingDrive$Commands", "newDisk", "()I"⟩, 10) := ⟨⟨by decide +kernel, by decide +kernel⟩, List.mem_of_getElem? (i := 424) (by decide +kernel), List.mem_of_getElem? (i := 539) (by decide +kernel), List.mem_of_getElem? (i := 540) (by decide +kernel)⟩
theorem lw_p2 : lw_okq (⟨"RingDrive$Commands", "formatAll", "(II)I"⟩, 10) := ⟨⟨by decide +kernel, by decide +kernel⟩, List.mem_of_getElem? (i := 424) (by decide +kernel), List.mem_of_getElem? (i := 562) (by decide +kernel), List.mem_of_getElem? (i := 563) (by decide +kernel)⟩
theorem lw_p3 : lw_okq (⟨"RingDrive$Disk", "codeData", "([I)V"⟩, 10) := ⟨⟨by decide +kernel, by decide +kernel⟩, List.mem_of_getElem? (i := 97) (by decide +kernel), List.mem_of_getElem? (i := 583) (by decide +kernel), List.mem_of_getElem? (i := 584) (by decide +kernel)⟩
theorem lw_p4 : lw_okq (⟨"RingDrive$Disk", "fillHeader", "(IIII)V"⟩, 10) := ⟨⟨by decide +kernel, by decide +kernel⟩, List.mem_of_getElem? (i := 97) (by decide +kernel), List.mem_of_getElem? (i := 592) (by decide +kernel), List.mem_of_getElem? (i := 593) (by decide +kernel)⟩
theorem lw_p5 : lw_okq (⟨"RingDrive$Disk", "isHeader", "()Z"⟩, 10) := ⟨⟨by decide +kernel, by decide +kernel⟩, List.mem_of_getElem? (i := 97) (by decide +kernel), List.mem_of_getElem? (i := 651) (by decide +kernel), List.mem_of_getElem? (i := 652) (by decide +kernel)⟩
theorem lw_p6 : lw_okq (⟨"RingDrive$Disk", "seek", "(LRingDrive$Ring;II)I"⟩, 10) := ⟨⟨by decide +kernel, by decide +kernel⟩, List.mem_of_getElem? (i := 97) (by decide +kernel), List.mem_of_getElem? (i := 690) (by decide +kernel), List.mem_of_getElem? (i := 691) (by decide +kernel)⟩
theorem lw_p7 : lw_okq (⟨"RingDrive$Commands", "scratch", "()I"⟩, 10) := ⟨⟨by decide +kernel, by decide +kernel⟩, List.mem_of_getElem? (i := 424) (by decide +kernel), List.mem_of_getElem? (i := 716) (by decide +kernel), List.mem_of_getElem? (i := 717) (by decide +kernel)⟩
theorem lw_p8 : lw_okq (⟨"RingDrive$Disk", "dataFault", "()I"⟩, 10) := ⟨⟨by decide +kernel, by decide +kernel⟩, List.mem_of_getElem? (i := 97) (by decide +kernel), List.mem_of_getElem? (i := 736) (by decide +kernel), List.mem_of_getElem? (i := 737) (by decide +kernel)⟩
theorem lw_p9 : lw_okq (⟨"RingDrive$Directory", "isWanted", "(LRingDrive$Pattern;)Z"⟩, 9) := ⟨⟨by decide +kernel, by decide +kernel⟩, List.mem_of_getElem? (i := 269) (by decide +kernel), List.mem_of_getElem? (i := 743) (by decide +kernel), List.mem_of_getElem? (i := 744) (by decide +kernel)⟩
theorem lw_p10 : lw_okq (⟨"RingDrive$Directory", "base", "()I"⟩, 9) := ⟨⟨by decide +kernel, by decide +kernel⟩, List.mem_of_getElem? (i := 269) (by decide +kernel), List.mem_of_getElem? (i := 751) (by decide +kernel), List.mem_of_getElem? (i := 752) (by decide +kernel)⟩
theorem lw_p11 : lw_okq (⟨"RingDrive$Dos", "giveBackChain", "(II)I"⟩, 12) := ⟨⟨by decide +kernel, by decide +kernel⟩, List.mem_of_getElem? (i := 224) (by decide +kernel), List.mem_of_getElem? (i := 786) (by decide +kernel), List.mem_of_getElem? (i := 787) (by decide +kernel)⟩
theorem lw_p12 : lw_okq (⟨"RingDrive$Commands", "rename", "()I"⟩, 10) := ⟨⟨by decide +kernel, by decide +kernel⟩, List.mem_of_getElem? (i := 424) (by decide +kernel), List.mem_of_getElem? (i := 802) (by decide +kernel), List.mem_of_getElem? (i := 803) (by decide +kernel)⟩
theorem lw_p13 : lw_okq (⟨"RingDrive$Commands", "initialise", "()I"⟩, 10) := ⟨⟨by decide +kernel, by decide +kernel⟩, List.mem_of_getElem? (i := 424) (by decide +kernel), List.mem_of_getElem? (i := 811) (by decide +kernel), List.mem_of_getElem? (i := 812) (by decide +kernel)⟩
theorem lw_p14 : lw_okq (⟨"RingDrive$Commands", "unknown", "()I"⟩, 10) := ⟨⟨by decide +kernel, by decide +kernel⟩, List.mem_of_getElem? (i := 424) (by decide +kernel), List.mem_of_getElem? (i := 816) (by decide +kernel), List.mem_of_getElem? (i := 817) (by decide +kernel)⟩
theorem lw_p15 : lw_okq (⟨"RingDrive$Commands", "validate", "()I"⟩, 10) := ⟨⟨by decide +kernel, by decide +kernel⟩, List.mem_of_getElem? (i := 424) (by decide +kernel), List.mem_of_getElem? (i := 820) (by decide +kernel), List.mem_of_getElem? (i := 821) (by decide +kernel)⟩
def lw_privs_1 : List (MethodName × Nat) := [(⟨"RingDrive", "sendText", "(II)Z"⟩, 9), (⟨"RingDrive$Commands", "newDisk", "()I"⟩, 10), (⟨"RingDrive$Commands", "formatAll", "(II)I"⟩, 10), (⟨"RingDrive$Disk", "codeData", "([I)V"⟩, 10), (⟨"RingDrive$Disk", "fillHeader", "(IIII)V"⟩, 10), (⟨"RingDrive$Disk", "isHeader", "()Z"⟩, 10), (⟨"RingDrive$Disk", "seek", "(LRingDrive$Ring;II)I"⟩, 10), (⟨"RingDrive$Commands", "scratch", "()I"⟩, 10), (⟨"RingDrive$Disk", "dataFault", "()I"⟩, 10), (⟨"RingDrive$Directory", "isWanted", "(LRingDrive$Pattern;)Z"⟩, 9), (⟨"RingDrive$Directory", "base", "()I"⟩, 9), (⟨"RingDrive$Dos", "giveBackChain", "(II)I"⟩, 12), (⟨"RingDrive$Commands", "rename", "()I"⟩, 10), (⟨"RingDrive$Commands", "initialise", "()I"⟩, 10), (⟨"RingDrive$Commands", "unknown", "()I"⟩, 10), (⟨"RingDrive$Commands", "validate", "()I"⟩, 10)]
theorem lw_r1 : ∀ q ∈ lw_privs_1, lw_okq q := List.forall_mem_cons.mpr ⟨lw_p0, List.forall_mem_cons.mpr ⟨lw_p1, List.forall_mem_cons.mpr ⟨lw_p2, List.forall_mem_cons.mpr ⟨lw_p3, List.forall_mem_cons.mpr ⟨lw_p4, List.forall_mem_cons.mpr ⟨lw_p5, List.forall_mem_cons.mpr ⟨lw_p6, List.forall_mem_cons.mpr ⟨lw_p7, List.forall_mem_cons.mpr ⟨lw_p8, List.forall_mem_cons.mpr ⟨lw_p9, List.forall_mem_cons.mpr ⟨lw_p10, List.forall_mem_cons.mpr ⟨lw_p11, List.forall_mem_cons.mpr ⟨lw_p12, List.forall_mem_cons.mpr ⟨lw_p13, List.forall_mem_cons.mpr ⟨lw_p14, List.forall_mem_cons.mpr ⟨lw_p15, fun _ h => absurd h List.not_mem_nil⟩⟩⟩⟩⟩⟩⟩⟩⟩⟩⟩⟩⟩⟩⟩⟩
theorem lw_p16 : lw_okq (⟨"RingDrive$Commands", "takeDirectory", "()I"⟩, 10) := ⟨⟨by decide +kernel, by decide +kernel⟩, List.mem_of_getElem? (i := 424) (by decide +kernel), List.mem_of_getElem? (i := 826) (by decide +kernel), List.mem_of_getElem? (i := 827) (by decide +kernel)⟩
theorem lw_p17 : lw_okq (⟨"RingDrive$Commands", "takeChain", "(II)I"⟩, 10) := ⟨⟨by decide +kernel, by decide +kernel⟩, List.mem_of_getElem? (i := 424) (by decide +kernel), List.mem_of_getElem? (i := 838) (by decide +kernel), List.mem_of_getElem? (i := 839) (by decide +kernel)⟩
theorem lw_p18 : lw_okq (⟨"RingDrive$Commands", "user", "()I"⟩, 10) := ⟨⟨by decide +kernel, by decide +kernel⟩, List.mem_of_getElem? (i := 424) (by decide +kernel), List.mem_of_getElem? (i := 847) (by decide +kernel), List.mem_of_getElem? (i := 848) (by decide +kernel)⟩
theorem lw_p19 : lw_okq (⟨"RingDrive$Commands", "moveBlock", "(Z)I"⟩, 10) := ⟨⟨by decide +kernel, by decide +kernel⟩, List.mem_of_getElem? (i := 424) (by decide +kernel), List.mem_of_getElem? (i := 851) (by decide +kernel), List.mem_of_getElem? (i := 852) (by decide +kernel)⟩
theorem lw_p20 : lw_okq (⟨"RingDrive$Commands", "restart", "()I"⟩, 10) := ⟨⟨by decide +kernel, by decide +kernel⟩, List.mem_of_getElem? (i := 424) (by decide +kernel), List.mem_of_getElem? (i := 873) (by decide +kernel), List.mem_of_getElem? (i := 874) (by decide +kernel)⟩
theorem lw_p21 : lw_okq (⟨"RingDrive$Commands", "block", "()I"⟩, 10) := ⟨⟨by decide +kernel, by decide +kernel⟩, List.mem_of_getElem? (i := 424) (by decide +kernel), List.mem_of_getElem? (i := 878) (by decide +kernel), List.mem_of_getElem? (i := 879) (by decide +kernel)⟩
theorem lw_p22 : lw_okq (⟨"RingDrive$Commands", "setPlace", "()I"⟩, 10) := ⟨⟨by decide +kernel, by decide +kernel⟩, List.mem_of_getElem? (i := 424) (by decide +kernel), List.mem_of_getElem? (i := 882) (by decide +kernel), List.mem_of_getElem? (i := 883) (by decide +kernel)⟩
theorem lw_p23 : lw_okq (⟨"RingDrive$Commands", "allocate", "(Z)I"⟩, 10) := ⟨⟨by decide +kernel, by decide +kernel⟩, List.mem_of_getElem? (i := 424) (by decide +kernel), List.mem_of_getElem? (i := 886) (by decide +kernel), List.mem_of_getElem? (i := 887) (by decide +kernel)⟩
theorem lw_p24 : lw_okq (⟨"RingDrive$Commands", "tellNextFree", "(II)I"⟩, 10) := ⟨⟨by decide +kernel, by decide +kernel⟩, List.mem_of_getElem? (i := 424) (by decide +kernel), List.mem_of_getElem? (i := 890) (by decide +kernel), List.mem_of_getElem? (i := 891) (by decide +kernel)⟩
theorem lw_p25 : lw_okq (⟨"RingDrive$Commands", "program", "()I"⟩, 10) := ⟨⟨by decide +kernel, by decide +kernel⟩, List.mem_of_getElem? (i := 424) (by decide +kernel), List.mem_of_getElem? (i := 896) (by decide +kernel), List.mem_of_getElem? (i := 897) (by decide +kernel)⟩
theorem lw_p26 : lw_okq (⟨"RingDrive$Commands", "argument", "(I)I"⟩, 10) := ⟨⟨by decide +kernel, by decide +kernel⟩, List.mem_of_getElem? (i := 424) (by decide +kernel), List.mem_of_getElem? (i := 900) (by decide +kernel), List.mem_of_getElem? (i := 901) (by decide +kernel)⟩
theorem lw_p27 : lw_okq (⟨"RingDrive$Processor", "begin", "(I)V"⟩, 10) := ⟨⟨by decide +kernel, by decide +kernel⟩, List.mem_of_getElem? (i := 180) (by decide +kernel), List.mem_of_getElem? (i := 921) (by decide +kernel), List.mem_of_getElem? (i := 922) (by decide +kernel)⟩
theorem lw_p28 : lw_okq (⟨"RingDrive$Processor", "locate", "(I)V"⟩, 10) := ⟨⟨by decide +kernel, by decide +kernel⟩, List.mem_of_getElem? (i := 180) (by decide +kernel), List.mem_of_getElem? (i := 932) (by decide +kernel), List.mem_of_getElem? (i := 933) (by decide +kernel)⟩
theorem lw_p29 : lw_okq (⟨"RingDrive$Processor", "fetch", "()I"⟩, 10) := ⟨⟨by decide +kernel, by decide +kernel⟩, List.mem_of_getElem? (i := 180) (by decide +kernel), List.mem_of_getElem? (i := 936) (by decide +kernel), List.mem_of_getElem? (i := 937) (by decide +kernel)⟩
theorem lw_p30 : lw_okq (⟨"RingDrive$Processor", "fetchTwo", "()I"⟩, 10) := ⟨⟨by decide +kernel, by decide +kernel⟩, List.mem_of_getElem? (i := 180) (by decide +kernel), List.mem_of_getElem? (i := 940) (by decide +kernel), List.mem_of_getElem? (i := 941) (by decide +kernel)⟩
theorem lw_p31 : lw_okq (⟨"RingDrive$Processor", "indexed", "(II)V"⟩, 10) := ⟨⟨by decide +kernel, by decide +kernel⟩, List.mem_of_getElem? (i := 180) (by decide +kernel), List.mem_of_getElem? (i := 944) (by decide +kernel), List.mem_of_getElem? (i := 945) (by decide +kernel)⟩
def lw_privs_2 : List (MethodName × Nat) := [(⟨"RingDrive$Commands", "takeDirectory", "()I"⟩, 10), (⟨"RingDrive$Commands", "takeChain", "(II)I"⟩, 10), (⟨"RingDrive$Commands", "user", "()I"⟩, 10), (⟨"RingDrive$Commands", "moveBlock", "(Z)I"⟩, 10), (⟨"RingDrive$Commands", "restart", "()I"⟩, 10), (⟨"RingDrive$Commands", "block", "()I"⟩, 10), (⟨"RingDrive$Commands", "setPlace", "()I"⟩, 10), (⟨"RingDrive$Commands", "allocate", "(Z)I"⟩, 10), (⟨"RingDrive$Commands", "tellNextFree", "(II)I"⟩, 10), (⟨"RingDrive$Commands", "program", "()I"⟩, 10), (⟨"RingDrive$Commands", "argument", "(I)I"⟩, 10), (⟨"RingDrive$Processor", "begin", "(I)V"⟩, 10), (⟨"RingDrive$Processor", "locate", "(I)V"⟩, 10), (⟨"RingDrive$Processor", "fetch", "()I"⟩, 10), (⟨"RingDrive$Processor", "fetchTwo", "()I"⟩, 10), (⟨"RingDrive$Processor", "indexed", "(II)V"⟩, 10)]
theorem lw_r2 : ∀ q ∈ lw_privs_2, lw_okq q := List.forall_mem_cons.mpr ⟨lw_p16, List.forall_mem_cons.mpr ⟨lw_p17, List.forall_mem_cons.mpr ⟨lw_p18, List.forall_mem_cons.mpr ⟨lw_p19, List.forall_mem_cons.mpr ⟨lw_p20, List.forall_mem_cons.mpr ⟨lw_p21, List.forall_mem_cons.mpr ⟨lw_p22, List.forall_mem_cons.mpr ⟨lw_p23, List.forall_mem_cons.mpr ⟨lw_p24, List.forall_mem_cons.mpr ⟨lw_p25, List.forall_mem_cons.mpr ⟨lw_p26, List.forall_mem_cons.mpr ⟨lw_p27, List.forall_mem_cons.mpr ⟨lw_p28, List.forall_mem_cons.mpr ⟨lw_p29, List.forall_mem_cons.mpr ⟨lw_p30, List.forall_mem_cons.mpr ⟨lw_p31, fun _ h => absurd h List.not_mem_nil⟩⟩⟩⟩⟩⟩⟩⟩⟩⟩⟩⟩⟩⟩⟩⟩
theorem lw_p32 : lw_okq (⟨"RingDrive$Processor", "pair", "(I)I"⟩, 10) := ⟨⟨by decide +kernel, by decide +kernel⟩, List.mem_of_getElem? (i := 180) (by decide +kernel), List.mem_of_getElem? (i := 948) (by decide +kernel), List.mem_of_getElem? (i := 949) (by decide +kernel)⟩
theorem lw_p33 : lw_okq (⟨"RingDrive$Processor", "perform", "(II)V"⟩, 10) := ⟨⟨by decide +kernel, by decide +kernel⟩, List.mem_of_getElem? (i := 180) (by decide +kernel), List.mem_of_getElem? (i := 953) (by decide +kernel), List.mem_of_getElem? (i := 954) (by decide +kernel)⟩
theorem lw_p34 : lw_okq (⟨"RingDrive$Processor", "useValue", "(II)V"⟩, 10) := ⟨⟨by decide +kernel, by decide +kernel⟩, List.mem_of_getElem? (i := 180) (by decide +kernel), List.mem_of_getElem? (i := 957) (by decide +kernel), List.mem_of_getElem? (i := 958) (by decide +kernel)⟩
theorem lw_p35 : lw_okq (⟨"RingDrive$Processor", "marked", "(I)I"⟩, 10) := ⟨⟨by decide +kernel, by decide +kernel⟩, List.mem_of_getElem? (i := 180) (by decide +kernel), List.mem_of_getElem? (i := 961) (by decide +kernel), List.mem_of_getElem? (i := 962) (by decide +kernel)⟩
theorem lw_p36 : lw_okq (⟨"RingDrive$Processor", "add", "(I)V"⟩, 10) := ⟨⟨by decide +kernel, by decide +kernel⟩, List.mem_of_getElem? (i := 180) (by decide +kernel), List.mem_of_getElem? (i := 965) (by decide +kernel), List.mem_of_getElem? (i := 966) (by decide +kernel)⟩
theorem lw_p37 : lw_okq (⟨"RingDrive$Processor", "has", "(I)Z"⟩, 10) := ⟨⟨by decide +kernel, by decide +kernel⟩, List.mem_of_getElem? (i := 180) (by decide +kernel), List.mem_of_getElem? (i := 969) (by decide +kernel), List.mem_of_getElem? (i := 970) (by decide +kernel)⟩
theorem lw_p38 : lw_okq (⟨"RingDrive$Processor", "addBinary", "(I)V"⟩, 10) := ⟨⟨by decide +kernel, by decide +kernel⟩, List.mem_of_getElem? (i := 180) (by decide +kernel), List.mem_of_getElem? (i := 973) (by decide +kernel), List.mem_of_getElem? (i := 974) (by decide +kernel)⟩
theorem lw_p39 : lw_okq (⟨"RingDrive$Processor", "flag", "(IZ)V"⟩, 10) := ⟨⟨by decide +kernel, by decide +kernel⟩, List.mem_of_getElem? (i := 180) (by decide +kernel), List.mem_of_getElem? (i := 977) (by decide +kernel), List.mem_of_getElem? (i := 978) (by decide +kernel)⟩
theorem lw_p40 : lw_okq (⟨"RingDrive$Processor", "subtract", "(I)V"⟩, 10) := ⟨⟨by decide +kernel, by decide +kernel⟩, List.mem_of_getElem? (i := 180) (by decide +kernel), List.mem_of_getElem? (i := 981) (by decide +kernel), List.mem_of_getElem? (i := 982) (by decide +kernel)⟩
theorem lw_p41 : lw_okq (⟨"RingDrive$Processor", "compare", "(II)V"⟩, 10) := ⟨⟨by decide +kernel, by decide +kernel⟩, List.mem_of_getElem? (i := 180) (by decide +kernel), List.mem_of_getElem? (i := 985) (by decide +kernel), List.mem_of_getElem? (i := 986) (by decide +kernel)⟩
theorem lw_p42 : lw_okq (⟨"RingDrive$Processor", "changeValue", "(IZ)V"⟩, 10) := ⟨⟨by decide +kernel, by decide +kernel⟩, List.mem_of_getElem? (i := 180) (by decide +kernel), List.mem_of_getElem? (i := 990) (by decide +kernel), List.mem_of_getElem? (i := 991) (by decide +kernel)⟩
theorem lw_p43 : lw_okq (⟨"RingDrive$Processor", "branch", "(I)V"⟩, 10) := ⟨⟨by decide +kernel, by decide +kernel⟩, List.mem_of_getElem? (i := 180) (by decide +kernel), List.mem_of_getElem? (i := 994) (by decide +kernel), List.mem_of_getElem? (i := 995) (by decide +kernel)⟩
theorem lw_p44 : lw_okq (⟨"RingDrive$Processor", "move", "(I)V"⟩, 10) := ⟨⟨by decide +kernel, by decide +kernel⟩, List.mem_of_getElem? (i := 180) (by decide +kernel), List.mem_of_getElem? (i := 998) (by decide +kernel), List.mem_of_getElem? (i := 999) (by decide +kernel)⟩
theorem lw_p45 : lw_okq (⟨"RingDrive$Processor", "changeFlag", "(I)V"⟩, 10) := ⟨⟨by decide +kernel, by decide +kernel⟩, List.mem_of_getElem? (i := 180) (by decide +kernel), List.mem_of_getElem? (i := 1002) (by decide +kernel), List.mem_of_getElem? (i := 1003) (by decide +kernel)⟩
theorem lw_p46 : lw_okq (⟨"RingDrive$Processor", "stack", "(I)V"⟩, 10) := ⟨⟨by decide +kernel, by decide +kernel⟩, List.mem_of_getElem? (i := 180) (by decide +kernel), List.mem_of_getElem? (i := 1006) (by decide +kernel), List.mem_of_getElem? (i := 1007) (by decide +kernel)⟩
theorem lw_p47 : lw_okq (⟨"RingDrive$Processor", "push", "(I)V"⟩, 10) := ⟨⟨by decide +kernel, by decide +kernel⟩, List.mem_of_getElem? (i := 180) (by decide +kernel), List.mem_of_getElem? (i := 1010) (by decide +kernel), List.mem_of_getElem? (i := 1011) (by decide +kernel)⟩
def lw_privs_3 : List (MethodName × Nat) := [(⟨"RingDrive$Processor", "pair", "(I)I"⟩, 10), (⟨"RingDrive$Processor", "perform", "(II)V"⟩, 10), (⟨"RingDrive$Processor", "useValue", "(II)V"⟩, 10), (⟨"RingDrive$Processor", "marked", "(I)I"⟩, 10), (⟨"RingDrive$Processor", "add", "(I)V"⟩, 10), (⟨"RingDrive$Processor", "has", "(I)Z"⟩, 10), (⟨"RingDrive$Processor", "addBinary", "(I)V"⟩, 10), (⟨"RingDrive$Processor", "flag", "(IZ)V"⟩, 10), (⟨"RingDrive$Processor", "subtract", "(I)V"⟩, 10), (⟨"RingDrive$Processor", "compare", "(II)V"⟩, 10), (⟨"RingDrive$Processor", "changeValue", "(IZ)V"⟩, 10), (⟨"RingDrive$Processor", "branch", "(I)V"⟩, 10), (⟨"RingDrive$Processor", "move", "(I)V"⟩, 10), (⟨"RingDrive$Processor", "changeFlag", "(I)V"⟩, 10), (⟨"RingDrive$Processor", "stack", "(I)V"⟩, 10), (⟨"RingDrive$Processor", "push", "(I)V"⟩, 10)]
theorem lw_r3 : ∀ q ∈ lw_privs_3, lw_okq q := List.forall_mem_cons.mpr ⟨lw_p32, List.forall_mem_cons.mpr ⟨lw_p33, List.forall_mem_cons.mpr ⟨lw_p34, List.forall_mem_cons.mpr ⟨lw_p35, List.forall_mem_cons.mpr ⟨lw_p36, List.forall_mem_cons.mpr ⟨lw_p37, List.forall_mem_cons.mpr ⟨lw_p38, List.forall_mem_cons.mpr ⟨lw_p39, List.forall_mem_cons.mpr ⟨lw_p40, List.forall_mem_cons.mpr ⟨lw_p41, List.forall_mem_cons.mpr ⟨lw_p42, List.forall_mem_cons.mpr ⟨lw_p43, List.forall_mem_cons.mpr ⟨lw_p44, List.forall_mem_cons.mpr ⟨lw_p45, List.forall_mem_cons.mpr ⟨lw_p46, List.forall_mem_cons.mpr ⟨lw_p47, fun _ h => absurd h List.not_mem_nil⟩⟩⟩⟩⟩⟩⟩⟩⟩⟩⟩⟩⟩⟩⟩⟩
theorem lw_p48 : lw_okq (⟨"RingDrive$Processor", "pull", "()I"⟩, 10) := ⟨⟨by decide +kernel, by decide +kernel⟩, List.mem_of_getElem? (i := 180) (by decide +kernel), List.mem_of_getElem? (i := 1014) (by decide +kernel), List.mem_of_getElem? (i := 1015) (by decide +kernel)⟩
theorem lw_p49 : lw_okq (⟨"RingDrive$Processor", "pullTwo", "()I"⟩, 10) := ⟨⟨by decide +kernel, by decide +kernel⟩, List.mem_of_getElem? (i := 180) (by decide +kernel), List.mem_of_getElem? (i := 1018) (by decide +kernel), List.mem_of_getElem? (i := 1019) (by decide +kernel)⟩
theorem lw_p50 : lw_okq (⟨"RingDrive$Dos", "goToEntryOf", "(LRingDrive$Channel;)V"⟩, 12) := ⟨⟨by decide +kernel, by decide +kernel⟩, List.mem_of_getElem? (i := 224) (by decide +kernel), List.mem_of_getElem? (i := 1033) (by decide +kernel), List.mem_of_getElem? (i := 1034) (by decide +kernel)⟩
theorem lw_p51 : lw_okq (⟨"RingDrive$Dos", "openBuffer", "(LRingDrive$Channel;)I"⟩, 12) := ⟨⟨by decide +kernel, by decide +kernel⟩, List.mem_of_getElem? (i := 224) (by decide +kernel), List.mem_of_getElem? (i := 1047) (by decide +kernel), List.mem_of_getElem? (i := 1048) (by decide +kernel)⟩
theorem lw_p52 : lw_okq (⟨"RingDrive$Dos", "openList", "(LRingDrive$Channel;)I"⟩, 12) := ⟨⟨by decide +kernel, by decide +kernel⟩, List.mem_of_getElem? (i := 224) (by decide +kernel), List.mem_of_getElem? (i := 1056) (by decide +kernel), List.mem_of_getElem? (i := 1057) (by decide +kernel)⟩
theorem lw_p53 : lw_okq (⟨"RingDrive$Dos", "parseFile", "(I)I"⟩, 12) := ⟨⟨by decide +kernel, by decide +kernel⟩, List.mem_of_getElem? (i := 224) (by decide +kernel), List.mem_of_getElem? (i := 1068) (by decide +kernel), List.mem_of_getElem? (i := 1069) (by decide +kernel)⟩
theorem lw_p54 : lw_okq (⟨"RingDrive$Dos", "sortTold", "(I)I"⟩, 12) := ⟨⟨by decide +kernel, by decide +kernel⟩, List.mem_of_getElem? (i := 224) (by decide +kernel), List.mem_of_getElem? (i := 1073) (by decide +kernel), List.mem_of_getElem? (i := 1074) (by decide +kernel)⟩
theorem lw_p55 : lw_okq (⟨"RingDrive$Dos", "wayTold", "(I)I"⟩, 12) := ⟨⟨by decide +kernel, by decide +kernel⟩, List.mem_of_getElem? (i := 224) (by decide +kernel), List.mem_of_getElem? (i := 1077) (by decide +kernel), List.mem_of_getElem? (i := 1078) (by decide +kernel)⟩
theorem lw_p56 : lw_okq (⟨"RingDrive$Dos", "openToRead", "(LRingDrive$Channel;)I"⟩, 12) := ⟨⟨by decide +kernel, by decide +kernel⟩, List.mem_of_getElem? (i := 224) (by decide +kernel), List.mem_of_getElem? (i := 1082) (by decide +kernel), List.mem_of_getElem? (i := 1083) (by decide +kernel)⟩
theorem lw_p57 : lw_okq (⟨"RingDrive$Dos", "openToWrite", "(LRingDrive$Channel;)I"⟩, 12) := ⟨⟨by decide +kernel, by decide +kernel⟩, List.mem_of_getElem? (i := 224) (by decide +kernel), List.mem_of_getElem? (i := 1097) (by decide +kernel), List.mem_of_getElem? (i := 1098) (by decide +kernel)⟩
theorem lw_p58 : lw_okq (⟨"RingDrive$Dos", "findRoom", "()I"⟩, 12) := ⟨⟨by decide +kernel, by decide +kernel⟩, List.mem_of_getElem? (i := 224) (by decide +kernel), List.mem_of_getElem? (i := 1102) (by decide +kernel), List.mem_of_getElem? (i := 1103) (by decide +kernel)⟩
theorem lw_p59 : lw_okq (⟨"RingDrive$BlockMap", "pickOf", "(II)Z"⟩, 4) := ⟨⟨by decide +kernel, by decide +kernel⟩, List.mem_of_getElem? (i := 245) (by decide +kernel), List.mem_of_getElem? (i := 1111) (by decide +kernel), List.mem_of_getElem? (i := 1112) (by decide +kernel)⟩
theorem lw_p60 : lw_okq (⟨"RingDrive$Dos", "startFile", "(LRingDrive$Channel;)I"⟩, 12) := ⟨⟨by decide +kernel, by decide +kernel⟩, List.mem_of_getElem? (i := 224) (by decide +kernel), List.mem_of_getElem? (i := 1121) (by decide +kernel), List.mem_of_getElem? (i := 1122) (by decide +kernel)⟩
theorem lw_p61 : lw_okq (⟨"RingDrive$Dos", "addToFile", "(LRingDrive$Channel;I)I"⟩, 12) := ⟨⟨by decide +kernel, by decide +kernel⟩, List.mem_of_getElem? (i := 224) (by decide +kernel), List.mem_of_getElem? (i := 1151) (by decide +kernel), List.mem_of_getElem? (i := 1152) (by decide +kernel)⟩
theorem lw_p62 : lw_okq (⟨"RingDrive$Dos", "goToNextBlock", "(LRingDrive$Channel;)I"⟩, 12) := ⟨⟨by decide +kernel, by decide +kernel⟩, List.mem_of_getElem? (i := 224) (by decide +kernel), List.mem_of_getElem? (i := 1160) (by decide +kernel), List.mem_of_getElem? (i := 1161) (by decide +kernel)⟩
theorem lw_p63 : lw_okq (⟨"RingDrive$Dos", "giveUpFile", "(LRingDrive$Channel;)I"⟩, 12) := ⟨⟨by decide +kernel, by decide +kernel⟩, List.mem_of_getElem? (i := 224) (by decide +kernel), List.mem_of_getElem? (i := 1164) (by decide +kernel), List.mem_of_getElem? (i := 1165) (by decide +kernel)⟩
def lw_privs_4 : List (MethodName × Nat) := [(⟨"RingDrive$Processor", "pull", "()I"⟩, 10), (⟨"RingDrive$Processor", "pullTwo", "()I"⟩, 10), (⟨"RingDrive$Dos", "goToEntryOf", "(LRingDrive$Channel;)V"⟩, 12), (⟨"RingDrive$Dos", "openBuffer", "(LRingDrive$Channel;)I"⟩, 12), (⟨"RingDrive$Dos", "openList", "(LRingDrive$Channel;)I"⟩, 12), (⟨"RingDrive$Dos", "parseFile", "(I)I"⟩, 12), (⟨"RingDrive$Dos", "sortTold", "(I)I"⟩, 12), (⟨"RingDrive$Dos", "wayTold", "(I)I"⟩, 12), (⟨"RingDrive$Dos", "openToRead", "(LRingDrive$Channel;)I"⟩, 12), (⟨"RingDrive$Dos", "openToWrite", "(LRingDrive$Channel;)I"⟩, 12), (⟨"RingDrive$Dos", "findRoom", "()I"⟩, 12), (⟨"RingDrive$BlockMap", "pickOf", "(II)Z"⟩, 4), (⟨"RingDrive$Dos", "startFile", "(LRingDrive$Channel;)I"⟩, 12), (⟨"RingDrive$Dos", "addToFile", "(LRingDrive$Channel;I)I"⟩, 12), (⟨"RingDrive$Dos", "goToNextBlock", "(LRingDrive$Channel;)I"⟩, 12), (⟨"RingDrive$Dos", "giveUpFile", "(LRingDrive$Channel;)I"⟩, 12)]
theorem lw_r4 : ∀ q ∈ lw_privs_4, lw_okq q := List.forall_mem_cons.mpr ⟨lw_p48, List.forall_mem_cons.mpr ⟨lw_p49, List.forall_mem_cons.mpr ⟨lw_p50, List.forall_mem_cons.mpr ⟨lw_p51, List.forall_mem_cons.mpr ⟨lw_p52, List.forall_mem_cons.mpr ⟨lw_p53, List.forall_mem_cons.mpr ⟨lw_p54, List.forall_mem_cons.mpr ⟨lw_p55, List.forall_mem_cons.mpr ⟨lw_p56, List.forall_mem_cons.mpr ⟨lw_p57, List.forall_mem_cons.mpr ⟨lw_p58, List.forall_mem_cons.mpr ⟨lw_p59, List.forall_mem_cons.mpr ⟨lw_p60, List.forall_mem_cons.mpr ⟨lw_p61, List.forall_mem_cons.mpr ⟨lw_p62, List.forall_mem_cons.mpr ⟨lw_p63, fun _ h => absurd h List.not_mem_nil⟩⟩⟩⟩⟩⟩⟩⟩⟩⟩⟩⟩⟩⟩⟩⟩
theorem lw_p64 : lw_okq (⟨"RingDrive$Status", "replyByte", "()I"⟩, 10) := ⟨⟨by decide +kernel, by decide +kernel⟩, List.mem_of_getElem? (i := 53) (by decide +kernel), List.mem_of_getElem? (i := 1186) (by decide +kernel), List.mem_of_getElem? (i := 1187) (by decide +kernel)⟩
theorem lw_p65 : lw_okq (⟨"RingDrive$Status", "textByte", "()I"⟩, 10) := ⟨⟨by decide +kernel, by decide +kernel⟩, List.mem_of_getElem? (i := 53) (by decide +kernel), List.mem_of_getElem? (i := 1190) (by decide +kernel), List.mem_of_getElem? (i := 1191) (by decide +kernel)⟩
theorem lw_p66 : lw_okq (⟨"RingDrive$Status", "spell", "()V"⟩, 10) := ⟨⟨by decide +kernel, by decide +kernel⟩, List.mem_of_getElem? (i := 53) (by decide +kernel), List.mem_of_getElem? (i := 1194) (by decide +kernel), List.mem_of_getElem? (i := 1195) (by decide +kernel)⟩
theorem lw_p67 : lw_okq (⟨"RingDrive$Status", "addTwoDigits", "(I)V"⟩, 10) := ⟨⟨by decide +kernel, by decide +kernel⟩, List.mem_of_getElem? (i := 53) (by decide +kernel), List.mem_of_getElem? (i := 1198) (by decide +kernel), List.mem_of_getElem? (i := 1199) (by decide +kernel)⟩
theorem lw_p68 : lw_okq (⟨"RingDrive$Status", "add", "(I)V"⟩, 10) := ⟨⟨by decide +kernel, by decide +kernel⟩, List.mem_of_getElem? (i := 53) (by decide +kernel), List.mem_of_getElem? (i := 1202) (by decide +kernel), List.mem_of_getElem? (i := 1203) (by decide +kernel)⟩
theorem lw_p69 : lw_okq (⟨"RingDrive$Status", "words", "()Ljava/lang/String;"⟩, 10) := ⟨⟨by decide +kernel, by decide +kernel⟩, List.mem_of_getElem? (i := 53) (by decide +kernel), List.mem_of_getElem? (i := 1206) (by decide +kernel), List.mem_of_getElem? (i := 1207) (by decide +kernel)⟩
theorem lw_p70 : lw_okq (⟨"RingDrive$Dos", "nextByte", "(LRingDrive$Channel;)I"⟩, 12) := ⟨⟨by decide +kernel, by decide +kernel⟩, List.mem_of_getElem? (i := 224) (by decide +kernel), List.mem_of_getElem? (i := 1281) (by decide +kernel), List.mem_of_getElem? (i := 1282) (by decide +kernel)⟩
theorem lw_p71 : lw_okq (⟨"RingDrive$Dos", "makeLine", "(LRingDrive$Channel;)I"⟩, 12) := ⟨⟨by decide +kernel, by decide +kernel⟩, List.mem_of_getElem? (i := 224) (by decide +kernel), List.mem_of_getElem? (i := 1285) (by decide +kernel), List.mem_of_getElem? (i := 1286) (by decide +kernel)⟩
theorem lw_p72 : lw_okq (⟨"RingDrive$Dos", "addTitle", "(LRingDrive$Channel;)V"⟩, 12) := ⟨⟨by decide +kernel, by decide +kernel⟩, List.mem_of_getElem? (i := 224) (by decide +kernel), List.mem_of_getElem? (i := 1293) (by decide +kernel), List.mem_of_getElem? (i := 1294) (by decide +kernel)⟩
theorem lw_p73 : lw_okq (⟨"RingDrive$Dos", "addEntry", "(LRingDrive$Channel;)V"⟩, 12) := ⟨⟨by decide +kernel, by decide +kernel⟩, List.mem_of_getElem? (i := 224) (by decide +kernel), List.mem_of_getElem? (i := 1301) (by decide +kernel), List.mem_of_getElem? (i := 1302) (by decide +kernel)⟩
theorem lw_p74 : lw_okq (⟨"RingDrive$Dos", "addFree", "(LRingDrive$Channel;)V"⟩, 12) := ⟨⟨by decide +kernel, by decide +kernel⟩, List.mem_of_getElem? (i := 224) (by decide +kernel), List.mem_of_getElem? (i := 1320) (by decide +kernel), List.mem_of_getElem? (i := 1321) (by decide +kernel)⟩
theorem lw_p75 : lw_okq (⟨"RingDrive$Dos", "readNext", "(LRingDrive$Channel;)I"⟩, 12) := ⟨⟨by decide +kernel, by decide +kernel⟩, List.mem_of_getElem? (i := 224) (by decide +kernel), List.mem_of_getElem? (i := 1328) (by decide +kernel), List.mem_of_getElem? (i := 1329) (by decide +kernel)⟩
theorem lw_p76 : lw_okq (⟨"RingDrive$Ring", "eight", "(I)I"⟩, 8) := ⟨⟨by decide +kernel, by decide +kernel⟩, List.mem_of_getElem? (i := 104) (by decide +kernel), List.mem_of_getElem? (i := 1355) (by decide +kernel), List.mem_of_getElem? (i := 1356) (by decide +kernel)⟩
theorem lw_p77 : lw_okq (⟨"RingDriveModel", "types", "(I)V"⟩, 84) := ⟨⟨by decide +kernel, by decide +kernel⟩, List.mem_of_getElem? (i := 1393) (by decide +kernel), List.mem_of_getElem? (i := 1391) (by decide +kernel), List.mem_of_getElem? (i := 1392) (by decide +kernel)⟩
theorem lw_p78 : lw_okq (⟨"RingDriveModel", "sends", "(I)V"⟩, 84) := ⟨⟨by decide +kernel, by decide +kernel⟩, List.mem_of_getElem? (i := 1393) (by decide +kernel), List.mem_of_getElem? (i := 1400) (by decide +kernel), List.mem_of_getElem? (i := 1401) (by decide +kernel)⟩
theorem lw_p79 : lw_okq (⟨"RingDriveModel", "commands", "(I)I"⟩, 84) := ⟨⟨by decide +kernel, by decide +kernel⟩, List.mem_of_getElem? (i := 1393) (by decide +kernel), List.mem_of_getElem? (i := 1404) (by decide +kernel), List.mem_of_getElem? (i := 1405) (by decide +kernel)⟩
def lw_privs_5 : List (MethodName × Nat) := [(⟨"RingDrive$Status", "replyByte", "()I"⟩, 10), (⟨"RingDrive$Status", "textByte", "()I"⟩, 10), (⟨"RingDrive$Status", "spell", "()V"⟩, 10), (⟨"RingDrive$Status", "addTwoDigits", "(I)V"⟩, 10), (⟨"RingDrive$Status", "add", "(I)V"⟩, 10), (⟨"RingDrive$Status", "words", "()Ljava/lang/String;"⟩, 10), (⟨"RingDrive$Dos", "nextByte", "(LRingDrive$Channel;)I"⟩, 12), (⟨"RingDrive$Dos", "makeLine", "(LRingDrive$Channel;)I"⟩, 12), (⟨"RingDrive$Dos", "addTitle", "(LRingDrive$Channel;)V"⟩, 12), (⟨"RingDrive$Dos", "addEntry", "(LRingDrive$Channel;)V"⟩, 12), (⟨"RingDrive$Dos", "addFree", "(LRingDrive$Channel;)V"⟩, 12), (⟨"RingDrive$Dos", "readNext", "(LRingDrive$Channel;)I"⟩, 12), (⟨"RingDrive$Ring", "eight", "(I)I"⟩, 8), (⟨"RingDriveModel", "types", "(I)V"⟩, 84), (⟨"RingDriveModel", "sends", "(I)V"⟩, 84), (⟨"RingDriveModel", "commands", "(I)I"⟩, 84)]
theorem lw_r5 : ∀ q ∈ lw_privs_5, lw_okq q := List.forall_mem_cons.mpr ⟨lw_p64, List.forall_mem_cons.mpr ⟨lw_p65, List.forall_mem_cons.mpr ⟨lw_p66, List.forall_mem_cons.mpr ⟨lw_p67, List.forall_mem_cons.mpr ⟨lw_p68, List.forall_mem_cons.mpr ⟨lw_p69, List.forall_mem_cons.mpr ⟨lw_p70, List.forall_mem_cons.mpr ⟨lw_p71, List.forall_mem_cons.mpr ⟨lw_p72, List.forall_mem_cons.mpr ⟨lw_p73, List.forall_mem_cons.mpr ⟨lw_p74, List.forall_mem_cons.mpr ⟨lw_p75, List.forall_mem_cons.mpr ⟨lw_p76, List.forall_mem_cons.mpr ⟨lw_p77, List.forall_mem_cons.mpr ⟨lw_p78, List.forall_mem_cons.mpr ⟨lw_p79, fun _ h => absurd h List.not_mem_nil⟩⟩⟩⟩⟩⟩⟩⟩⟩⟩⟩⟩⟩⟩⟩⟩
theorem lw_p80 : lw_okq (⟨"RingDriveModel", "begins", "()V"⟩, 84) := ⟨⟨by decide +kernel, by decide +kernel⟩, List.mem_of_getElem? (i := 1393) (by decide +kernel), List.mem_of_getElem? (i := 1408) (by decide +kernel), List.mem_of_getElem? (i := 1409) (by decide +kernel)⟩
theorem lw_p81 : lw_okq (⟨"RingDriveModel", "sets", "(III)V"⟩, 84) := ⟨⟨by decide +kernel, by decide +kernel⟩, List.mem_of_getElem? (i := 1393) (by decide +kernel), List.mem_of_getElem? (i := 1412) (by decide +kernel), List.mem_of_getElem? (i := 1413) (by decide +kernel)⟩
theorem lw_p82 : lw_okq (⟨"RingDriveModel", "fault", "(III)I"⟩, 84) := ⟨⟨by decide +kernel, by decide +kernel⟩, List.mem_of_getElem? (i := 1393) (by decide +kernel), List.mem_of_getElem? (i := 1416) (by decide +kernel), List.mem_of_getElem? (i := 1417) (by decide +kernel)⟩
theorem lw_p83 : lw_okq (⟨"RingDriveModel", "ends", "(I)I"⟩, 84) := ⟨⟨by decide +kernel, by decide +kernel⟩, List.mem_of_getElem? (i := 1393) (by decide +kernel), List.mem_of_getElem? (i := 1420) (by decide +kernel), List.mem_of_getElem? (i := 1421) (by decide +kernel)⟩
theorem lw_p84 : lw_okq (⟨"RingDriveModel", "does", "(I)I"⟩, 84) := ⟨⟨by decide +kernel, by decide +kernel⟩, List.mem_of_getElem? (i := 1393) (by decide +kernel), List.mem_of_getElem? (i := 1424) (by decide +kernel), List.mem_of_getElem? (i := 1425) (by decide +kernel)⟩
theorem lw_p85 : lw_okq (⟨"RingDriveModel", "again", "()I"⟩, 84) := ⟨⟨by decide +kernel, by decide +kernel⟩, List.mem_of_getElem? (i := 1393) (by decide +kernel), List.mem_of_getElem? (i := 1428) (by decide +kernel), List.mem_of_getElem? (i := 1429) (by decide +kernel)⟩
theorem lw_p86 : lw_okq (⟨"RingDriveModel", "takeId", "()I"⟩, 84) := ⟨⟨by decide +kernel, by decide +kernel⟩, List.mem_of_getElem? (i := 1393) (by decide +kernel), List.mem_of_getElem? (i := 1432) (by decide +kernel), List.mem_of_getElem? (i := 1433) (by decide +kernel)⟩
theorem lw_p87 : lw_okq (⟨"RingDriveModel", "round", "(I)I"⟩, 84) := ⟨⟨by decide +kernel, by decide +kernel⟩, List.mem_of_getElem? (i := 1393) (by decide +kernel), List.mem_of_getElem? (i := 1436) (by decide +kernel), List.mem_of_getElem? (i := 1437) (by decide +kernel)⟩
theorem lw_p88 : lw_okq (⟨"RingDriveModel", "bitAt", "(II)I"⟩, 84) := ⟨⟨by decide +kernel, by decide +kernel⟩, List.mem_of_getElem? (i := 1393) (by decide +kernel), List.mem_of_getElem? (i := 1443) (by decide +kernel), List.mem_of_getElem? (i := 1444) (by decide +kernel)⟩
theorem lw_p89 : lw_okq (⟨"RingDriveModel", "along", "(III)V"⟩, 84) := ⟨⟨by decide +kernel, by decide +kernel⟩, List.mem_of_getElem? (i := 1393) (by decide +kernel), List.mem_of_getElem? (i := 1447) (by decide +kernel), List.mem_of_getElem? (i := 1448) (by decide +kernel)⟩
theorem lw_p90 : lw_okq (⟨"RingDriveModel", "goes", "()Z"⟩, 84) := ⟨⟨by decide +kernel, by decide +kernel⟩, List.mem_of_getElem? (i := 1393) (by decide +kernel), List.mem_of_getElem? (i := 1451) (by decide +kernel), List.mem_of_getElem? (i := 1452) (by decide +kernel)⟩
theorem lw_p91 : lw_okq (⟨"RingDriveModel", "comes", "()I"⟩, 84) := ⟨⟨by decide +kernel, by decide +kernel⟩, List.mem_of_getElem? (i := 1393) (by decide +kernel), List.mem_of_getElem? (i := 1455) (by decide +kernel), List.mem_of_getElem? (i := 1456) (by decide +kernel)⟩
theorem lw_p92 : lw_okq (⟨"RingDriveModel", "reads", "(I)Z"⟩, 84) := ⟨⟨by decide +kernel, by decide +kernel⟩, List.mem_of_getElem? (i := 1393) (by decide +kernel), List.mem_of_getElem? (i := 1459) (by decide +kernel), List.mem_of_getElem? (i := 1460) (by decide +kernel)⟩
theorem lw_p93 : lw_okq (⟨"RingDriveModel", "group", "(I)I"⟩, 84) := ⟨⟨by decide +kernel, by decide +kernel⟩, List.mem_of_getElem? (i := 1393) (by decide +kernel), List.mem_of_getElem? (i := 1463) (by decide +kernel), List.mem_of_getElem? (i := 1464) (by decide +kernel)⟩
theorem lw_p94 : lw_okq (⟨"RingDriveModel", "loads", "()I"⟩, 84) := ⟨⟨by decide +kernel, by decide +kernel⟩, List.mem_of_getElem? (i := 1393) (by decide +kernel), List.mem_of_getElem? (i := 1473) (by decide +kernel), List.mem_of_getElem? (i := 1474) (by decide +kernel)⟩
theorem lw_p95 : lw_okq (⟨"RingDriveModel", "readBlock", "(II[II)I"⟩, 84) := ⟨⟨by decide +kernel, by decide +kernel⟩, List.mem_of_getElem? (i := 1393) (by decide +kernel), List.mem_of_getElem? (i := 1477) (by decide +kernel), List.mem_of_getElem? (i := 1478) (by decide +kernel)⟩
def lw_privs_6 : List (MethodName × Nat) := [(⟨"RingDriveModel", "begins", "()V"⟩, 84), (⟨"RingDriveModel", "sets", "(III)V"⟩, 84), (⟨"RingDriveModel", "fault", "(III)I"⟩, 84), (⟨"RingDriveModel", "ends", "(I)I"⟩, 84), (⟨"RingDriveModel", "does", "(I)I"⟩, 84), (⟨"RingDriveModel", "again", "()I"⟩, 84), (⟨"RingDriveModel", "takeId", "()I"⟩, 84), (⟨"RingDriveModel", "round", "(I)I"⟩, 84), (⟨"RingDriveModel", "bitAt", "(II)I"⟩, 84), (⟨"RingDriveModel", "along", "(III)V"⟩, 84), (⟨"RingDriveModel", "goes", "()Z"⟩, 84), (⟨"RingDriveModel", "comes", "()I"⟩, 84), (⟨"RingDriveModel", "reads", "(I)Z"⟩, 84), (⟨"RingDriveModel", "group", "(I)I"⟩, 84), (⟨"RingDriveModel", "loads", "()I"⟩, 84), (⟨"RingDriveModel", "readBlock", "(II[II)I"⟩, 84)]
theorem lw_r6 : ∀ q ∈ lw_privs_6, lw_okq q := List.forall_mem_cons.mpr ⟨lw_p80, List.forall_mem_cons.mpr ⟨lw_p81, List.forall_mem_cons.mpr ⟨lw_p82, List.forall_mem_cons.mpr ⟨lw_p83, List.forall_mem_cons.mpr ⟨lw_p84, List.forall_mem_cons.mpr ⟨lw_p85, List.forall_mem_cons.mpr ⟨lw_p86, List.forall_mem_cons.mpr ⟨lw_p87, List.forall_mem_cons.mpr ⟨lw_p88, List.forall_mem_cons.mpr ⟨lw_p89, List.forall_mem_cons.mpr ⟨lw_p90, List.forall_mem_cons.mpr ⟨lw_p91, List.forall_mem_cons.mpr ⟨lw_p92, List.forall_mem_cons.mpr ⟨lw_p93, List.forall_mem_cons.mpr ⟨lw_p94, List.forall_mem_cons.mpr ⟨lw_p95, fun _ h => absurd h List.not_mem_nil⟩⟩⟩⟩⟩⟩⟩⟩⟩⟩⟩⟩⟩⟩⟩⟩
theorem lw_p96 : lw_okq (⟨"RingDriveModel", "seek", "(II)I"⟩, 84) := ⟨⟨by decide +kernel, by decide +kernel⟩, List.mem_of_getElem? (i := 1393) (by decide +kernel), List.mem_of_getElem? (i := 1481) (by decide +kernel), List.mem_of_getElem? (i := 1482) (by decide +kernel)⟩
theorem lw_p97 : lw_okq (⟨"RingDriveModel", "header", "(IIII)V"⟩, 84) := ⟨⟨by decide +kernel, by decide +kernel⟩, List.mem_of_getElem? (i := 1393) (by decide +kernel), List.mem_of_getElem? (i := 1485) (by decide +kernel), List.mem_of_getElem? (i := 1486) (by decide +kernel)⟩
theorem lw_p98 : lw_okq (⟨"RingDriveModel", "codes", "(I)V"⟩, 84) := ⟨⟨by decide +kernel, by decide +kernel⟩, List.mem_of_getElem? (i := 1393) (by decide +kernel), List.mem_of_getElem? (i := 1489) (by decide +kernel), List.mem_of_getElem? (i := 1490) (by decide +kernel)⟩
theorem lw_p99 : lw_okq (⟨"RingDriveModel", "gets", "()V"⟩, 84) := ⟨⟨by decide +kernel, by decide +kernel⟩, List.mem_of_getElem? (i := 1393) (by decide +kernel), List.mem_of_getElem? (i := 1493) (by decide +kernel), List.mem_of_getElem? (i := 1494) (by decide +kernel)⟩
theorem lw_p100 : lw_okq (⟨"RingDriveModel", "validates", "()I"⟩, 84) := ⟨⟨by decide +kernel, by decide +kernel⟩, List.mem_of_getElem? (i := 1393) (by decide +kernel), List.mem_of_getElem? (i := 1497) (by decide +kernel), List.mem_of_getElem? (i := 1498) (by decide +kernel)⟩
theorem lw_p101 : lw_okq (⟨"RingDriveModel", "freesAll", "()V"⟩, 84) := ⟨⟨by decide +kernel, by decide +kernel⟩, List.mem_of_getElem? (i := 1393) (by decide +kernel), List.mem_of_getElem? (i := 1501) (by decide +kernel), List.mem_of_getElem? (i := 1502) (by decide +kernel)⟩
theorem lw_p102 : lw_okq (⟨"RingDriveModel", "takes", "(II)V"⟩, 84) := ⟨⟨by decide +kernel, by decide +kernel⟩, List.mem_of_getElem? (i := 1393) (by decide +kernel), List.mem_of_getElem? (i := 1508) (by decide +kernel), List.mem_of_getElem? (i := 1509) (by decide +kernel)⟩
theorem lw_p103 : lw_okq (⟨"RingDriveModel", "isFree", "(II)Z"⟩, 84) := ⟨⟨by decide +kernel, by decide +kernel⟩, List.mem_of_getElem? (i := 1393) (by decide +kernel), List.mem_of_getElem? (i := 1515) (by decide +kernel), List.mem_of_getElem? (i := 1516) (by decide +kernel)⟩
theorem lw_p104 : lw_okq (⟨"RingDriveModel", "entries", "()I"⟩, 84) := ⟨⟨by decide +kernel, by decide +kernel⟩, List.mem_of_getElem? (i := 1393) (by decide +kernel), List.mem_of_getElem? (i := 1519) (by decide +kernel), List.mem_of_getElem? (i := 1520) (by decide +kernel)⟩
theorem lw_p105 : lw_okq (⟨"RingDriveModel", "used", "(III)I"⟩, 84) := ⟨⟨by decide +kernel, by decide +kernel⟩, List.mem_of_getElem? (i := 1393) (by decide +kernel), List.mem_of_getElem? (i := 1523) (by decide +kernel), List.mem_of_getElem? (i := 1524) (by decide +kernel)⟩
theorem lw_p106 : lw_okq (⟨"RingDriveModel", "changesType", "(IIII)I"⟩, 84) := ⟨⟨by decide +kernel, by decide +kernel⟩, List.mem_of_getElem? (i := 1393) (by decide +kernel), List.mem_of_getElem? (i := 1527) (by decide +kernel), List.mem_of_getElem? (i := 1528) (by decide +kernel)⟩
theorem lw_p107 : lw_okq (⟨"RingDriveModel", "writeBlock", "(II[II)I"⟩, 84) := ⟨⟨by decide +kernel, by decide +kernel⟩, List.mem_of_getElem? (i := 1393) (by decide +kernel), List.mem_of_getElem? (i := 1531) (by decide +kernel), List.mem_of_getElem? (i := 1532) (by decide +kernel)⟩
theorem lw_p108 : lw_okq (⟨"RingDriveModel", "lays", "(II)V"⟩, 84) := ⟨⟨by decide +kernel, by decide +kernel⟩, List.mem_of_getElem? (i := 1393) (by decide +kernel), List.mem_of_getElem? (i := 1535) (by decide +kernel), List.mem_of_getElem? (i := 1536) (by decide +kernel)⟩
theorem lw_p109 : lw_okq (⟨"RingDriveModel", "setBit", "(III)V"⟩, 84) := ⟨⟨by decide +kernel, by decide +kernel⟩, List.mem_of_getElem? (i := 1393) (by decide +kernel), List.mem_of_getElem? (i := 1539) (by decide +kernel), List.mem_of_getElem? (i := 1540) (by decide +kernel)⟩
theorem lw_p110 : lw_okq (⟨"RingDriveModel", "data", "([II)V"⟩, 84) := ⟨⟨by decide +kernel, by decide +kernel⟩, List.mem_of_getElem? (i := 1393) (by decide +kernel), List.mem_of_getElem? (i := 1543) (by decide +kernel), List.mem_of_getElem? (i := 1544) (by decide +kernel)⟩
theorem lw_p111 : lw_okq (⟨"RingDriveModel", "uses", "(II)I"⟩, 84) := ⟨⟨by decide +kernel, by decide +kernel⟩, List.mem_of_getElem? (i := 1393) (by decide +kernel), List.mem_of_getElem? (i := 1547) (by decide +kernel), List.mem_of_getElem? (i := 1548) (by decide +kernel)⟩
def lw_privs_7 : List (MethodName × Nat) := [(⟨"RingDriveModel", "seek", "(II)I"⟩, 84), (⟨"RingDriveModel", "header", "(IIII)V"⟩, 84), (⟨"RingDriveModel", "codes", "(I)V"⟩, 84), (⟨"RingDriveModel", "gets", "()V"⟩, 84), (⟨"RingDriveModel", "validates", "()I"⟩, 84), (⟨"RingDriveModel", "freesAll", "()V"⟩, 84), (⟨"RingDriveModel", "takes", "(II)V"⟩, 84), (⟨"RingDriveModel", "isFree", "(II)Z"⟩, 84), (⟨"RingDriveModel", "entries", "()I"⟩, 84), (⟨"RingDriveModel", "used", "(III)I"⟩, 84), (⟨"RingDriveModel", "changesType", "(IIII)I"⟩, 84), (⟨"RingDriveModel", "writeBlock", "(II[II)I"⟩, 84), (⟨"RingDriveModel", "lays", "(II)V"⟩, 84), (⟨"RingDriveModel", "setBit", "(III)V"⟩, 84), (⟨"RingDriveModel", "data", "([II)V"⟩, 84), (⟨"RingDriveModel", "uses", "(II)I"⟩, 84)]
theorem lw_r7 : ∀ q ∈ lw_privs_7, lw_okq q := List.forall_mem_cons.mpr ⟨lw_p96, List.forall_mem_cons.mpr ⟨lw_p97, List.forall_mem_cons.mpr ⟨lw_p98, List.forall_mem_cons.mpr ⟨lw_p99, List.forall_mem_cons.mpr ⟨lw_p100, List.forall_mem_cons.mpr ⟨lw_p101, List.forall_mem_cons.mpr ⟨lw_p102, List.forall_mem_cons.mpr ⟨lw_p103, List.forall_mem_cons.mpr ⟨lw_p104, List.forall_mem_cons.mpr ⟨lw_p105, List.forall_mem_cons.mpr ⟨lw_p106, List.forall_mem_cons.mpr ⟨lw_p107, List.forall_mem_cons.mpr ⟨lw_p108, List.forall_mem_cons.mpr ⟨lw_p109, List.forall_mem_cons.mpr ⟨lw_p110, List.forall_mem_cons.mpr ⟨lw_p111, fun _ h => absurd h List.not_mem_nil⟩⟩⟩⟩⟩⟩⟩⟩⟩⟩⟩⟩⟩⟩⟩⟩
theorem lw_p112 : lw_okq (⟨"RingDriveModel", "stores", "()I"⟩, 84) := ⟨⟨by decide +kernel, by decide +kernel⟩, List.mem_of_getElem? (i := 1393) (by decide +kernel), List.mem_of_getElem? (i := 1551) (by decide +kernel), List.mem_of_getElem? (i := 1552) (by decide +kernel)⟩
theorem lw_p113 : lw_okq (⟨"RingDriveModel", "shutsAll", "()V"⟩, 84) := ⟨⟨by decide +kernel, by decide +kernel⟩, List.mem_of_getElem? (i := 1393) (by decide +kernel), List.mem_of_getElem? (i := 1555) (by decide +kernel), List.mem_of_getElem? (i := 1556) (by decide +kernel)⟩
theorem lw_p114 : lw_okq (⟨"RingDriveModel", "news", "(I)I"⟩, 84) := ⟨⟨by decide +kernel, by decide +kernel⟩, List.mem_of_getElem? (i := 1393) (by decide +kernel), List.mem_of_getElem? (i := 1559) (by decide +kernel), List.mem_of_getElem? (i := 1560) (by decide +kernel)⟩
theorem lw_p115 : lw_okq (⟨"RingDriveModel", "isWild", "(II)Z"⟩, 84) := ⟨⟨by decide +kernel, by decide +kernel⟩, List.mem_of_getElem? (i := 1393) (by decide +kernel), List.mem_of_getElem? (i := 1563) (by decide +kernel), List.mem_of_getElem? (i := 1564) (by decide +kernel)⟩
theorem lw_p116 : lw_okq (⟨"RingDriveModel", "format", "(III)I"⟩, 84) := ⟨⟨by decide +kernel, by decide +kernel⟩, List.mem_of_getElem? (i := 1393) (by decide +kernel), List.mem_of_getElem? (i := 1567) (by decide +kernel), List.mem_of_getElem? (i := 1568) (by decide +kernel)⟩
theorem lw_p117 : lw_okq (⟨"RingDriveModel", "maps", "(I)I"⟩, 84) := ⟨⟨by decide +kernel, by decide +kernel⟩, List.mem_of_getElem? (i := 1393) (by decide +kernel), List.mem_of_getElem? (i := 1571) (by decide +kernel), List.mem_of_getElem? (i := 1572) (by decide +kernel)⟩
theorem lw_p118 : lw_okq (⟨"RingDriveModel", "scratch", "(I)I"⟩, 84) := ⟨⟨by decide +kernel, by decide +kernel⟩, List.mem_of_getElem? (i := 1393) (by decide +kernel), List.mem_of_getElem? (i := 1575) (by decide +kernel), List.mem_of_getElem? (i := 1576) (by decide +kernel)⟩
theorem lw_p119 : lw_okq (⟨"RingDriveModel", "finds", "(I[III)I"⟩, 84) := ⟨⟨by decide +kernel, by decide +kernel⟩, List.mem_of_getElem? (i := 1393) (by decide +kernel), List.mem_of_getElem? (i := 1579) (by decide +kernel), List.mem_of_getElem? (i := 1580) (by decide +kernel)⟩
theorem lw_p120 : lw_okq (⟨"RingDriveModel", "scratches", "()I"⟩, 84) := ⟨⟨by decide +kernel, by decide +kernel⟩, List.mem_of_getElem? (i := 1393) (by decide +kernel), List.mem_of_getElem? (i := 1589) (by decide +kernel), List.mem_of_getElem? (i := 1590) (by decide +kernel)⟩
theorem lw_p121 : lw_okq (⟨"RingDriveModel", "freesChain", "(II)I"⟩, 84) := ⟨⟨by decide +kernel, by decide +kernel⟩, List.mem_of_getElem? (i := 1393) (by decide +kernel), List.mem_of_getElem? (i := 1593) (by decide +kernel), List.mem_of_getElem? (i := 1594) (by decide +kernel)⟩
theorem lw_p122 : lw_okq (⟨"RingDriveModel", "givesBack", "(II)V"⟩, 84) := ⟨⟨by decide +kernel, by decide +kernel⟩, List.mem_of_getElem? (i := 1393) (by decide +kernel), List.mem_of_getElem? (i := 1597) (by decide +kernel), List.mem_of_getElem? (i := 1598) (by decide +kernel)⟩
theorem lw_p123 : lw_okq (⟨"RingDriveModel", "renames", "(I)I"⟩, 84) := ⟨⟨by decide +kernel, by decide +kernel⟩, List.mem_of_getElem? (i := 1393) (by decide +kernel), List.mem_of_getElem? (i := 1601) (by decide +kernel), List.mem_of_getElem? (i := 1602) (by decide +kernel)⟩
theorem lw_p124 : lw_okq (⟨"RingDriveModel", "blockOf", "(IZ)I"⟩, 84) := ⟨⟨by decide +kernel, by decide +kernel⟩, List.mem_of_getElem? (i := 1393) (by decide +kernel), List.mem_of_getElem? (i := 1605) (by decide +kernel), List.mem_of_getElem? (i := 1606) (by decide +kernel)⟩
theorem lw_p125 : lw_okq (⟨"RingDriveModel", "numbers", "(I)Z"⟩, 84) := ⟨⟨by decide +kernel, by decide +kernel⟩, List.mem_of_getElem? (i := 1393) (by decide +kernel), List.mem_of_getElem? (i := 1609) (by decide +kernel), List.mem_of_getElem? (i := 1610) (by decide +kernel)⟩
theorem lw_p126 : lw_okq (⟨"RingDriveModel", "numberNext", "(I)I"⟩, 84) := ⟨⟨by decide +kernel, by decide +kernel⟩, List.mem_of_getElem? (i := 1393) (by decide +kernel), List.mem_of_getElem? (i := 1613) (by decide +kernel), List.mem_of_getElem? (i := 1614) (by decide +kernel)⟩
theorem lw_p127 : lw_okq (⟨"RingDriveModel", "begins3", "(III)Z"⟩, 84) := ⟨⟨by decide +kernel, by decide +kernel⟩, List.mem_of_getElem? (i := 1393) (by decide +kernel), List.mem_of_getElem? (i := 1620) (by decide +kernel), List.mem_of_getElem? (i := 1621) (by decide +kernel)⟩
def lw_privs_8 : List (MethodName × Nat) := [(⟨"RingDriveModel", "stores", "()I"⟩, 84), (⟨"RingDriveModel", "shutsAll", "()V"⟩, 84), (⟨"RingDriveModel", "news", "(I)I"⟩, 84), (⟨"RingDriveModel", "isWild", "(II)Z"⟩, 84), (⟨"RingDriveModel", "format", "(III)I"⟩, 84), (⟨"RingDriveModel", "maps", "(I)I"⟩, 84), (⟨"RingDriveModel", "scratch", "(I)I"⟩, 84), (⟨"RingDriveModel", "finds", "(I[III)I"⟩, 84), (⟨"RingDriveModel", "scratches", "()I"⟩, 84), (⟨"RingDriveModel", "freesChain", "(II)I"⟩, 84), (⟨"RingDriveModel", "givesBack", "(II)V"⟩, 84), (⟨"RingDriveModel", "renames", "(I)I"⟩, 84), (⟨"RingDriveModel", "blockOf", "(IZ)I"⟩, 84), (⟨"RingDriveModel", "numbers", "(I)Z"⟩, 84), (⟨"RingDriveModel", "numberNext", "(I)I"⟩, 84), (⟨"RingDriveModel", "begins3", "(III)Z"⟩, 84)]
theorem lw_r8 : ∀ q ∈ lw_privs_8, lw_okq q := List.forall_mem_cons.mpr ⟨lw_p112, List.forall_mem_cons.mpr ⟨lw_p113, List.forall_mem_cons.mpr ⟨lw_p114, List.forall_mem_cons.mpr ⟨lw_p115, List.forall_mem_cons.mpr ⟨lw_p116, List.forall_mem_cons.mpr ⟨lw_p117, List.forall_mem_cons.mpr ⟨lw_p118, List.forall_mem_cons.mpr ⟨lw_p119, List.forall_mem_cons.mpr ⟨lw_p120, List.forall_mem_cons.mpr ⟨lw_p121, List.forall_mem_cons.mpr ⟨lw_p122, List.forall_mem_cons.mpr ⟨lw_p123, List.forall_mem_cons.mpr ⟨lw_p124, List.forall_mem_cons.mpr ⟨lw_p125, List.forall_mem_cons.mpr ⟨lw_p126, List.forall_mem_cons.mpr ⟨lw_p127, fun _ h => absurd h List.not_mem_nil⟩⟩⟩⟩⟩⟩⟩⟩⟩⟩⟩⟩⟩⟩⟩⟩
theorem lw_p128 : lw_okq (⟨"RingDriveModel", "pointer", "(I)I"⟩, 84) := ⟨⟨by decide +kernel, by decide +kernel⟩, List.mem_of_getElem? (i := 1393) (by decide +kernel), List.mem_of_getElem? (i := 1624) (by decide +kernel), List.mem_of_getElem? (i := 1625) (by decide +kernel)⟩
theorem lw_p129 : lw_okq (⟨"RingDriveModel", "allocates", "(I)I"⟩, 84) := ⟨⟨by decide +kernel, by decide +kernel⟩, List.mem_of_getElem? (i := 1393) (by decide +kernel), List.mem_of_getElem? (i := 1628) (by decide +kernel), List.mem_of_getElem? (i := 1629) (by decide +kernel)⟩
theorem lw_p130 : lw_okq (⟨"RingDriveModel", "frees", "(I)I"⟩, 84) := ⟨⟨by decide +kernel, by decide +kernel⟩, List.mem_of_getElem? (i := 1393) (by decide +kernel), List.mem_of_getElem? (i := 1632) (by decide +kernel), List.mem_of_getElem? (i := 1633) (by decide +kernel)⟩
theorem lw_p131 : lw_okq (⟨"RingDriveModel", "memories", "(I)I"⟩, 84) := ⟨⟨by decide +kernel, by decide +kernel⟩, List.mem_of_getElem? (i := 1393) (by decide +kernel), List.mem_of_getElem? (i := 1636) (by decide +kernel), List.mem_of_getElem? (i := 1637) (by decide +kernel)⟩
theorem lw_p132 : lw_okq (⟨"RingDriveModel", "put", "(II)V"⟩, 84) := ⟨⟨by decide +kernel, by decide +kernel⟩, List.mem_of_getElem? (i := 1393) (by decide +kernel), List.mem_of_getElem? (i := 1640) (by decide +kernel), List.mem_of_getElem? (i := 1641) (by decide +kernel)⟩
theorem lw_p133 : lw_okq (⟨"RingDriveModel", "get", "(I)I"⟩, 84) := ⟨⟨by decide +kernel, by decide +kernel⟩, List.mem_of_getElem? (i := 1393) (by decide +kernel), List.mem_of_getElem? (i := 1644) (by decide +kernel), List.mem_of_getElem? (i := 1645) (by decide +kernel)⟩
theorem lw_p134 : lw_okq (⟨"RingDriveModel", "runs", "(I)I"⟩, 84) := ⟨⟨by decide +kernel, by decide +kernel⟩, List.mem_of_getElem? (i := 1393) (by decide +kernel), List.mem_of_getElem? (i := 1648) (by decide +kernel), List.mem_of_getElem? (i := 1649) (by decide +kernel)⟩
theorem lw_p135 : lw_okq (⟨"RingDriveModel", "step", "(I)Z"⟩, 84) := ⟨⟨by decide +kernel, by decide +kernel⟩, List.mem_of_getElem? (i := 1393) (by decide +kernel), List.mem_of_getElem? (i := 1652) (by decide +kernel), List.mem_of_getElem? (i := 1653) (by decide +kernel)⟩
theorem lw_p136 : lw_okq (⟨"RingDriveModel", "works", "(I)Z"⟩, 84) := ⟨⟨by decide +kernel, by decide +kernel⟩, List.mem_of_getElem? (i := 1393) (by decide +kernel), List.mem_of_getElem? (i := 1656) (by decide +kernel), List.mem_of_getElem? (i := 1657) (by decide +kernel)⟩
theorem lw_p137 : lw_okq (⟨"RingDriveModel", "address", "(I)I"⟩, 84) := ⟨⟨by decide +kernel, by decide +kernel⟩, List.mem_of_getElem? (i := 1393) (by decide +kernel), List.mem_of_getElem? (i := 1663) (by decide +kernel), List.mem_of_getElem? (i := 1664) (by decide +kernel)⟩
theorem lw_p138 : lw_okq (⟨"RingDriveModel", "byteNext", "()I"⟩, 84) := ⟨⟨by decide +kernel, by decide +kernel⟩, List.mem_of_getElem? (i := 1393) (by decide +kernel), List.mem_of_getElem? (i := 1667) (by decide +kernel), List.mem_of_getElem? (i := 1668) (by decide +kernel)⟩
theorem lw_p139 : lw_okq (⟨"RingDriveModel", "wordNext", "()I"⟩, 84) := ⟨⟨by decide +kernel, by decide +kernel⟩, List.mem_of_getElem? (i := 1393) (by decide +kernel), List.mem_of_getElem? (i := 1671) (by decide +kernel), List.mem_of_getElem? (i := 1672) (by decide +kernel)⟩
theorem lw_p140 : lw_okq (⟨"RingDriveModel", "readTime", "(I)I"⟩, 84) := ⟨⟨by decide +kernel, by decide +kernel⟩, List.mem_of_getElem? (i := 1393) (by decide +kernel), List.mem_of_getElem? (i := 1678) (by decide +kernel), List.mem_of_getElem? (i := 1679) (by decide +kernel)⟩
theorem lw_p141 : lw_okq (⟨"RingDriveModel", "marks", "(I)I"⟩, 84) := ⟨⟨by decide +kernel, by decide +kernel⟩, List.mem_of_getElem? (i := 1393) (by decide +kernel), List.mem_of_getElem? (i := 1682) (by decide +kernel), List.mem_of_getElem? (i := 1683) (by decide +kernel)⟩
theorem lw_p142 : lw_okq (⟨"RingDriveModel", "flag", "(IZ)V"⟩, 84) := ⟨⟨by decide +kernel, by decide +kernel⟩, List.mem_of_getElem? (i := 1393) (by decide +kernel), List.mem_of_getElem? (i := 1686) (by decide +kernel), List.mem_of_getElem? (i := 1687) (by decide +kernel)⟩
theorem lw_p143 : lw_okq (⟨"RingDriveModel", "adds", "(I)V"⟩, 84) := ⟨⟨by decide +kernel, by decide +kernel⟩, List.mem_of_getElem? (i := 1393) (by decide +kernel), List.mem_of_getElem? (i := 1690) (by decide +kernel), List.mem_of_getElem? (i := 1691) (by decide +kernel)⟩
def lw_privs_9 : List (MethodName × Nat) := [(⟨"RingDriveModel", "pointer", "(I)I"⟩, 84), (⟨"RingDriveModel", "allocates", "(I)I"⟩, 84), (⟨"RingDriveModel", "frees", "(I)I"⟩, 84), (⟨"RingDriveModel", "memories", "(I)I"⟩, 84), (⟨"RingDriveModel", "put", "(II)V"⟩, 84), (⟨"RingDriveModel", "get", "(I)I"⟩, 84), (⟨"RingDriveModel", "runs", "(I)I"⟩, 84), (⟨"RingDriveModel", "step", "(I)Z"⟩, 84), (⟨"RingDriveModel", "works", "(I)Z"⟩, 84), (⟨"RingDriveModel", "address", "(I)I"⟩, 84), (⟨"RingDriveModel", "byteNext", "()I"⟩, 84), (⟨"RingDriveModel", "wordNext", "()I"⟩, 84), (⟨"RingDriveModel", "readTime", "(I)I"⟩, 84), (⟨"RingDriveModel", "marks", "(I)I"⟩, 84), (⟨"RingDriveModel", "flag", "(IZ)V"⟩, 84), (⟨"RingDriveModel", "adds", "(I)V"⟩, 84)]
theorem lw_r9 : ∀ q ∈ lw_privs_9, lw_okq q := List.forall_mem_cons.mpr ⟨lw_p128, List.forall_mem_cons.mpr ⟨lw_p129, List.forall_mem_cons.mpr ⟨lw_p130, List.forall_mem_cons.mpr ⟨lw_p131, List.forall_mem_cons.mpr ⟨lw_p132, List.forall_mem_cons.mpr ⟨lw_p133, List.forall_mem_cons.mpr ⟨lw_p134, List.forall_mem_cons.mpr ⟨lw_p135, List.forall_mem_cons.mpr ⟨lw_p136, List.forall_mem_cons.mpr ⟨lw_p137, List.forall_mem_cons.mpr ⟨lw_p138, List.forall_mem_cons.mpr ⟨lw_p139, List.forall_mem_cons.mpr ⟨lw_p140, List.forall_mem_cons.mpr ⟨lw_p141, List.forall_mem_cons.mpr ⟨lw_p142, List.forall_mem_cons.mpr ⟨lw_p143, fun _ h => absurd h List.not_mem_nil⟩⟩⟩⟩⟩⟩⟩⟩⟩⟩⟩⟩⟩⟩⟩⟩
theorem lw_p144 : lw_okq (⟨"RingDriveModel", "is", "(I)Z"⟩, 84) := ⟨⟨by decide +kernel, by decide +kernel⟩, List.mem_of_getElem? (i := 1393) (by decide +kernel), List.mem_of_getElem? (i := 1694) (by decide +kernel), List.mem_of_getElem? (i := 1695) (by decide +kernel)⟩
theorem lw_p145 : lw_okq (⟨"RingDriveModel", "compares", "(II)V"⟩, 84) := ⟨⟨by decide +kernel, by decide +kernel⟩, List.mem_of_getElem? (i := 1393) (by decide +kernel), List.mem_of_getElem? (i := 1698) (by decide +kernel), List.mem_of_getElem? (i := 1699) (by decide +kernel)⟩
theorem lw_p146 : lw_okq (⟨"RingDriveModel", "takesOff", "(I)V"⟩, 84) := ⟨⟨by decide +kernel, by decide +kernel⟩, List.mem_of_getElem? (i := 1393) (by decide +kernel), List.mem_of_getElem? (i := 1702) (by decide +kernel), List.mem_of_getElem? (i := 1703) (by decide +kernel)⟩
theorem lw_p147 : lw_okq (⟨"RingDriveModel", "twos", "(I)Z"⟩, 84) := ⟨⟨by decide +kernel, by decide +kernel⟩, List.mem_of_getElem? (i := 1393) (by decide +kernel), List.mem_of_getElem? (i := 1706) (by decide +kernel), List.mem_of_getElem? (i := 1707) (by decide +kernel)⟩
theorem lw_p148 : lw_okq (⟨"RingDriveModel", "shifted", "(II)I"⟩, 84) := ⟨⟨by decide +kernel, by decide +kernel⟩, List.mem_of_getElem? (i := 1393) (by decide +kernel), List.mem_of_getElem? (i := 1710) (by decide +kernel), List.mem_of_getElem? (i := 1711) (by decide +kernel)⟩
theorem lw_p149 : lw_okq (⟨"RingDriveModel", "takes2", "(I)Z"⟩, 84) := ⟨⟨by decide +kernel, by decide +kernel⟩, List.mem_of_getElem? (i := 1393) (by decide +kernel), List.mem_of_getElem? (i := 1714) (by decide +kernel), List.mem_of_getElem? (i := 1715) (by decide +kernel)⟩
theorem lw_p150 : lw_okq (⟨"RingDriveModel", "changes", "(II)V"⟩, 84) := ⟨⟨by decide +kernel, by decide +kernel⟩, List.mem_of_getElem? (i := 1393) (by decide +kernel), List.mem_of_getElem? (i := 1718) (by decide +kernel), List.mem_of_getElem? (i := 1719) (by decide +kernel)⟩
theorem lw_p151 : lw_okq (⟨"RingDriveModel", "keeps", "(II)Z"⟩, 84) := ⟨⟨by decide +kernel, by decide +kernel⟩, List.mem_of_getElem? (i := 1393) (by decide +kernel), List.mem_of_getElem? (i := 1722) (by decide +kernel), List.mem_of_getElem? (i := 1723) (by decide +kernel)⟩
theorem lw_p152 : lw_okq (⟨"RingDriveModel", "fetches", "(II)Z"⟩, 84) := ⟨⟨by decide +kernel, by decide +kernel⟩, List.mem_of_getElem? (i := 1393) (by decide +kernel), List.mem_of_getElem? (i := 1726) (by decide +kernel), List.mem_of_getElem? (i := 1727) (by decide +kernel)⟩
theorem lw_p153 : lw_okq (⟨"RingDriveModel", "zeros", "(I)Z"⟩, 84) := ⟨⟨by decide +kernel, by decide +kernel⟩, List.mem_of_getElem? (i := 1393) (by decide +kernel), List.mem_of_getElem? (i := 1730) (by decide +kernel), List.mem_of_getElem? (i := 1731) (by decide +kernel)⟩
theorem lw_p154 : lw_okq (⟨"RingDriveModel", "branch", "(Z)V"⟩, 84) := ⟨⟨by decide +kernel, by decide +kernel⟩, List.mem_of_getElem? (i := 1393) (by decide +kernel), List.mem_of_getElem? (i := 1734) (by decide +kernel), List.mem_of_getElem? (i := 1735) (by decide +kernel)⟩
theorem lw_p155 : lw_okq (⟨"RingDriveModel", "tests", "(I)Z"⟩, 84) := ⟨⟨by decide +kernel, by decide +kernel⟩, List.mem_of_getElem? (i := 1393) (by decide +kernel), List.mem_of_getElem? (i := 1738) (by decide +kernel), List.mem_of_getElem? (i := 1739) (by decide +kernel)⟩
theorem lw_p156 : lw_okq (⟨"RingDriveModel", "compared", "(II)Z"⟩, 84) := ⟨⟨by decide +kernel, by decide +kernel⟩, List.mem_of_getElem? (i := 1393) (by decide +kernel), List.mem_of_getElem? (i := 1742) (by decide +kernel), List.mem_of_getElem? (i := 1743) (by decide +kernel)⟩
theorem lw_p157 : lw_okq (⟨"RingDriveModel", "push", "(I)V"⟩, 84) := ⟨⟨by decide +kernel, by decide +kernel⟩, List.mem_of_getElem? (i := 1393) (by decide +kernel), List.mem_of_getElem? (i := 1746) (by decide +kernel), List.mem_of_getElem? (i := 1747) (by decide +kernel)⟩
theorem lw_p158 : lw_okq (⟨"RingDriveModel", "pull", "()I"⟩, 84) := ⟨⟨by decide +kernel, by decide +kernel⟩, List.mem_of_getElem? (i := 1393) (by decide +kernel), List.mem_of_getElem? (i := 1750) (by decide +kernel), List.mem_of_getElem? (i := 1751) (by decide +kernel)⟩
theorem lw_p159 : lw_okq (⟨"RingDriveModel", "jumps", "(I)Z"⟩, 84) := ⟨⟨by decide +kernel, by decide +kernel⟩, List.mem_of_getElem? (i := 1393) (by decide +kernel), List.mem_of_getElem? (i := 1754) (by decide +kernel), List.mem_of_getElem? (i := 1755) (by decide +kernel)⟩
def lw_privs_10 : List (MethodName × Nat) := [(⟨"RingDriveModel", "is", "(I)Z"⟩, 84), (⟨"RingDriveModel", "compares", "(II)V"⟩, 84), (⟨"RingDriveModel", "takesOff", "(I)V"⟩, 84), (⟨"RingDriveModel", "twos", "(I)Z"⟩, 84), (⟨"RingDriveModel", "shifted", "(II)I"⟩, 84), (⟨"RingDriveModel", "takes2", "(I)Z"⟩, 84), (⟨"RingDriveModel", "changes", "(II)V"⟩, 84), (⟨"RingDriveModel", "keeps", "(II)Z"⟩, 84), (⟨"RingDriveModel", "fetches", "(II)Z"⟩, 84), (⟨"RingDriveModel", "zeros", "(I)Z"⟩, 84), (⟨"RingDriveModel", "branch", "(Z)V"⟩, 84), (⟨"RingDriveModel", "tests", "(I)Z"⟩, 84), (⟨"RingDriveModel", "compared", "(II)Z"⟩, 84), (⟨"RingDriveModel", "push", "(I)V"⟩, 84), (⟨"RingDriveModel", "pull", "()I"⟩, 84), (⟨"RingDriveModel", "jumps", "(I)Z"⟩, 84)]
theorem lw_r10 : ∀ q ∈ lw_privs_10, lw_okq q := List.forall_mem_cons.mpr ⟨lw_p144, List.forall_mem_cons.mpr ⟨lw_p145, List.forall_mem_cons.mpr ⟨lw_p146, List.forall_mem_cons.mpr ⟨lw_p147, List.forall_mem_cons.mpr ⟨lw_p148, List.forall_mem_cons.mpr ⟨lw_p149, List.forall_mem_cons.mpr ⟨lw_p150, List.forall_mem_cons.mpr ⟨lw_p151, List.forall_mem_cons.mpr ⟨lw_p152, List.forall_mem_cons.mpr ⟨lw_p153, List.forall_mem_cons.mpr ⟨lw_p154, List.forall_mem_cons.mpr ⟨lw_p155, List.forall_mem_cons.mpr ⟨lw_p156, List.forall_mem_cons.mpr ⟨lw_p157, List.forall_mem_cons.mpr ⟨lw_p158, List.forall_mem_cons.mpr ⟨lw_p159, fun _ h => absurd h List.not_mem_nil⟩⟩⟩⟩⟩⟩⟩⟩⟩⟩⟩⟩⟩⟩⟩⟩
theorem lw_p160 : lw_okq (⟨"RingDriveModel", "opens", "(II)I"⟩, 84) := ⟨⟨by decide +kernel, by decide +kernel⟩, List.mem_of_getElem? (i := 1393) (by decide +kernel), List.mem_of_getElem? (i := 1758) (by decide +kernel), List.mem_of_getElem? (i := 1759) (by decide +kernel)⟩
theorem lw_p161 : lw_okq (⟨"RingDriveModel", "shuts", "(I)I"⟩, 84) := ⟨⟨by decide +kernel, by decide +kernel⟩, List.mem_of_getElem? (i := 1393) (by decide +kernel), List.mem_of_getElem? (i := 1762) (by decide +kernel), List.mem_of_getElem? (i := 1763) (by decide +kernel)⟩
theorem lw_p162 : lw_okq (⟨"RingDriveModel", "openMany", "()I"⟩, 84) := ⟨⟨by decide +kernel, by decide +kernel⟩, List.mem_of_getElem? (i := 1393) (by decide +kernel), List.mem_of_getElem? (i := 1766) (by decide +kernel), List.mem_of_getElem? (i := 1767) (by decide +kernel)⟩
theorem lw_p163 : lw_okq (⟨"RingDriveModel", "opensList", "(II)I"⟩, 84) := ⟨⟨by decide +kernel, by decide +kernel⟩, List.mem_of_getElem? (i := 1393) (by decide +kernel), List.mem_of_getElem? (i := 1770) (by decide +kernel), List.mem_of_getElem? (i := 1771) (by decide +kernel)⟩
theorem lw_p164 : lw_okq (⟨"RingDriveModel", "opensFile", "(II)I"⟩, 84) := ⟨⟨by decide +kernel, by decide +kernel⟩, List.mem_of_getElem? (i := 1393) (by decide +kernel), List.mem_of_getElem? (i := 1774) (by decide +kernel), List.mem_of_getElem? (i := 1775) (by decide +kernel)⟩
theorem lw_p165 : lw_okq (⟨"RingDriveModel", "opensNew", "(IIIIZ)I"⟩, 84) := ⟨⟨by decide +kernel, by decide +kernel⟩, List.mem_of_getElem? (i := 1393) (by decide +kernel), List.mem_of_getElem? (i := 1778) (by decide +kernel), List.mem_of_getElem? (i := 1779) (by decide +kernel)⟩
theorem lw_p166 : lw_okq (⟨"RingDriveModel", "makesEntry", "()I"⟩, 84) := ⟨⟨by decide +kernel, by decide +kernel⟩, List.mem_of_getElem? (i := 1393) (by decide +kernel), List.mem_of_getElem? (i := 1782) (by decide +kernel), List.mem_of_getElem? (i := 1783) (by decide +kernel)⟩
theorem lw_p167 : lw_okq (⟨"RingDriveModel", "lowest", "(I)I"⟩, 84) := ⟨⟨by decide +kernel, by decide +kernel⟩, List.mem_of_getElem? (i := 1393) (by decide +kernel), List.mem_of_getElem? (i := 1786) (by decide +kernel), List.mem_of_getElem? (i := 1787) (by decide +kernel)⟩
theorem lw_p168 : lw_okq (⟨"RingDriveModel", "takesOne", "()I"⟩, 84) := ⟨⟨by decide +kernel, by decide +kernel⟩, List.mem_of_getElem? (i := 1393) (by decide +kernel), List.mem_of_getElem? (i := 1790) (by decide +kernel), List.mem_of_getElem? (i := 1791) (by decide +kernel)⟩
theorem lw_p169 : lw_okq (⟨"RingDriveModel", "clears", "(I)V"⟩, 84) := ⟨⟨by decide +kernel, by decide +kernel⟩, List.mem_of_getElem? (i := 1393) (by decide +kernel), List.mem_of_getElem? (i := 1797) (by decide +kernel), List.mem_of_getElem? (i := 1798) (by decide +kernel)⟩
theorem lw_p170 : lw_okq (⟨"RingDriveModel", "opensOld", "(IIII)I"⟩, 84) := ⟨⟨by decide +kernel, by decide +kernel⟩, List.mem_of_getElem? (i := 1393) (by decide +kernel), List.mem_of_getElem? (i := 1801) (by decide +kernel), List.mem_of_getElem? (i := 1802) (by decide +kernel)⟩
theorem lw_p171 : lw_okq (⟨"RingDriveModel", "begun", "(I)V"⟩, 84) := ⟨⟨by decide +kernel, by decide +kernel⟩, List.mem_of_getElem? (i := 1393) (by decide +kernel), List.mem_of_getElem? (i := 1805) (by decide +kernel), List.mem_of_getElem? (i := 1806) (by decide +kernel)⟩
theorem lw_p172 : lw_okq (⟨"RingDriveModel", "givesMore", "(I)V"⟩, 84) := ⟨⟨by decide +kernel, by decide +kernel⟩, List.mem_of_getElem? (i := 1393) (by decide +kernel), List.mem_of_getElem? (i := 1817) (by decide +kernel), List.mem_of_getElem? (i := 1818) (by decide +kernel)⟩
theorem lw_p173 : lw_okq (⟨"RingDriveModel", "gives", "(I)V"⟩, 84) := ⟨⟨by decide +kernel, by decide +kernel⟩, List.mem_of_getElem? (i := 1393) (by decide +kernel), List.mem_of_getElem? (i := 1821) (by decide +kernel), List.mem_of_getElem? (i := 1822) (by decide +kernel)⟩
theorem lw_p174 : lw_okq (⟨"RingDriveModel", "givesStatus", "(I)V"⟩, 84) := ⟨⟨by decide +kernel, by decide +kernel⟩, List.mem_of_getElem? (i := 1393) (by decide +kernel), List.mem_of_getElem? (i := 1825) (by decide +kernel), List.mem_of_getElem? (i := 1826) (by decide +kernel)⟩
theorem lw_p175 : lw_okq (⟨"RingDriveModel", "saysTwo", "(I)V"⟩, 84) := ⟨⟨by decide +kernel, by decide +kernel⟩, List.mem_of_getElem? (i := 1393) (by decide +kernel), List.mem_of_getElem? (i := 1829) (by decide +kernel), List.mem_of_getElem? (i := 1830) (by decide +kernel)⟩
def lw_privs_11 : List (MethodName × Nat) := [(⟨"RingDriveModel", "opens", "(II)I"⟩, 84), (⟨"RingDriveModel", "shuts", "(I)I"⟩, 84), (⟨"RingDriveModel", "openMany", "()I"⟩, 84), (⟨"RingDriveModel", "opensList", "(II)I"⟩, 84), (⟨"RingDriveModel", "opensFile", "(II)I"⟩, 84), (⟨"RingDriveModel", "opensNew", "(IIIIZ)I"⟩, 84), (⟨"RingDriveModel", "makesEntry", "()I"⟩, 84), (⟨"RingDriveModel", "lowest", "(I)I"⟩, 84), (⟨"RingDriveModel", "takesOne", "()I"⟩, 84), (⟨"RingDriveModel", "clears", "(I)V"⟩, 84), (⟨"RingDriveModel", "opensOld", "(IIII)I"⟩, 84), (⟨"RingDriveModel", "begun", "(I)V"⟩, 84), (⟨"RingDriveModel", "givesMore", "(I)V"⟩, 84), (⟨"RingDriveModel", "gives", "(I)V"⟩, 84), (⟨"RingDriveModel", "givesStatus", "(I)V"⟩, 84), (⟨"RingDriveModel", "saysTwo", "(I)V"⟩, 84)]
theorem lw_r11 : ∀ q ∈ lw_privs_11, lw_okq q := List.forall_mem_cons.mpr ⟨lw_p160, List.forall_mem_cons.mpr ⟨lw_p161, List.forall_mem_cons.mpr ⟨lw_p162, List.forall_mem_cons.mpr ⟨lw_p163, List.forall_mem_cons.mpr ⟨lw_p164, List.forall_mem_cons.mpr ⟨lw_p165, List.forall_mem_cons.mpr ⟨lw_p166, List.forall_mem_cons.mpr ⟨lw_p167, List.forall_mem_cons.mpr ⟨lw_p168, List.forall_mem_cons.mpr ⟨lw_p169, List.forall_mem_cons.mpr ⟨lw_p170, List.forall_mem_cons.mpr ⟨lw_p171, List.forall_mem_cons.mpr ⟨lw_p172, List.forall_mem_cons.mpr ⟨lw_p173, List.forall_mem_cons.mpr ⟨lw_p174, List.forall_mem_cons.mpr ⟨lw_p175, fun _ h => absurd h List.not_mem_nil⟩⟩⟩⟩⟩⟩⟩⟩⟩⟩⟩⟩⟩⟩⟩⟩
theorem lw_p176 : lw_okq (⟨"RingDriveModel", "says", "(I)V"⟩, 84) := ⟨⟨by decide +kernel, by decide +kernel⟩, List.mem_of_getElem? (i := 1393) (by decide +kernel), List.mem_of_getElem? (i := 1833) (by decide +kernel), List.mem_of_getElem? (i := 1834) (by decide +kernel)⟩
theorem lw_p177 : lw_okq (⟨"RingDriveModel", "saysWords", "(I)V"⟩, 84) := ⟨⟨by decide +kernel, by decide +kernel⟩, List.mem_of_getElem? (i := 1393) (by decide +kernel), List.mem_of_getElem? (i := 1837) (by decide +kernel), List.mem_of_getElem? (i := 1838) (by decide +kernel)⟩
theorem lw_p178 : lw_okq (⟨"RingDriveModel", "says8", "(J)V"⟩, 84) := ⟨⟨by decide +kernel, by decide +kernel⟩, List.mem_of_getElem? (i := 1393) (by decide +kernel), List.mem_of_getElem? (i := 1842) (by decide +kernel), List.mem_of_getElem? (i := 1843) (by decide +kernel)⟩
theorem lw_p179 : lw_okq (⟨"RingDriveModel", "readsFile", "(II)I"⟩, 84) := ⟨⟨by decide +kernel, by decide +kernel⟩, List.mem_of_getElem? (i := 1393) (by decide +kernel), List.mem_of_getElem? (i := 1883) (by decide +kernel), List.mem_of_getElem? (i := 1884) (by decide +kernel)⟩
theorem lw_p180 : lw_okq (⟨"RingDriveModel", "readsList", "(II)I"⟩, 84) := ⟨⟨by decide +kernel, by decide +kernel⟩, List.mem_of_getElem? (i := 1393) (by decide +kernel), List.mem_of_getElem? (i := 1887) (by decide +kernel), List.mem_of_getElem? (i := 1888) (by decide +kernel)⟩
theorem lw_p181 : lw_okq (⟨"RingDriveModel", "title", "(I)I"⟩, 84) := ⟨⟨by decide +kernel, by decide +kernel⟩, List.mem_of_getElem? (i := 1393) (by decide +kernel), List.mem_of_getElem? (i := 1891) (by decide +kernel), List.mem_of_getElem? (i := 1892) (by decide +kernel)⟩
theorem lw_p182 : lw_okq (⟨"RingDriveModel", "next", "(I)I"⟩, 84) := ⟨⟨by decide +kernel, by decide +kernel⟩, List.mem_of_getElem? (i := 1393) (by decide +kernel), List.mem_of_getElem? (i := 1895) (by decide +kernel), List.mem_of_getElem? (i := 1896) (by decide +kernel)⟩
theorem lw_p183 : lw_okq (⟨"RingDriveModel", "entryLine", "(I)V"⟩, 84) := ⟨⟨by decide +kernel, by decide +kernel⟩, List.mem_of_getElem? (i := 1393) (by decide +kernel), List.mem_of_getElem? (i := 1899) (by decide +kernel), List.mem_of_getElem? (i := 1900) (by decide +kernel)⟩
theorem lw_p184 : lw_okq (⟨"RingDriveModel", "saysNumber", "(I)V"⟩, 84) := ⟨⟨by decide +kernel, by decide +kernel⟩, List.mem_of_getElem? (i := 1393) (by decide +kernel), List.mem_of_getElem? (i := 1903) (by decide +kernel), List.mem_of_getElem? (i := 1904) (by decide +kernel)⟩
theorem lw_p185 : lw_okq (⟨"RingDriveModel", "total", "(I)I"⟩, 84) := ⟨⟨by decide +kernel, by decide +kernel⟩, List.mem_of_getElem? (i := 1393) (by decide +kernel), List.mem_of_getElem? (i := 1907) (by decide +kernel), List.mem_of_getElem? (i := 1908) (by decide +kernel)⟩
theorem lw_p186 : lw_okq (⟨"RingDriveModel", "readsBuffer", "(II)I"⟩, 84) := ⟨⟨by decide +kernel, by decide +kernel⟩, List.mem_of_getElem? (i := 1393) (by decide +kernel), List.mem_of_getElem? (i := 1912) (by decide +kernel), List.mem_of_getElem? (i := 1913) (by decide +kernel)⟩
theorem lw_p187 : lw_okq (⟨"RingDriveModel", "writesByte", "(II)I"⟩, 84) := ⟨⟨by decide +kernel, by decide +kernel⟩, List.mem_of_getElem? (i := 1393) (by decide +kernel), List.mem_of_getElem? (i := 1924) (by decide +kernel), List.mem_of_getElem? (i := 1925) (by decide +kernel)⟩
theorem lw_p188 : lw_okq (⟨"RingDriveModel", "goesOn", "(I)I"⟩, 84) := ⟨⟨by decide +kernel, by decide +kernel⟩, List.mem_of_getElem? (i := 1393) (by decide +kernel), List.mem_of_getElem? (i := 1928) (by decide +kernel), List.mem_of_getElem? (i := 1929) (by decide +kernel)⟩
theorem lw_p189 : lw_okq (⟨"RingDriveModel", "takesNext", "(II)I"⟩, 84) := ⟨⟨by decide +kernel, by decide +kernel⟩, List.mem_of_getElem? (i := 1393) (by decide +kernel), List.mem_of_getElem? (i := 1932) (by decide +kernel), List.mem_of_getElem? (i := 1933) (by decide +kernel)⟩
theorem lw_p190 : lw_okq (⟨"RingDriveModel", "isFull", "(I)I"⟩, 84) := ⟨⟨by decide +kernel, by decide +kernel⟩, List.mem_of_getElem? (i := 1393) (by decide +kernel), List.mem_of_getElem? (i := 1936) (by decide +kernel), List.mem_of_getElem? (i := 1937) (by decide +kernel)⟩
def lw_privs_12 : List (MethodName × Nat) := [(⟨"RingDriveModel", "says", "(I)V"⟩, 84), (⟨"RingDriveModel", "saysWords", "(I)V"⟩, 84), (⟨"RingDriveModel", "says8", "(J)V"⟩, 84), (⟨"RingDriveModel", "readsFile", "(II)I"⟩, 84), (⟨"RingDriveModel", "readsList", "(II)I"⟩, 84), (⟨"RingDriveModel", "title", "(I)I"⟩, 84), (⟨"RingDriveModel", "next", "(I)I"⟩, 84), (⟨"RingDriveModel", "entryLine", "(I)V"⟩, 84), (⟨"RingDriveModel", "saysNumber", "(I)V"⟩, 84), (⟨"RingDriveModel", "total", "(I)I"⟩, 84), (⟨"RingDriveModel", "readsBuffer", "(II)I"⟩, 84), (⟨"RingDriveModel", "writesByte", "(II)I"⟩, 84), (⟨"RingDriveModel", "goesOn", "(I)I"⟩, 84), (⟨"RingDriveModel", "takesNext", "(II)I"⟩, 84), (⟨"RingDriveModel", "isFull", "(I)I"⟩, 84)]
theorem lw_r12 : ∀ q ∈ lw_privs_12, lw_okq q := List.forall_mem_cons.mpr ⟨lw_p176, List.forall_mem_cons.mpr ⟨lw_p177, List.forall_mem_cons.mpr ⟨lw_p178, List.forall_mem_cons.mpr ⟨lw_p179, List.forall_mem_cons.mpr ⟨lw_p180, List.forall_mem_cons.mpr ⟨lw_p181, List.forall_mem_cons.mpr ⟨lw_p182, List.forall_mem_cons.mpr ⟨lw_p183, List.forall_mem_cons.mpr ⟨lw_p184, List.forall_mem_cons.mpr ⟨lw_p185, List.forall_mem_cons.mpr ⟨lw_p186, List.forall_mem_cons.mpr ⟨lw_p187, List.forall_mem_cons.mpr ⟨lw_p188, List.forall_mem_cons.mpr ⟨lw_p189, List.forall_mem_cons.mpr ⟨lw_p190, fun _ h => absurd h List.not_mem_nil⟩⟩⟩⟩⟩⟩⟩⟩⟩⟩⟩⟩⟩⟩⟩
def lw_privs : List (MethodName × Nat) := lw_privs_1 ++ (lw_privs_2 ++ (lw_privs_3 ++ (lw_privs_4 ++ (lw_privs_5 ++ (lw_privs_6 ++ (lw_privs_7 ++ (lw_privs_8 ++ (lw_privs_9 ++ (lw_privs_10 ++ (lw_privs_11 ++ (lw_privs_12)))))))))))
def lw_tbl : List Cond := k2_sels lw_privs ++ tables_1
theorem lw_privs_ok : ∀ q ∈ lw_privs, lw_okq q := by
  show ∀ q ∈ lw_privs_1 ++ (lw_privs_2 ++ (lw_privs_3 ++ (lw_privs_4 ++ (lw_privs_5 ++ (lw_privs_6 ++ (lw_privs_7 ++ (lw_privs_8 ++ (lw_privs_9 ++ (lw_privs_10 ++ (lw_privs_11 ++ (lw_privs_12))))))))))), lw_okq q
  exact List.forall_mem_append.mpr ⟨lw_r1, List.forall_mem_append.mpr ⟨lw_r2, List.forall_mem_append.mpr ⟨lw_r3, List.forall_mem_append.mpr ⟨lw_r4, List.forall_mem_append.mpr ⟨lw_r5, List.forall_mem_append.mpr ⟨lw_r6, List.forall_mem_append.mpr ⟨lw_r7, List.forall_mem_append.mpr ⟨lw_r8, List.forall_mem_append.mpr ⟨lw_r9, List.forall_mem_append.mpr ⟨lw_r10, List.forall_mem_append.mpr ⟨lw_r11, lw_r12⟩⟩⟩⟩⟩⟩⟩⟩⟩⟩⟩
def RX0 : String := "RingDrive$BlockMap"
def TX0 : u_T := fun k => match k with
  | 0 => ("RingDrive$BlockMap", "row", "[I", true)
  | 1 => ("RingDrive$BlockMap", "track", "I", false)
  | 2 => ("RingDrive$BlockMap", "sector", "I", false)
  | _ => ("RingDrive$BlockMap", "disk", "LRingDrive$Disk;", true)
def tyX0 : Nat → FieldType := fun k => match k with
  | 0 => .array .int
  | 1 => .int
  | 2 => .int
  | _ => .object "RingDrive$Disk"
def RX1 : String := "RingDrive$Channel"
def TX1 : u_T := fun k => match k with
  | 0 => ("RingDrive$Channel", "mode", "I", false)
  | 1 => ("RingDrive$Channel", "row", "[I", true)
  | 2 => ("RingDrive$Channel", "place", "I", false)
  | 3 => ("RingDrive$Channel", "end", "I", false)
  | 4 => ("RingDrive$Channel", "isLast", "Z", false)
  | 5 => ("RingDrive$Channel", "track", "I", false)
  | 6 => ("RingDrive$Channel", "sector", "I", false)
  | 7 => ("RingDrive$Channel", "firstTrack", "I", false)
  | 8 => ("RingDrive$Channel", "firstSector", "I", false)
  | 9 => ("RingDrive$Channel", "count", "I", false)
  | 10 => ("RingDrive$Channel", "entryTrack", "I", false)
  | 11 => ("RingDrive$Channel", "entrySector", "I", false)
  | 12 => ("RingDrive$Channel", "entryBlocks", "I", false)
  | 13 => ("RingDrive$Channel", "entry", "I", false)
  | 14 => ("RingDrive$Channel", "pattern", "LRingDrive$Pattern;", true)
  | _ => ("RingDrive$Channel", "titled", "Z", false)
def tyX1 : Nat → FieldType := fun k => match k with
  | 0 => .int
  | 1 => .array .int
  | 2 => .int
  | 3 => .int
  | 4 => .boolean
  | 5 => .int
  | 6 => .int
  | 7 => .int
  | 8 => .int
  | 9 => .int
  | 10 => .int
  | 11 => .int
  | 12 => .int
  | 13 => .int
  | 14 => .object "RingDrive$Pattern"
  | _ => .boolean
def RX2 : String := "RingDrive$Commands"
def TX2 : u_T := fun k => match k with
  | 0 => ("RingDrive$Commands", "dos", "LRingDrive$Dos;", true)
  | 1 => ("RingDrive$Commands", "status", "LRingDrive$Status;", true)
  | 2 => ("RingDrive$Commands", "disk", "LRingDrive$Disk;", true)
  | 3 => ("RingDrive$Commands", "tape", "LRingDrive$Tape;", true)
  | 4 => ("RingDrive$Commands", "map", "LRingDrive$BlockMap;", true)
  | 5 => ("RingDrive$Commands", "directory", "LRingDrive$Directory;", true)
  | 6 => ("RingDrive$Commands", "processor", "LRingDrive$Processor;", true)
  | 7 => ("RingDrive$Commands", "name", "LRingDrive$Pattern;", true)
  | 8 => ("RingDrive$Commands", "old", "LRingDrive$Pattern;", true)
  | _ => ("RingDrive$Commands", "all", "LRingDrive$Pattern;", true)
def tyX2 : Nat → FieldType := fun k => match k with
  | 0 => .object "RingDrive$Dos"
  | 1 => .object "RingDrive$Status"
  | 2 => .object "RingDrive$Disk"
  | 3 => .object "RingDrive$Tape"
  | 4 => .object "RingDrive$BlockMap"
  | 5 => .object "RingDrive$Directory"
  | 6 => .object "RingDrive$Processor"
  | 7 => .object "RingDrive$Pattern"
  | 8 => .object "RingDrive$Pattern"
  | _ => .object "RingDrive$Pattern"
def RX3 : String := "RingDrive$Directory"
def TX3 : u_T := fun k => match k with
  | 0 => ("RingDrive$Directory", "row", "[I", true)
  | 1 => ("RingDrive$Directory", "track", "I", false)
  | 2 => ("RingDrive$Directory", "sector", "I", false)
  | 3 => ("RingDrive$Directory", "blocks", "I", false)
  | 4 => ("RingDrive$Directory", "entry", "I", false)
  | 5 => ("RingDrive$Directory", "found", "Z", false)
  | 6 => ("RingDrive$Directory", "held", "Z", false)
  | 7 => ("RingDrive$Directory", "disk", "LRingDrive$Disk;", true)
  | _ => ("RingDrive$Directory", "status", "LRingDrive$Status;", true)
def tyX3 : Nat → FieldType := fun k => match k with
  | 0 => .array .int
  | 1 => .int
  | 2 => .int
  | 3 => .int
  | 4 => .int
  | 5 => .boolean
  | 6 => .boolean
  | 7 => .object "RingDrive$Disk"
  | _ => .object "RingDrive$Status"
def RX4 : String := "RingDrive$Disk"
def TX4 : u_T := fun k => match k with
  | 0 => ("RingDrive$Disk", "guarded", "Z", false)
  | 1 => ("RingDrive$Disk", "idFirst", "I", false)
  | 2 => ("RingDrive$Disk", "idSecond", "I", false)
  | 3 => ("RingDrive$Disk", "status", "LRingDrive$Status;", true)
  | 4 => ("RingDrive$Disk", "rings", "[LRingDrive$Ring;", true)
  | 5 => ("RingDrive$Disk", "header", "[I", true)
  | 6 => ("RingDrive$Disk", "codedHeader", "[I", true)
  | 7 => ("RingDrive$Disk", "data", "[I", true)
  | 8 => ("RingDrive$Disk", "codedData", "[I", true)
  | _ => ("RingDrive$Disk", "came", "[I", true)
def tyX4 : Nat → FieldType := fun k => match k with
  | 0 => .boolean
  | 1 => .int
  | 2 => .int
  | 3 => .object "RingDrive$Status"
  | 4 => .array (.object "RingDrive$Ring")
  | 5 => .array .int
  | 6 => .array .int
  | 7 => .array .int
  | 8 => .array .int
  | _ => .array .int
def RX5 : String := "RingDrive$Dos"
def TX5 : u_T := fun k => match k with
  | 0 => ("RingDrive$Dos", "status", "LRingDrive$Status;", true)
  | 1 => ("RingDrive$Dos", "disk", "LRingDrive$Disk;", true)
  | 2 => ("RingDrive$Dos", "tape", "LRingDrive$Tape;", true)
  | 3 => ("RingDrive$Dos", "map", "LRingDrive$BlockMap;", true)
  | 4 => ("RingDrive$Dos", "directory", "LRingDrive$Directory;", true)
  | 5 => ("RingDrive$Dos", "row", "[I", true)
  | 6 => ("RingDrive$Dos", "ended", "Z", false)
  | 7 => ("RingDrive$Dos", "channels", "[LRingDrive$Channel;", true)
  | 8 => ("RingDrive$Dos", "name", "LRingDrive$Pattern;", true)
  | 9 => ("RingDrive$Dos", "replaces", "Z", false)
  | 10 => ("RingDrive$Dos", "sort", "I", false)
  | _ => ("RingDrive$Dos", "way", "I", false)
def tyX5 : Nat → FieldType := fun k => match k with
  | 0 => .object "RingDrive$Status"
  | 1 => .object "RingDrive$Disk"
  | 2 => .object "RingDrive$Tape"
  | 3 => .object "RingDrive$BlockMap"
  | 4 => .object "RingDrive$Directory"
  | 5 => .array .int
  | 6 => .boolean
  | 7 => .array (.object "RingDrive$Channel")
  | 8 => .object "RingDrive$Pattern"
  | 9 => .boolean
  | 10 => .int
  | _ => .int
def RX6 : String := "RingDrive$Pattern"
def TX6 : u_T := fun k => match k with
  | 0 => ("RingDrive$Pattern", "row", "[I", true)
  | _ => ("RingDrive$Pattern", "length", "I", false)
def tyX6 : Nat → FieldType := fun k => match k with
  | 0 => .array .int
  | _ => .int
def RX7 : String := "RingDrive$Processor"
def TX7 : u_T := fun k => match k with
  | 0 => ("RingDrive$Processor", "a", "I", false)
  | 1 => ("RingDrive$Processor", "x", "I", false)
  | 2 => ("RingDrive$Processor", "y", "I", false)
  | 3 => ("RingDrive$Processor", "s", "I", false)
  | 4 => ("RingDrive$Processor", "p", "I", false)
  | 5 => ("RingDrive$Processor", "pc", "I", false)
  | 6 => ("RingDrive$Processor", "cycles", "I", false)
  | 7 => ("RingDrive$Processor", "cells", "[I", true)
  | 8 => ("RingDrive$Processor", "address", "I", false)
  | _ => ("RingDrive$Processor", "left", "Z", false)
def tyX7 : Nat → FieldType := fun k => match k with
  | 0 => .int
  | 1 => .int
  | 2 => .int
  | 3 => .int
  | 4 => .int
  | 5 => .int
  | 6 => .int
  | 7 => .array .int
  | 8 => .int
  | _ => .boolean
def RX8 : String := "RingDrive$Ring"
def TX8 : u_T := fun k => match k with
  | 0 => ("RingDrive$Ring", "sectors", "I", true)
  | 1 => ("RingDrive$Ring", "size", "I", true)
  | 2 => ("RingDrive$Ring", "cells", "[I", true)
  | 3 => ("RingDrive$Ring", "at", "I", false)
  | 4 => ("RingDrive$Ring", "ones", "I", false)
  | 5 => ("RingDrive$Ring", "first", "Z", false)
  | 6 => ("RingDrive$Ring", "roundCell", "I", false)
  | _ => ("RingDrive$Ring", "roundOnes", "I", false)
def tyX8 : Nat → FieldType := fun k => match k with
  | 0 => .int
  | 1 => .int
  | 2 => .array .int
  | 3 => .int
  | 4 => .int
  | 5 => .boolean
  | 6 => .int
  | _ => .int
def RX9 : String := "RingDrive$Status"
def TX9 : u_T := fun k => match k with
  | 0 => ("RingDrive$Status", "number", "I", false)
  | 1 => ("RingDrive$Status", "track", "I", false)
  | 2 => ("RingDrive$Status", "sector", "I", false)
  | 3 => ("RingDrive$Status", "ended", "Z", false)
  | 4 => ("RingDrive$Status", "text", "[I", true)
  | 5 => ("RingDrive$Status", "length", "I", false)
  | 6 => ("RingDrive$Status", "place", "I", false)
  | 7 => ("RingDrive$Status", "reply", "[I", true)
  | 8 => ("RingDrive$Status", "replyLength", "I", false)
  | _ => ("RingDrive$Status", "replyPlace", "I", false)
def tyX9 : Nat → FieldType := fun k => match k with
  | 0 => .int
  | 1 => .int
  | 2 => .int
  | 3 => .boolean
  | 4 => .array .int
  | 5 => .int
  | 6 => .int
  | 7 => .array .int
  | 8 => .int
  | _ => .int
def RX10 : String := "RingDrive$Tape"
def TX10 : u_T := fun k => match k with
  | 0 => ("RingDrive$Tape", "row", "[I", true)
  | 1 => ("RingDrive$Tape", "count", "I", false)
  | 2 => ("RingDrive$Tape", "length", "I", false)
  | _ => ("RingDrive$Tape", "taken", "I", false)
def tyX10 : Nat → FieldType := fun k => match k with
  | 0 => .array .int
  | 1 => .int
  | 2 => .int
  | _ => .int
def RX11 : String := "RingDrive"
def TX11 : u_T := fun k => match k with
  | 0 => ("RingDrive", "tape", "LRingDrive$Tape;", true)
  | 1 => ("RingDrive", "status", "LRingDrive$Status;", true)
  | 2 => ("RingDrive", "disk", "LRingDrive$Disk;", true)
  | 3 => ("RingDrive", "processor", "LRingDrive$Processor;", true)
  | 4 => ("RingDrive", "dos", "LRingDrive$Dos;", true)
  | 5 => ("RingDrive", "commands", "LRingDrive$Commands;", true)
  | 6 => ("RingDrive", "outRow", "[I", true)
  | 7 => ("RingDrive", "outCount", "I", false)
  | _ => ("RingDrive", "outEnded", "Z", false)
def tyX11 : Nat → FieldType := fun k => match k with
  | 0 => .object "RingDrive$Tape"
  | 1 => .object "RingDrive$Status"
  | 2 => .object "RingDrive$Disk"
  | 3 => .object "RingDrive$Processor"
  | 4 => .object "RingDrive$Dos"
  | 5 => .object "RingDrive$Commands"
  | 6 => .array .int
  | 7 => .int
  | _ => .boolean
def RX12 : String := "RingDriveModel"
def TX12 : u_T := fun k => match k with
  | 0 => ("RingDriveModel", "rings", "[B", true)
  | 1 => ("RingDriveModel", "isProtected", "Z", false)
  | 2 => ("RingDriveModel", "idOne", "I", false)
  | 3 => ("RingDriveModel", "idTwo", "I", false)
  | 4 => ("RingDriveModel", "faultTrack", "I", false)
  | 5 => ("RingDriveModel", "faultSector", "I", false)
  | 6 => ("RingDriveModel", "jobTrack", "I", false)
  | 7 => ("RingDriveModel", "jobBits", "I", false)
  | 8 => ("RingDriveModel", "jobAt", "I", false)
  | 9 => ("RingDriveModel", "jobRun", "I", false)
  | 10 => ("RingDriveModel", "jobMode", "I", false)
  | 11 => ("RingDriveModel", "jobMany", "I", false)
  | 12 => ("RingDriveModel", "jobValue", "I", false)
  | 13 => ("RingDriveModel", "jobFirst", "Z", false)
  | 14 => ("RingDriveModel", "came", "I", false)
  | 15 => ("RingDriveModel", "cameFirst", "Z", false)
  | 16 => ("RingDriveModel", "firsts", "[I", true)
  | 17 => ("RingDriveModel", "plain", "[I", true)
  | 18 => ("RingDriveModel", "coded", "[I", true)
  | 19 => ("RingDriveModel", "got", "[I", true)
  | 20 => ("RingDriveModel", "place", "I", false)
  | 21 => ("RingDriveModel", "zeros", "[I", true)
  | 22 => ("RingDriveModel", "map", "[I", true)
  | 23 => ("RingDriveModel", "dir", "[I", true)
  | 24 => ("RingDriveModel", "work", "[I", true)
  | 25 => ("RingDriveModel", "takenTrack", "I", false)
  | 26 => ("RingDriveModel", "takenSector", "I", false)
  | 27 => ("RingDriveModel", "entryTrack", "I", false)
  | 28 => ("RingDriveModel", "entrySector", "I", false)
  | 29 => ("RingDriveModel", "entry", "I", false)
  | 30 => ("RingDriveModel", "lastTrack", "I", false)
  | 31 => ("RingDriveModel", "lastSector", "I", false)
  | 32 => ("RingDriveModel", "looked", "I", false)
  | 33 => ("RingDriveModel", "kind", "[I", true)
  | 34 => ("RingDriveModel", "hold", "[I", true)
  | 35 => ("RingDriveModel", "at", "[I", true)
  | 36 => ("RingDriveModel", "last", "[I", true)
  | 37 => ("RingDriveModel", "isFinal", "[Z", true)
  | 38 => ("RingDriveModel", "firstTrack", "[I", true)
  | 39 => ("RingDriveModel", "firstSector", "[I", true)
  | 40 => ("RingDriveModel", "nowTrack", "[I", true)
  | 41 => ("RingDriveModel", "nowSector", "[I", true)
  | 42 => ("RingDriveModel", "blocks", "[I", true)
  | 43 => ("RingDriveModel", "itsTrack", "[I", true)
  | 44 => ("RingDriveModel", "itsSector", "[I", true)
  | 45 => ("RingDriveModel", "itsEntry", "[I", true)
  | 46 => ("RingDriveModel", "stage", "[I", true)
  | 47 => ("RingDriveModel", "listTrack", "[I", true)
  | 48 => ("RingDriveModel", "listSector", "[I", true)
  | 49 => ("RingDriveModel", "listBlock", "[I", true)
  | 50 => ("RingDriveModel", "listEntry", "[I", true)
  | 51 => ("RingDriveModel", "patternMany", "[I", true)
  | 52 => ("RingDriveModel", "lineMany", "[I", true)
  | 53 => ("RingDriveModel", "lineAt", "[I", true)
  | 54 => ("RingDriveModel", "pattern", "[I", true)
  | 55 => ("RingDriveModel", "line", "[I", true)
  | 56 => ("RingDriveModel", "number", "I", false)
  | 57 => ("RingDriveModel", "track", "I", false)
  | 58 => ("RingDriveModel", "sector", "I", false)
  | 59 => ("RingDriveModel", "statusAt", "I", false)
  | 60 => ("RingDriveModel", "more", "[I", true)
  | 61 => ("RingDriveModel", "moreMany", "I", false)
  | 62 => ("RingDriveModel", "moreAt", "I", false)
  | 63 => ("RingDriveModel", "tape", "[B", true)
  | 64 => ("RingDriveModel", "taped", "I", false)
  | 65 => ("RingDriveModel", "text", "[I", true)
  | 66 => ("RingDriveModel", "out", "[I", true)
  | 67 => ("RingDriveModel", "outMany", "I", false)
  | 68 => ("RingDriveModel", "ended", "I", false)
  | 69 => ("RingDriveModel", "words", "[I", true)
  | 70 => ("RingDriveModel", "wordMany", "I", false)
  | 71 => ("RingDriveModel", "wanted", "[I", true)
  | 72 => ("RingDriveModel", "numberAt", "I", false)
  | 73 => ("RingDriveModel", "numberFault", "I", false)
  | 74 => ("RingDriveModel", "memory", "[B", true)
  | 75 => ("RingDriveModel", "ra", "I", false)
  | 76 => ("RingDriveModel", "rx", "I", false)
  | 77 => ("RingDriveModel", "ry", "I", false)
  | 78 => ("RingDriveModel", "rs", "I", false)
  | 79 => ("RingDriveModel", "rp", "I", false)
  | 80 => ("RingDriveModel", "pc", "I", false)
  | 81 => ("RingDriveModel", "cycles", "I", false)
  | 82 => ("RingDriveModel", "endedAt", "I", false)
  | _ => ("RingDriveModel", "isCrossed", "Z", false)
def tyX12 : Nat → FieldType := fun k => match k with
  | 0 => .array .byte
  | 1 => .boolean
  | 2 => .int
  | 3 => .int
  | 4 => .int
  | 5 => .int
  | 6 => .int
  | 7 => .int
  | 8 => .int
  | 9 => .int
  | 10 => .int
  | 11 => .int
  | 12 => .int
  | 13 => .boolean
  | 14 => .int
  | 15 => .boolean
  | 16 => .array .int
  | 17 => .array .int
  | 18 => .array .int
  | 19 => .array .int
  | 20 => .int
  | 21 => .array .int
  | 22 => .array .int
  | 23 => .array .int
  | 24 => .array .int
  | 25 => .int
  | 26 => .int
  | 27 => .int
  | 28 => .int
  | 29 => .int
  | 30 => .int
  | 31 => .int
  | 32 => .int
  | 33 => .array .int
  | 34 => .array .int
  | 35 => .array .int
  | 36 => .array .int
  | 37 => .array .boolean
  | 38 => .array .int
  | 39 => .array .int
  | 40 => .array .int
  | 41 => .array .int
  | 42 => .array .int
  | 43 => .array .int
  | 44 => .array .int
  | 45 => .array .int
  | 46 => .array .int
  | 47 => .array .int
  | 48 => .array .int
  | 49 => .array .int
  | 50 => .array .int
  | 51 => .array .int
  | 52 => .array .int
  | 53 => .array .int
  | 54 => .array .int
  | 55 => .array .int
  | 56 => .int
  | 57 => .int
  | 58 => .int
  | 59 => .int
  | 60 => .array .int
  | 61 => .int
  | 62 => .int
  | 63 => .array .byte
  | 64 => .int
  | 65 => .array .int
  | 66 => .array .int
  | 67 => .int
  | 68 => .int
  | 69 => .array .int
  | 70 => .int
  | 71 => .array .int
  | 72 => .int
  | 73 => .int
  | 74 => .array .byte
  | 75 => .int
  | 76 => .int
  | 77 => .int
  | 78 => .int
  | 79 => .int
  | 80 => .int
  | 81 => .int
  | 82 => .int
  | _ => .boolean
abbrev wsX00 : List Cond := u_ws RX0 TX0 4
theorem nmX0 : ∀ a, a < 4 → ∀ b, b < 4 → a ≠ b → (TX0 a).2.1 ≠ (TX0 b).2.1 := by decide +kernel
theorem tyX0_ok : ∀ k, k < 4 → parseFieldDescriptor (TX0 k).2.2.1 = some (tyX0 k) := by decide +kernel
abbrev wsX10 : List Cond := u_ws RX1 TX1 16
theorem nmX1 : ∀ a, a < 16 → ∀ b, b < 16 → a ≠ b → (TX1 a).2.1 ≠ (TX1 b).2.1 := by decide +kernel
theorem tyX1_ok : ∀ k, k < 16 → parseFieldDescriptor (TX1 k).2.2.1 = some (tyX1 k) := by decide +kernel
abbrev wsX20 : List Cond := u_ws RX2 TX2 10
theorem nmX2 : ∀ a, a < 10 → ∀ b, b < 10 → a ≠ b → (TX2 a).2.1 ≠ (TX2 b).2.1 := by decide +kernel
theorem tyX2_ok : ∀ k, k < 10 → parseFieldDescriptor (TX2 k).2.2.1 = some (tyX2 k) := by decide +kernel
abbrev wsX30 : List Cond := u_ws RX3 TX3 9
theorem nmX3 : ∀ a, a < 9 → ∀ b, b < 9 → a ≠ b → (TX3 a).2.1 ≠ (TX3 b).2.1 := by decide +kernel
theorem tyX3_ok : ∀ k, k < 9 → parseFieldDescriptor (TX3 k).2.2.1 = some (tyX3 k) := by decide +kernel
abbrev wsX40 : List Cond := u_ws RX4 TX4 10
theorem nmX4 : ∀ a, a < 10 → ∀ b, b < 10 → a ≠ b → (TX4 a).2.1 ≠ (TX4 b).2.1 := by decide +kernel
theorem tyX4_ok : ∀ k, k < 10 → parseFieldDescriptor (TX4 k).2.2.1 = some (tyX4 k) := by decide +kernel
abbrev wsX50 : List Cond := u_ws RX5 TX5 12
theorem nmX5 : ∀ a, a < 12 → ∀ b, b < 12 → a ≠ b → (TX5 a).2.1 ≠ (TX5 b).2.1 := by decide +kernel
theorem tyX5_ok : ∀ k, k < 12 → parseFieldDescriptor (TX5 k).2.2.1 = some (tyX5 k) := by decide +kernel
abbrev wsX60 : List Cond := u_ws RX6 TX6 2
theorem nmX6 : ∀ a, a < 2 → ∀ b, b < 2 → a ≠ b → (TX6 a).2.1 ≠ (TX6 b).2.1 := by decide +kernel
theorem tyX6_ok : ∀ k, k < 2 → parseFieldDescriptor (TX6 k).2.2.1 = some (tyX6 k) := by decide +kernel
abbrev wsX70 : List Cond := u_ws RX7 TX7 10
theorem nmX7 : ∀ a, a < 10 → ∀ b, b < 10 → a ≠ b → (TX7 a).2.1 ≠ (TX7 b).2.1 := by decide +kernel
theorem tyX7_ok : ∀ k, k < 10 → parseFieldDescriptor (TX7 k).2.2.1 = some (tyX7 k) := by decide +kernel
abbrev wsX80 : List Cond := u_ws RX8 TX8 8
theorem nmX8 : ∀ a, a < 8 → ∀ b, b < 8 → a ≠ b → (TX8 a).2.1 ≠ (TX8 b).2.1 := by decide +kernel
theorem tyX8_ok : ∀ k, k < 8 → parseFieldDescriptor (TX8 k).2.2.1 = some (tyX8 k) := by decide +kernel
abbrev wsX90 : List Cond := u_ws RX9 TX9 10
theorem nmX9 : ∀ a, a < 10 → ∀ b, b < 10 → a ≠ b → (TX9 a).2.1 ≠ (TX9 b).2.1 := by decide +kernel
theorem tyX9_ok : ∀ k, k < 10 → parseFieldDescriptor (TX9 k).2.2.1 = some (tyX9 k) := by decide +kernel
abbrev wsX100 : List Cond := u_ws RX10 TX10 4
theorem nmX10 : ∀ a, a < 4 → ∀ b, b < 4 → a ≠ b → (TX10 a).2.1 ≠ (TX10 b).2.1 := by decide +kernel
theorem tyX10_ok : ∀ k, k < 4 → parseFieldDescriptor (TX10 k).2.2.1 = some (tyX10 k) := by decide +kernel
abbrev wsX110 : List Cond := u_ws RX11 TX11 9
theorem nmX11 : ∀ a, a < 9 → ∀ b, b < 9 → a ≠ b → (TX11 a).2.1 ≠ (TX11 b).2.1 := by decide +kernel
theorem tyX11_ok : ∀ k, k < 9 → parseFieldDescriptor (TX11 k).2.2.1 = some (tyX11 k) := by decide +kernel
abbrev wsX120 : List Cond := u_ws RX12 TX12 84
theorem nmX12 : ∀ a, a < 84 → ∀ b, b < 84 → a ≠ b → (TX12 a).2.1 ≠ (TX12 b).2.1 := by decide +kernel
theorem tyX12_ok : ∀ k, k < 84 → parseFieldDescriptor (TX12 k).2.2.1 = some (tyX12 k) := by decide +kernel
abbrev vwCl : List vw_C := [(RX0, TX0, 4), (RX1, TX1, 16), (RX2, TX2, 10), (RX3, TX3, 9), (RX4, TX4, 10), (RX5, TX5, 12), (RX6, TX6, 2), (RX7, TX7, 10), (RX8, TX8, 8), (RX9, TX9, 10), (RX10, TX10, 4), (RX11, TX11, 9), (RX12, TX12, 84)]
def rx_Ts : List Cond := lw_tbl.filter goodWord
def rx_grp (k : Nat) : List Cond := match k with
  | 1 => tables_1_1
  | 2 => tables_1_2
  | 3 => tables_1_3
  | 4 => tables_1_4
  | 5 => tables_1_5
  | 6 => tables_1_6
  | 7 => tables_1_7
  | 8 => tables_1_8
  | 9 => tables_1_9
  | 10 => tables_1_10
  | 21 => k2_sels lw_privs_1
  | 22 => k2_sels lw_privs_2
  | 23 => k2_sels lw_privs_3
  | 24 => k2_sels lw_privs_4
  | 25 => k2_sels lw_privs_5
  | 26 => k2_sels lw_privs_6
  | 27 => k2_sels lw_privs_7
  | 28 => k2_sels lw_privs_8
  | 29 => k2_sels lw_privs_9
  | 30 => k2_sels lw_privs_10
  | 31 => k2_sels lw_privs_11
  | 32 => k2_sels lw_privs_12
  | _ => []
theorem rx_tab1 {w : Cond} (h : w ∈ tables_1_1) : w ∈ tables_1 := List.mem_append_left _ h
theorem rx_tab2 {w : Cond} (h : w ∈ tables_1_2) : w ∈ tables_1 := List.mem_append_right _ (List.mem_append_left _ h)
theorem rx_tab3 {w : Cond} (h : w ∈ tables_1_3) : w ∈ tables_1 := List.mem_append_right _ (List.mem_append_right _ (List.mem_append_left _ h))
theorem rx_tab4 {w : Cond} (h : w ∈ tables_1_4) : w ∈ tables_1 := List.mem_append_right _ (List.mem_append_right _ (List.mem_append_right _ (List.mem_append_left _ h)))
theorem rx_tab5 {w : Cond} (h : w ∈ tables_1_5) : w ∈ tables_1 := List.mem_append_right _ (List.mem_append_right _ (List.mem_append_right _ (List.mem_append_right _ (List.mem_append_left _ h))))
theorem rx_tab6 {w : Cond} (h : w ∈ tables_1_6) : w ∈ tables_1 := List.mem_append_right _ (List.mem_append_right _ (List.mem_append_right _ (List.mem_append_right _ (List.mem_append_right _ (List.mem_append_left _ h)))))
theorem rx_tab7 {w : Cond} (h : w ∈ tables_1_7) : w ∈ tables_1 := List.mem_append_right _ (List.mem_append_right _ (List.mem_append_right _ (List.mem_append_right _ (List.mem_append_right _ (List.mem_append_right _ (List.mem_append_left _ h))))))
theorem rx_tab8 {w : Cond} (h : w ∈ tables_1_8) : w ∈ tables_1 := List.mem_append_right _ (List.mem_append_right _ (List.mem_append_right _ (List.mem_append_right _ (List.mem_append_right _ (List.mem_append_right _ (List.mem_append_right _ (List.mem_append_left _ h)))))))
theorem rx_tab9 {w : Cond} (h : w ∈ tables_1_9) : w ∈ tables_1 := List.mem_append_right _ (List.mem_append_right _ (List.mem_append_right _ (List.mem_append_right _ (List.mem_append_right _ (List.mem_append_right _ (List.mem_append_right _ (List.mem_append_right _ (List.mem_append_left _ h))))))))
theorem rx_tab10 {w : Cond} (h : w ∈ tables_1_10) : w ∈ tables_1 := List.mem_append_right _ (List.mem_append_right _ (List.mem_append_right _ (List.mem_append_right _ (List.mem_append_right _ (List.mem_append_right _ (List.mem_append_right _ (List.mem_append_right _ (List.mem_append_right _ (h)))))))))
theorem rx_sels_mem {a b : List (MethodName × Nat)} {w : Cond} (h : ∀ q ∈ a, q ∈ b) (hw : w ∈ k2_sels a) : w ∈ k2_sels b := by
  obtain ⟨q, h1, h2⟩ := List.mem_map.mp hw
  exact List.mem_map.mpr ⟨q, h q h1, h2⟩
theorem rx_prv1 : ∀ q ∈ lw_privs_1, q ∈ lw_privs := fun q h => List.mem_append_left _ h
theorem rx_prv2 : ∀ q ∈ lw_privs_2, q ∈ lw_privs := fun q h => List.mem_append_right _ (List.mem_append_left _ h)
theorem rx_prv3 : ∀ q ∈ lw_privs_3, q ∈ lw_privs := fun q h => List.mem_append_right _ (List.mem_append_right _ (List.mem_append_left _ h))
theorem rx_prv4 : ∀ q ∈ lw_privs_4, q ∈ lw_privs := fun q h => List.mem_append_right _ (List.mem_append_right _ (List.mem_append_right _ (List.mem_append_left _ h)))
theorem rx_prv5 : ∀ q ∈ lw_privs_5, q ∈ lw_privs := fun q h => List.mem_append_right _ (List.mem_append_right _ (List.mem_append_right _ (List.mem_append_right _ (List.mem_append_left _ h))))
theorem rx_prv6 : ∀ q ∈ lw_privs_6, q ∈ lw_privs := fun q h => List.mem_append_right _ (List.mem_append_right _ (List.mem_append_right _ (List.mem_append_right _ (List.mem_append_right _ (List.mem_append_left _ h)))))
theorem rx_prv7 : ∀ q ∈ lw_privs_7, q ∈ lw_privs := fun q h => List.mem_append_right _ (List.mem_append_right _ (List.mem_append_right _ (List.mem_append_right _ (List.mem_append_right _ (List.mem_append_right _ (List.mem_append_left _ h))))))
theorem rx_prv8 : ∀ q ∈ lw_privs_8, q ∈ lw_privs := fun q h => List.mem_append_right _ (List.mem_append_right _ (List.mem_append_right _ (List.mem_append_right _ (List.mem_append_right _ (List.mem_append_right _ (List.mem_append_right _ (List.mem_append_left _ h)))))))
theorem rx_prv9 : ∀ q ∈ lw_privs_9, q ∈ lw_privs := fun q h => List.mem_append_right _ (List.mem_append_right _ (List.mem_append_right _ (List.mem_append_right _ (List.mem_append_right _ (List.mem_append_right _ (List.mem_append_right _ (List.mem_append_right _ (List.mem_append_left _ h))))))))
theorem rx_prv10 : ∀ q ∈ lw_privs_10, q ∈ lw_privs := fun q h => List.mem_append_right _ (List.mem_append_right _ (List.mem_append_right _ (List.mem_append_right _ (List.mem_append_right _ (List.mem_append_right _ (List.mem_append_right _ (List.mem_append_right _ (List.mem_append_right _ (List.mem_append_left _ h)))))))))
theorem rx_prv11 : ∀ q ∈ lw_privs_11, q ∈ lw_privs := fun q h => List.mem_append_right _ (List.mem_append_right _ (List.mem_append_right _ (List.mem_append_right _ (List.mem_append_right _ (List.mem_append_right _ (List.mem_append_right _ (List.mem_append_right _ (List.mem_append_right _ (List.mem_append_right _ (List.mem_append_left _ h))))))))))
theorem rx_prv12 : ∀ q ∈ lw_privs_12, q ∈ lw_privs := fun q h => List.mem_append_right _ (List.mem_append_right _ (List.mem_append_right _ (List.mem_append_right _ (List.mem_append_right _ (List.mem_append_right _ (List.mem_append_right _ (List.mem_append_right _ (List.mem_append_right _ (List.mem_append_right _ (List.mem_append_right _ (h)))))))))))
theorem rx_grp_mem {k : Nat} {w : Cond} (h : w ∈ rx_grp k) : w ∈ lw_tbl := by
  unfold rx_grp at h
  split at h
  · exact List.mem_append_right _ (rx_tab1 h)
  · exact List.mem_append_right _ (rx_tab2 h)
  · exact List.mem_append_right _ (rx_tab3 h)
  · exact List.mem_append_right _ (rx_tab4 h)
  · exact List.mem_append_right _ (rx_tab5 h)
  · exact List.mem_append_right _ (rx_tab6 h)
  · exact List.mem_append_right _ (rx_tab7 h)
  · exact List.mem_append_right _ (rx_tab8 h)
  · exact List.mem_append_right _ (rx_tab9 h)
  · exact List.mem_append_right _ (rx_tab10 h)
  · exact List.mem_append_left _ (rx_sels_mem rx_prv1 h)
  · exact List.mem_append_left _ (rx_sels_mem rx_prv2 h)
  · exact List.mem_append_left _ (rx_sels_mem rx_prv3 h)
  · exact List.mem_append_left _ (rx_sels_mem rx_prv4 h)
  · exact List.mem_append_left _ (rx_sels_mem rx_prv5 h)
  · exact List.mem_append_left _ (rx_sels_mem rx_prv6 h)
  · exact List.mem_append_left _ (rx_sels_mem rx_prv7 h)
  · exact List.mem_append_left _ (rx_sels_mem rx_prv8 h)
  · exact List.mem_append_left _ (rx_sels_mem rx_prv9 h)
  · exact List.mem_append_left _ (rx_sels_mem rx_prv10 h)
  · exact List.mem_append_left _ (rx_sels_mem rx_prv11 h)
  · exact List.mem_append_left _ (rx_sels_mem rx_prv12 h)
  · exact absurd h List.not_mem_nil
def rx_has (i : Nat) (w : Cond) : Bool := decide ((rx_grp (i / 1000))[i % 1000]? = some w) && goodWord w
def rx_cns : List String := ["RingDrive$BlockMap", "RingDrive$Channel", "RingDrive$Commands", "RingDrive$Directory", "RingDrive$Disk", "RingDrive$Dos", "RingDrive$Pattern", "RingDrive$Processor", "RingDrive$Ring", "RingDrive$Status", "RingDrive$Tape", "RingDrive", "RingDriveModel", "RingDriveLaw", "java/lang/Math", "java/lang/Object", "java/lang/String", "java/lang/StringLatin1", "java/lang/StringUTF16", "java/util/Arrays", "jdk/internal/util/Preconditions"]
def rx_cn (c : Nat) : String := rx_cns.getD c ""
/-- the kinds of arrays -/
def rx_ty : List FieldType := [.int, .byte, .boolean, (.object "RingDrive$Channel"), (.object "RingDrive$Ring")]
/-- the class of the elements of a kind of arrays of references -/
def rx_el : List (Nat × Nat) := [(3, 1), (4, 8)]
/-- links to fields of objects: class, entry; class, place, type, final; the place of its word -/
def rx_FLs : List ((Nat × Nat) × (Nat × Nat × FieldType × Bool) × Nat) := [((10, 11), (10, 0, (.array .int), true), 1035), ((11, 69), (10, 1, .int, false), 1036), ((10, 15), (10, 1, .int, false), 1037), ((2, 62), (10, 2, .int, false), 1038), ((10, 19), (10, 2, .int, false), 1039), ((5, 146), (10, 2, .int, false), 1040), ((10, 31), (10, 3, .int, false), 1041), ((9, 9), (9, 0, .int, false), 1058), ((11, 84), (9, 0, .int, false), 1059), ((4, 101), (9, 0, .int, false), 1060), ((9, 32), (9, 1, .int, false), 1061), ((11, 122), (9, 1, .int, false), 1062), ((5, 237), (9, 1, .int, false), 1063), ((9, 35), (9, 2, .int, false), 1064), ((11, 125), (9, 2, .int, false), 1065), ((5, 238), (9, 2, .int, false), 1066), ((9, 44), (9, 3, .boolean, false), 1067), ((11, 115), (9, 3, .boolean, false), 1068), ((9, 15), (9, 4, (.array .int), true), 1069), ((9, 38), (9, 5, .int, false), 1070), ((9, 41), (9, 6, .int, false), 1071), ((9, 19), (9, 7, (.array .int), true), 1072), ((9, 26), (9, 8, .int, false), 1073), ((9, 29), (9, 9, .int, false), 1074), ((8, 25), (8, 0, .int, true), 1116), ((4, 137), (8, 0, .int, true), 1117), ((8, 21), (8, 1, .int, true), 1118), ((4, 154), (8, 1, .int, true), 1119), ((8, 15), (8, 2, (.array .int), true), 1120), ((8, 36), (8, 3, .int, false), 1121), ((8, 43), (8, 4, .int, false), 1122), ((8, 52), (8, 5, .boolean, false), 1123), ((8, 46), (8, 6, .int, false), 1124), ((8, 49), (8, 7, .int, false), 1125), ((11, 174), (4, 0, .boolean, false), 1143), ((4, 121), (4, 0, .boolean, false), 1144), ((4, 9), (4, 1, .int, false), 1145), ((0, 44), (4, 1, .int, false), 1146), ((11, 128), (4, 1, .int, false), 1147), ((4, 15), (4, 2, .int, false), 1148), ((0, 48), (4, 2, .int, false), 1149), ((11, 131), (4, 2, .int, false), 1150), ((4, 40), (4, 3, (.object "RingDrive$Status"), true), 1151), ((4, 20), (4, 4, (.array (.object "RingDrive$Ring")), true), 1152), ((4, 24), (4, 5, (.array .int), true), 1153), ((4, 28), (4, 6, (.array .int), true), 1154), ((4, 31), (4, 7, (.array .int), true), 1155), ((4, 34), (4, 8, (.array .int), true), 1156), ((4, 37), (4, 9, (.array .int), true), 1157), ((7, 30), (7, 0, .int, false), 1185), ((11, 137), (7, 0, .int, false), 1186), ((7, 33), (7, 1, .int, false), 1187), ((11, 140), (7, 1, .int, false), 1188), ((7, 36), (7, 2, .int, false), 1189), ((11, 143), (7, 2, .int, false), 1190), ((7, 23), (7, 3, .int, false), 1191), ((11, 146), (7, 3, .int, false), 1192), ((7, 27), (7, 4, .int, false), 1193), ((11, 149), (7, 4, .int, false), 1194), ((7, 39), (7, 5, .int, false), 1195), ((11, 152), (7, 5, .int, false), 1196), ((7, 42), (7, 6, .int, false), 1197), ((11, 155), (7, 6, .int, false), 1198), ((7, 9), (7, 7, (.array .int), true), 1199), ((7, 69), (7, 8, .int, false), 1200), ((7, 65), (7, 9, .boolean, false), 1201), ((6, 9), (6, 0, (.array .int), true), 1237), ((6, 19), (6, 1, .int, false), 1238), ((0, 9), (0, 0, (.array .int), true), 2010), ((5, 317), (0, 0, (.array .int), true), 2011), ((0, 72), (0, 1, .int, false), 2012), ((3, 92), (0, 1, .int, false), 2013), ((5, 255), (0, 1, .int, false), 2014), ((0, 75), (0, 2, .int, false), 2015), ((3, 95), (0, 2, .int, false), 2016), ((5, 256), (0, 2, .int, false), 2017), ((0, 15), (0, 3, (.object "RingDrive$Disk"), true), 2018), ((3, 9), (3, 0, (.array .int), true), 2034), ((3, 27), (3, 1, .int, false), 2035), ((1, 51), (3, 1, .int, false), 2036), ((3, 31), (3, 2, .int, false), 2037), ((1, 57), (3, 2, .int, false), 2038), ((3, 34), (3, 3, .int, false), 2039), ((1, 61), (3, 3, .int, false), 2040), ((3, 37), (3, 4, .int, false), 2041), ((1, 67), (3, 4, .int, false), 2042), ((3, 44), (3, 5, .boolean, false), 2043), ((2, 164), (3, 5, .boolean, false), 2044), ((5, 197), (3, 5, .boolean, false), 2045), ((3, 40), (3, 6, .boolean, false), 2046), ((3, 15), (3, 7, (.object "RingDrive$Disk"), true), 2047), ((3, 19), (3, 8, (.object "RingDrive$Status"), true), 2048), ((1, 9), (1, 0, .int, false), 2075), ((5, 61), (1, 0, .int, false), 2076), ((1, 15), (1, 1, (.array .int), true), 2077), ((5, 72), (1, 1, (.array .int), true), 2078), ((2, 236), (1, 1, (.array .int), true), 2079), ((1, 32), (1, 2, .int, false), 2080), ((5, 73), (1, 2, .int, false), 2081), ((2, 242), (1, 2, .int, false), 2082), ((1, 35), (1, 3, .int, false), 2083), ((5, 287), (1, 3, .int, false), 2084), ((1, 38), (1, 4, .boolean, false), 2085), ((5, 290), (1, 4, .boolean, false), 2086), ((1, 45), (1, 5, .int, false), 2087), ((5, 76), (1, 5, .int, false), 2088), ((1, 48), (1, 6, .int, false), 2089), ((5, 79), (1, 6, .int, false), 2090), ((5, 273), (1, 7, .int, false), 2091), ((5, 275), (1, 8, .int, false), 2092), ((5, 90), (1, 9, .int, false), 2093), ((1, 54), (1, 10, .int, false), 2094), ((5, 96), (1, 10, .int, false), 2095), ((1, 58), (1, 11, .int, false), 2096), ((5, 99), (1, 11, .int, false), 2097), ((1, 64), (1, 12, .int, false), 2098), ((5, 102), (1, 12, .int, false), 2099), ((1, 70), (1, 13, .int, false), 2100), ((5, 105), (1, 13, .int, false), 2101), ((1, 22), (1, 14, (.object "RingDrive$Pattern"), true), 2102), ((5, 164), (1, 14, (.object "RingDrive$Pattern"), true), 2103), ((1, 42), (1, 15, .boolean, false), 2104), ((5, 302), (1, 15, .boolean, false), 2105), ((5, 30), (5, 0, (.object "RingDrive$Status"), true), 2139), ((2, 32), (5, 0, (.object "RingDrive$Status"), true), 2140), ((5, 34), (5, 1, (.object "RingDrive$Disk"), true), 2141), ((2, 39), (5, 1, (.object "RingDrive$Disk"), true), 2142), ((5, 38), (5, 2, (.object "RingDrive$Tape"), true), 2143), ((2, 44), (5, 2, (.object "RingDrive$Tape"), true), 2144), ((5, 47), (5, 3, (.object "RingDrive$BlockMap"), true), 2145), ((2, 49), (5, 3, (.object "RingDrive$BlockMap"), true), 2146), ((5, 56), (5, 4, (.object "RingDrive$Directory"), true), 2147), ((2, 54), (5, 4, (.object "RingDrive$Directory"), true), 2148), ((5, 11), (5, 5, (.array .int), true), 2149), ((2, 205), (5, 5, (.array .int), true), 2150), ((11, 121), (5, 6, .boolean, false), 2151), ((5, 281), (5, 6, .boolean, false), 2152), ((5, 19), (5, 7, (.array (.object "RingDrive$Channel")), true), 2153), ((5, 26), (5, 8, (.object "RingDrive$Pattern"), true), 2154), ((5, 171), (5, 9, .boolean, false), 2155), ((5, 182), (5, 10, .int, false), 2156), ((5, 137), (5, 11, .int, false), 2157), ((2, 24), (2, 0, (.object "RingDrive$Dos"), true), 2195), ((2, 38), (2, 1, (.object "RingDrive$Status"), true), 2196), ((2, 43), (2, 2, (.object "RingDrive$Disk"), true), 2197), ((2, 48), (2, 3, (.object "RingDrive$Tape"), true), 2198), ((2, 53), (2, 4, (.object "RingDrive$BlockMap"), true), 2199), ((2, 58), (2, 5, (.object "RingDrive$Directory"), true), 2200), ((2, 28), (2, 6, (.object "RingDrive$Processor"), true), 2201), ((2, 12), (2, 7, (.object "RingDrive$Pattern"), true), 2202), ((2, 18), (2, 8, (.object "RingDrive$Pattern"), true), 2203), ((2, 21), (2, 9, (.object "RingDrive$Pattern"), true), 2204), ((11, 10), (11, 0, (.object "RingDrive$Tape"), true), 2226), ((11, 19), (11, 1, (.object "RingDrive$Status"), true), 2227), ((11, 28), (11, 2, (.object "RingDrive$Disk"), true), 2228), ((11, 35), (11, 3, (.object "RingDrive$Processor"), true), 2229), ((11, 44), (11, 4, (.object "RingDrive$Dos"), true), 2230), ((11, 53), (11, 5, (.object "RingDrive$Commands"), true), 2231), ((11, 57), (11, 6, (.array .int), true), 2232), ((11, 61), (11, 7, .int, false), 2233), ((11, 65), (11, 8, .boolean, false), 2234), ((12, 14), (12, 0, (.array .byte), true), 9051), ((12, 131), (12, 1, .boolean, false), 9052), ((12, 90), (12, 2, .int, false), 9053), ((12, 93), (12, 3, .int, false), 9054), ((12, 7), (12, 4, .int, false), 9055), ((12, 11), (12, 5, .int, false), 9056), ((12, 18), (12, 6, .int, false), 9057), ((12, 24), (12, 7, .int, false), 9058), ((12, 27), (12, 8, .int, false), 9059), ((12, 30), (12, 9, .int, false), 9060), ((12, 33), (12, 10, .int, false), 9061), ((12, 36), (12, 11, .int, false), 9062), ((12, 39), (12, 12, .int, false), 9063), ((12, 42), (12, 13, .boolean, false), 9064), ((12, 50), (12, 14, .int, false), 9065), ((12, 53), (12, 15, .boolean, false), 9066), ((12, 64), (12, 16, (.array .int), true), 9067), ((12, 71), (12, 17, (.array .int), true), 9068), ((12, 74), (12, 18, (.array .int), true), 9069), ((12, 104), (12, 19, (.array .int), true), 9070), ((12, 125), (12, 20, .int, false), 9071), ((12, 142), (12, 21, (.array .int), true), 9072), ((12, 145), (12, 22, (.array .int), true), 9073), ((12, 195), (12, 23, (.array .int), true), 9074), ((12, 186), (12, 24, (.array .int), true), 9075), ((12, 155), (12, 25, .int, false), 9076), ((12, 158), (12, 26, .int, false), 9077), ((12, 211), (12, 27, .int, false), 9078), ((12, 214), (12, 28, .int, false), 9079), ((12, 217), (12, 29, .int, false), 9080), ((12, 198), (12, 30, .int, false), 9081), ((12, 201), (12, 31, .int, false), 9082), ((12, 192), (12, 32, .int, false), 9083), ((12, 248), (12, 33, (.array .int), true), 9084), ((12, 284), (12, 34, (.array .int), true), 9085), ((12, 287), (12, 35, (.array .int), true), 9086), ((12, 322), (12, 36, (.array .int), true), 9087), ((12, 318), (12, 37, (.array .boolean), true), 9088), ((12, 341), (12, 38, (.array .int), true), 9089), ((12, 344), (12, 39, (.array .int), true), 9090), ((12, 347), (12, 40, (.array .int), true), 9091), ((12, 350), (12, 41, (.array .int), true), 9092), ((12, 353), (12, 42, (.array .int), true), 9093), ((12, 356), (12, 43, (.array .int), true), 9094), ((12, 359), (12, 44, (.array .int), true), 9095), ((12, 362), (12, 45, (.array .int), true), 9096), ((12, 302), (12, 46, (.array .int), true), 9097), ((12, 502), (12, 47, (.array .int), true), 9098), ((12, 505), (12, 48, (.array .int), true), 9099), ((12, 508), (12, 49, (.array .int), true), 9100), ((12, 511), (12, 50, (.array .int), true), 9101), ((12, 299), (12, 51, (.array .int), true), 9102), ((12, 305), (12, 52, (.array .int), true), 9103), ((12, 308), (12, 53, (.array .int), true), 9104), ((12, 296), (12, 54, (.array .int), true), 9105), ((12, 493), (12, 55, (.array .int), true), 9106), ((12, 227), (12, 56, .int, false), 9107), ((12, 230), (12, 57, .int, false), 9108), ((12, 233), (12, 58, .int, false), 9109), ((12, 236), (12, 59, .int, false), 9110), ((12, 392), (12, 60, (.array .int), true), 9111), ((12, 242), (12, 61, .int, false), 9112), ((12, 245), (12, 62, .int, false), 9113), ((12, 251), (12, 63, (.array .byte), true), 9114), ((12, 254), (12, 64, .int, false), 9115), ((12, 260), (12, 65, (.array .int), true), 9116), ((12, 368), (12, 66, (.array .int), true), 9117), ((12, 371), (12, 67, .int, false), 9118), ((12, 374), (12, 68, .int, false), 9119), ((12, 398), (12, 69, (.array .int), true), 9120), ((12, 401), (12, 70, .int, false), 9121), ((12, 587), (12, 71, (.array .int), true), 9122), ((12, 599), (12, 72, .int, false), 9123), ((12, 602), (12, 73, .int, false), 9124), ((12, 614), (12, 74, (.array .byte), true), 9125), ((12, 626), (12, 75, .int, false), 9126), ((12, 629), (12, 76, .int, false), 9127), ((12, 632), (12, 77, .int, false), 9128), ((12, 635), (12, 78, .int, false), 9129), ((12, 638), (12, 79, .int, false), 9130), ((12, 644), (12, 80, .int, false), 9131), ((12, 641), (12, 81, .int, false), 9132), ((12, 647), (12, 82, .int, false), 9133), ((12, 660), (12, 83, .boolean, false), 9134)]
def rx_sn : List (String × String × String × (Int32 ⊕ (Nat × List Int32))) := [("RingDrive$Disk", "LENGTHS", "[I", .inr (12, [1000, 1000, 1000, 880, 880, 880, 760, 760, 760, 640, 640, 640])), ("RingDrive$Disk", "SECTORS", "[I", .inr (12, [8, 8, 8, 7, 7, 7, 6, 6, 6, 5, 5, 5])), ("RingDrive$Disk", "GROUPS", "[I", .inr (16, [10, 11, 18, 19, 14, 15, 22, 23, 9, 25, 26, 27, 13, 29, 30, 21])), ("RingDrive$Disk", "VALUES", "[I", .inr (32, [-1, -1, -1, -1, -1, -1, -1, -1, -1, 8, 0, 1, -1, 12, 4, 5, -1, -1, 2, 3, -1, 15, 6, 7, -1, 9, 10, 11, -1, 13, 14, -1])), ("RingDrive$Processor", "CODES", "[I", .inr (256, [56, 7, 0, 0, 0, 7, 16, 0, 49, 7, 16, 0, 0, 7, 16, 0, 22, 7, 0, 0, 0, 7, 16, 0, 40, 7, 0, 0, 0, 7, 16, 0, 53, 6, 0, 0, 12, 6, 18, 0, 51, 6, 18, 0, 12, 6, 18, 0, 23, 6, 0, 0, 0, 6, 18, 0, 41, 6, 0, 0, 0, 6, 18, 0, 55, 8, 0, 0, 0, 8, 17, 0, 48, 8, 17, 0, 52, 8, 17, 0, 24, 8, 0, 0, 0, 8, 17, 0, 42, 8, 0, 0, 0, 8, 17, 0, 54, 4, 0, 0, 0, 4, 19, 0, 50, 4, 19, 0, 52, 4, 19, 0, 25, 4, 0, 0, 0, 4, 19, 0, 43, 4, 0, 0, 0, 4, 19, 0, 0, 13, 0, 0, 15, 13, 14, 0, 39, 0, 32, 0, 15, 13, 14, 0, 26, 13, 0, 0, 15, 13, 14, 0, 33, 13, 35, 0, 0, 13, 0, 0, 3, 1, 2, 0, 3, 1, 2, 0, 31, 1, 30, 0, 3, 1, 2, 0, 27, 1, 0, 0, 3, 1, 2, 0, 44, 1, 34, 0, 3, 1, 2, 0, 11, 9, 0, 0, 11, 9, 21, 0, 37, 9, 38, 0, 11, 9, 21, 0, 28, 9, 0, 0, 0, 9, 21, 0, 45, 9, 0, 0, 0, 9, 21, 0, 10, 5, 0, 0, 10, 5, 20, 0, 36, 5, 47, 0, 10, 5, 20, 0, 29, 5, 0, 0, 0, 5, 20, 0, 46, 5, 0, 0, 0, 5, 20, 0])), ("RingDrive$Processor", "TAKES", "[I", .inr (256, [7, 6, 0, 0, 0, 3, 5, 0, 3, 2, 2, 0, 0, 4, 6, 0, 2, 5, 0, 0, 0, 4, 6, 0, 2, 4, 0, 0, 0, 4, 7, 0, 6, 6, 0, 0, 3, 3, 5, 0, 4, 2, 2, 0, 4, 4, 6, 0, 2, 5, 0, 0, 0, 4, 6, 0, 2, 4, 0, 0, 0, 4, 7, 0, 6, 6, 0, 0, 0, 3, 5, 0, 3, 2, 2, 0, 3, 4, 6, 0, 2, 5, 0, 0, 0, 4, 6, 0, 2, 4, 0, 0, 0, 4, 7, 0, 6, 6, 0, 0, 0, 3, 5, 0, 4, 2, 2, 0, 5, 4, 6, 0, 2, 5, 0, 0, 0, 4, 6, 0, 2, 4, 0, 0, 0, 4, 7, 0, 0, 6, 0, 0, 3, 3, 3, 0, 2, 0, 2, 0, 4, 4, 4, 0, 2, 6, 0, 0, 4, 4, 4, 0, 2, 5, 2, 0, 0, 5, 0, 0, 2, 6, 2, 0, 3, 3, 3, 0, 2, 2, 2, 0, 4, 4, 4, 0, 2, 5, 0, 0, 4, 4, 4, 0, 2, 4, 2, 0, 4, 4, 4, 0, 2, 6, 0, 0, 3, 3, 5, 0, 2, 2, 2, 0, 4, 4, 6, 0, 2, 5, 0, 0, 0, 4, 6, 0, 2, 4, 0, 0, 0, 4, 7, 0, 2, 6, 0, 0, 3, 3, 5, 0, 2, 2, 2, 0, 4, 4, 6, 0, 2, 5, 0, 0, 0, 4, 6, 0, 2, 4, 0, 0, 0, 4, 7, 0])), ("RingDrive$Processor", "WAYS", "[I", .inr (256, [0, 9, 0, 0, 0, 3, 3, 0, 0, 2, 1, 0, 0, 6, 6, 0, 11, 10, 0, 0, 0, 4, 4, 0, 0, 8, 0, 0, 0, 7, 7, 0, 6, 9, 0, 0, 3, 3, 3, 0, 0, 2, 1, 0, 6, 6, 6, 0, 11, 10, 0, 0, 0, 4, 4, 0, 0, 8, 0, 0, 0, 7, 7, 0, 0, 9, 0, 0, 0, 3, 3, 0, 0, 2, 1, 0, 6, 6, 6, 0, 11, 10, 0, 0, 0, 4, 4, 0, 0, 8, 0, 0, 0, 7, 7, 0, 0, 9, 0, 0, 0, 3, 3, 0, 0, 2, 1, 0, 12, 6, 6, 0, 11, 10, 0, 0, 0, 4, 4, 0, 0, 8, 0, 0, 0, 7, 7, 0, 0, 9, 0, 0, 3, 3, 3, 0, 0, 0, 0, 0, 6, 6, 6, 0, 11, 10, 0, 0, 4, 4, 5, 0, 0, 8, 0, 0, 0, 7, 0, 0, 2, 9, 2, 0, 3, 3, 3, 0, 0, 2, 0, 0, 6, 6, 6, 0, 11, 10, 0, 0, 4, 4, 5, 0, 0, 8, 0, 0, 7, 7, 8, 0, 2, 9, 0, 0, 3, 3, 3, 0, 0, 2, 0, 0, 6, 6, 6, 0, 11, 10, 0, 0, 0, 4, 4, 0, 0, 8, 0, 0, 0, 7, 7, 0, 2, 9, 0, 0, 3, 3, 3, 0, 0, 2, 0, 0, 6, 6, 6, 0, 11, 10, 0, 0, 0, 4, 4, 0, 0, 8, 0, 0, 0, 7, 7, 0])), ("RingDrive$BlockMap", "ORDER", "[I", .inr (11, [6, 8, 5, 9, 4, 10, 3, 11, 2, 12, 1])), ("java/lang/String", "COMPACT_STRINGS", "Z", .inl 1), ("java/lang/StringUTF16", "$assertionsDisabled", "Z", .inl 1), ("java/lang/StringUTF16", "HI_BYTE_SHIFT", "I", .inl 0), ("java/lang/StringUTF16", "LO_BYTE_SHIFT", "I", .inl 8)]
/-- links to statics: class, entry; which of rx_sn; the place of its word -/
def rx_SLs : List ((Nat × Nat) × Nat × Nat) := [((4, 44), 0, 1105), ((4, 47), 1, 1107), ((4, 161), 2, 3109), ((4, 164), 3, 3168), ((7, 49), 4, 4205), ((7, 52), 5, 4207), ((7, 55), 6, 4209), ((0, 55), 7, 5168), ((16, 38), 8, 6036), ((18, 44), 9, 6070), ((18, 59), 10, 6072), ((18, 63), 11, 6074)]
/-- links to a String's fields: 0 coder, 1 value -/
def rx_KLs : List ((Nat × Nat) × Nat × Nat) := [((16, 9), 1, 10065), ((16, 15), 0, 10066)]
/-- texts -/
def rx_tx : List String := ["OK", "FILES SCRATCHED", "WRITE ERROR", "WRITE PROTECT ON", "PROGRAM ERROR", "FILE OPEN", "FILE NOT OPEN", "FILE NOT FOUND", "FILE EXISTS", "FILE TYPE MISMATCH", "NO BLOCK", "ILLEGAL BLOCK", "NO CHANNEL", "DIR ERROR", "DISK FULL", "RING DOS 1", "DRIVE NOT READY", "READ ERROR", "SYNTAX ERROR", "?SPU"]
def rx_tb : List (List Int32) := [[79, 75], [70, 73, 76, 69, 83, 32, 83, 67, 82, 65, 84, 67, 72, 69, 68], [87, 82, 73, 84, 69, 32, 69, 82, 82, 79, 82], [87, 82, 73, 84, 69, 32, 80, 82, 79, 84, 69, 67, 84, 32, 79, 78], [80, 82, 79, 71, 82, 65, 77, 32, 69, 82, 82, 79, 82], [70, 73, 76, 69, 32, 79, 80, 69, 78], [70, 73, 76, 69, 32, 78, 79, 84, 32, 79, 80, 69, 78], [70, 73, 76, 69, 32, 78, 79, 84, 32, 70, 79, 85, 78, 68], [70, 73, 76, 69, 32, 69, 88, 73, 83, 84, 83], [70, 73, 76, 69, 32, 84, 89, 80, 69, 32, 77, 73, 83, 77, 65, 84, 67, 72], [78, 79, 32, 66, 76, 79, 67, 75], [73, 76, 76, 69, 71, 65, 76, 32, 66, 76, 79, 67, 75], [78, 79, 32, 67, 72, 65, 78, 78, 69, 76], [68, 73, 82, 32, 69, 82, 82, 79, 82], [68, 73, 83, 75, 32, 70, 85, 76, 76], [82, 73, 78, 71, 32, 68, 79, 83, 32, 49], [68, 82, 73, 86, 69, 32, 78, 79, 84, 32, 82, 69, 65, 68, 89], [82, 69, 65, 68, 32, 69, 82, 82, 79, 82], [83, 89, 78, 84, 65, 88, 32, 69, 82, 82, 79, 82], [63, 83, 80, 85]]
def rx_STs : List ((Nat × Nat) × Nat) := [((9, 77), 0), ((9, 79), 1), ((9, 81), 2), ((9, 83), 3), ((9, 85), 4), ((9, 87), 5), ((9, 89), 6), ((9, 91), 7), ((9, 93), 8), ((9, 95), 9), ((9, 97), 10), ((9, 99), 11), ((9, 101), 12), ((9, 103), 13), ((9, 105), 14), ((9, 107), 15), ((9, 109), 16), ((9, 111), 17), ((9, 113), 18), ((5, 326), 19)]
def rx_CIs : List ((Nat × Nat) × Int32 × Nat) := [((7, 107), 65280, 4231)]
def rx_CJs : List ((Nat × Nat) × Int64 × Nat) := [((12, 409), 5928216245358121554, 8160), ((12, 404), 255, 8165), ((12, 415), 20306, 8166), ((12, 417), 6005917701855780933, 8167), ((12, 419), 1381125970, 8168), ((12, 421), 20299, 8169), ((12, 423), 5064663116585915203, 8170), ((12, 425), 23152778252141892, 8171), ((12, 427), 6292172255675827538, 8172), ((12, 429), 5394258, 8173), ((12, 431), 96010929194272, 8174), ((12, 433), 22608498806571860, 8175), ((12, 435), 2117454, 8176), ((12, 437), 5787775638865792288, 8177), ((12, 439), 297733869394, 8178), ((12, 441), 5064663115733356613, 8179), ((12, 443), 78, 8180), ((12, 445), 5064663115733290836, 8181), ((12, 447), 138769614158, 8182), ((12, 449), 35486350790212, 8183), ((12, 451), 5064663115732703305, 8184), ((12, 453), 5461075, 8185), ((12, 455), 5064663115733686608, 8186), ((12, 457), 4981066165197291860, 8187), ((12, 459), 17224, 8188), ((12, 461), 5642764327238714187, 8189), ((12, 463), 5281680323430665248, 8190), ((12, 465), 284748104523, 8191), ((12, 467), 5642764331465657934, 8192), ((12, 469), 17740, 8193), ((12, 471), 4920554366434431567, 8194), ((12, 473), 82, 8195), ((12, 475), 4920555650008110412, 8196), ((12, 477), 76, 8197), ((12, 479), 5929356451800960851, 8198), ((12, 481), 8241, 8199), ((12, 483), 4923077977545133647, 8200), ((12, 485), 23679435765007449, 8201), ((12, 523), 1179796805, 8230)]
def rx_NLs : List ((Nat × Nat) × Nat × Nat) := [((13, 7), 11, 1021), ((11, 7), 10, 1029), ((11, 16), 9, 1052), ((11, 23), 4, 1096), ((4, 18), 8, 1102), ((11, 32), 7, 1179), ((11, 39), 5, 1223), ((5, 17), 1, 1229), ((5, 23), 6, 1231), ((5, 42), 0, 2004), ((5, 51), 3, 2028), ((1, 19), 6, 2073), ((11, 48), 2, 2183), ((2, 9), 6, 2189), ((13, 10), 12, 9046)]
def rx_ALs : List ((Nat × Nat) × Nat × Nat) := [((4, 18), 4, 1102), ((5, 17), 3, 1229)]
abbrev rx_M : Type := Nat × MethodName × ByteArray × Nat × Option FieldType × Nat × Nat × Nat × Nat × Nat × Nat
def rx_MT_0 : List rx_M := [(11, ⟨"RingDrive", "<init>", "()V"⟩, prog_1_method_1_code, 1, none, 0, 2, 4, 84, 115, 16888),
  (10, ⟨"RingDrive$Tape", "<init>", "()V"⟩, prog_12_method_1_code, 1, none, 0, 2, 1, 20, 1, 400),
  (9, ⟨"RingDrive$Status", "<init>", "()V"⟩, prog_11_method_1_code, 1, none, 0, 2, 1, 20, 2, 72),
  (4, ⟨"RingDrive$Disk", "<init>", "(LRingDrive$Status;)V"⟩, prog_6_method_1_code, 3, none, 1, 2, 2, 46, 30, 12364),
  (8, ⟨"RingDrive$Ring", "<init>", "(II)V"⟩, prog_10_method_1_code, 3, none, 2, 2, 1, 24, 1, 1000),
  (7, ⟨"RingDrive$Processor", "<init>", "()V"⟩, prog_9_method_1_code, 1, none, 0, 2, 1, 20, 1, 2048),
  (5, ⟨"RingDrive$Dos", "<init>", "(LRingDrive$Status;LRingDrive$Disk;LRingDrive$Tape;)V"⟩, prog_7_method_1_code, 5, none, 3, 2, 3, 60, 68, 1612),
  (6, ⟨"RingDrive$Pattern", "<init>", "()V"⟩, prog_8_method_1_code, 1, none, 0, 2, 1, 20, 1, 10),
  (0, ⟨"RingDrive$BlockMap", "<init>", "(LRingDrive$Disk;)V"⟩, prog_2_method_1_code, 2, none, 1, 2, 1, 20, 1, 64),
  (3, ⟨"RingDrive$Directory", "<init>", "(LRingDrive$Disk;LRingDrive$Status;)V"⟩, prog_5_method_1_code, 3, none, 2, 2, 1, 20, 1, 64),
  (1, ⟨"RingDrive$Channel", "<init>", "()V"⟩, prog_3_method_1_code, 1, none, 0, 2, 2, 40, 3, 76),
  (2, ⟨"RingDrive$Commands", "<init>", "(LRingDrive$Dos;LRingDrive$Processor;)V"⟩, prog_4_method_1_code, 3, none, 2, 2, 2, 40, 6, 36),
  (6, ⟨"RingDrive$Pattern", "fitAll", "()V"⟩, prog_8_method_4_code, 1, none, 0, 0, 0, 0, 0, 0),
  (11, ⟨"RingDrive", "feed", "(IIIII)I"⟩, prog_1_method_2_code, 6, (Option.some Jvm.ClassFile.FieldType.int), 5, 0, 1, 22, 0, 0),
  (10, ⟨"RingDrive$Tape", "add", "(I)V"⟩, prog_12_method_3_code, 3, none, 1, 0, 0, 0, 0, 0),
  (11, ⟨"RingDrive", "open", "(II)I"⟩, prog_1_method_3_code, 3, (Option.some Jvm.ClassFile.FieldType.int), 2, 0, 7, 184, 0, 0),
  (11, ⟨"RingDrive", "sendText", "(II)Z"⟩, prog_1_method_15_code, 3, (Option.some Jvm.ClassFile.FieldType.boolean), 2, 0, 1, 21, 0, 0),
  (11, ⟨"RingDrive", "isChannel", "(I)Z"⟩, prog_1_method_14_code, 1, (Option.some Jvm.ClassFile.FieldType.boolean), 1, 1, 0, 0, 0, 0),
  (10, ⟨"RingDrive$Tape", "has", "(I)Z"⟩, prog_12_method_2_code, 2, (Option.some Jvm.ClassFile.FieldType.boolean), 1, 0, 0, 0, 0, 0),
  (10, ⟨"RingDrive$Tape", "send", "(I)V"⟩, prog_12_method_4_code, 2, none, 1, 0, 0, 0, 0, 0),
  (2, ⟨"RingDrive$Commands", "run", "()I"⟩, prog_4_method_2_code, 1, (Option.some Jvm.ClassFile.FieldType.int), 0, 0, 6, 163, 0, 0),
  (9, ⟨"RingDrive$Status", "begin", "()V"⟩, prog_11_method_2_code, 1, none, 0, 0, 1, 23, 0, 0),
  (9, ⟨"RingDrive$Status", "set", "(III)I"⟩, prog_11_method_3_code, 4, (Option.some Jvm.ClassFile.FieldType.int), 3, 0, 0, 0, 0, 0),
  (10, ⟨"RingDrive$Tape", "byteAt", "(I)I"⟩, prog_12_method_5_code, 2, (Option.some Jvm.ClassFile.FieldType.int), 1, 0, 0, 0, 0, 0),
  (2, ⟨"RingDrive$Commands", "newDisk", "()I"⟩, prog_4_method_4_code, 5, (Option.some Jvm.ClassFile.FieldType.int), 0, 0, 5, 118, 0, 0),
  (10, ⟨"RingDrive$Tape", "find", "(II)I"⟩, prog_12_method_6_code, 4, (Option.some Jvm.ClassFile.FieldType.int), 2, 0, 1, 24, 0, 0),
  (6, ⟨"RingDrive$Pattern", "take", "(LRingDrive$Tape;II)Z"⟩, prog_8_method_2_code, 5, (Option.some Jvm.ClassFile.FieldType.boolean), 3, 0, 1, 24, 0, 0),
  (6, ⟨"RingDrive$Pattern", "isEmpty", "()Z"⟩, prog_8_method_3_code, 1, (Option.some Jvm.ClassFile.FieldType.boolean), 0, 0, 0, 0, 0, 0),
  (6, ⟨"RingDrive$Pattern", "isWild", "()Z"⟩, prog_8_method_6_code, 2, (Option.some Jvm.ClassFile.FieldType.boolean), 0, 0, 0, 0, 0, 0),
  (2, ⟨"RingDrive$Commands", "formatAll", "(II)I"⟩, prog_4_method_5_code, 5, (Option.some Jvm.ClassFile.FieldType.int), 2, 0, 4, 94, 0, 0),
  (5, ⟨"RingDrive$Dos", "dropAll", "()V"⟩, prog_7_method_4_code, 2, none, 0, 0, 0, 0, 0, 0),
  (4, ⟨"RingDrive$Disk", "format", "(III)I"⟩, prog_6_method_12_code, 6, (Option.some Jvm.ClassFile.FieldType.int), 3, 0, 3, 69, 0, 0),
  (4, ⟨"RingDrive$Disk", "ring", "(I)LRingDrive$Ring;"⟩, prog_6_method_2_code, 2, (Option.some (Jvm.ClassFile.FieldType.object "RingDrive$Ring")), 1, 0, 0, 0, 0, 0),
  (8, ⟨"RingDrive$Ring", "goTo", "(II)V"⟩, prog_10_method_11_code, 3, none, 2, 0, 0, 0, 0, 0),
  (4, ⟨"RingDrive$Disk", "codeData", "([I)V"⟩, prog_6_method_16_code, 4, none, 1, 0, 1, 26, 0, 0),
  (4, ⟨"RingDrive$Disk", "encode", "([I[I)V"⟩, prog_6_method_17_code, 7, none, 2, 1, 0, 0, 0, 0),
  (4, ⟨"RingDrive$Disk", "fillHeader", "(IIII)V"⟩, prog_6_method_15_code, 5, none, 4, 0, 0, 0, 0, 0),
  (8, ⟨"RingDrive$Ring", "putMarked", "([I)V"⟩, prog_10_method_7_code, 4, none, 1, 0, 1, 27, 0, 0),
  (8, ⟨"RingDrive$Ring", "put", "(II)V"⟩, prog_10_method_6_code, 8, none, 2, 0, 0, 0, 0, 0),
  (8, ⟨"RingDrive$Ring", "putGap", "(I)V"⟩, prog_10_method_8_code, 3, none, 1, 0, 1, 27, 0, 0)]
def rx_MT_1 : List rx_M := [(8, ⟨"RingDrive$Ring", "putGapToEnd", "()V"⟩, prog_10_method_9_code, 1, none, 0, 0, 2, 49, 0, 0),
  (4, ⟨"RingDrive$Disk", "setId", "(II)V"⟩, prog_6_method_7_code, 3, none, 2, 0, 0, 0, 0, 0),
  (4, ⟨"RingDrive$Disk", "hasId", "()Z"⟩, prog_6_method_5_code, 1, (Option.some Jvm.ClassFile.FieldType.boolean), 0, 0, 0, 0, 0, 0),
  (4, ⟨"RingDrive$Disk", "takeId", "()I"⟩, prog_6_method_8_code, 5, (Option.some Jvm.ClassFile.FieldType.int), 0, 0, 1, 26, 0, 0),
  (4, ⟨"RingDrive$Disk", "dropId", "()V"⟩, prog_6_method_6_code, 1, none, 0, 0, 0, 0, 0, 0),
  (8, ⟨"RingDrive$Ring", "onesAhead", "(I)I"⟩, prog_10_method_10_code, 5, (Option.some Jvm.ClassFile.FieldType.int), 1, 0, 0, 0, 0, 0),
  (8, ⟨"RingDrive$Ring", "startRound", "(I)V"⟩, prog_10_method_12_code, 2, none, 1, 0, 0, 0, 0, 0),
  (8, ⟨"RingDrive$Ring", "nextFirst", "()I"⟩, prog_10_method_13_code, 5, (Option.some Jvm.ClassFile.FieldType.int), 0, 0, 0, 0, 0, 0),
  (8, ⟨"RingDrive$Ring", "next", "()I"⟩, prog_10_method_15_code, 5, (Option.some Jvm.ClassFile.FieldType.int), 0, 0, 0, 0, 0, 0),
  (4, ⟨"RingDrive$Disk", "decode", "([I[I)Z"⟩, prog_6_method_18_code, 7, (Option.some Jvm.ClassFile.FieldType.boolean), 2, 1, 0, 0, 0, 0),
  (4, ⟨"RingDrive$Disk", "isHeader", "()Z"⟩, prog_6_method_9_code, 1, (Option.some Jvm.ClassFile.FieldType.boolean), 0, 0, 0, 0, 0, 0),
  (0, ⟨"RingDrive$BlockMap", "begin", "(LRingDrive$Pattern;)V"⟩, prog_2_method_4_code, 2, none, 1, 0, 2, 43, 0, 0),
  (19, ⟨"java/util/Arrays", "fill", "([II)V"⟩, prog_20_method_103_code, 4, none, 2, 1, 0, 0, 0, 0),
  (0, ⟨"RingDrive$BlockMap", "freeAll", "()V"⟩, prog_2_method_5_code, 2, none, 0, 0, 1, 20, 0, 0),
  (4, ⟨"RingDrive$Disk", "sectorsOf", "(I)I"⟩, prog_6_method_3_code, 1, (Option.some Jvm.ClassFile.FieldType.int), 1, 1, 0, 0, 0, 0),
  (0, ⟨"RingDrive$BlockMap", "takeBlock", "(II)V"⟩, prog_2_method_8_code, 3, none, 2, 0, 1, 21, 0, 0),
  (4, ⟨"RingDrive$Disk", "isLegal", "(II)Z"⟩, prog_6_method_4_code, 2, (Option.some Jvm.ClassFile.FieldType.boolean), 2, 1, 0, 0, 0, 0),
  (6, ⟨"RingDrive$Pattern", "putInto", "([II)V"⟩, prog_8_method_8_code, 4, none, 2, 0, 0, 0, 0, 0),
  (0, ⟨"RingDrive$BlockMap", "store", "()I"⟩, prog_2_method_3_code, 1, (Option.some Jvm.ClassFile.FieldType.int), 0, 0, 3, 78, 0, 0),
  (4, ⟨"RingDrive$Disk", "writeBlock", "(II[I)I"⟩, prog_6_method_11_code, 7, (Option.some Jvm.ClassFile.FieldType.int), 3, 0, 2, 52, 0, 0),
  (4, ⟨"RingDrive$Disk", "seek", "(LRingDrive$Ring;II)I"⟩, prog_6_method_13_code, 7, (Option.some Jvm.ClassFile.FieldType.int), 3, 0, 1, 26, 0, 0),
  (8, ⟨"RingDrive$Ring", "holds", "(I[I)Z"⟩, prog_10_method_14_code, 7, (Option.some Jvm.ClassFile.FieldType.boolean), 2, 0, 0, 0, 0, 0),
  (8, ⟨"RingDrive$Ring", "skip", "(I)V"⟩, prog_10_method_16_code, 3, none, 1, 0, 1, 24, 0, 0),
  (8, ⟨"RingDrive$Ring", "gatherFromFirst", "([I)V"⟩, prog_10_method_17_code, 4, none, 1, 0, 1, 24, 0, 0),
  (4, ⟨"RingDrive$Disk", "areSame", "([I[I)Z"⟩, prog_6_method_19_code, 3, (Option.some Jvm.ClassFile.FieldType.boolean), 2, 1, 0, 0, 0, 0),
  (3, ⟨"RingDrive$Directory", "writeEmpty", "(II)I"⟩, prog_5_method_19_code, 3, (Option.some Jvm.ClassFile.FieldType.int), 2, 0, 3, 78, 0, 0),
  (2, ⟨"RingDrive$Commands", "scratch", "()I"⟩, prog_4_method_6_code, 5, (Option.some Jvm.ClassFile.FieldType.int), 0, 0, 5, 139, 0, 0),
  (3, ⟨"RingDrive$Directory", "rewind", "()V"⟩, prog_5_method_2_code, 1, none, 0, 0, 1, 24, 0, 0),
  (3, ⟨"RingDrive$Directory", "goTo", "(IIII)V"⟩, prog_5_method_3_code, 5, none, 4, 0, 0, 0, 0, 0),
  (3, ⟨"RingDrive$Directory", "find", "(LRingDrive$Pattern;)I"⟩, prog_5_method_4_code, 4, (Option.some Jvm.ClassFile.FieldType.int), 1, 0, 3, 89, 0, 0),
  (4, ⟨"RingDrive$Disk", "readBlock", "(II[I)I"⟩, prog_6_method_10_code, 6, (Option.some Jvm.ClassFile.FieldType.int), 3, 0, 2, 64, 0, 0),
  (4, ⟨"RingDrive$Disk", "dataFault", "()I"⟩, prog_6_method_14_code, 3, (Option.some Jvm.ClassFile.FieldType.int), 0, 0, 1, 26, 0, 0),
  (3, ⟨"RingDrive$Directory", "isWanted", "(LRingDrive$Pattern;)Z"⟩, prog_5_method_7_code, 2, (Option.some Jvm.ClassFile.FieldType.boolean), 1, 0, 2, 40, 0, 0),
  (3, ⟨"RingDrive$Directory", "type", "()I"⟩, prog_5_method_9_code, 1, (Option.some Jvm.ClassFile.FieldType.int), 0, 0, 1, 20, 0, 0),
  (3, ⟨"RingDrive$Directory", "base", "()I"⟩, prog_5_method_8_code, 1, (Option.some Jvm.ClassFile.FieldType.int), 0, 0, 0, 0, 0, 0),
  (6, ⟨"RingDrive$Pattern", "fits", "([II)Z"⟩, prog_8_method_7_code, 5, (Option.some Jvm.ClassFile.FieldType.boolean), 2, 0, 0, 0, 0, 0),
  (3, ⟨"RingDrive$Directory", "isLast", "()Z"⟩, prog_5_method_5_code, 1, (Option.some Jvm.ClassFile.FieldType.boolean), 0, 0, 1, 20, 0, 0),
  (3, ⟨"RingDrive$Directory", "isFull", "()Z"⟩, prog_5_method_6_code, 1, (Option.some Jvm.ClassFile.FieldType.boolean), 0, 0, 0, 0, 0, 0),
  (5, ⟨"RingDrive$Dos", "scratchFound", "()I"⟩, prog_7_method_16_code, 5, (Option.some Jvm.ClassFile.FieldType.int), 0, 0, 4, 115, 0, 0),
  (0, ⟨"RingDrive$BlockMap", "load", "()I"⟩, prog_2_method_2_code, 1, (Option.some Jvm.ClassFile.FieldType.int), 0, 0, 3, 89, 0, 0)]
def rx_MT_2 : List rx_M := [(3, ⟨"RingDrive$Directory", "firstTrack", "()I"⟩, prog_5_method_11_code, 1, (Option.some Jvm.ClassFile.FieldType.int), 0, 0, 1, 20, 0, 0),
  (3, ⟨"RingDrive$Directory", "firstSector", "()I"⟩, prog_5_method_12_code, 1, (Option.some Jvm.ClassFile.FieldType.int), 0, 0, 1, 20, 0, 0),
  (5, ⟨"RingDrive$Dos", "giveBackChain", "(II)I"⟩, prog_7_method_17_code, 7, (Option.some Jvm.ClassFile.FieldType.int), 2, 0, 3, 89, 0, 0),
  (0, ⟨"RingDrive$BlockMap", "giveBack", "(II)V"⟩, prog_2_method_9_code, 3, none, 2, 0, 1, 21, 0, 0),
  (3, ⟨"RingDrive$Directory", "changeType", "(I)I"⟩, prog_5_method_15_code, 3, (Option.some Jvm.ClassFile.FieldType.int), 1, 0, 3, 89, 0, 0),
  (2, ⟨"RingDrive$Commands", "rename", "()I"⟩, prog_4_method_7_code, 4, (Option.some Jvm.ClassFile.FieldType.int), 0, 0, 4, 112, 0, 0),
  (3, ⟨"RingDrive$Directory", "changeName", "(LRingDrive$Pattern;)I"⟩, prog_5_method_16_code, 3, (Option.some Jvm.ClassFile.FieldType.int), 1, 0, 3, 89, 0, 0),
  (2, ⟨"RingDrive$Commands", "initialise", "()I"⟩, prog_4_method_8_code, 2, (Option.some Jvm.ClassFile.FieldType.int), 0, 0, 4, 109, 0, 0),
  (2, ⟨"RingDrive$Commands", "unknown", "()I"⟩, prog_4_method_3_code, 1, (Option.some Jvm.ClassFile.FieldType.int), 0, 0, 1, 23, 0, 0),
  (2, ⟨"RingDrive$Commands", "validate", "()I"⟩, prog_4_method_9_code, 3, (Option.some Jvm.ClassFile.FieldType.int), 0, 0, 4, 115, 0, 0),
  (2, ⟨"RingDrive$Commands", "takeDirectory", "()I"⟩, prog_4_method_10_code, 5, (Option.some Jvm.ClassFile.FieldType.int), 0, 0, 3, 89, 0, 0),
  (3, ⟨"RingDrive$Directory", "isClosed", "()Z"⟩, prog_5_method_10_code, 1, (Option.some Jvm.ClassFile.FieldType.boolean), 0, 0, 2, 40, 0, 0),
  (2, ⟨"RingDrive$Commands", "takeChain", "(II)I"⟩, prog_4_method_11_code, 7, (Option.some Jvm.ClassFile.FieldType.int), 2, 0, 3, 89, 0, 0),
  (0, ⟨"RingDrive$BlockMap", "isFree", "(II)Z"⟩, prog_2_method_7_code, 3, (Option.some Jvm.ClassFile.FieldType.boolean), 2, 0, 1, 21, 0, 0),
  (2, ⟨"RingDrive$Commands", "user", "()I"⟩, prog_4_method_12_code, 1, (Option.some Jvm.ClassFile.FieldType.int), 0, 0, 4, 115, 0, 0),
  (2, ⟨"RingDrive$Commands", "moveBlock", "(Z)I"⟩, prog_4_method_14_code, 7, (Option.some Jvm.ClassFile.FieldType.int), 1, 0, 3, 89, 0, 0),
  (10, ⟨"RingDrive$Tape", "startNumbers", "()V"⟩, prog_12_method_7_code, 1, none, 0, 0, 2, 47, 0, 0),
  (10, ⟨"RingDrive$Tape", "nextNumber", "()I"⟩, prog_12_method_8_code, 4, (Option.some Jvm.ClassFile.FieldType.int), 0, 0, 1, 21, 0, 0),
  (10, ⟨"RingDrive$Tape", "isDigit", "(I)Z"⟩, prog_12_method_9_code, 1, (Option.some Jvm.ClassFile.FieldType.boolean), 1, 1, 0, 0, 0, 0),
  (5, ⟨"RingDrive$Dos", "buffer", "(I)LRingDrive$Channel;"⟩, prog_7_method_2_code, 3, (Option.some (Jvm.ClassFile.FieldType.object "RingDrive$Channel")), 1, 0, 0, 0, 0, 0),
  (2, ⟨"RingDrive$Commands", "restart", "()I"⟩, prog_4_method_13_code, 1, (Option.some Jvm.ClassFile.FieldType.int), 0, 0, 1, 23, 0, 0),
  (2, ⟨"RingDrive$Commands", "block", "()I"⟩, prog_4_method_15_code, 1, (Option.some Jvm.ClassFile.FieldType.int), 0, 0, 5, 133, 0, 0),
  (2, ⟨"RingDrive$Commands", "setPlace", "()I"⟩, prog_4_method_16_code, 4, (Option.some Jvm.ClassFile.FieldType.int), 0, 0, 3, 67, 0, 0),
  (2, ⟨"RingDrive$Commands", "allocate", "(Z)I"⟩, prog_4_method_17_code, 5, (Option.some Jvm.ClassFile.FieldType.int), 1, 0, 4, 109, 0, 0),
  (2, ⟨"RingDrive$Commands", "tellNextFree", "(II)I"⟩, prog_4_method_18_code, 6, (Option.some Jvm.ClassFile.FieldType.int), 2, 0, 2, 43, 0, 0),
  (2, ⟨"RingDrive$Commands", "program", "()I"⟩, prog_4_method_19_code, 4, (Option.some Jvm.ClassFile.FieldType.int), 0, 0, 5, 116, 0, 0),
  (2, ⟨"RingDrive$Commands", "argument", "(I)I"⟩, prog_4_method_20_code, 2, (Option.some Jvm.ClassFile.FieldType.int), 1, 0, 1, 24, 0, 0),
  (7, ⟨"RingDrive$Processor", "set", "(II)V"⟩, prog_9_method_3_code, 3, none, 2, 0, 0, 0, 0, 0),
  (7, ⟨"RingDrive$Processor", "get", "(I)I"⟩, prog_9_method_2_code, 2, (Option.some Jvm.ClassFile.FieldType.int), 1, 0, 0, 0, 0, 0),
  (9, ⟨"RingDrive$Status", "addReply", "(I)V"⟩, prog_11_method_4_code, 2, none, 1, 0, 0, 0, 0, 0),
  (7, ⟨"RingDrive$Processor", "run", "(I)I"⟩, prog_9_method_6_code, 5, (Option.some Jvm.ClassFile.FieldType.int), 1, 0, 4, 92, 0, 0),
  (7, ⟨"RingDrive$Processor", "begin", "(I)V"⟩, prog_9_method_5_code, 2, none, 1, 0, 0, 0, 0, 0),
  (7, ⟨"RingDrive$Processor", "locate", "(I)V"⟩, prog_9_method_12_code, 4, none, 1, 0, 2, 42, 0, 0),
  (7, ⟨"RingDrive$Processor", "fetch", "()I"⟩, prog_9_method_8_code, 2, (Option.some Jvm.ClassFile.FieldType.int), 0, 0, 0, 0, 0, 0),
  (7, ⟨"RingDrive$Processor", "fetchTwo", "()I"⟩, prog_9_method_9_code, 2, (Option.some Jvm.ClassFile.FieldType.int), 0, 0, 1, 21, 0, 0),
  (7, ⟨"RingDrive$Processor", "indexed", "(II)V"⟩, prog_9_method_11_code, 3, none, 2, 0, 0, 0, 0, 0),
  (7, ⟨"RingDrive$Processor", "pair", "(I)I"⟩, prog_9_method_10_code, 2, (Option.some Jvm.ClassFile.FieldType.int), 1, 0, 0, 0, 0, 0),
  (7, ⟨"RingDrive$Processor", "perform", "(II)V"⟩, prog_9_method_7_code, 3, none, 2, 0, 3, 70, 0, 0),
  (7, ⟨"RingDrive$Processor", "useValue", "(II)V"⟩, prog_9_method_16_code, 3, none, 2, 0, 2, 48, 0, 0),
  (7, ⟨"RingDrive$Processor", "marked", "(I)I"⟩, prog_9_method_15_code, 3, (Option.some Jvm.ClassFile.FieldType.int), 1, 0, 0, 0, 0, 0)]
def rx_MT_3 : List rx_M := [(7, ⟨"RingDrive$Processor", "add", "(I)V"⟩, prog_9_method_19_code, 4, none, 1, 0, 1, 25, 0, 0),
  (7, ⟨"RingDrive$Processor", "has", "(I)Z"⟩, prog_9_method_14_code, 2, (Option.some Jvm.ClassFile.FieldType.boolean), 1, 0, 0, 0, 0, 0),
  (7, ⟨"RingDrive$Processor", "addBinary", "(I)V"⟩, prog_9_method_18_code, 6, none, 1, 0, 0, 0, 0, 0),
  (7, ⟨"RingDrive$Processor", "flag", "(IZ)V"⟩, prog_9_method_13_code, 3, none, 2, 0, 0, 0, 0, 0),
  (7, ⟨"RingDrive$Processor", "subtract", "(I)V"⟩, prog_9_method_20_code, 4, none, 1, 0, 1, 25, 0, 0),
  (7, ⟨"RingDrive$Processor", "compare", "(II)V"⟩, prog_9_method_17_code, 3, none, 2, 0, 1, 22, 0, 0),
  (7, ⟨"RingDrive$Processor", "changeValue", "(IZ)V"⟩, prog_9_method_21_code, 5, none, 2, 0, 1, 22, 0, 0),
  (7, ⟨"RingDrive$Processor", "branch", "(I)V"⟩, prog_9_method_22_code, 3, none, 1, 0, 1, 21, 0, 0),
  (7, ⟨"RingDrive$Processor", "move", "(I)V"⟩, prog_9_method_23_code, 2, none, 1, 0, 1, 22, 0, 0),
  (7, ⟨"RingDrive$Processor", "changeFlag", "(I)V"⟩, prog_9_method_24_code, 2, none, 1, 0, 1, 22, 0, 0),
  (7, ⟨"RingDrive$Processor", "stack", "(I)V"⟩, prog_9_method_28_code, 3, none, 1, 0, 2, 41, 0, 0),
  (7, ⟨"RingDrive$Processor", "push", "(I)V"⟩, prog_9_method_25_code, 2, none, 1, 0, 0, 0, 0, 0),
  (7, ⟨"RingDrive$Processor", "pull", "()I"⟩, prog_9_method_26_code, 1, (Option.some Jvm.ClassFile.FieldType.int), 0, 0, 0, 0, 0, 0),
  (7, ⟨"RingDrive$Processor", "pullTwo", "()I"⟩, prog_9_method_27_code, 2, (Option.some Jvm.ClassFile.FieldType.int), 0, 0, 1, 20, 0, 0),
  (5, ⟨"RingDrive$Dos", "openChannel", "(I)I"⟩, prog_7_method_8_code, 4, (Option.some Jvm.ClassFile.FieldType.int), 1, 0, 6, 161, 0, 0),
  (5, ⟨"RingDrive$Dos", "closeChannel", "(I)I"⟩, prog_7_method_6_code, 4, (Option.some Jvm.ClassFile.FieldType.int), 1, 0, 4, 111, 0, 0),
  (5, ⟨"RingDrive$Dos", "goToEntryOf", "(LRingDrive$Channel;)V"⟩, prog_7_method_7_code, 2, none, 1, 0, 1, 24, 0, 0),
  (3, ⟨"RingDrive$Directory", "changeToClosed", "(I)I"⟩, prog_5_method_17_code, 3, (Option.some Jvm.ClassFile.FieldType.int), 1, 0, 3, 89, 0, 0),
  (5, ⟨"RingDrive$Dos", "countOpen", "()I"⟩, prog_7_method_3_code, 3, (Option.some Jvm.ClassFile.FieldType.int), 0, 0, 0, 0, 0, 0),
  (5, ⟨"RingDrive$Dos", "openBuffer", "(LRingDrive$Channel;)I"⟩, prog_7_method_9_code, 2, (Option.some Jvm.ClassFile.FieldType.int), 1, 0, 2, 44, 0, 0),
  (1, ⟨"RingDrive$Channel", "begin", "(I)V"⟩, prog_3_method_2_code, 2, none, 1, 0, 1, 23, 0, 0),
  (5, ⟨"RingDrive$Dos", "openList", "(LRingDrive$Channel;)I"⟩, prog_7_method_10_code, 3, (Option.some Jvm.ClassFile.FieldType.int), 1, 0, 2, 85, 0, 0),
  (6, ⟨"RingDrive$Pattern", "copyFrom", "(LRingDrive$Pattern;)V"⟩, prog_8_method_5_code, 2, none, 1, 0, 1, 64, 0, 0),
  (5, ⟨"RingDrive$Dos", "parseFile", "(I)I"⟩, prog_7_method_11_code, 5, (Option.some Jvm.ClassFile.FieldType.int), 1, 0, 2, 48, 0, 0),
  (5, ⟨"RingDrive$Dos", "sortTold", "(I)I"⟩, prog_7_method_12_code, 2, (Option.some Jvm.ClassFile.FieldType.int), 1, 0, 1, 21, 0, 0),
  (5, ⟨"RingDrive$Dos", "wayTold", "(I)I"⟩, prog_7_method_13_code, 3, (Option.some Jvm.ClassFile.FieldType.int), 1, 0, 1, 21, 0, 0),
  (5, ⟨"RingDrive$Dos", "openToRead", "(LRingDrive$Channel;)I"⟩, prog_7_method_14_code, 5, (Option.some Jvm.ClassFile.FieldType.int), 1, 0, 4, 112, 0, 0),
  (1, ⟨"RingDrive$Channel", "unfold", "()V"⟩, prog_3_method_5_code, 1, none, 0, 0, 1, 24, 0, 0),
  (5, ⟨"RingDrive$Dos", "openToWrite", "(LRingDrive$Channel;)I"⟩, prog_7_method_15_code, 3, (Option.some Jvm.ClassFile.FieldType.int), 1, 0, 5, 139, 0, 0),
  (5, ⟨"RingDrive$Dos", "findRoom", "()I"⟩, prog_7_method_18_code, 2, (Option.some Jvm.ClassFile.FieldType.int), 0, 0, 4, 112, 0, 0),
  (0, ⟨"RingDrive$BlockMap", "pickForDirectory", "()Z"⟩, prog_2_method_12_code, 1, (Option.some Jvm.ClassFile.FieldType.boolean), 0, 0, 3, 68, 0, 0),
  (0, ⟨"RingDrive$BlockMap", "pickOf", "(II)Z"⟩, prog_2_method_13_code, 6, (Option.some Jvm.ClassFile.FieldType.boolean), 2, 0, 2, 43, 0, 0),
  (3, ⟨"RingDrive$Directory", "lengthen", "(II)I"⟩, prog_5_method_20_code, 4, (Option.some Jvm.ClassFile.FieldType.int), 2, 0, 3, 89, 0, 0),
  (5, ⟨"RingDrive$Dos", "startFile", "(LRingDrive$Channel;)I"⟩, prog_7_method_19_code, 3, (Option.some Jvm.ClassFile.FieldType.int), 1, 0, 4, 113, 0, 0),
  (0, ⟨"RingDrive$BlockMap", "pick", "()Z"⟩, prog_2_method_10_code, 2, (Option.some Jvm.ClassFile.FieldType.boolean), 0, 0, 3, 68, 0, 0),
  (3, ⟨"RingDrive$Directory", "changeToNew", "(ILRingDrive$BlockMap;LRingDrive$Pattern;)I"⟩, prog_5_method_18_code, 5, (Option.some Jvm.ClassFile.FieldType.int), 3, 0, 3, 89, 0, 0),
  (1, ⟨"RingDrive$Channel", "beginBlock", "(II)V"⟩, prog_3_method_3_code, 3, none, 2, 0, 1, 23, 0, 0),
  (1, ⟨"RingDrive$Channel", "keepEntry", "(LRingDrive$Directory;)V"⟩, prog_3_method_4_code, 2, none, 1, 0, 0, 0, 0, 0),
  (11, ⟨"RingDrive", "write", "(II)I"⟩, prog_1_method_4_code, 3, (Option.some Jvm.ClassFile.FieldType.int), 2, 0, 7, 184, 0, 0),
  (5, ⟨"RingDrive$Dos", "sendBytes", "(I)V"⟩, prog_7_method_27_code, 5, none, 1, 0, 6, 160, 0, 0)]
def rx_MT_4 : List rx_M := [(5, ⟨"RingDrive$Dos", "addToFile", "(LRingDrive$Channel;I)I"⟩, prog_7_method_28_code, 5, (Option.some Jvm.ClassFile.FieldType.int), 2, 0, 5, 136, 0, 0),
  (0, ⟨"RingDrive$BlockMap", "pickBehind", "(II)Z"⟩, prog_2_method_11_code, 3, (Option.some Jvm.ClassFile.FieldType.boolean), 2, 0, 4, 89, 0, 0),
  (5, ⟨"RingDrive$Dos", "goToNextBlock", "(LRingDrive$Channel;)I"⟩, prog_7_method_29_code, 3, (Option.some Jvm.ClassFile.FieldType.int), 1, 0, 4, 98, 0, 0),
  (5, ⟨"RingDrive$Dos", "giveUpFile", "(LRingDrive$Channel;)I"⟩, prog_7_method_30_code, 6, (Option.some Jvm.ClassFile.FieldType.int), 1, 0, 4, 111, 0, 0),
  (11, ⟨"RingDrive", "close", "(I)I"⟩, prog_1_method_5_code, 2, (Option.some Jvm.ClassFile.FieldType.int), 1, 0, 6, 156, 0, 0),
  (5, ⟨"RingDrive$Dos", "closeAll", "()V"⟩, prog_7_method_5_code, 3, none, 0, 0, 5, 134, 0, 0),
  (11, ⟨"RingDrive", "read", "(II)I"⟩, prog_1_method_6_code, 3, (Option.some Jvm.ClassFile.FieldType.int), 2, 0, 9, 197, 0, 0),
  (9, ⟨"RingDrive$Status", "receive", "(I[I)I"⟩, prog_11_method_5_code, 4, (Option.some Jvm.ClassFile.FieldType.int), 2, 0, 7, 149, 0, 0),
  (9, ⟨"RingDrive$Status", "replyByte", "()I"⟩, prog_11_method_6_code, 2, (Option.some Jvm.ClassFile.FieldType.int), 0, 0, 0, 0, 0, 0),
  (9, ⟨"RingDrive$Status", "textByte", "()I"⟩, prog_11_method_7_code, 2, (Option.some Jvm.ClassFile.FieldType.int), 0, 0, 6, 128, 0, 0),
  (9, ⟨"RingDrive$Status", "spell", "()V"⟩, prog_11_method_8_code, 3, none, 0, 0, 5, 106, 0, 0),
  (9, ⟨"RingDrive$Status", "addTwoDigits", "(I)V"⟩, prog_11_method_9_code, 2, none, 1, 0, 1, 21, 0, 0),
  (9, ⟨"RingDrive$Status", "add", "(I)V"⟩, prog_11_method_10_code, 2, none, 1, 0, 0, 0, 0, 0),
  (9, ⟨"RingDrive$Status", "words", "()Ljava/lang/String;"⟩, prog_11_method_11_code, 1, (Option.some (Jvm.ClassFile.FieldType.object "java/lang/String")), 0, 0, 0, 0, 0, 0),
  (16, ⟨"java/lang/String", "length", "()I"⟩, prog_16_method_54_code, 1, (Option.some Jvm.ClassFile.FieldType.int), 0, 0, 1, 20, 0, 0),
  (16, ⟨"java/lang/String", "coder", "()B"⟩, prog_16_method_152_code, 1, (Option.some Jvm.ClassFile.FieldType.byte), 0, 0, 0, 0, 0, 0),
  (16, ⟨"java/lang/String", "charAt", "(I)C"⟩, prog_16_method_56_code, 2, (Option.some Jvm.ClassFile.FieldType.char), 1, 0, 4, 85, 0, 0),
  (16, ⟨"java/lang/String", "isLatin1", "()Z"⟩, prog_16_method_154_code, 1, (Option.some Jvm.ClassFile.FieldType.boolean), 0, 0, 0, 0, 0, 0),
  (17, ⟨"java/lang/StringLatin1", "charAt", "([BI)C"⟩, prog_17_method_2_code, 2, (Option.some Jvm.ClassFile.FieldType.char), 2, 1, 2, 43, 0, 0),
  (16, ⟨"java/lang/String", "checkIndex", "(II)V"⟩, prog_16_method_155_code, 2, none, 2, 1, 1, 22, 0, 0),
  (20, ⟨"jdk/internal/util/Preconditions", "checkIndex", "(IILjava/util/function/BiFunction;)I"⟩, prog_21_method_11_code, 3, (Option.some Jvm.ClassFile.FieldType.int), 3, 1, 0, 0, 0, 0),
  (18, ⟨"java/lang/StringUTF16", "charAt", "([BI)C"⟩, prog_18_method_83_code, 2, (Option.some Jvm.ClassFile.FieldType.char), 2, 1, 3, 64, 0, 0),
  (18, ⟨"java/lang/StringUTF16", "checkIndex", "(I[B)V"⟩, prog_18_method_91_code, 2, none, 2, 1, 2, 43, 0, 0),
  (18, ⟨"java/lang/StringUTF16", "length", "([B)I"⟩, prog_18_method_6_code, 1, (Option.some Jvm.ClassFile.FieldType.int), 1, 1, 0, 0, 0, 0),
  (18, ⟨"java/lang/StringUTF16", "getChar", "([BI)C"⟩, prog_18_method_5_code, 2, (Option.some Jvm.ClassFile.FieldType.char), 2, 1, 1, 20, 0, 0),
  (5, ⟨"RingDrive$Dos", "receive", "(II[I)I"⟩, prog_7_method_20_code, 6, (Option.some Jvm.ClassFile.FieldType.int), 3, 0, 8, 172, 0, 0),
  (5, ⟨"RingDrive$Dos", "nextByte", "(LRingDrive$Channel;)I"⟩, prog_7_method_21_code, 3, (Option.some Jvm.ClassFile.FieldType.int), 1, 0, 7, 150, 0, 0),
  (5, ⟨"RingDrive$Dos", "makeLine", "(LRingDrive$Channel;)I"⟩, prog_7_method_23_code, 3, (Option.some Jvm.ClassFile.FieldType.int), 1, 0, 6, 128, 0, 0),
  (1, ⟨"RingDrive$Channel", "startLine", "()V"⟩, prog_3_method_6_code, 1, none, 0, 0, 0, 0, 0, 0),
  (5, ⟨"RingDrive$Dos", "addTitle", "(LRingDrive$Channel;)V"⟩, prog_7_method_24_code, 4, none, 1, 0, 1, 21, 0, 0),
  (1, ⟨"RingDrive$Channel", "add", "(I)V"⟩, prog_3_method_7_code, 2, none, 1, 0, 0, 0, 0, 0),
  (5, ⟨"RingDrive$Dos", "addEntry", "(LRingDrive$Channel;)V"⟩, prog_7_method_25_code, 3, none, 1, 0, 5, 106, 0, 0),
  (3, ⟨"RingDrive$Directory", "count", "()I"⟩, prog_5_method_14_code, 1, (Option.some Jvm.ClassFile.FieldType.int), 0, 0, 1, 20, 0, 0),
  (1, ⟨"RingDrive$Channel", "addNumber", "(I)V"⟩, prog_3_method_8_code, 4, none, 1, 0, 1, 21, 0, 0),
  (3, ⟨"RingDrive$Directory", "nameByte", "(I)I"⟩, prog_5_method_13_code, 2, (Option.some Jvm.ClassFile.FieldType.int), 1, 0, 1, 20, 0, 0),
  (5, ⟨"RingDrive$Dos", "addFree", "(LRingDrive$Channel;)V"⟩, prog_7_method_26_code, 2, none, 1, 0, 2, 44, 0, 0),
  (0, ⟨"RingDrive$BlockMap", "freeSum", "()I"⟩, prog_2_method_6_code, 3, (Option.some Jvm.ClassFile.FieldType.int), 0, 0, 0, 0, 0, 0),
  (5, ⟨"RingDrive$Dos", "readNext", "(LRingDrive$Channel;)I"⟩, prog_7_method_22_code, 5, (Option.some Jvm.ClassFile.FieldType.int), 1, 0, 3, 89, 0, 0),
  (11, ⟨"RingDrive", "out", "(I)I"⟩, prog_1_method_7_code, 2, (Option.some Jvm.ClassFile.FieldType.int), 1, 0, 0, 0, 0, 0),
  (11, ⟨"RingDrive", "look", "(I)I"⟩, prog_1_method_8_code, 2, (Option.some Jvm.ClassFile.FieldType.int), 1, 0, 1, 22, 0, 0)]
def rx_MT_5 : List rx_M := [(11, ⟨"RingDrive", "bits", "(II)I"⟩, prog_1_method_9_code, 4, (Option.some Jvm.ClassFile.FieldType.int), 2, 0, 2, 47, 0, 0),
  (8, ⟨"RingDrive$Ring", "hasBit", "(I)Z"⟩, prog_10_method_2_code, 2, (Option.some Jvm.ClassFile.FieldType.boolean), 1, 0, 0, 0, 0, 0),
  (8, ⟨"RingDrive$Ring", "word", "(I)I"⟩, prog_10_method_3_code, 4, (Option.some Jvm.ClassFile.FieldType.int), 1, 0, 1, 24, 0, 0),
  (8, ⟨"RingDrive$Ring", "eight", "(I)I"⟩, prog_10_method_5_code, 5, (Option.some Jvm.ClassFile.FieldType.int), 1, 0, 0, 0, 0, 0),
  (11, ⟨"RingDrive", "turn", "(III)Z"⟩, prog_1_method_10_code, 5, (Option.some Jvm.ClassFile.FieldType.boolean), 3, 0, 2, 50, 0, 0),
  (8, ⟨"RingDrive$Ring", "flip", "(II)V"⟩, prog_10_method_4_code, 4, none, 2, 0, 1, 27, 0, 0),
  (11, ⟨"RingDrive", "protect", "(Z)V"⟩, prog_1_method_11_code, 2, none, 1, 0, 0, 0, 0, 0),
  (11, ⟨"RingDrive", "power", "()V"⟩, prog_1_method_12_code, 1, none, 0, 0, 2, 43, 0, 0),
  (7, ⟨"RingDrive$Processor", "reset", "()V"⟩, prog_9_method_4_code, 1, none, 0, 0, 1, 23, 0, 0),
  (11, ⟨"RingDrive", "memory", "(I)I"⟩, prog_1_method_13_code, 2, (Option.some Jvm.ClassFile.FieldType.int), 1, 0, 1, 21, 0, 0),
  (12, ⟨"RingDriveModel", "feed", "(IIIII)I"⟩, prog_14_method_45_code, 6, (Option.some Jvm.ClassFile.FieldType.int), 5, 0, 1, 22, 0, 0),
  (12, ⟨"RingDriveModel", "types", "(I)V"⟩, prog_14_method_44_code, 3, none, 1, 0, 0, 0, 0, 0),
  (12, ⟨"RingDriveModel", "open", "(II)I"⟩, prog_14_method_47_code, 3, (Option.some Jvm.ClassFile.FieldType.int), 2, 0, 11, 277, 0, 0),
  (12, ⟨"RingDriveModel", "sends", "(I)V"⟩, prog_14_method_46_code, 3, none, 1, 0, 0, 0, 0, 0),
  (12, ⟨"RingDriveModel", "commands", "(I)I"⟩, prog_14_method_81_code, 2, (Option.some Jvm.ClassFile.FieldType.int), 1, 0, 10, 248, 0, 0),
  (12, ⟨"RingDriveModel", "begins", "()V"⟩, prog_14_method_41_code, 1, none, 0, 0, 1, 23, 0, 0),
  (12, ⟨"RingDriveModel", "sets", "(III)V"⟩, prog_14_method_40_code, 4, none, 3, 0, 0, 0, 0, 0),
  (12, ⟨"RingDriveModel", "fault", "(III)I"⟩, prog_14_method_4_code, 4, (Option.some Jvm.ClassFile.FieldType.int), 3, 0, 0, 0, 0, 0),
  (12, ⟨"RingDriveModel", "ends", "(I)I"⟩, prog_14_method_42_code, 2, (Option.some Jvm.ClassFile.FieldType.int), 1, 0, 1, 23, 0, 0),
  (12, ⟨"RingDriveModel", "does", "(I)I"⟩, prog_14_method_83_code, 4, (Option.some Jvm.ClassFile.FieldType.int), 1, 0, 9, 225, 0, 0),
  (12, ⟨"RingDriveModel", "again", "()I"⟩, prog_14_method_84_code, 2, (Option.some Jvm.ClassFile.FieldType.int), 0, 0, 6, 143, 0, 0),
  (12, ⟨"RingDriveModel", "takeId", "()I"⟩, prog_14_method_24_code, 4, (Option.some Jvm.ClassFile.FieldType.int), 0, 0, 3, 69, 0, 0),
  (12, ⟨"RingDriveModel", "round", "(I)I"⟩, prog_14_method_10_code, 7, (Option.some Jvm.ClassFile.FieldType.int), 1, 0, 2, 43, 0, 0),
  (12, ⟨"RingDriveModel", "bytesOf", "(I)I"⟩, prog_14_method_1_code, 1, (Option.some Jvm.ClassFile.FieldType.int), 1, 1, 0, 0, 0, 0),
  (12, ⟨"RingDriveModel", "bitAt", "(II)I"⟩, prog_14_method_5_code, 3, (Option.some Jvm.ClassFile.FieldType.int), 2, 0, 0, 0, 0, 0),
  (12, ⟨"RingDriveModel", "along", "(III)V"⟩, prog_14_method_7_code, 4, none, 3, 0, 1, 20, 0, 0),
  (12, ⟨"RingDriveModel", "goes", "()Z"⟩, prog_14_method_8_code, 2, (Option.some Jvm.ClassFile.FieldType.boolean), 0, 0, 1, 22, 0, 0),
  (12, ⟨"RingDriveModel", "comes", "()I"⟩, prog_14_method_9_code, 2, (Option.some Jvm.ClassFile.FieldType.int), 0, 0, 2, 43, 0, 0),
  (12, ⟨"RingDriveModel", "reads", "(I)Z"⟩, prog_14_method_15_code, 6, (Option.some Jvm.ClassFile.FieldType.boolean), 1, 0, 2, 42, 0, 0),
  (12, ⟨"RingDriveModel", "group", "(I)I"⟩, prog_14_method_14_code, 4, (Option.some Jvm.ClassFile.FieldType.int), 1, 0, 0, 0, 0, 0),
  (12, ⟨"RingDriveModel", "valueOf", "(I)I"⟩, prog_14_method_12_code, 3, (Option.some Jvm.ClassFile.FieldType.int), 1, 1, 1, 20, 0, 0),
  (12, ⟨"RingDriveModel", "groupOf", "(I)I"⟩, prog_14_method_11_code, 1, (Option.some Jvm.ClassFile.FieldType.int), 1, 1, 0, 0, 0, 0),
  (12, ⟨"RingDriveModel", "loads", "()I"⟩, prog_14_method_25_code, 1, (Option.some Jvm.ClassFile.FieldType.int), 0, 0, 5, 123, 0, 0),
  (12, ⟨"RingDriveModel", "readBlock", "(II[II)I"⟩, prog_14_method_20_code, 8, (Option.some Jvm.ClassFile.FieldType.int), 4, 0, 4, 96, 0, 0),
  (12, ⟨"RingDriveModel", "seek", "(II)I"⟩, prog_14_method_18_code, 7, (Option.some Jvm.ClassFile.FieldType.int), 2, 0, 3, 70, 0, 0),
  (12, ⟨"RingDriveModel", "header", "(IIII)V"⟩, prog_14_method_16_code, 5, none, 4, 0, 2, 46, 0, 0),
  (12, ⟨"RingDriveModel", "codes", "(I)V"⟩, prog_14_method_13_code, 7, none, 1, 0, 1, 20, 0, 0),
  (12, ⟨"RingDriveModel", "gets", "()V"⟩, prog_14_method_19_code, 3, none, 0, 0, 3, 64, 0, 0),
  (12, ⟨"RingDriveModel", "validates", "()I"⟩, prog_14_method_91_code, 6, (Option.some Jvm.ClassFile.FieldType.int), 0, 0, 8, 200, 0, 0),
  (12, ⟨"RingDriveModel", "freesAll", "()V"⟩, prog_14_method_87_code, 2, none, 0, 0, 1, 20, 0, 0)]
def rx_MT_6 : List rx_M := [(12, ⟨"RingDriveModel", "sectorsOf", "(I)I"⟩, prog_14_method_2_code, 1, (Option.some Jvm.ClassFile.FieldType.int), 1, 1, 0, 0, 0, 0),
  (12, ⟨"RingDriveModel", "takes", "(II)V"⟩, prog_14_method_28_code, 3, none, 2, 0, 0, 0, 0, 0),
  (12, ⟨"RingDriveModel", "isLegal", "(II)Z"⟩, prog_14_method_3_code, 2, (Option.some Jvm.ClassFile.FieldType.boolean), 2, 1, 1, 20, 0, 0),
  (12, ⟨"RingDriveModel", "isFree", "(II)Z"⟩, prog_14_method_27_code, 3, (Option.some Jvm.ClassFile.FieldType.boolean), 2, 0, 0, 0, 0, 0),
  (12, ⟨"RingDriveModel", "entries", "()I"⟩, prog_14_method_92_code, 6, (Option.some Jvm.ClassFile.FieldType.int), 0, 0, 7, 175, 0, 0),
  (12, ⟨"RingDriveModel", "used", "(III)I"⟩, prog_14_method_93_code, 8, (Option.some Jvm.ClassFile.FieldType.int), 3, 0, 6, 148, 0, 0),
  (12, ⟨"RingDriveModel", "changesType", "(IIII)I"⟩, prog_14_method_38_code, 6, (Option.some Jvm.ClassFile.FieldType.int), 4, 0, 5, 123, 0, 0),
  (12, ⟨"RingDriveModel", "writeBlock", "(II[II)I"⟩, prog_14_method_22_code, 8, (Option.some Jvm.ClassFile.FieldType.int), 4, 0, 4, 96, 0, 0),
  (12, ⟨"RingDriveModel", "lays", "(II)V"⟩, prog_14_method_21_code, 4, none, 2, 0, 1, 25, 0, 0),
  (12, ⟨"RingDriveModel", "setBit", "(III)V"⟩, prog_14_method_6_code, 6, none, 3, 0, 0, 0, 0, 0),
  (12, ⟨"RingDriveModel", "data", "([II)V"⟩, prog_14_method_17_code, 5, none, 2, 0, 2, 46, 0, 0),
  (12, ⟨"RingDriveModel", "uses", "(II)I"⟩, prog_14_method_90_code, 3, (Option.some Jvm.ClassFile.FieldType.int), 2, 0, 2, 41, 0, 0),
  (12, ⟨"RingDriveModel", "stores", "()I"⟩, prog_14_method_26_code, 1, (Option.some Jvm.ClassFile.FieldType.int), 0, 0, 5, 123, 0, 0),
  (12, ⟨"RingDriveModel", "shutsAll", "()V"⟩, prog_14_method_59_code, 2, none, 0, 0, 0, 0, 0, 0),
  (12, ⟨"RingDriveModel", "news", "(I)I"⟩, prog_14_method_85_code, 9, (Option.some Jvm.ClassFile.FieldType.int), 1, 0, 7, 166, 0, 0),
  (12, ⟨"RingDriveModel", "isWild", "(II)Z"⟩, prog_14_method_51_code, 5, (Option.some Jvm.ClassFile.FieldType.boolean), 2, 0, 0, 0, 0, 0),
  (12, ⟨"RingDriveModel", "format", "(III)I"⟩, prog_14_method_23_code, 6, (Option.some Jvm.ClassFile.FieldType.int), 3, 0, 3, 70, 0, 0),
  (12, ⟨"RingDriveModel", "maps", "(I)I"⟩, prog_14_method_86_code, 4, (Option.some Jvm.ClassFile.FieldType.int), 1, 0, 6, 143, 0, 0),
  (12, ⟨"RingDriveModel", "scratch", "(I)I"⟩, prog_14_method_88_code, 5, (Option.some Jvm.ClassFile.FieldType.int), 1, 0, 8, 197, 0, 0),
  (12, ⟨"RingDriveModel", "finds", "(I[III)I"⟩, prog_14_method_37_code, 11, (Option.some Jvm.ClassFile.FieldType.int), 4, 0, 5, 123, 0, 0),
  (12, ⟨"RingDriveModel", "fits", "([III[II)Z"⟩, prog_14_method_35_code, 7, (Option.some Jvm.ClassFile.FieldType.boolean), 5, 1, 0, 0, 0, 0),
  (12, ⟨"RingDriveModel", "same", "([III[II)Z"⟩, prog_14_method_36_code, 7, (Option.some Jvm.ClassFile.FieldType.boolean), 5, 1, 0, 0, 0, 0),
  (12, ⟨"RingDriveModel", "scratches", "()I"⟩, prog_14_method_39_code, 5, (Option.some Jvm.ClassFile.FieldType.int), 0, 0, 7, 173, 0, 0),
  (12, ⟨"RingDriveModel", "freesChain", "(II)I"⟩, prog_14_method_34_code, 11, (Option.some Jvm.ClassFile.FieldType.int), 2, 0, 6, 143, 0, 0),
  (12, ⟨"RingDriveModel", "givesBack", "(II)V"⟩, prog_14_method_29_code, 3, none, 2, 0, 2, 41, 0, 0),
  (12, ⟨"RingDriveModel", "renames", "(I)I"⟩, prog_14_method_89_code, 7, (Option.some Jvm.ClassFile.FieldType.int), 1, 0, 6, 153, 0, 0),
  (12, ⟨"RingDriveModel", "blockOf", "(IZ)I"⟩, prog_14_method_97_code, 7, (Option.some Jvm.ClassFile.FieldType.int), 2, 0, 5, 123, 0, 0),
  (12, ⟨"RingDriveModel", "numbers", "(I)Z"⟩, prog_14_method_94_code, 2, (Option.some Jvm.ClassFile.FieldType.boolean), 1, 0, 0, 0, 0, 0),
  (12, ⟨"RingDriveModel", "numberNext", "(I)I"⟩, prog_14_method_96_code, 4, (Option.some Jvm.ClassFile.FieldType.int), 1, 0, 1, 20, 0, 0),
  (12, ⟨"RingDriveModel", "isDigit", "(I)Z"⟩, prog_14_method_95_code, 1, (Option.some Jvm.ClassFile.FieldType.boolean), 1, 1, 0, 0, 0, 0),
  (12, ⟨"RingDriveModel", "begins3", "(III)Z"⟩, prog_14_method_82_code, 4, (Option.some Jvm.ClassFile.FieldType.boolean), 3, 0, 0, 0, 0, 0),
  (12, ⟨"RingDriveModel", "pointer", "(I)I"⟩, prog_14_method_98_code, 4, (Option.some Jvm.ClassFile.FieldType.int), 1, 0, 2, 43, 0, 0),
  (12, ⟨"RingDriveModel", "allocates", "(I)I"⟩, prog_14_method_99_code, 7, (Option.some Jvm.ClassFile.FieldType.int), 1, 0, 6, 143, 0, 0),
  (12, ⟨"RingDriveModel", "frees", "(I)I"⟩, prog_14_method_100_code, 5, (Option.some Jvm.ClassFile.FieldType.int), 1, 0, 6, 143, 0, 0),
  (12, ⟨"RingDriveModel", "memories", "(I)I"⟩, prog_14_method_103_code, 7, (Option.some Jvm.ClassFile.FieldType.int), 1, 0, 8, 174, 0, 0),
  (12, ⟨"RingDriveModel", "put", "(II)V"⟩, prog_14_method_102_code, 3, none, 2, 0, 0, 0, 0, 0),
  (12, ⟨"RingDriveModel", "get", "(I)I"⟩, prog_14_method_101_code, 2, (Option.some Jvm.ClassFile.FieldType.int), 1, 0, 0, 0, 0, 0),
  (12, ⟨"RingDriveModel", "runs", "(I)I"⟩, prog_14_method_104_code, 4, (Option.some Jvm.ClassFile.FieldType.int), 1, 0, 7, 151, 0, 0),
  (12, ⟨"RingDriveModel", "step", "(I)Z"⟩, prog_14_method_128_code, 2, (Option.some Jvm.ClassFile.FieldType.boolean), 1, 0, 6, 130, 0, 0),
  (12, ⟨"RingDriveModel", "works", "(I)Z"⟩, prog_14_method_119_code, 6, (Option.some Jvm.ClassFile.FieldType.boolean), 1, 0, 4, 86, 0, 0)]
def rx_MT_7 : List rx_M := [(12, ⟨"RingDriveModel", "howOf", "(I)I"⟩, prog_14_method_115_code, 1, (Option.some Jvm.ClassFile.FieldType.int), 1, 1, 0, 0, 0, 0),
  (12, ⟨"RingDriveModel", "address", "(I)I"⟩, prog_14_method_112_code, 4, (Option.some Jvm.ClassFile.FieldType.int), 1, 0, 3, 63, 0, 0),
  (12, ⟨"RingDriveModel", "byteNext", "()I"⟩, prog_14_method_105_code, 2, (Option.some Jvm.ClassFile.FieldType.int), 0, 0, 1, 21, 0, 0),
  (12, ⟨"RingDriveModel", "wordNext", "()I"⟩, prog_14_method_106_code, 2, (Option.some Jvm.ClassFile.FieldType.int), 0, 0, 2, 42, 0, 0),
  (12, ⟨"RingDriveModel", "storeTime", "(I)I"⟩, prog_14_method_114_code, 1, (Option.some Jvm.ClassFile.FieldType.int), 1, 1, 0, 0, 0, 0),
  (12, ⟨"RingDriveModel", "readTime", "(I)I"⟩, prog_14_method_113_code, 3, (Option.some Jvm.ClassFile.FieldType.int), 1, 0, 0, 0, 0, 0),
  (12, ⟨"RingDriveModel", "marks", "(I)I"⟩, prog_14_method_109_code, 2, (Option.some Jvm.ClassFile.FieldType.int), 1, 0, 1, 22, 0, 0),
  (12, ⟨"RingDriveModel", "flag", "(IZ)V"⟩, prog_14_method_108_code, 3, none, 2, 0, 0, 0, 0, 0),
  (12, ⟨"RingDriveModel", "adds", "(I)V"⟩, prog_14_method_116_code, 6, none, 1, 0, 2, 43, 0, 0),
  (12, ⟨"RingDriveModel", "is", "(I)Z"⟩, prog_14_method_107_code, 2, (Option.some Jvm.ClassFile.FieldType.boolean), 1, 0, 0, 0, 0, 0),
  (12, ⟨"RingDriveModel", "compares", "(II)V"⟩, prog_14_method_118_code, 3, none, 2, 0, 2, 43, 0, 0),
  (12, ⟨"RingDriveModel", "takesOff", "(I)V"⟩, prog_14_method_117_code, 8, none, 1, 0, 2, 43, 0, 0),
  (12, ⟨"RingDriveModel", "twos", "(I)Z"⟩, prog_14_method_129_code, 2, (Option.some Jvm.ClassFile.FieldType.boolean), 1, 0, 5, 109, 0, 0),
  (12, ⟨"RingDriveModel", "shifted", "(II)I"⟩, prog_14_method_120_code, 4, (Option.some Jvm.ClassFile.FieldType.int), 2, 0, 2, 43, 0, 0),
  (12, ⟨"RingDriveModel", "takes2", "(I)Z"⟩, prog_14_method_127_code, 2, (Option.some Jvm.ClassFile.FieldType.boolean), 1, 0, 0, 0, 0, 0),
  (12, ⟨"RingDriveModel", "changes", "(II)V"⟩, prog_14_method_121_code, 4, none, 2, 0, 4, 86, 0, 0),
  (12, ⟨"RingDriveModel", "keeps", "(II)Z"⟩, prog_14_method_124_code, 3, (Option.some Jvm.ClassFile.FieldType.boolean), 2, 0, 4, 86, 0, 0),
  (12, ⟨"RingDriveModel", "fetches", "(II)Z"⟩, prog_14_method_123_code, 4, (Option.some Jvm.ClassFile.FieldType.boolean), 2, 0, 4, 86, 0, 0),
  (12, ⟨"RingDriveModel", "zeros", "(I)Z"⟩, prog_14_method_130_code, 2, (Option.some Jvm.ClassFile.FieldType.boolean), 1, 0, 5, 109, 0, 0),
  (12, ⟨"RingDriveModel", "branch", "(Z)V"⟩, prog_14_method_122_code, 4, none, 1, 0, 2, 42, 0, 0),
  (12, ⟨"RingDriveModel", "tests", "(I)Z"⟩, prog_14_method_126_code, 3, (Option.some Jvm.ClassFile.FieldType.boolean), 1, 0, 4, 86, 0, 0),
  (12, ⟨"RingDriveModel", "compared", "(II)Z"⟩, prog_14_method_125_code, 4, (Option.some Jvm.ClassFile.FieldType.boolean), 2, 0, 4, 86, 0, 0),
  (12, ⟨"RingDriveModel", "push", "(I)V"⟩, prog_14_method_110_code, 2, none, 1, 0, 1, 22, 0, 0),
  (12, ⟨"RingDriveModel", "pull", "()I"⟩, prog_14_method_111_code, 1, (Option.some Jvm.ClassFile.FieldType.int), 0, 0, 1, 21, 0, 0),
  (12, ⟨"RingDriveModel", "jumps", "(I)Z"⟩, prog_14_method_131_code, 4, (Option.some Jvm.ClassFile.FieldType.boolean), 1, 0, 3, 63, 0, 0),
  (12, ⟨"RingDriveModel", "opens", "(II)I"⟩, prog_14_method_48_code, 4, (Option.some Jvm.ClassFile.FieldType.int), 2, 0, 10, 254, 0, 0),
  (12, ⟨"RingDriveModel", "shuts", "(I)I"⟩, prog_14_method_57_code, 5, (Option.some Jvm.ClassFile.FieldType.int), 1, 0, 5, 123, 0, 0),
  (12, ⟨"RingDriveModel", "openMany", "()I"⟩, prog_14_method_43_code, 3, (Option.some Jvm.ClassFile.FieldType.int), 0, 0, 0, 0, 0, 0),
  (12, ⟨"RingDriveModel", "opensList", "(II)I"⟩, prog_14_method_49_code, 5, (Option.some Jvm.ClassFile.FieldType.int), 2, 0, 1, 23, 0, 0),
  (12, ⟨"RingDriveModel", "opensFile", "(II)I"⟩, prog_14_method_50_code, 10, (Option.some Jvm.ClassFile.FieldType.int), 2, 0, 9, 225, 0, 0),
  (12, ⟨"RingDriveModel", "opensNew", "(IIIIZ)I"⟩, prog_14_method_55_code, 9, (Option.some Jvm.ClassFile.FieldType.int), 5, 0, 8, 197, 0, 0),
  (12, ⟨"RingDriveModel", "makesEntry", "()I"⟩, prog_14_method_54_code, 6, (Option.some Jvm.ClassFile.FieldType.int), 0, 0, 6, 153, 0, 0),
  (12, ⟨"RingDriveModel", "lowest", "(I)I"⟩, prog_14_method_30_code, 4, (Option.some Jvm.ClassFile.FieldType.int), 1, 0, 1, 22, 0, 0),
  (12, ⟨"RingDriveModel", "takesOne", "()I"⟩, prog_14_method_32_code, 4, (Option.some Jvm.ClassFile.FieldType.int), 0, 0, 2, 45, 0, 0),
  (12, ⟨"RingDriveModel", "trackOf", "(I)I"⟩, prog_14_method_31_code, 1, (Option.some Jvm.ClassFile.FieldType.int), 1, 1, 0, 0, 0, 0),
  (12, ⟨"RingDriveModel", "clears", "(I)V"⟩, prog_14_method_56_code, 3, none, 1, 0, 0, 0, 0, 0),
  (12, ⟨"RingDriveModel", "opensOld", "(IIII)I"⟩, prog_14_method_53_code, 9, (Option.some Jvm.ClassFile.FieldType.int), 4, 0, 6, 153, 0, 0),
  (12, ⟨"RingDriveModel", "begun", "(I)V"⟩, prog_14_method_52_code, 4, none, 1, 0, 0, 0, 0, 0),
  (12, ⟨"RingDriveModel", "close", "(I)I"⟩, prog_14_method_58_code, 4, (Option.some Jvm.ClassFile.FieldType.int), 1, 0, 6, 147, 0, 0),
  (12, ⟨"RingDriveModel", "read", "(II)I"⟩, prog_14_method_61_code, 4, (Option.some Jvm.ClassFile.FieldType.int), 2, 0, 9, 218, 0, 0)]
def rx_MT_8 : List rx_M := [(12, ⟨"RingDriveModel", "givesMore", "(I)V"⟩, prog_14_method_62_code, 2, none, 1, 0, 1, 21, 0, 0),
  (12, ⟨"RingDriveModel", "gives", "(I)V"⟩, prog_14_method_60_code, 2, none, 1, 0, 0, 0, 0, 0),
  (12, ⟨"RingDriveModel", "givesStatus", "(I)V"⟩, prog_14_method_68_code, 2, none, 1, 0, 3, 66, 0, 0),
  (12, ⟨"RingDriveModel", "saysTwo", "(I)V"⟩, prog_14_method_66_code, 2, none, 1, 0, 1, 21, 0, 0),
  (12, ⟨"RingDriveModel", "says", "(I)V"⟩, prog_14_method_63_code, 2, none, 1, 0, 0, 0, 0, 0),
  (12, ⟨"RingDriveModel", "saysWords", "(I)V"⟩, prog_14_method_67_code, 2, none, 1, 0, 2, 45, 0, 0),
  (12, ⟨"RingDriveModel", "says8", "(J)V"⟩, prog_14_method_64_code, 5, none, 1, 0, 1, 21, 0, 0),
  (12, ⟨"RingDriveModel", "readsFile", "(II)I"⟩, prog_14_method_69_code, 8, (Option.some Jvm.ClassFile.FieldType.int), 2, 0, 5, 123, 0, 0),
  (12, ⟨"RingDriveModel", "readsList", "(II)I"⟩, prog_14_method_71_code, 6, (Option.some Jvm.ClassFile.FieldType.int), 2, 0, 8, 193, 0, 0),
  (12, ⟨"RingDriveModel", "title", "(I)I"⟩, prog_14_method_72_code, 4, (Option.some Jvm.ClassFile.FieldType.int), 1, 0, 6, 143, 0, 0),
  (12, ⟨"RingDriveModel", "next", "(I)I"⟩, prog_14_method_73_code, 7, (Option.some Jvm.ClassFile.FieldType.int), 1, 0, 7, 167, 0, 0),
  (12, ⟨"RingDriveModel", "entryLine", "(I)V"⟩, prog_14_method_74_code, 4, none, 1, 0, 2, 42, 0, 0),
  (12, ⟨"RingDriveModel", "saysNumber", "(I)V"⟩, prog_14_method_65_code, 2, none, 1, 0, 1, 21, 0, 0),
  (12, ⟨"RingDriveModel", "total", "(I)I"⟩, prog_14_method_75_code, 5, (Option.some Jvm.ClassFile.FieldType.int), 1, 0, 6, 143, 0, 0),
  (12, ⟨"RingDriveModel", "readsBuffer", "(II)I"⟩, prog_14_method_70_code, 4, (Option.some Jvm.ClassFile.FieldType.int), 2, 0, 1, 21, 0, 0),
  (12, ⟨"RingDriveModel", "out", "(I)I"⟩, prog_14_method_76_code, 2, (Option.some Jvm.ClassFile.FieldType.int), 1, 0, 0, 0, 0, 0),
  (12, ⟨"RingDriveModel", "write", "(II)I"⟩, prog_14_method_77_code, 5, (Option.some Jvm.ClassFile.FieldType.int), 2, 0, 11, 269, 0, 0),
  (12, ⟨"RingDriveModel", "writesByte", "(II)I"⟩, prog_14_method_78_code, 4, (Option.some Jvm.ClassFile.FieldType.int), 2, 0, 8, 197, 0, 0),
  (12, ⟨"RingDriveModel", "goesOn", "(I)I"⟩, prog_14_method_79_code, 5, (Option.some Jvm.ClassFile.FieldType.int), 1, 0, 7, 173, 0, 0),
  (12, ⟨"RingDriveModel", "takesNext", "(II)I"⟩, prog_14_method_33_code, 6, (Option.some Jvm.ClassFile.FieldType.int), 2, 0, 3, 68, 0, 0),
  (12, ⟨"RingDriveModel", "isFull", "(I)I"⟩, prog_14_method_80_code, 6, (Option.some Jvm.ClassFile.FieldType.int), 1, 0, 6, 148, 0, 0),
  (12, ⟨"RingDriveModel", "look", "(I)I"⟩, prog_14_method_132_code, 2, (Option.some Jvm.ClassFile.FieldType.int), 1, 0, 1, 22, 0, 0),
  (12, ⟨"RingDriveModel", "bits", "(II)I"⟩, prog_14_method_134_code, 6, (Option.some Jvm.ClassFile.FieldType.int), 2, 0, 2, 41, 0, 0),
  (12, ⟨"RingDriveModel", "isBit", "(II)Z"⟩, prog_14_method_133_code, 2, (Option.some Jvm.ClassFile.FieldType.boolean), 2, 1, 1, 20, 0, 0),
  (12, ⟨"RingDriveModel", "turn", "(III)Z"⟩, prog_14_method_135_code, 7, (Option.some Jvm.ClassFile.FieldType.boolean), 3, 0, 2, 41, 0, 0),
  (12, ⟨"RingDriveModel", "protect", "(Z)V"⟩, prog_14_method_136_code, 2, none, 1, 0, 0, 0, 0, 0),
  (12, ⟨"RingDriveModel", "memory", "(I)I"⟩, prog_14_method_137_code, 2, (Option.some Jvm.ClassFile.FieldType.int), 1, 0, 0, 0, 0, 0),
  (12, ⟨"RingDriveModel", "power", "()V"⟩, prog_14_method_138_code, 2, none, 0, 0, 1, 23, 0, 0),
  (12, ⟨"RingDriveModel", "<init>", "()V"⟩, prog_14_method_139_code, 1, none, 0, 2, 1, 20, 39, 18895)]
def rx_MT : List rx_M := rx_MT_0 ++ rx_MT_1 ++ rx_MT_2 ++ rx_MT_3 ++ rx_MT_4 ++ rx_MT_5 ++ rx_MT_6 ++ rx_MT_7 ++ rx_MT_8
def rx_ME_0 : List (Nat × Nat × Nat × Nat) := [(1025, 1024, 1001, 0), (1033, 1032, 1002, 0), (1056, 1055, 1003, 0), (1100, 1099, 1004, 0), (1111, 1110, 1005, 0), (1183, 1182, 1007, 0), (1227, 1226, 1008, 0), (1235, 1234, 1009, 0), (2008, 2007, 1010, 0), (2032, 2031, 1011, 0), (2071, 2070, 1012, 0), (2187, 2186, 1013, 0), (2194, 2192, 1009, 2193), (3017, 3015, 1001, 3016), (3021, 3019, 1002, 3020), (3025, 3023, 1001, 3024), (3029, 3028, 1001, 21000), (3032, 3031, 1001, 0), (3036, 3034, 1002, 3035), (3040, 3038, 1002, 3039), (3044, 3042, 1013, 3043), (3048, 3046, 1003, 3047), (3052, 3050, 1003, 3051), (3057, 3055, 1002, 3056), (3061, 3060, 1013, 21001), (3065, 3063, 1002, 3064), (3070, 3068, 1009, 3069), (3076, 3074, 1009, 3075), (3080, 3078, 1009, 3079), (3084, 3083, 1013, 21002), (3088, 3086, 1008, 3087), (3092, 3090, 1004, 3091), (3096, 3094, 1004, 3095), (3101, 3099, 1005, 3100), (3105, 3104, 1004, 21003), (3108, 3107, 1004, 0), (3114, 3113, 1004, 21004), (3118, 3116, 1005, 3117), (3122, 3120, 1005, 3121), (3126, 3124, 1005, 3125)]
def rx_ME_1 : List (Nat × Nat × Nat × Nat) := [(3130, 3128, 1005, 3129), (3135, 3133, 1004, 3134), (3139, 3137, 1004, 3138), (3143, 3141, 1004, 3142), (3147, 3145, 1004, 3146), (3151, 3149, 1005, 3150), (3155, 3153, 1005, 3154), (3159, 3157, 1005, 3158), (3164, 3162, 1005, 3163), (3167, 3166, 1004, 0), (3173, 3172, 1004, 21005), (3178, 3176, 1010, 3177), (3181, 3180, 1015, 0), (3185, 3183, 1010, 3184), (3188, 3187, 1004, 0), (3192, 3190, 1010, 3191), (3195, 3194, 1004, 0), (3199, 3197, 1009, 3198), (3203, 3201, 1010, 3202), (3207, 3205, 1004, 3206), (3212, 3211, 1004, 21006), (3216, 3214, 1005, 3215), (3220, 3218, 1005, 3219), (3225, 3223, 1005, 3224), (3228, 3227, 1004, 0), (3232, 3230, 1011, 3231), (3238, 3237, 1013, 21007), (4002, 4000, 1011, 4001), (4006, 4004, 1011, 4005), (4010, 4008, 1011, 4009), (4014, 4012, 1004, 4013), (4018, 4017, 1004, 21008), (4025, 4024, 1011, 21009), (4029, 4027, 1011, 4028), (4033, 4032, 1011, 21010), (4037, 4035, 1009, 4036), (4041, 4039, 1011, 4040), (4045, 4043, 1011, 4044), (4051, 4049, 1008, 4050), (4055, 4053, 1010, 4054)]
def rx_ME_2 : List (Nat × Nat × Nat × Nat) := [(4060, 4058, 1011, 4059), (4064, 4062, 1011, 4063), (4068, 4067, 1008, 21011), (4074, 4072, 1010, 4073), (4080, 4078, 1011, 4079), (4084, 4083, 1013, 21012), (4088, 4086, 1011, 4087), (4093, 4092, 1013, 21013), (4098, 4097, 1013, 21014), (4102, 4101, 1013, 21015), (4108, 4107, 1013, 22000), (4114, 4112, 1011, 4113), (4120, 4119, 1013, 22001), (4124, 4122, 1010, 4123), (4129, 4128, 1013, 22002), (4133, 4132, 1013, 22003), (4137, 4135, 1002, 4136), (4142, 4140, 1002, 4141), (4146, 4145, 1002, 0), (4150, 4148, 1008, 4149), (4155, 4154, 1013, 22004), (4160, 4159, 1013, 22005), (4164, 4163, 1013, 22006), (4168, 4167, 1013, 22007), (4172, 4171, 1013, 22008), (4178, 4177, 1013, 22009), (4182, 4181, 1013, 22010), (4187, 4185, 1007, 4186), (4191, 4189, 1007, 4190), (4195, 4193, 1003, 4194), (4199, 4197, 1007, 4198), (4203, 4202, 1007, 22011), (4214, 4213, 1007, 22012), (4218, 4217, 1007, 22013), (4222, 4221, 1007, 22014), (4226, 4225, 1007, 22015), (4230, 4229, 1007, 23000), (4235, 4234, 1007, 23001), (4239, 4238, 1007, 23002), (5003, 5002, 1007, 23003)]
def rx_ME_3 : List (Nat × Nat × Nat × Nat) := [(5007, 5006, 1007, 23004), (5011, 5010, 1007, 23005), (5015, 5014, 1007, 23006), (5019, 5018, 1007, 23007), (5023, 5022, 1007, 23008), (5027, 5026, 1007, 23009), (5032, 5031, 1007, 23010), (5036, 5035, 1007, 23011), (5040, 5039, 1007, 23012), (5044, 5043, 1007, 23013), (5048, 5047, 1007, 23014), (5052, 5051, 1007, 23015), (5056, 5055, 1007, 24000), (5060, 5059, 1007, 24001), (5066, 5064, 1008, 5065), (5070, 5068, 1008, 5069), (5075, 5074, 1008, 24002), (5080, 5078, 1011, 5079), (5084, 5082, 1008, 5083), (5089, 5088, 1008, 24003), (5093, 5091, 1012, 5092), (5098, 5097, 1008, 24004), (5105, 5103, 1009, 5104), (5110, 5109, 1008, 24005), (5115, 5114, 1008, 24006), (5119, 5118, 1008, 24007), (5124, 5123, 1008, 24008), (5132, 5130, 1012, 5131), (5139, 5138, 1008, 24009), (5144, 5143, 1008, 24010), (5149, 5147, 1010, 5148), (5153, 5152, 1010, 24011), (5159, 5157, 1011, 5158), (5163, 5162, 1008, 24012), (5167, 5165, 1010, 5166), (5173, 5171, 1011, 5172), (5177, 5175, 1012, 5176), (5181, 5179, 1012, 5180), (5185, 5183, 1001, 5184), (5189, 5187, 1008, 5188)]
def rx_ME_4 : List (Nat × Nat × Nat × Nat) := [(5193, 5192, 1008, 24013), (5197, 5195, 1010, 5196), (5202, 5201, 1008, 24014), (5206, 5205, 1008, 24015), (5210, 5208, 1001, 5209), (5214, 5212, 1008, 5213), (5220, 5218, 1001, 5219), (5224, 5222, 1003, 5223), (5228, 5227, 1003, 25000), (5232, 5231, 1003, 25001), (5236, 5235, 1003, 25002), (6000, 5239, 1003, 25003), (6004, 6003, 1003, 25004), (6008, 6007, 1003, 25005), (6031, 6029, 1017, 6030), (6035, 6033, 1017, 6034), (6041, 6039, 1017, 6040), (6045, 6043, 1017, 6044), (6048, 6047, 1018, 0), (6051, 6050, 1017, 0), (6056, 6055, 1019, 0), (6059, 6058, 1020, 0), (6062, 6061, 1020, 0), (6065, 6064, 1020, 0), (6069, 6068, 1020, 0), (6079, 6077, 1008, 6078), (6083, 6082, 1008, 25006), (6087, 6086, 1008, 25007), (6091, 6089, 1012, 6090), (6095, 6094, 1008, 25008), (6099, 6097, 1012, 6098), (6103, 6102, 1008, 25009), (6107, 6105, 1011, 6106), (6111, 6109, 1012, 6110), (6116, 6114, 1011, 6115), (6122, 6121, 1008, 25010), (6126, 6124, 1010, 6125), (6130, 6129, 1008, 25011), (6135, 6133, 1001, 6134), (6139, 6137, 1001, 6138)]
def rx_ME_5 : List (Nat × Nat × Nat × Nat) := [(6144, 6142, 1001, 6143), (6149, 6147, 1005, 6148), (6153, 6151, 1005, 6152), (6157, 6156, 1005, 25012), (6161, 6159, 1001, 6160), (6165, 6163, 1005, 6164), (6169, 6167, 1001, 6168), (6173, 6171, 1001, 6172), (6179, 6177, 1007, 6178), (6184, 6182, 1001, 6183), (6189, 6187, 1014, 6188), (6194, 6192, 1014, 25013), (6198, 6196, 1014, 6197), (6202, 6201, 1014, 25014), (6206, 6205, 1014, 25015), (6210, 6209, 1014, 26000), (6214, 6213, 1014, 26001), (6218, 6217, 1014, 26002), (6222, 6221, 1014, 26003), (6226, 6225, 1014, 26004), (6230, 6229, 1014, 26005), (6234, 6233, 1014, 26006), (6238, 6237, 1014, 26007), (7001, 7000, 1014, 0), (7005, 7004, 1014, 26008), (7009, 7008, 1014, 26009), (7013, 7012, 1014, 26010), (7017, 7016, 1014, 26011), (7021, 7020, 1014, 26012), (7025, 7024, 1014, 26013), (7028, 7027, 1014, 0), (7031, 7030, 1014, 0), (7035, 7034, 1014, 26014), (7039, 7038, 1014, 26015), (7043, 7042, 1014, 27000), (7047, 7046, 1014, 27001), (7051, 7050, 1014, 27002), (7055, 7054, 1014, 27003), (7059, 7058, 1014, 27004), (7063, 7062, 1014, 27005)]
def rx_ME_6 : List (Nat × Nat × Nat × Nat) := [(7066, 7065, 1014, 0), (7070, 7069, 1014, 27006), (7073, 7072, 1014, 0), (7077, 7076, 1014, 27007), (7081, 7080, 1014, 27008), (7085, 7084, 1014, 27009), (7089, 7088, 1014, 27010), (7093, 7092, 1014, 27011), (7097, 7096, 1014, 27012), (7101, 7100, 1014, 27013), (7105, 7104, 1014, 27014), (7109, 7108, 1014, 27015), (7113, 7112, 1014, 28000), (7117, 7116, 1014, 28001), (7121, 7120, 1014, 28002), (7125, 7124, 1014, 28003), (7129, 7128, 1014, 28004), (7133, 7132, 1014, 28005), (7137, 7136, 1014, 28006), (7141, 7140, 1014, 28007), (7144, 7143, 1014, 0), (7147, 7146, 1014, 0), (7151, 7150, 1014, 28008), (7155, 7154, 1014, 28009), (7159, 7158, 1014, 28010), (7163, 7162, 1014, 28011), (7167, 7166, 1014, 28012), (7171, 7170, 1014, 28013), (7175, 7174, 1014, 28014), (7178, 7177, 1014, 0), (7182, 7181, 1014, 28015), (7186, 7185, 1014, 29000), (7190, 7189, 1014, 29001), (7194, 7193, 1014, 29002), (7198, 7197, 1014, 29003), (7202, 7201, 1014, 29004), (7206, 7205, 1014, 29005), (7210, 7209, 1014, 29006), (7214, 7213, 1014, 29007), (7218, 7217, 1014, 29008)]
def rx_ME_7 : List (Nat × Nat × Nat × Nat) := [(7221, 7220, 1014, 0), (7225, 7224, 1014, 29009), (7229, 7228, 1014, 29010), (7233, 7232, 1014, 29011), (7236, 7235, 1014, 0), (8000, 7239, 1014, 29012), (8004, 8003, 1014, 29013), (8008, 8007, 1014, 29014), (8012, 8011, 1014, 29015), (8016, 8015, 1014, 30000), (8020, 8019, 1014, 30001), (8024, 8023, 1014, 30002), (8028, 8027, 1014, 30003), (8032, 8031, 1014, 30004), (8036, 8035, 1014, 30005), (8040, 8039, 1014, 30006), (8044, 8043, 1014, 30007), (8048, 8047, 1014, 30008), (8052, 8051, 1014, 30009), (8056, 8055, 1014, 30010), (8060, 8059, 1014, 30011), (8064, 8063, 1014, 30012), (8068, 8067, 1014, 30013), (8072, 8071, 1014, 30014), (8076, 8075, 1014, 30015), (8080, 8079, 1014, 31000), (8084, 8083, 1014, 31001), (8088, 8087, 1014, 31002), (8092, 8091, 1014, 31003), (8096, 8095, 1014, 31004), (8100, 8099, 1014, 31005), (8104, 8103, 1014, 31006), (8108, 8107, 1014, 31007), (8112, 8111, 1014, 31008), (8115, 8114, 1014, 0), (8119, 8118, 1014, 31009), (8123, 8122, 1014, 31010), (8127, 8126, 1014, 31011), (8131, 8129, 1014, 8130), (8135, 8133, 1014, 8134)]
def rx_ME_8 : List (Nat × Nat × Nat × Nat) := [(8139, 8138, 1014, 31012), (8143, 8142, 1014, 31013), (8147, 8146, 1014, 31014), (8151, 8150, 1014, 31015), (8155, 8154, 1014, 32000), (8159, 8158, 1014, 32001), (8164, 8163, 1014, 32002), (8205, 8204, 1014, 32003), (8209, 8208, 1014, 32004), (8213, 8212, 1014, 32005), (8217, 8216, 1014, 32006), (8221, 8220, 1014, 32007), (8225, 8224, 1014, 32008), (8229, 8228, 1014, 32009), (8234, 8233, 1014, 32010), (8238, 8236, 1014, 8237), (9002, 9000, 1014, 9001), (9006, 9005, 1014, 32011), (9010, 9009, 1014, 32012), (9014, 9013, 1014, 32013), (9018, 9017, 1014, 32014), (9022, 9020, 1014, 9021), (9026, 9024, 1014, 9025), (9029, 9028, 1014, 0), (9033, 9031, 1014, 9032), (9037, 9035, 1014, 9036), (9041, 9039, 1014, 9040), (9045, 9043, 1014, 9044), (9049, 9048, 1014, 0)]
def rx_MEs : Nat := 9
/-- links to methods: class, entry; method, whether by the nest; the place of its word -/
def rx_MLs : List ((Nat × Nat) × (Nat × Bool) × Nat) := [((13, 9), (0, false), 1023), ((11, 25), (3, false), 1098), ((4, 50), (4, false), 1109), ((11, 41), (6, false), 1225), ((5, 44), (8, false), 2006), ((5, 53), (9, false), 2030), ((11, 50), (11, false), 2185), ((2, 59), (12, false), 2191), ((13, 13), (13, false), 3014), ((11, 72), (14, false), 3018), ((13, 18), (15, false), 3022), ((11, 76), (16, false), 3026), ((11, 101), (17, false), 3030), ((11, 189), (18, false), 3033), ((11, 192), (19, false), 3037), ((11, 80), (20, false), 3041), ((2, 68), (21, false), 3045), ((9, 22), (22, false), 3049), ((2, 73), (22, false), 3053), ((2, 77), (23, false), 3054), ((2, 81), (24, false), 3058), ((2, 109), (25, false), 3062), ((2, 113), (26, false), 3067), ((6, 23), (23, false), 3072), ((2, 117), (27, false), 3073), ((2, 121), (28, false), 3077), ((2, 124), (29, false), 3081), ((2, 148), (30, false), 3085), ((2, 151), (31, false), 3089), ((4, 94), (32, false), 3093), ((4, 88), (22, false), 3097), ((4, 72), (33, false), 3098), ((4, 125), (34, false), 3102), ((4, 144), (35, false), 3106), ((4, 140), (36, false), 3111), ((4, 131), (37, false), 3115), ((8, 32), (38, false), 3119), ((4, 148), (39, false), 3123), ((4, 151), (40, false), 3127), ((8, 39), (39, false), 3131), ((2, 154), (41, false), 3132), ((2, 127), (42, false), 3136), ((2, 132), (43, false), 3140), ((4, 53), (44, false), 3144), ((4, 56), (45, false), 3148), ((4, 60), (46, false), 3152), ((4, 64), (47, false), 3156), ((4, 68), (42, false), 3160), ((4, 75), (48, false), 3161), ((4, 78), (49, false), 3165), ((4, 82), (50, false), 3170), ((4, 85), (41, false), 3174), ((2, 135), (51, false), 3175), ((0, 26), (52, false), 3179), ((0, 32), (53, false), 3182), ((0, 51), (54, false), 3186), ((0, 35), (55, false), 3189), ((0, 58), (56, false), 3193), ((0, 39), (57, false), 3196), ((2, 140), (58, false), 3200), ((0, 23), (59, false), 3204), ((4, 98), (43, false), 3208), ((4, 104), (60, false), 3209), ((4, 157), (61, false), 3213), ((4, 128), (62, false), 3217), ((8, 56), (48, false), 3221), ((4, 108), (63, false), 3222), ((4, 134), (64, false), 3226), ((2, 143), (65, false), 3229), ((3, 96), (52, false), 3233), ((3, 85), (59, false), 3234), ((2, 85), (66, false), 3235), ((2, 158), (67, false), 3239), ((3, 23), (68, false), 4003), ((2, 161), (69, false), 4007), ((3, 47), (70, false), 4011), ((4, 112), (71, false), 4015), ((3, 51), (72, false), 4022), ((3, 72), (73, false), 4026), ((3, 76), (74, false), 4030), ((3, 79), (75, false), 4034), ((3, 55), (76, false), 4038), ((3, 69), (77, false), 4042), ((3, 59), (56, false), 4046), ((3, 63), (22, false), 4047), ((2, 168), (78, false), 4048), ((5, 231), (79, false), 4052), ((0, 19), (70, false), 4056), ((5, 206), (80, false), 4057), ((5, 209), (81, false), 4061), ((5, 234), (82, false), 4065), ((5, 212), (56, false), 4069), ((5, 116), (22, false), 4070), ((5, 245), (83, false), 4071), ((5, 216), (70, false), 4075), ((5, 239), (58, false), 4076), ((5, 242), (84, false), 4077), ((2, 88), (85, false), 4081), ((2, 171), (86, false), 4085), ((3, 88), (57, false), 4089), ((2, 91), (87, false), 4090), ((2, 174), (79, false), 4094), ((2, 94), (88, false), 4095), ((2, 97), (89, false), 4099), ((2, 177), (53, false), 4103), ((2, 180), (55, false), 4104), ((2, 183), (90, false), 4105), ((2, 201), (56, false), 4109), ((2, 209), (70, false), 4110), ((2, 186), (91, false), 4111), ((2, 189), (80, false), 4115), ((2, 192), (81, false), 4116), ((2, 195), (92, false), 4117), ((2, 213), (93, false), 4121), ((2, 198), (84, false), 4125), ((2, 100), (94, false), 4126), ((2, 216), (95, false), 4130), ((2, 226), (96, false), 4134), ((10, 28), (25, false), 4138), ((2, 229), (97, false), 4139), ((10, 34), (23, false), 4143), ((10, 38), (98, false), 4144), ((2, 232), (99, false), 4147), ((2, 239), (59, false), 4151), ((2, 220), (100, false), 4152), ((2, 223), (44, false), 4156), ((2, 103), (101, false), 4157), ((2, 245), (102, false), 4161), ((2, 248), (103, false), 4165), ((2, 251), (104, false), 4169), ((2, 257), (54, false), 4173), ((2, 254), (83, false), 4174), ((2, 106), (105, false), 4175), ((2, 260), (106, false), 4179), ((2, 263), (107, false), 4184), ((2, 267), (108, false), 4188), ((2, 270), (109, false), 4192), ((2, 274), (110, false), 4196), ((7, 19), (111, false), 4200), ((7, 45), (108, false), 4204), ((7, 58), (112, false), 4211), ((7, 94), (113, false), 4215), ((7, 98), (114, false), 4219), ((7, 101), (115, false), 4223), ((7, 104), (116, false), 4227), ((7, 61), (117, false), 4232), ((7, 72), (118, false), 4236), ((7, 108), (119, false), 5000), ((7, 111), (120, false), 5004), ((7, 123), (121, false), 5008), ((7, 127), (122, false), 5012), ((7, 117), (123, false), 5016), ((7, 114), (124, false), 5020), ((7, 120), (125, false), 5024), ((7, 75), (107, false), 5028), ((7, 78), (126, false), 5029), ((7, 82), (127, false), 5033), ((7, 85), (128, false), 5037), ((7, 88), (129, false), 5041), ((7, 91), (130, false), 5045), ((7, 133), (131, false), 5049), ((7, 130), (132, false), 5053), ((7, 136), (133, false), 5057), ((11, 87), (21, false), 5061), ((11, 90), (22, false), 5062), ((11, 94), (134, false), 5063), ((5, 65), (135, false), 5067), ((5, 82), (59, false), 5071), ((5, 86), (136, false), 5072), ((5, 108), (68, false), 5076), ((5, 93), (137, false), 5077), ((5, 112), (138, false), 5081), ((5, 122), (23, false), 5085), ((5, 127), (139, false), 5086), ((5, 149), (140, false), 5090), ((1, 26), (52, false), 5094), ((5, 131), (141, false), 5095), ((5, 153), (26, false), 5099), ((5, 157), (27, false), 5100), ((5, 161), (12, false), 5101), ((5, 167), (142, false), 5102), ((5, 134), (143, false), 5107), ((5, 175), (25, false), 5111), ((5, 179), (144, false), 5112), ((5, 185), (145, false), 5116), ((5, 188), (28, false), 5120), ((5, 140), (146, false), 5121), ((5, 191), (67, false), 5125), ((5, 194), (69, false), 5126), ((5, 200), (91, false), 5127), ((5, 203), (73, false), 5128), ((5, 219), (147, false), 5129), ((5, 143), (148, false), 5136), ((5, 222), (78, false), 5140), ((5, 225), (149, false), 5141), ((5, 249), (77, false), 5145), ((5, 252), (150, false), 5146), ((0, 62), (151, false), 5150), ((0, 69), (93, false), 5154), ((5, 257), (65, false), 5155), ((5, 260), (152, false), 5156), ((5, 228), (153, false), 5160), ((5, 263), (154, false), 5164), ((5, 266), (155, false), 5170), ((5, 270), (156, false), 5174), ((5, 277), (157, false), 5178), ((13, 23), (158, false), 5182), ((11, 98), (159, false), 5186), ((5, 337), (160, false), 5190), ((5, 341), (161, false), 5194), ((0, 65), (154, false), 5198), ((5, 344), (162, false), 5199), ((5, 347), (163, false), 5203), ((13, 27), (164, false), 5207), ((11, 105), (165, false), 5211), ((5, 69), (30, false), 5215), ((11, 108), (135, false), 5216), ((13, 32), (166, false), 5217), ((11, 111), (167, false), 5221), ((9, 48), (168, false), 5225), ((9, 52), (169, false), 5229), ((9, 55), (170, false), 5233), ((9, 58), (171, false), 5237), ((9, 62), (172, false), 6001), ((9, 65), (173, false), 6005), ((9, 69), (174, false), 6028), ((16, 335), (175, false), 6032), ((9, 73), (176, false), 6038), ((16, 492), (177, false), 6042), ((16, 495), (178, false), 6046), ((17, 9), (179, false), 6049), ((16, 1059), (180, false), 6054), ((16, 498), (181, false), 6057), ((18, 67), (182, false), 6060), ((18, 48), (183, false), 6063), ((18, 414), (179, false), 6066), ((18, 71), (184, false), 6067), ((11, 118), (185, false), 6076), ((5, 284), (186, false), 6080), ((5, 293), (187, false), 6084), ((5, 299), (188, false), 6088), ((5, 305), (189, false), 6092), ((5, 314), (190, false), 6096), ((5, 308), (191, false), 6100), ((5, 318), (192, false), 6104), ((5, 320), (193, false), 6108), ((1, 77), (190, false), 6112), ((5, 323), (194, false), 6113), ((5, 328), (176, false), 6118), ((5, 311), (195, false), 6119), ((5, 334), (196, false), 6123), ((5, 296), (197, false), 6127), ((13, 36), (198, false), 6132), ((13, 40), (199, false), 6136), ((11, 134), (138, false), 6140), ((13, 44), (200, false), 6141), ((11, 158), (32, false), 6145), ((11, 162), (201, false), 6146), ((11, 167), (202, false), 6150), ((8, 28), (203, false), 6154), ((13, 48), (204, false), 6158), ((11, 170), (205, false), 6162), ((13, 53), (206, false), 6166), ((13, 58), (207, false), 6170), ((11, 177), (30, false), 6174), ((11, 180), (44, false), 6175), ((11, 183), (208, false), 6176), ((7, 13), (52, false), 6180), ((13, 62), (209, false), 6181), ((11, 186), (108, false), 6185), ((13, 17), (210, false), 6186), ((12, 257), (211, false), 6190), ((13, 22), (212, false), 6195), ((12, 263), (213, false), 6199), ((12, 266), (214, false), 6203), ((12, 269), (215, false), 6207), ((12, 239), (216, false), 6211), ((12, 113), (217, false), 6215), ((12, 272), (218, false), 6219), ((12, 537), (219, false), 6223), ((12, 540), (220, false), 6227), ((12, 107), (221, false), 6231), ((12, 87), (222, false), 6235), ((12, 21), (223, false), 6239), ((12, 46), (224, false), 7002), ((12, 60), (225, false), 7006), ((12, 56), (226, false), 7010), ((12, 100), (227, false), 7014), ((12, 121), (228, false), 7018), ((12, 77), (229, false), 7022), ((12, 80), (230, false), 7026), ((12, 68), (231, false), 7029), ((12, 180), (232, false), 7032), ((12, 148), (233, false), 7036), ((12, 110), (234, false), 7040), ((12, 96), (235, false), 7044), ((12, 83), (236, false), 7048), ((12, 117), (237, false), 7052), ((12, 543), (238, false), 7056), ((12, 584), (239, false), 7060), ((12, 1), (240, false), 7064), ((12, 174), (241, false), 7067), ((12, 161), (242, false), 7071), ((12, 165), (243, false), 7074), ((12, 590), (244, false), 7078), ((12, 593), (245, false), 7082), ((12, 223), (246, false), 7086), ((12, 152), (247, false), 7090), ((12, 134), (248, false), 7094), ((12, 128), (249, false), 7098), ((12, 138), (250, false), 7102), ((12, 596), (251, false), 7106), ((12, 189), (252, false), 7110), ((12, 546), (253, false), 7114), ((12, 549), (254, false), 7118), ((12, 332), (255, false), 7122), ((12, 578), (256, false), 7126), ((12, 581), (257, false), 7130), ((12, 552), (258, false), 7134), ((12, 325), (259, false), 7138), ((12, 204), (260, false), 7142), ((12, 208), (261, false), 7145), ((12, 335), (262, false), 7148), ((12, 220), (263, false), 7152), ((12, 183), (264, false), 7156), ((12, 555), (265, false), 7160), ((12, 558), (266, false), 7164), ((12, 608), (267, false), 7168), ((12, 611), (268, false), 7172), ((12, 605), (269, false), 7176), ((12, 562), (270, false), 7179), ((12, 566), (271, false), 7183), ((12, 569), (272, false), 7187), ((12, 572), (273, false), 7191), ((12, 575), (274, false), 7195), ((12, 617), (275, false), 7199), ((12, 620), (276, false), 7203), ((12, 623), (277, false), 7207), ((12, 650), (278, false), 7211), ((12, 696), (279, false), 7215), ((12, 672), (280, false), 7219), ((12, 675), (281, false), 7222), ((12, 653), (282, false), 7226), ((12, 663), (283, false), 7230), ((12, 678), (284, false), 7234), ((12, 681), (285, false), 7237), ((12, 669), (286, false), 8001), ((12, 656), (287, false), 8005), ((12, 684), (288, false), 8009), ((12, 666), (289, false), 8013), ((12, 687), (290, false), 8017), ((12, 690), (291, false), 8021), ((12, 699), (292, false), 8025), ((12, 693), (293, false), 8029), ((12, 704), (294, false), 8033), ((12, 707), (295, false), 8037), ((12, 710), (296, false), 8041), ((12, 713), (297, false), 8045), ((12, 702), (298, false), 8049), ((12, 716), (299, false), 8053), ((12, 720), (300, false), 8057), ((12, 723), (301, false), 8061), ((12, 726), (302, false), 8065), ((12, 729), (303, false), 8069), ((12, 732), (304, false), 8073), ((12, 275), (305, false), 8077), ((12, 278), (306, false), 8081), ((12, 281), (307, false), 8085), ((12, 290), (308, false), 8089), ((12, 293), (309, false), 8093), ((12, 311), (310, false), 8097), ((12, 338), (311, false), 8101), ((12, 171), (312, false), 8105), ((12, 177), (313, false), 8109), ((12, 168), (314, false), 8113), ((12, 365), (315, false), 8116), ((12, 315), (316, false), 8120), ((12, 329), (317, false), 8124), ((13, 31), (318, false), 8128), ((13, 35), (319, false), 8132), ((12, 377), (320, false), 8136), ((12, 395), (321, false), 8140), ((12, 380), (322, false), 8144), ((12, 487), (323, false), 8148), ((12, 406), (324, false), 8152), ((12, 490), (325, false), 8156), ((12, 411), (326, false), 8161), ((12, 383), (327, false), 8202), ((12, 386), (328, false), 8206), ((12, 496), (329, false), 8210), ((12, 499), (330, false), 8214), ((12, 514), (331, false), 8218), ((12, 520), (332, false), 8222), ((12, 517), (333, false), 8226), ((12, 389), (334, false), 8231), ((13, 39), (335, false), 8235), ((13, 26), (336, false), 8239), ((12, 525), (337, false), 9003), ((12, 528), (338, false), 9007), ((12, 531), (339, false), 9011), ((12, 534), (340, false), 9015), ((13, 43), (341, false), 9019), ((13, 47), (342, false), 9023), ((12, 735), (343, false), 9027), ((13, 52), (344, false), 9030), ((13, 57), (345, false), 9034), ((13, 65), (346, false), 9038), ((13, 61), (347, false), 9042), ((13, 12), (348, false), 9047), ((11, 9), (1, true), 1031), ((11, 18), (2, true), 1054), ((11, 34), (5, true), 1181), ((5, 25), (7, true), 1233), ((5, 60), (10, true), 2069), ((1, 21), (7, true), 2074), ((2, 11), (7, true), 2190)]
def rx_host : String := "RingDrive"
def rx_OLs : List ((Nat × Nat) × Nat) := [((11, 1), 1026), ((10, 3), 1034), ((9, 3), 1057), ((4, 3), 1101), ((8, 3), 1112), ((7, 3), 1184), ((5, 3), 1228), ((6, 1), 1236), ((0, 1), 2009), ((3, 1), 2033), ((1, 1), 2072), ((2, 3), 2188), ((12, 738), 9050)]
def rx_YLs : List ((Nat × Nat) × Nat) := [((4, 115), 4019), ((6, 29), 5106)]
def rx_ciM : rx_M := (16, ⟨"java/lang/String", "checkIndex", "(II)V"⟩, prog_16_method_155_code, 2, none, 2, 1, 1, 22, 0, 0)
def rx_pcM : rx_M := (20, ⟨"jdk/internal/util/Preconditions", "checkIndex", "(IILjava/util/function/BiFunction;)I"⟩, prog_21_method_11_code, 3, (Option.some Jvm.ClassFile.FieldType.int), 3, 1, 0, 0, 0, 0)
/-- links to String.checkIndex -/
def rx_XLs : List ((Nat × Nat) × Nat) := [((17, 9), 6049), ((18, 414), 6066)]
/-- within String.checkIndex: the entries of the static and of the call -/
def rx_cii : Nat × Nat := (1053, 1059)
/-- links to Math.max (0), Math.min (1) -/
def rx_JLs : List ((Nat × Nat) × Nat × Nat) := [((8, 9), 0, 1113), ((10, 22), 0, 3066), ((6, 13), 0, 3071), ((2, 277), 0, 4183), ((1, 71), 1, 5133)]
def rx_cf : List (Nat → FieldType) := [tyX0, tyX1, tyX2, tyX3, tyX4, tyX5, tyX6, tyX7, tyX8, tyX9, tyX10, tyX11, tyX12]
end
section
/-! what the tables of part 01 say is among the Statement's words -/
def rx_lk {α : Type} : List ((Nat × Nat) × α) → Nat → Nat → Option α
  | [], _, _ => none
  | q :: t, c, i => if q.1.1 = c ∧ q.1.2 = i then some q.2 else rx_lk t c i
theorem rx_lk_mem {α : Type} {t : List ((Nat × Nat) × α)} {c i : Nat} {a : α} (h : rx_lk t c i = some a) : ((c, i), a) ∈ t := by
  induction t with
  | nil => cases h
  | cons q t ih =>
    unfold rx_lk at h
    split at h
    · next e =>
      obtain ⟨⟨q1, q2⟩, q3⟩ := q
      obtain ⟨e1, e2⟩ := e
      subst e1; subst e2
      cases h
      exact List.mem_cons_self
    · exact List.mem_cons_of_mem _ (ih h)
theorem rx_has_mem {i : Nat} {w : Cond} (h : rx_has i w = true) : w ∈ rx_Ts := by
  unfold rx_has at h
  simp only [Bool.and_eq_true, decide_eq_true_eq] at h
  exact List.mem_filter.mpr ⟨rx_grp_mem (List.mem_of_getElem? h.1), h.2⟩
def rx_fchk (q : (Nat × Nat) × (Nat × Nat × FieldType × Bool) × Nat) : Bool := match vwCl[q.2.1.1]? with
  | some (C, T, N) => decide (q.2.1.2.1 < N) && rx_has q.2.2 (.fieldLink (rx_cn q.1.1) q.1.2 (T q.2.1.2.1).1 (T q.2.1.2.1).2.1 (T q.2.1.2.1).2.2.1) && decide (parseFieldDescriptor (T q.2.1.2.1).2.2.1 = some q.2.1.2.2.1) && decide ((T q.2.1.2.1).2.2.2 = q.2.1.2.2.2) && decide ((T q.2.1.2.1).1 = C)
  | none => false
set_option maxRecDepth 100000 in
theorem rx_fchk_all : rx_FLs.all rx_fchk = true := by decide +kernel
theorem rx_FL_ok {co idx ci k : Nat} {ty : FieldType} {fin : Bool} {pos : Nat} (h : rx_lk rx_FLs co idx = some ((ci, k, ty, fin), pos)) : ∃ (C : String) (T : u_T) (N : Nat), vwCl[ci]? = some (C, T, N) ∧ k < N ∧ Cond.fieldLink (rx_cn co) idx (T k).1 (T k).2.1 (T k).2.2.1 ∈ rx_Ts ∧ parseFieldDescriptor (T k).2.2.1 = some ty ∧ (T k).2.2.2 = fin ∧ (T k).1 = C := by
  have h1 := List.all_eq_true.mp rx_fchk_all _ (rx_lk_mem h)
  unfold rx_fchk at h1
  dsimp only at h1
  split at h1
  · next C T N hc =>
    simp only [Bool.and_eq_true, decide_eq_true_eq] at h1
    exact ⟨C, T, N, hc, h1.1.1.1.1, rx_has_mem h1.1.1.1.2, h1.1.1.2, h1.1.2, h1.2⟩
  · cases h1
def rx_CW (ci : Nat) (C : String) (T : u_T) (N : Nat) : Prop := (∀ w ∈ u_ws C T N, w ∈ rx_Ts) ∧ (∃ ty0, rx_cf[ci]? = some ty0 ∧ ∀ k, k < N → parseFieldDescriptor (T k).2.2.1 = some (ty0 k)) ∧ (∀ a, a < N → ∀ b, b < N → a ≠ b → (T a).2.1 ≠ (T b).2.1) ∧ Cond.instantiable C N ∈ rx_Ts ∧ Cond.initialized C ∈ rx_Ts
def rx_in2 (ws : List Cond) : Bool := ws.all (fun w => decide (w ∈ tables_1) && goodWord w)
theorem rx_in2_mem {ws : List Cond} (h : rx_in2 ws = true) : ∀ w ∈ ws, w ∈ rx_Ts := by
  intro w hw
  have h1 := List.all_eq_true.mp h w hw
  simp only [Bool.and_eq_true, decide_eq_true_eq] at h1
  exact List.mem_filter.mpr ⟨List.mem_append_right _ h1.1, h1.2⟩
set_option maxRecDepth 100000 in
theorem rx_CW0 : rx_CW 0 RX0 TX0 4 := ⟨rx_in2_mem (by decide +kernel), ⟨tyX0, rfl, tyX0_ok⟩, nmX0, rx_in2_mem (ws := [Cond.instantiable RX0 4]) (by decide +kernel) _ List.mem_cons_self, rx_in2_mem (ws := [Cond.initialized RX0]) (by decide +kernel) _ List.mem_cons_self⟩
set_option maxRecDepth 100000 in
theorem rx_CW1 : rx_CW 1 RX1 TX1 16 := ⟨rx_in2_mem (by decide +kernel), ⟨tyX1, rfl, tyX1_ok⟩, nmX1, rx_in2_mem (ws := [Cond.instantiable RX1 16]) (by decide +kernel) _ List.mem_cons_self, rx_in2_mem (ws := [Cond.initialized RX1]) (by decide +kernel) _ List.mem_cons_self⟩
set_option maxRecDepth 100000 in
theorem rx_CW2 : rx_CW 2 RX2 TX2 10 := ⟨rx_in2_mem (by decide +kernel), ⟨tyX2, rfl, tyX2_ok⟩, nmX2, rx_in2_mem (ws := [Cond.instantiable RX2 10]) (by decide +kernel) _ List.mem_cons_self, rx_in2_mem (ws := [Cond.initialized RX2]) (by decide +kernel) _ List.mem_cons_self⟩
set_option maxRecDepth 100000 in
theorem rx_CW3 : rx_CW 3 RX3 TX3 9 := ⟨rx_in2_mem (by decide +kernel), ⟨tyX3, rfl, tyX3_ok⟩, nmX3, rx_in2_mem (ws := [Cond.instantiable RX3 9]) (by decide +kernel) _ List.mem_cons_self, rx_in2_mem (ws := [Cond.initialized RX3]) (by decide +kernel) _ List.mem_cons_self⟩
set_option maxRecDepth 100000 in
theorem rx_CW4 : rx_CW 4 RX4 TX4 10 := ⟨rx_in2_mem (by decide +kernel), ⟨tyX4, rfl, tyX4_ok⟩, nmX4, rx_in2_mem (ws := [Cond.instantiable RX4 10]) (by decide +kernel) _ List.mem_cons_self, rx_in2_mem (ws := [Cond.initialized RX4]) (by decide +kernel) _ List.mem_cons_self⟩
set_option maxRecDepth 100000 in
theorem rx_CW5 : rx_CW 5 RX5 TX5 12 := ⟨rx_in2_mem (by decide +kernel), ⟨tyX5, rfl, tyX5_ok⟩, nmX5, rx_in2_mem (ws := [Cond.instantiable RX5 12]) (by decide +kernel) _ List.mem_cons_self, rx_in2_mem (ws := [Cond.initialized RX5]) (by decide +kernel) _ List.mem_cons_self⟩
set_option maxRecDepth 100000 in
theorem rx_CW6 : rx_CW 6 RX6 TX6 2 := ⟨rx_in2_mem (by decide +kernel), ⟨tyX6, rfl, tyX6_ok⟩, nmX6, rx_in2_mem (ws := [Cond.instantiable RX6 2]) (by decide +kernel) _ List.mem_cons_self, rx_in2_mem (ws := [Cond.initialized RX6]) (by decide +kernel) _ List.mem_cons_self⟩
set_option maxRecDepth 100000 in
theorem rx_CW7 : rx_CW 7 RX7 TX7 10 := ⟨rx_in2_mem (by decide +kernel), ⟨tyX7, rfl, tyX7_ok⟩, nmX7, rx_in2_mem (ws := [Cond.instantiable RX7 10]) (by decide +kernel) _ List.mem_cons_self, rx_in2_mem (ws := [Cond.initialized RX7]) (by decide +kernel) _ List.mem_cons_self⟩
set_option maxRecDepth 100000 in
theorem rx_CW8 : rx_CW 8 RX8 TX8 8 := ⟨rx_in2_mem (by decide +kernel), ⟨tyX8, rfl, tyX8_ok⟩, nmX8, rx_in2_mem (ws := [Cond.instantiable RX8 8]) (by decide +kernel) _ List.mem_cons_self, rx_in2_mem (ws := [Cond.initialized RX8]) (by decide +kernel) _ List.mem_cons_self⟩
set_option maxRecDepth 100000 in
theorem rx_CW9 : rx_CW 9 RX9 TX9 10 := ⟨rx_in2_mem (by decide +kernel), ⟨tyX9, rfl, tyX9_ok⟩, nmX9, rx_in2_mem (ws := [Cond.instantiable RX9 10]) (by decide +kernel) _ List.mem_cons_self, rx_in2_mem (ws := [Cond.initialized RX9]) (by decide +kernel) _ List.mem_cons_self⟩
set_option maxRecDepth 100000 in
theorem rx_CW10 : rx_CW 10 RX10 TX10 4 := ⟨rx_in2_mem (by decide +kernel), ⟨tyX10, rfl, tyX10_ok⟩, nmX10, rx_in2_mem (ws := [Cond.instantiable RX10 4]) (by decide +kernel) _ List.mem_cons_self, rx_in2_mem (ws := [Cond.initialized RX10]) (by decide +kernel) _ List.mem_cons_self⟩
set_option maxRecDepth 100000 in
theorem rx_CW11 : rx_CW 11 RX11 TX11 9 := ⟨rx_in2_mem (by decide +kernel), ⟨tyX11, rfl, tyX11_ok⟩, nmX11, rx_in2_mem (ws := [Cond.instantiable RX11 9]) (by decide +kernel) _ List.mem_cons_self, rx_in2_mem (ws := [Cond.initialized RX11]) (by decide +kernel) _ List.mem_cons_self⟩
set_option maxRecDepth 100000 in
theorem rx_CW12 : rx_CW 12 RX12 TX12 84 := ⟨rx_in2_mem (by decide +kernel), ⟨tyX12, rfl, tyX12_ok⟩, nmX12, rx_in2_mem (ws := [Cond.instantiable RX12 84]) (by decide +kernel) _ List.mem_cons_self, rx_in2_mem (ws := [Cond.initialized RX12]) (by decide +kernel) _ List.mem_cons_self⟩
theorem rx_cl_ok {ci : Nat} {C : String} {T : u_T} {N : Nat} (h : vwCl[ci]? = some (C, T, N)) : rx_CW ci C T N := by
  match ci, h with
  | 0, h => cases h; exact rx_CW0
  | 1, h => cases h; exact rx_CW1
  | 2, h => cases h; exact rx_CW2
  | 3, h => cases h; exact rx_CW3
  | 4, h => cases h; exact rx_CW4
  | 5, h => cases h; exact rx_CW5
  | 6, h => cases h; exact rx_CW6
  | 7, h => cases h; exact rx_CW7
  | 8, h => cases h; exact rx_CW8
  | 9, h => cases h; exact rx_CW9
  | 10, h => cases h; exact rx_CW10
  | 11, h => cases h; exact rx_CW11
  | 12, h => cases h; exact rx_CW12
  | k + 13, h => simp [vwCl] at h
end
section
/-! every method's code is among the words -/
def rx_cw (M : rx_M) : Cond := Cond.code M.2.1 M.2.2.1 M.2.2.2.1 M.2.2.2.2.1
theorem rx_cw_in {M : rx_M} (h : rx_cw M ∈ tables_1) : rx_cw M ∈ rx_Ts := List.mem_filter.mpr ⟨List.mem_append_right _ h, rfl⟩
theorem rx_cw_c {M : rx_M} {t : List rx_M} (h : rx_cw M ∈ tables_1) (ht : ∀ X ∈ t, rx_cw X ∈ tables_1) : ∀ X ∈ M :: t, rx_cw X ∈ tables_1 := fun X hX => (List.mem_cons.mp hX).elim (fun e => e ▸ h) (ht X)
theorem rx_cw0 : rx_cw (11, ⟨"RingDrive", "<init>", "()V"⟩, prog_1_method_1_code, 1, none, 0, 2, 4, 84, 115, 16888) ∈ tables_1 := rx_tab1 (List.mem_of_getElem? (i := 25) rfl)
theorem rx_cw1 : rx_cw (10, ⟨"RingDrive$Tape", "<init>", "()V"⟩, prog_12_method_1_code, 1, none, 0, 2, 1, 20, 1, 400) ∈ tables_1 := rx_tab1 (List.mem_of_getElem? (i := 33) rfl)
theorem rx_cw2 : rx_cw (9, ⟨"RingDrive$Status", "<init>", "()V"⟩, prog_11_method_1_code, 1, none, 0, 2, 1, 20, 2, 72) ∈ tables_1 := rx_tab1 (List.mem_of_getElem? (i := 56) rfl)
theorem rx_cw3 : rx_cw (4, ⟨"RingDrive$Disk", "<init>", "(LRingDrive$Status;)V"⟩, prog_6_method_1_code, 3, none, 1, 2, 2, 46, 30, 12364) ∈ tables_1 := rx_tab1 (List.mem_of_getElem? (i := 100) rfl)
theorem rx_cw4 : rx_cw (8, ⟨"RingDrive$Ring", "<init>", "(II)V"⟩, prog_10_method_1_code, 3, none, 2, 2, 1, 24, 1, 1000) ∈ tables_1 := rx_tab1 (List.mem_of_getElem? (i := 111) rfl)
theorem rx_cw5 : rx_cw (7, ⟨"RingDrive$Processor", "<init>", "()V"⟩, prog_9_method_1_code, 1, none, 0, 2, 1, 20, 1, 2048) ∈ tables_1 := rx_tab1 (List.mem_of_getElem? (i := 183) rfl)
theorem rx_cw6 : rx_cw (5, ⟨"RingDrive$Dos", "<init>", "(LRingDrive$Status;LRingDrive$Disk;LRingDrive$Tape;)V"⟩, prog_7_method_1_code, 5, none, 3, 2, 3, 60, 68, 1612) ∈ tables_1 := rx_tab1 (List.mem_of_getElem? (i := 227) rfl)
theorem rx_cw7 : rx_cw (6, ⟨"RingDrive$Pattern", "<init>", "()V"⟩, prog_8_method_1_code, 1, none, 0, 2, 1, 20, 1, 10) ∈ tables_1 := rx_tab1 (List.mem_of_getElem? (i := 235) rfl)
theorem rx_cw8 : rx_cw (0, ⟨"RingDrive$BlockMap", "<init>", "(LRingDrive$Disk;)V"⟩, prog_2_method_1_code, 2, none, 1, 2, 1, 20, 1, 64) ∈ tables_1 := rx_tab2 (List.mem_of_getElem? (i := 8) rfl)
theorem rx_cw9 : rx_cw (3, ⟨"RingDrive$Directory", "<init>", "(LRingDrive$Disk;LRingDrive$Status;)V"⟩, prog_5_method_1_code, 3, none, 2, 2, 1, 20, 1, 64) ∈ tables_1 := rx_tab2 (List.mem_of_getElem? (i := 32) rfl)
theorem rx_cw10 : rx_cw (1, ⟨"RingDrive$Channel", "<init>", "()V"⟩, prog_3_method_1_code, 1, none, 0, 2, 2, 40, 3, 76) ∈ tables_1 := rx_tab2 (List.mem_of_getElem? (i := 71) rfl)
theorem rx_cw11 : rx_cw (2, ⟨"RingDrive$Commands", "<init>", "(LRingDrive$Dos;LRingDrive$Processor;)V"⟩, prog_4_method_1_code, 3, none, 2, 2, 2, 40, 6, 36) ∈ tables_1 := rx_tab2 (List.mem_of_getElem? (i := 187) rfl)
theorem rx_cw12 : rx_cw (6, ⟨"RingDrive$Pattern", "fitAll", "()V"⟩, prog_8_method_4_code, 1, none, 0, 0, 0, 0, 0, 0) ∈ tables_1 := rx_tab2 (List.mem_of_getElem? (i := 194) rfl)
theorem rx_cw13 : rx_cw (11, ⟨"RingDrive", "feed", "(IIIII)I"⟩, prog_1_method_2_code, 6, (Option.some Jvm.ClassFile.FieldType.int), 5, 0, 1, 22, 0, 0) ∈ tables_1 := rx_tab3 (List.mem_of_getElem? (i := 17) rfl)
theorem rx_cw14 : rx_cw (10, ⟨"RingDrive$Tape", "add", "(I)V"⟩, prog_12_method_3_code, 3, none, 1, 0, 0, 0, 0, 0) ∈ tables_1 := rx_tab3 (List.mem_of_getElem? (i := 21) rfl)
theorem rx_cw15 : rx_cw (11, ⟨"RingDrive", "open", "(II)I"⟩, prog_1_method_3_code, 3, (Option.some Jvm.ClassFile.FieldType.int), 2, 0, 7, 184, 0, 0) ∈ tables_1 := rx_tab3 (List.mem_of_getElem? (i := 25) rfl)
theorem rx_cw16 : rx_cw (11, ⟨"RingDrive", "sendText", "(II)Z"⟩, prog_1_method_15_code, 3, (Option.some Jvm.ClassFile.FieldType.boolean), 2, 0, 1, 21, 0, 0) ∈ tables_1 := rx_tab3 (List.mem_of_getElem? (i := 29) rfl)
theorem rx_cw17 : rx_cw (11, ⟨"RingDrive", "isChannel", "(I)Z"⟩, prog_1_method_14_code, 1, (Option.some Jvm.ClassFile.FieldType.boolean), 1, 1, 0, 0, 0, 0) ∈ tables_1 := rx_tab3 (List.mem_of_getElem? (i := 32) rfl)
theorem rx_cw18 : rx_cw (10, ⟨"RingDrive$Tape", "has", "(I)Z"⟩, prog_12_method_2_code, 2, (Option.some Jvm.ClassFile.FieldType.boolean), 1, 0, 0, 0, 0, 0) ∈ tables_1 := rx_tab3 (List.mem_of_getElem? (i := 36) rfl)
theorem rx_cw19 : rx_cw (10, ⟨"RingDrive$Tape", "send", "(I)V"⟩, prog_12_method_4_code, 2, none, 1, 0, 0, 0, 0, 0) ∈ tables_1 := rx_tab3 (List.mem_of_getElem? (i := 40) rfl)
theorem rx_cw20 : rx_cw (2, ⟨"RingDrive$Commands", "run", "()I"⟩, prog_4_method_2_code, 1, (Option.some Jvm.ClassFile.FieldType.int), 0, 0, 6, 163, 0, 0) ∈ tables_1 := rx_tab3 (List.mem_of_getElem? (i := 44) rfl)
theorem rx_cw21 : rx_cw (9, ⟨"RingDrive$Status", "begin", "()V"⟩, prog_11_method_2_code, 1, none, 0, 0, 1, 23, 0, 0) ∈ tables_1 := rx_tab3 (List.mem_of_getElem? (i := 48) rfl)
theorem rx_cw22 : rx_cw (9, ⟨"RingDrive$Status", "set", "(III)I"⟩, prog_11_method_3_code, 4, (Option.some Jvm.ClassFile.FieldType.int), 3, 0, 0, 0, 0, 0) ∈ tables_1 := rx_tab3 (List.mem_of_getElem? (i := 52) rfl)
theorem rx_cw23 : rx_cw (10, ⟨"RingDrive$Tape", "byteAt", "(I)I"⟩, prog_12_method_5_code, 2, (Option.some Jvm.ClassFile.FieldType.int), 1, 0, 0, 0, 0, 0) ∈ tables_1 := rx_tab3 (List.mem_of_getElem? (i := 57) rfl)
theorem rx_cw24 : rx_cw (2, ⟨"RingDrive$Commands", "newDisk", "()I"⟩, prog_4_method_4_code, 5, (Option.some Jvm.ClassFile.FieldType.int), 0, 0, 5, 118, 0, 0) ∈ tables_1 := rx_tab3 (List.mem_of_getElem? (i := 61) rfl)
theorem rx_cw25 : rx_cw (10, ⟨"RingDrive$Tape", "find", "(II)I"⟩, prog_12_method_6_code, 4, (Option.some Jvm.ClassFile.FieldType.int), 2, 0, 1, 24, 0, 0) ∈ tables_1 := rx_tab3 (List.mem_of_getElem? (i := 65) rfl)
theorem rx_cw26 : rx_cw (6, ⟨"RingDrive$Pattern", "take", "(LRingDrive$Tape;II)Z"⟩, prog_8_method_2_code, 5, (Option.some Jvm.ClassFile.FieldType.boolean), 3, 0, 1, 24, 0, 0) ∈ tables_1 := rx_tab3 (List.mem_of_getElem? (i := 70) rfl)
theorem rx_cw27 : rx_cw (6, ⟨"RingDrive$Pattern", "isEmpty", "()Z"⟩, prog_8_method_3_code, 1, (Option.some Jvm.ClassFile.FieldType.boolean), 0, 0, 0, 0, 0, 0) ∈ tables_1 := rx_tab3 (List.mem_of_getElem? (i := 76) rfl)
theorem rx_cw28 : rx_cw (6, ⟨"RingDrive$Pattern", "isWild", "()Z"⟩, prog_8_method_6_code, 2, (Option.some Jvm.ClassFile.FieldType.boolean), 0, 0, 0, 0, 0, 0) ∈ tables_1 := rx_tab3 (List.mem_of_getElem? (i := 80) rfl)
theorem rx_cw29 : rx_cw (2, ⟨"RingDrive$Commands", "formatAll", "(II)I"⟩, prog_4_method_5_code, 5, (Option.some Jvm.ClassFile.FieldType.int), 2, 0, 4, 94, 0, 0) ∈ tables_1 := rx_tab3 (List.mem_of_getElem? (i := 84) rfl)
theorem rx_cw30 : rx_cw (5, ⟨"RingDrive$Dos", "dropAll", "()V"⟩, prog_7_method_4_code, 2, none, 0, 0, 0, 0, 0, 0) ∈ tables_1 := rx_tab3 (List.mem_of_getElem? (i := 88) rfl)
theorem rx_cw31 : rx_cw (4, ⟨"RingDrive$Disk", "format", "(III)I"⟩, prog_6_method_12_code, 6, (Option.some Jvm.ClassFile.FieldType.int), 3, 0, 3, 69, 0, 0) ∈ tables_1 := rx_tab3 (List.mem_of_getElem? (i := 92) rfl)
theorem rx_cw32 : rx_cw (4, ⟨"RingDrive$Disk", "ring", "(I)LRingDrive$Ring;"⟩, prog_6_method_2_code, 2, (Option.some (Jvm.ClassFile.FieldType.object "RingDrive$Ring")), 1, 0, 0, 0, 0, 0) ∈ tables_1 := rx_tab3 (List.mem_of_getElem? (i := 96) rfl)
theorem rx_cw33 : rx_cw (8, ⟨"RingDrive$Ring", "goTo", "(II)V"⟩, prog_10_method_11_code, 3, none, 2, 0, 0, 0, 0, 0) ∈ tables_1 := rx_tab3 (List.mem_of_getElem? (i := 101) rfl)
theorem rx_cw34 : rx_cw (4, ⟨"RingDrive$Disk", "codeData", "([I)V"⟩, prog_6_method_16_code, 4, none, 1, 0, 1, 26, 0, 0) ∈ tables_1 := rx_tab3 (List.mem_of_getElem? (i := 105) rfl)
theorem rx_cw35 : rx_cw (4, ⟨"RingDrive$Disk", "encode", "([I[I)V"⟩, prog_6_method_17_code, 7, none, 2, 1, 0, 0, 0, 0) ∈ tables_1 := rx_tab3 (List.mem_of_getElem? (i := 108) rfl)
theorem rx_cw36 : rx_cw (4, ⟨"RingDrive$Disk", "fillHeader", "(IIII)V"⟩, prog_6_method_15_code, 5, none, 4, 0, 0, 0, 0, 0) ∈ tables_1 := rx_tab3 (List.mem_of_getElem? (i := 114) rfl)
theorem rx_cw37 : rx_cw (8, ⟨"RingDrive$Ring", "putMarked", "([I)V"⟩, prog_10_method_7_code, 4, none, 1, 0, 1, 27, 0, 0) ∈ tables_1 := rx_tab3 (List.mem_of_getElem? (i := 118) rfl)
theorem rx_cw38 : rx_cw (8, ⟨"RingDrive$Ring", "put", "(II)V"⟩, prog_10_method_6_code, 8, none, 2, 0, 0, 0, 0, 0) ∈ tables_1 := rx_tab3 (List.mem_of_getElem? (i := 122) rfl)
theorem rx_cw39 : rx_cw (8, ⟨"RingDrive$Ring", "putGap", "(I)V"⟩, prog_10_method_8_code, 3, none, 1, 0, 1, 27, 0, 0) ∈ tables_1 := rx_tab3 (List.mem_of_getElem? (i := 126) rfl)
theorem rx_cwl0 : ∀ M ∈ rx_MT_0, rx_cw M ∈ tables_1 := rx_cw_c rx_cw0 (rx_cw_c rx_cw1 (rx_cw_c rx_cw2 (rx_cw_c rx_cw3 (rx_cw_c rx_cw4 (rx_cw_c rx_cw5 (rx_cw_c rx_cw6 (rx_cw_c rx_cw7 (rx_cw_c rx_cw8 (rx_cw_c rx_cw9 (rx_cw_c rx_cw10 (rx_cw_c rx_cw11 (rx_cw_c rx_cw12 (rx_cw_c rx_cw13 (rx_cw_c rx_cw14 (rx_cw_c rx_cw15 (rx_cw_c rx_cw16 (rx_cw_c rx_cw17 (rx_cw_c rx_cw18 (rx_cw_c rx_cw19 (rx_cw_c rx_cw20 (rx_cw_c rx_cw21 (rx_cw_c rx_cw22 (rx_cw_c rx_cw23 (rx_cw_c rx_cw24 (rx_cw_c rx_cw25 (rx_cw_c rx_cw26 (rx_cw_c rx_cw27 (rx_cw_c rx_cw28 (rx_cw_c rx_cw29 (rx_cw_c rx_cw30 (rx_cw_c rx_cw31 (rx_cw_c rx_cw32 (rx_cw_c rx_cw33 (rx_cw_c rx_cw34 (rx_cw_c rx_cw35 (rx_cw_c rx_cw36 (rx_cw_c rx_cw37 (rx_cw_c rx_cw38 (rx_cw_c rx_cw39 (fun X hX => absurd hX List.not_mem_nil))))))))))))))))))))))))))))))))))))))))
theorem rx_cw40 : rx_cw (8, ⟨"RingDrive$Ring", "putGapToEnd", "()V"⟩, prog_10_method_9_code, 1, none, 0, 0, 2, 49, 0, 0) ∈ tables_1 := rx_tab3 (List.mem_of_getElem? (i := 130) rfl)
theorem rx_cw41 : rx_cw (4, ⟨"RingDrive$Disk", "setId", "(II)V"⟩, prog_6_method_7_code, 3, none, 2, 0, 0, 0, 0, 0) ∈ tables_1 := rx_tab3 (List.mem_of_getElem? (i := 135) rfl)
theorem rx_cw42 : rx_cw (4, ⟨"RingDrive$Disk", "hasId", "()Z"⟩, prog_6_method_5_code, 1, (Option.some Jvm.ClassFile.FieldType.boolean), 0, 0, 0, 0, 0, 0) ∈ tables_1 := rx_tab3 (List.mem_of_getElem? (i := 139) rfl)
theorem rx_cw43 : rx_cw (4, ⟨"RingDrive$Disk", "takeId", "()I"⟩, prog_6_method_8_code, 5, (Option.some Jvm.ClassFile.FieldType.int), 0, 0, 1, 26, 0, 0) ∈ tables_1 := rx_tab3 (List.mem_of_getElem? (i := 143) rfl)
theorem rx_cw44 : rx_cw (4, ⟨"RingDrive$Disk", "dropId", "()V"⟩, prog_6_method_6_code, 1, none, 0, 0, 0, 0, 0, 0) ∈ tables_1 := rx_tab3 (List.mem_of_getElem? (i := 147) rfl)
theorem rx_cw45 : rx_cw (8, ⟨"RingDrive$Ring", "onesAhead", "(I)I"⟩, prog_10_method_10_code, 5, (Option.some Jvm.ClassFile.FieldType.int), 1, 0, 0, 0, 0, 0) ∈ tables_1 := rx_tab3 (List.mem_of_getElem? (i := 151) rfl)
theorem rx_cw46 : rx_cw (8, ⟨"RingDrive$Ring", "startRound", "(I)V"⟩, prog_10_method_12_code, 2, none, 1, 0, 0, 0, 0, 0) ∈ tables_1 := rx_tab3 (List.mem_of_getElem? (i := 155) rfl)
theorem rx_cw47 : rx_cw (8, ⟨"RingDrive$Ring", "nextFirst", "()I"⟩, prog_10_method_13_code, 5, (Option.some Jvm.ClassFile.FieldType.int), 0, 0, 0, 0, 0, 0) ∈ tables_1 := rx_tab3 (List.mem_of_getElem? (i := 159) rfl)
theorem rx_cw48 : rx_cw (8, ⟨"RingDrive$Ring", "next", "()I"⟩, prog_10_method_15_code, 5, (Option.some Jvm.ClassFile.FieldType.int), 0, 0, 0, 0, 0, 0) ∈ tables_1 := rx_tab3 (List.mem_of_getElem? (i := 164) rfl)
theorem rx_cw49 : rx_cw (4, ⟨"RingDrive$Disk", "decode", "([I[I)Z"⟩, prog_6_method_18_code, 7, (Option.some Jvm.ClassFile.FieldType.boolean), 2, 1, 0, 0, 0, 0) ∈ tables_1 := rx_tab3 (List.mem_of_getElem? (i := 167) rfl)
theorem rx_cw50 : rx_cw (4, ⟨"RingDrive$Disk", "isHeader", "()Z"⟩, prog_6_method_9_code, 1, (Option.some Jvm.ClassFile.FieldType.boolean), 0, 0, 0, 0, 0, 0) ∈ tables_1 := rx_tab3 (List.mem_of_getElem? (i := 173) rfl)
theorem rx_cw51 : rx_cw (0, ⟨"RingDrive$BlockMap", "begin", "(LRingDrive$Pattern;)V"⟩, prog_2_method_4_code, 2, none, 1, 0, 2, 43, 0, 0) ∈ tables_1 := rx_tab3 (List.mem_of_getElem? (i := 178) rfl)
theorem rx_cw52 : rx_cw (19, ⟨"java/util/Arrays", "fill", "([II)V"⟩, prog_20_method_103_code, 4, none, 2, 1, 0, 0, 0, 0) ∈ tables_1 := rx_tab3 (List.mem_of_getElem? (i := 181) rfl)
theorem rx_cw53 : rx_cw (0, ⟨"RingDrive$BlockMap", "freeAll", "()V"⟩, prog_2_method_5_code, 2, none, 0, 0, 1, 20, 0, 0) ∈ tables_1 := rx_tab3 (List.mem_of_getElem? (i := 185) rfl)
theorem rx_cw54 : rx_cw (4, ⟨"RingDrive$Disk", "sectorsOf", "(I)I"⟩, prog_6_method_3_code, 1, (Option.some Jvm.ClassFile.FieldType.int), 1, 1, 0, 0, 0, 0) ∈ tables_1 := rx_tab3 (List.mem_of_getElem? (i := 188) rfl)
theorem rx_cw55 : rx_cw (0, ⟨"RingDrive$BlockMap", "takeBlock", "(II)V"⟩, prog_2_method_8_code, 3, none, 2, 0, 1, 21, 0, 0) ∈ tables_1 := rx_tab3 (List.mem_of_getElem? (i := 192) rfl)
theorem rx_cw56 : rx_cw (4, ⟨"RingDrive$Disk", "isLegal", "(II)Z"⟩, prog_6_method_4_code, 2, (Option.some Jvm.ClassFile.FieldType.boolean), 2, 1, 0, 0, 0, 0) ∈ tables_1 := rx_tab3 (List.mem_of_getElem? (i := 195) rfl)
theorem rx_cw57 : rx_cw (6, ⟨"RingDrive$Pattern", "putInto", "([II)V"⟩, prog_8_method_8_code, 4, none, 2, 0, 0, 0, 0, 0) ∈ tables_1 := rx_tab3 (List.mem_of_getElem? (i := 199) rfl)
theorem rx_cw58 : rx_cw (0, ⟨"RingDrive$BlockMap", "store", "()I"⟩, prog_2_method_3_code, 1, (Option.some Jvm.ClassFile.FieldType.int), 0, 0, 3, 78, 0, 0) ∈ tables_1 := rx_tab3 (List.mem_of_getElem? (i := 203) rfl)
theorem rx_cw59 : rx_cw (4, ⟨"RingDrive$Disk", "writeBlock", "(II[I)I"⟩, prog_6_method_11_code, 7, (Option.some Jvm.ClassFile.FieldType.int), 3, 0, 2, 52, 0, 0) ∈ tables_1 := rx_tab3 (List.mem_of_getElem? (i := 207) rfl)
theorem rx_cw60 : rx_cw (4, ⟨"RingDrive$Disk", "seek", "(LRingDrive$Ring;II)I"⟩, prog_6_method_13_code, 7, (Option.some Jvm.ClassFile.FieldType.int), 3, 0, 1, 26, 0, 0) ∈ tables_1 := rx_tab3 (List.mem_of_getElem? (i := 212) rfl)
theorem rx_cw61 : rx_cw (8, ⟨"RingDrive$Ring", "holds", "(I[I)Z"⟩, prog_10_method_14_code, 7, (Option.some Jvm.ClassFile.FieldType.boolean), 2, 0, 0, 0, 0, 0) ∈ tables_1 := rx_tab3 (List.mem_of_getElem? (i := 216) rfl)
theorem rx_cw62 : rx_cw (8, ⟨"RingDrive$Ring", "skip", "(I)V"⟩, prog_10_method_16_code, 3, none, 1, 0, 1, 24, 0, 0) ∈ tables_1 := rx_tab3 (List.mem_of_getElem? (i := 220) rfl)
theorem rx_cw63 : rx_cw (8, ⟨"RingDrive$Ring", "gatherFromFirst", "([I)V"⟩, prog_10_method_17_code, 4, none, 1, 0, 1, 24, 0, 0) ∈ tables_1 := rx_tab3 (List.mem_of_getElem? (i := 225) rfl)
theorem rx_cw64 : rx_cw (4, ⟨"RingDrive$Disk", "areSame", "([I[I)Z"⟩, prog_6_method_19_code, 3, (Option.some Jvm.ClassFile.FieldType.boolean), 2, 1, 0, 0, 0, 0) ∈ tables_1 := rx_tab3 (List.mem_of_getElem? (i := 228) rfl)
theorem rx_cw65 : rx_cw (3, ⟨"RingDrive$Directory", "writeEmpty", "(II)I"⟩, prog_5_method_19_code, 3, (Option.some Jvm.ClassFile.FieldType.int), 2, 0, 3, 78, 0, 0) ∈ tables_1 := rx_tab3 (List.mem_of_getElem? (i := 232) rfl)
theorem rx_cw66 : rx_cw (2, ⟨"RingDrive$Commands", "scratch", "()I"⟩, prog_4_method_6_code, 5, (Option.some Jvm.ClassFile.FieldType.int), 0, 0, 5, 139, 0, 0) ∈ tables_1 := rx_tab3 (List.mem_of_getElem? (i := 238) rfl)
theorem rx_cw67 : rx_cw (3, ⟨"RingDrive$Directory", "rewind", "()V"⟩, prog_5_method_2_code, 1, none, 0, 0, 1, 24, 0, 0) ∈ tables_1 := rx_tab4 (List.mem_of_getElem? (i := 2) rfl)
theorem rx_cw68 : rx_cw (3, ⟨"RingDrive$Directory", "goTo", "(IIII)V"⟩, prog_5_method_3_code, 5, none, 4, 0, 0, 0, 0, 0) ∈ tables_1 := rx_tab4 (List.mem_of_getElem? (i := 6) rfl)
theorem rx_cw69 : rx_cw (3, ⟨"RingDrive$Directory", "find", "(LRingDrive$Pattern;)I"⟩, prog_5_method_4_code, 4, (Option.some Jvm.ClassFile.FieldType.int), 1, 0, 3, 89, 0, 0) ∈ tables_1 := rx_tab4 (List.mem_of_getElem? (i := 10) rfl)
theorem rx_cw70 : rx_cw (4, ⟨"RingDrive$Disk", "readBlock", "(II[I)I"⟩, prog_6_method_10_code, 6, (Option.some Jvm.ClassFile.FieldType.int), 3, 0, 2, 64, 0, 0) ∈ tables_1 := rx_tab4 (List.mem_of_getElem? (i := 14) rfl)
theorem rx_cw71 : rx_cw (4, ⟨"RingDrive$Disk", "dataFault", "()I"⟩, prog_6_method_14_code, 3, (Option.some Jvm.ClassFile.FieldType.int), 0, 0, 1, 26, 0, 0) ∈ tables_1 := rx_tab4 (List.mem_of_getElem? (i := 18) rfl)
theorem rx_cw72 : rx_cw (3, ⟨"RingDrive$Directory", "isWanted", "(LRingDrive$Pattern;)Z"⟩, prog_5_method_7_code, 2, (Option.some Jvm.ClassFile.FieldType.boolean), 1, 0, 2, 40, 0, 0) ∈ tables_1 := rx_tab4 (List.mem_of_getElem? (i := 25) rfl)
theorem rx_cw73 : rx_cw (3, ⟨"RingDrive$Directory", "type", "()I"⟩, prog_5_method_9_code, 1, (Option.some Jvm.ClassFile.FieldType.int), 0, 0, 1, 20, 0, 0) ∈ tables_1 := rx_tab4 (List.mem_of_getElem? (i := 29) rfl)
theorem rx_cw74 : rx_cw (3, ⟨"RingDrive$Directory", "base", "()I"⟩, prog_5_method_8_code, 1, (Option.some Jvm.ClassFile.FieldType.int), 0, 0, 0, 0, 0, 0) ∈ tables_1 := rx_tab4 (List.mem_of_getElem? (i := 33) rfl)
theorem rx_cw75 : rx_cw (6, ⟨"RingDrive$Pattern", "fits", "([II)Z"⟩, prog_8_method_7_code, 5, (Option.some Jvm.ClassFile.FieldType.boolean), 2, 0, 0, 0, 0, 0) ∈ tables_1 := rx_tab4 (List.mem_of_getElem? (i := 37) rfl)
theorem rx_cw76 : rx_cw (3, ⟨"RingDrive$Directory", "isLast", "()Z"⟩, prog_5_method_5_code, 1, (Option.some Jvm.ClassFile.FieldType.boolean), 0, 0, 1, 20, 0, 0) ∈ tables_1 := rx_tab4 (List.mem_of_getElem? (i := 41) rfl)
theorem rx_cw77 : rx_cw (3, ⟨"RingDrive$Directory", "isFull", "()Z"⟩, prog_5_method_6_code, 1, (Option.some Jvm.ClassFile.FieldType.boolean), 0, 0, 0, 0, 0, 0) ∈ tables_1 := rx_tab4 (List.mem_of_getElem? (i := 45) rfl)
theorem rx_cw78 : rx_cw (5, ⟨"RingDrive$Dos", "scratchFound", "()I"⟩, prog_7_method_16_code, 5, (Option.some Jvm.ClassFile.FieldType.int), 0, 0, 4, 115, 0, 0) ∈ tables_1 := rx_tab4 (List.mem_of_getElem? (i := 51) rfl)
theorem rx_cw79 : rx_cw (0, ⟨"RingDrive$BlockMap", "load", "()I"⟩, prog_2_method_2_code, 1, (Option.some Jvm.ClassFile.FieldType.int), 0, 0, 3, 89, 0, 0) ∈ tables_1 := rx_tab4 (List.mem_of_getElem? (i := 55) rfl)
theorem rx_cwl1 : ∀ M ∈ rx_MT_1, rx_cw M ∈ tables_1 := rx_cw_c rx_cw40 (rx_cw_c rx_cw41 (rx_cw_c rx_cw42 (rx_cw_c rx_cw43 (rx_cw_c rx_cw44 (rx_cw_c rx_cw45 (rx_cw_c rx_cw46 (rx_cw_c rx_cw47 (rx_cw_c rx_cw48 (rx_cw_c rx_cw49 (rx_cw_c rx_cw50 (rx_cw_c rx_cw51 (rx_cw_c rx_cw52 (rx_cw_c rx_cw53 (rx_cw_c rx_cw54 (rx_cw_c rx_cw55 (rx_cw_c rx_cw56 (rx_cw_c rx_cw57 (rx_cw_c rx_cw58 (rx_cw_c rx_cw59 (rx_cw_c rx_cw60 (rx_cw_c rx_cw61 (rx_cw_c rx_cw62 (rx_cw_c rx_cw63 (rx_cw_c rx_cw64 (rx_cw_c rx_cw65 (rx_cw_c rx_cw66 (rx_cw_c rx_cw67 (rx_cw_c rx_cw68 (rx_cw_c rx_cw69 (rx_cw_c rx_cw70 (rx_cw_c rx_cw71 (rx_cw_c rx_cw72 (rx_cw_c rx_cw73 (rx_cw_c rx_cw74 (rx_cw_c rx_cw75 (rx_cw_c rx_cw76 (rx_cw_c rx_cw77 (rx_cw_c rx_cw78 (rx_cw_c rx_cw79 (fun X hX => absurd hX List.not_mem_nil))))))))))))))))))))))))))))))))))))))))
theorem rx_cw80 : rx_cw (3, ⟨"RingDrive$Directory", "firstTrack", "()I"⟩, prog_5_method_11_code, 1, (Option.some Jvm.ClassFile.FieldType.int), 0, 0, 1, 20, 0, 0) ∈ tables_1 := rx_tab4 (List.mem_of_getElem? (i := 60) rfl)
theorem rx_cw81 : rx_cw (3, ⟨"RingDrive$Directory", "firstSector", "()I"⟩, prog_5_method_12_code, 1, (Option.some Jvm.ClassFile.FieldType.int), 0, 0, 1, 20, 0, 0) ∈ tables_1 := rx_tab4 (List.mem_of_getElem? (i := 64) rfl)
theorem rx_cw82 : rx_cw (5, ⟨"RingDrive$Dos", "giveBackChain", "(II)I"⟩, prog_7_method_17_code, 7, (Option.some Jvm.ClassFile.FieldType.int), 2, 0, 3, 89, 0, 0) ∈ tables_1 := rx_tab4 (List.mem_of_getElem? (i := 68) rfl)
theorem rx_cw83 : rx_cw (0, ⟨"RingDrive$BlockMap", "giveBack", "(II)V"⟩, prog_2_method_9_code, 3, none, 2, 0, 1, 21, 0, 0) ∈ tables_1 := rx_tab4 (List.mem_of_getElem? (i := 74) rfl)
theorem rx_cw84 : rx_cw (3, ⟨"RingDrive$Directory", "changeType", "(I)I"⟩, prog_5_method_15_code, 3, (Option.some Jvm.ClassFile.FieldType.int), 1, 0, 3, 89, 0, 0) ∈ tables_1 := rx_tab4 (List.mem_of_getElem? (i := 80) rfl)
theorem rx_cw85 : rx_cw (2, ⟨"RingDrive$Commands", "rename", "()I"⟩, prog_4_method_7_code, 4, (Option.some Jvm.ClassFile.FieldType.int), 0, 0, 4, 112, 0, 0) ∈ tables_1 := rx_tab4 (List.mem_of_getElem? (i := 84) rfl)
theorem rx_cw86 : rx_cw (3, ⟨"RingDrive$Directory", "changeName", "(LRingDrive$Pattern;)I"⟩, prog_5_method_16_code, 3, (Option.some Jvm.ClassFile.FieldType.int), 1, 0, 3, 89, 0, 0) ∈ tables_1 := rx_tab4 (List.mem_of_getElem? (i := 88) rfl)
theorem rx_cw87 : rx_cw (2, ⟨"RingDrive$Commands", "initialise", "()I"⟩, prog_4_method_8_code, 2, (Option.some Jvm.ClassFile.FieldType.int), 0, 0, 4, 109, 0, 0) ∈ tables_1 := rx_tab4 (List.mem_of_getElem? (i := 93) rfl)
theorem rx_cw88 : rx_cw (2, ⟨"RingDrive$Commands", "unknown", "()I"⟩, prog_4_method_3_code, 1, (Option.some Jvm.ClassFile.FieldType.int), 0, 0, 1, 23, 0, 0) ∈ tables_1 := rx_tab4 (List.mem_of_getElem? (i := 98) rfl)
theorem rx_cw89 : rx_cw (2, ⟨"RingDrive$Commands", "validate", "()I"⟩, prog_4_method_9_code, 3, (Option.some Jvm.ClassFile.FieldType.int), 0, 0, 4, 115, 0, 0) ∈ tables_1 := rx_tab4 (List.mem_of_getElem? (i := 102) rfl)
theorem rx_cw90 : rx_cw (2, ⟨"RingDrive$Commands", "takeDirectory", "()I"⟩, prog_4_method_10_code, 5, (Option.some Jvm.ClassFile.FieldType.int), 0, 0, 3, 89, 0, 0) ∈ tables_1 := rx_tab4 (List.mem_of_getElem? (i := 108) rfl)
theorem rx_cw91 : rx_cw (3, ⟨"RingDrive$Directory", "isClosed", "()Z"⟩, prog_5_method_10_code, 1, (Option.some Jvm.ClassFile.FieldType.boolean), 0, 0, 2, 40, 0, 0) ∈ tables_1 := rx_tab4 (List.mem_of_getElem? (i := 114) rfl)
theorem rx_cw92 : rx_cw (2, ⟨"RingDrive$Commands", "takeChain", "(II)I"⟩, prog_4_method_11_code, 7, (Option.some Jvm.ClassFile.FieldType.int), 2, 0, 3, 89, 0, 0) ∈ tables_1 := rx_tab4 (List.mem_of_getElem? (i := 120) rfl)
theorem rx_cw93 : rx_cw (0, ⟨"RingDrive$BlockMap", "isFree", "(II)Z"⟩, prog_2_method_7_code, 3, (Option.some Jvm.ClassFile.FieldType.boolean), 2, 0, 1, 21, 0, 0) ∈ tables_1 := rx_tab4 (List.mem_of_getElem? (i := 124) rfl)
theorem rx_cw94 : rx_cw (2, ⟨"RingDrive$Commands", "user", "()I"⟩, prog_4_method_12_code, 1, (Option.some Jvm.ClassFile.FieldType.int), 0, 0, 4, 115, 0, 0) ∈ tables_1 := rx_tab4 (List.mem_of_getElem? (i := 129) rfl)
theorem rx_cw95 : rx_cw (2, ⟨"RingDrive$Commands", "moveBlock", "(Z)I"⟩, prog_4_method_14_code, 7, (Option.some Jvm.ClassFile.FieldType.int), 1, 0, 3, 89, 0, 0) ∈ tables_1 := rx_tab4 (List.mem_of_getElem? (i := 133) rfl)
theorem rx_cw96 : rx_cw (10, ⟨"RingDrive$Tape", "startNumbers", "()V"⟩, prog_12_method_7_code, 1, none, 0, 0, 2, 47, 0, 0) ∈ tables_1 := rx_tab4 (List.mem_of_getElem? (i := 137) rfl)
theorem rx_cw97 : rx_cw (10, ⟨"RingDrive$Tape", "nextNumber", "()I"⟩, prog_12_method_8_code, 4, (Option.some Jvm.ClassFile.FieldType.int), 0, 0, 1, 21, 0, 0) ∈ tables_1 := rx_tab4 (List.mem_of_getElem? (i := 142) rfl)
theorem rx_cw98 : rx_cw (10, ⟨"RingDrive$Tape", "isDigit", "(I)Z"⟩, prog_12_method_9_code, 1, (Option.some Jvm.ClassFile.FieldType.boolean), 1, 1, 0, 0, 0, 0) ∈ tables_1 := rx_tab4 (List.mem_of_getElem? (i := 146) rfl)
theorem rx_cw99 : rx_cw (5, ⟨"RingDrive$Dos", "buffer", "(I)LRingDrive$Channel;"⟩, prog_7_method_2_code, 3, (Option.some (Jvm.ClassFile.FieldType.object "RingDrive$Channel")), 1, 0, 0, 0, 0, 0) ∈ tables_1 := rx_tab4 (List.mem_of_getElem? (i := 150) rfl)
theorem rx_cw100 : rx_cw (2, ⟨"RingDrive$Commands", "restart", "()I"⟩, prog_4_method_13_code, 1, (Option.some Jvm.ClassFile.FieldType.int), 0, 0, 1, 23, 0, 0) ∈ tables_1 := rx_tab4 (List.mem_of_getElem? (i := 155) rfl)
theorem rx_cw101 : rx_cw (2, ⟨"RingDrive$Commands", "block", "()I"⟩, prog_4_method_15_code, 1, (Option.some Jvm.ClassFile.FieldType.int), 0, 0, 5, 133, 0, 0) ∈ tables_1 := rx_tab4 (List.mem_of_getElem? (i := 160) rfl)
theorem rx_cw102 : rx_cw (2, ⟨"RingDrive$Commands", "setPlace", "()I"⟩, prog_4_method_16_code, 4, (Option.some Jvm.ClassFile.FieldType.int), 0, 0, 3, 67, 0, 0) ∈ tables_1 := rx_tab4 (List.mem_of_getElem? (i := 164) rfl)
theorem rx_cw103 : rx_cw (2, ⟨"RingDrive$Commands", "allocate", "(Z)I"⟩, prog_4_method_17_code, 5, (Option.some Jvm.ClassFile.FieldType.int), 1, 0, 4, 109, 0, 0) ∈ tables_1 := rx_tab4 (List.mem_of_getElem? (i := 168) rfl)
theorem rx_cw104 : rx_cw (2, ⟨"RingDrive$Commands", "tellNextFree", "(II)I"⟩, prog_4_method_18_code, 6, (Option.some Jvm.ClassFile.FieldType.int), 2, 0, 2, 43, 0, 0) ∈ tables_1 := rx_tab4 (List.mem_of_getElem? (i := 172) rfl)
theorem rx_cw105 : rx_cw (2, ⟨"RingDrive$Commands", "program", "()I"⟩, prog_4_method_19_code, 4, (Option.some Jvm.ClassFile.FieldType.int), 0, 0, 5, 116, 0, 0) ∈ tables_1 := rx_tab4 (List.mem_of_getElem? (i := 178) rfl)
theorem rx_cw106 : rx_cw (2, ⟨"RingDrive$Commands", "argument", "(I)I"⟩, prog_4_method_20_code, 2, (Option.some Jvm.ClassFile.FieldType.int), 1, 0, 1, 24, 0, 0) ∈ tables_1 := rx_tab4 (List.mem_of_getElem? (i := 182) rfl)
theorem rx_cw107 : rx_cw (7, ⟨"RingDrive$Processor", "set", "(II)V"⟩, prog_9_method_3_code, 3, none, 2, 0, 0, 0, 0, 0) ∈ tables_1 := rx_tab4 (List.mem_of_getElem? (i := 187) rfl)
theorem rx_cw108 : rx_cw (7, ⟨"RingDrive$Processor", "get", "(I)I"⟩, prog_9_method_2_code, 2, (Option.some Jvm.ClassFile.FieldType.int), 1, 0, 0, 0, 0, 0) ∈ tables_1 := rx_tab4 (List.mem_of_getElem? (i := 191) rfl)
theorem rx_cw109 : rx_cw (9, ⟨"RingDrive$Status", "addReply", "(I)V"⟩, prog_11_method_4_code, 2, none, 1, 0, 0, 0, 0, 0) ∈ tables_1 := rx_tab4 (List.mem_of_getElem? (i := 195) rfl)
theorem rx_cw110 : rx_cw (7, ⟨"RingDrive$Processor", "run", "(I)I"⟩, prog_9_method_6_code, 5, (Option.some Jvm.ClassFile.FieldType.int), 1, 0, 4, 92, 0, 0) ∈ tables_1 := rx_tab4 (List.mem_of_getElem? (i := 199) rfl)
theorem rx_cw111 : rx_cw (7, ⟨"RingDrive$Processor", "begin", "(I)V"⟩, prog_9_method_5_code, 2, none, 1, 0, 0, 0, 0, 0) ∈ tables_1 := rx_tab4 (List.mem_of_getElem? (i := 203) rfl)
theorem rx_cw112 : rx_cw (7, ⟨"RingDrive$Processor", "locate", "(I)V"⟩, prog_9_method_12_code, 4, none, 1, 0, 2, 42, 0, 0) ∈ tables_1 := rx_tab4 (List.mem_of_getElem? (i := 214) rfl)
theorem rx_cw113 : rx_cw (7, ⟨"RingDrive$Processor", "fetch", "()I"⟩, prog_9_method_8_code, 2, (Option.some Jvm.ClassFile.FieldType.int), 0, 0, 0, 0, 0, 0) ∈ tables_1 := rx_tab4 (List.mem_of_getElem? (i := 218) rfl)
theorem rx_cw114 : rx_cw (7, ⟨"RingDrive$Processor", "fetchTwo", "()I"⟩, prog_9_method_9_code, 2, (Option.some Jvm.ClassFile.FieldType.int), 0, 0, 1, 21, 0, 0) ∈ tables_1 := rx_tab4 (List.mem_of_getElem? (i := 222) rfl)
theorem rx_cw115 : rx_cw (7, ⟨"RingDrive$Processor", "indexed", "(II)V"⟩, prog_9_method_11_code, 3, none, 2, 0, 0, 0, 0, 0) ∈ tables_1 := rx_tab4 (List.mem_of_getElem? (i := 226) rfl)
theorem rx_cw116 : rx_cw (7, ⟨"RingDrive$Processor", "pair", "(I)I"⟩, prog_9_method_10_code, 2, (Option.some Jvm.ClassFile.FieldType.int), 1, 0, 0, 0, 0, 0) ∈ tables_1 := rx_tab4 (List.mem_of_getElem? (i := 230) rfl)
theorem rx_cw117 : rx_cw (7, ⟨"RingDrive$Processor", "perform", "(II)V"⟩, prog_9_method_7_code, 3, none, 2, 0, 3, 70, 0, 0) ∈ tables_1 := rx_tab4 (List.mem_of_getElem? (i := 235) rfl)
theorem rx_cw118 : rx_cw (7, ⟨"RingDrive$Processor", "useValue", "(II)V"⟩, prog_9_method_16_code, 3, none, 2, 0, 2, 48, 0, 0) ∈ tables_1 := rx_tab4 (List.mem_of_getElem? (i := 239) rfl)
theorem rx_cw119 : rx_cw (7, ⟨"RingDrive$Processor", "marked", "(I)I"⟩, prog_9_method_15_code, 3, (Option.some Jvm.ClassFile.FieldType.int), 1, 0, 0, 0, 0, 0) ∈ tables_1 := rx_tab5 (List.mem_of_getElem? (i := 3) rfl)
theorem rx_cwl2 : ∀ M ∈ rx_MT_2, rx_cw M ∈ tables_1 := rx_cw_c rx_cw80 (rx_cw_c rx_cw81 (rx_cw_c rx_cw82 (rx_cw_c rx_cw83 (rx_cw_c rx_cw84 (rx_cw_c rx_cw85 (rx_cw_c rx_cw86 (rx_cw_c rx_cw87 (rx_cw_c rx_cw88 (rx_cw_c rx_cw89 (rx_cw_c rx_cw90 (rx_cw_c rx_cw91 (rx_cw_c rx_cw92 (rx_cw_c rx_cw93 (rx_cw_c rx_cw94 (rx_cw_c rx_cw95 (rx_cw_c rx_cw96 (rx_cw_c rx_cw97 (rx_cw_c rx_cw98 (rx_cw_c rx_cw99 (rx_cw_c rx_cw100 (rx_cw_c rx_cw101 (rx_cw_c rx_cw102 (rx_cw_c rx_cw103 (rx_cw_c rx_cw104 (rx_cw_c rx_cw105 (rx_cw_c rx_cw106 (rx_cw_c rx_cw107 (rx_cw_c rx_cw108 (rx_cw_c rx_cw109 (rx_cw_c rx_cw110 (rx_cw_c rx_cw111 (rx_cw_c rx_cw112 (rx_cw_c rx_cw113 (rx_cw_c rx_cw114 (rx_cw_c rx_cw115 (rx_cw_c rx_cw116 (rx_cw_c rx_cw117 (rx_cw_c rx_cw118 (rx_cw_c rx_cw119 (fun X hX => absurd hX List.not_mem_nil))))))))))))))))))))))))))))))))))))))))
theorem rx_cw120 : rx_cw (7, ⟨"RingDrive$Processor", "add", "(I)V"⟩, prog_9_method_19_code, 4, none, 1, 0, 1, 25, 0, 0) ∈ tables_1 := rx_tab5 (List.mem_of_getElem? (i := 7) rfl)
theorem rx_cw121 : rx_cw (7, ⟨"RingDrive$Processor", "has", "(I)Z"⟩, prog_9_method_14_code, 2, (Option.some Jvm.ClassFile.FieldType.boolean), 1, 0, 0, 0, 0, 0) ∈ tables_1 := rx_tab5 (List.mem_of_getElem? (i := 11) rfl)
theorem rx_cw122 : rx_cw (7, ⟨"RingDrive$Processor", "addBinary", "(I)V"⟩, prog_9_method_18_code, 6, none, 1, 0, 0, 0, 0, 0) ∈ tables_1 := rx_tab5 (List.mem_of_getElem? (i := 15) rfl)
theorem rx_cw123 : rx_cw (7, ⟨"RingDrive$Processor", "flag", "(IZ)V"⟩, prog_9_method_13_code, 3, none, 2, 0, 0, 0, 0, 0) ∈ tables_1 := rx_tab5 (List.mem_of_getElem? (i := 19) rfl)
theorem rx_cw124 : rx_cw (7, ⟨"RingDrive$Processor", "subtract", "(I)V"⟩, prog_9_method_20_code, 4, none, 1, 0, 1, 25, 0, 0) ∈ tables_1 := rx_tab5 (List.mem_of_getElem? (i := 23) rfl)
theorem rx_cw125 : rx_cw (7, ⟨"RingDrive$Processor", "compare", "(II)V"⟩, prog_9_method_17_code, 3, none, 2, 0, 1, 22, 0, 0) ∈ tables_1 := rx_tab5 (List.mem_of_getElem? (i := 27) rfl)
theorem rx_cw126 : rx_cw (7, ⟨"RingDrive$Processor", "changeValue", "(IZ)V"⟩, prog_9_method_21_code, 5, none, 2, 0, 1, 22, 0, 0) ∈ tables_1 := rx_tab5 (List.mem_of_getElem? (i := 32) rfl)
theorem rx_cw127 : rx_cw (7, ⟨"RingDrive$Processor", "branch", "(I)V"⟩, prog_9_method_22_code, 3, none, 1, 0, 1, 21, 0, 0) ∈ tables_1 := rx_tab5 (List.mem_of_getElem? (i := 36) rfl)
theorem rx_cw128 : rx_cw (7, ⟨"RingDrive$Processor", "move", "(I)V"⟩, prog_9_method_23_code, 2, none, 1, 0, 1, 22, 0, 0) ∈ tables_1 := rx_tab5 (List.mem_of_getElem? (i := 40) rfl)
theorem rx_cw129 : rx_cw (7, ⟨"RingDrive$Processor", "changeFlag", "(I)V"⟩, prog_9_method_24_code, 2, none, 1, 0, 1, 22, 0, 0) ∈ tables_1 := rx_tab5 (List.mem_of_getElem? (i := 44) rfl)
theorem rx_cw130 : rx_cw (7, ⟨"RingDrive$Processor", "stack", "(I)V"⟩, prog_9_method_28_code, 3, none, 1, 0, 2, 41, 0, 0) ∈ tables_1 := rx_tab5 (List.mem_of_getElem? (i := 48) rfl)
theorem rx_cw131 : rx_cw (7, ⟨"RingDrive$Processor", "push", "(I)V"⟩, prog_9_method_25_code, 2, none, 1, 0, 0, 0, 0, 0) ∈ tables_1 := rx_tab5 (List.mem_of_getElem? (i := 52) rfl)
theorem rx_cw132 : rx_cw (7, ⟨"RingDrive$Processor", "pull", "()I"⟩, prog_9_method_26_code, 1, (Option.some Jvm.ClassFile.FieldType.int), 0, 0, 0, 0, 0, 0) ∈ tables_1 := rx_tab5 (List.mem_of_getElem? (i := 56) rfl)
theorem rx_cw133 : rx_cw (7, ⟨"RingDrive$Processor", "pullTwo", "()I"⟩, prog_9_method_27_code, 2, (Option.some Jvm.ClassFile.FieldType.int), 0, 0, 1, 20, 0, 0) ∈ tables_1 := rx_tab5 (List.mem_of_getElem? (i := 60) rfl)
theorem rx_cw134 : rx_cw (5, ⟨"RingDrive$Dos", "openChannel", "(I)I"⟩, prog_7_method_8_code, 4, (Option.some Jvm.ClassFile.FieldType.int), 1, 0, 6, 161, 0, 0) ∈ tables_1 := rx_tab5 (List.mem_of_getElem? (i := 66) rfl)
theorem rx_cw135 : rx_cw (5, ⟨"RingDrive$Dos", "closeChannel", "(I)I"⟩, prog_7_method_6_code, 4, (Option.some Jvm.ClassFile.FieldType.int), 1, 0, 4, 111, 0, 0) ∈ tables_1 := rx_tab5 (List.mem_of_getElem? (i := 70) rfl)
theorem rx_cw136 : rx_cw (5, ⟨"RingDrive$Dos", "goToEntryOf", "(LRingDrive$Channel;)V"⟩, prog_7_method_7_code, 2, none, 1, 0, 1, 24, 0, 0) ∈ tables_1 := rx_tab5 (List.mem_of_getElem? (i := 75) rfl)
theorem rx_cw137 : rx_cw (3, ⟨"RingDrive$Directory", "changeToClosed", "(I)I"⟩, prog_5_method_17_code, 3, (Option.some Jvm.ClassFile.FieldType.int), 1, 0, 3, 89, 0, 0) ∈ tables_1 := rx_tab5 (List.mem_of_getElem? (i := 80) rfl)
theorem rx_cw138 : rx_cw (5, ⟨"RingDrive$Dos", "countOpen", "()I"⟩, prog_7_method_3_code, 3, (Option.some Jvm.ClassFile.FieldType.int), 0, 0, 0, 0, 0, 0) ∈ tables_1 := rx_tab5 (List.mem_of_getElem? (i := 84) rfl)
theorem rx_cw139 : rx_cw (5, ⟨"RingDrive$Dos", "openBuffer", "(LRingDrive$Channel;)I"⟩, prog_7_method_9_code, 2, (Option.some Jvm.ClassFile.FieldType.int), 1, 0, 2, 44, 0, 0) ∈ tables_1 := rx_tab5 (List.mem_of_getElem? (i := 89) rfl)
theorem rx_cw140 : rx_cw (1, ⟨"RingDrive$Channel", "begin", "(I)V"⟩, prog_3_method_2_code, 2, none, 1, 0, 1, 23, 0, 0) ∈ tables_1 := rx_tab5 (List.mem_of_getElem? (i := 93) rfl)
theorem rx_cw141 : rx_cw (5, ⟨"RingDrive$Dos", "openList", "(LRingDrive$Channel;)I"⟩, prog_7_method_10_code, 3, (Option.some Jvm.ClassFile.FieldType.int), 1, 0, 2, 85, 0, 0) ∈ tables_1 := rx_tab5 (List.mem_of_getElem? (i := 98) rfl)
theorem rx_cw142 : rx_cw (6, ⟨"RingDrive$Pattern", "copyFrom", "(LRingDrive$Pattern;)V"⟩, prog_8_method_5_code, 2, none, 1, 0, 1, 64, 0, 0) ∈ tables_1 := rx_tab5 (List.mem_of_getElem? (i := 105) rfl)
theorem rx_cw143 : rx_cw (5, ⟨"RingDrive$Dos", "parseFile", "(I)I"⟩, prog_7_method_11_code, 5, (Option.some Jvm.ClassFile.FieldType.int), 1, 0, 2, 48, 0, 0) ∈ tables_1 := rx_tab5 (List.mem_of_getElem? (i := 110) rfl)
theorem rx_cw144 : rx_cw (5, ⟨"RingDrive$Dos", "sortTold", "(I)I"⟩, prog_7_method_12_code, 2, (Option.some Jvm.ClassFile.FieldType.int), 1, 0, 1, 21, 0, 0) ∈ tables_1 := rx_tab5 (List.mem_of_getElem? (i := 115) rfl)
theorem rx_cw145 : rx_cw (5, ⟨"RingDrive$Dos", "wayTold", "(I)I"⟩, prog_7_method_13_code, 3, (Option.some Jvm.ClassFile.FieldType.int), 1, 0, 1, 21, 0, 0) ∈ tables_1 := rx_tab5 (List.mem_of_getElem? (i := 119) rfl)
theorem rx_cw146 : rx_cw (5, ⟨"RingDrive$Dos", "openToRead", "(LRingDrive$Channel;)I"⟩, prog_7_method_14_code, 5, (Option.some Jvm.ClassFile.FieldType.int), 1, 0, 4, 112, 0, 0) ∈ tables_1 := rx_tab5 (List.mem_of_getElem? (i := 124) rfl)
theorem rx_cw147 : rx_cw (1, ⟨"RingDrive$Channel", "unfold", "()V"⟩, prog_3_method_5_code, 1, none, 0, 0, 1, 24, 0, 0) ∈ tables_1 := rx_tab5 (List.mem_of_getElem? (i := 132) rfl)
theorem rx_cw148 : rx_cw (5, ⟨"RingDrive$Dos", "openToWrite", "(LRingDrive$Channel;)I"⟩, prog_7_method_15_code, 3, (Option.some Jvm.ClassFile.FieldType.int), 1, 0, 5, 139, 0, 0) ∈ tables_1 := rx_tab5 (List.mem_of_getElem? (i := 139) rfl)
theorem rx_cw149 : rx_cw (5, ⟨"RingDrive$Dos", "findRoom", "()I"⟩, prog_7_method_18_code, 2, (Option.some Jvm.ClassFile.FieldType.int), 0, 0, 4, 112, 0, 0) ∈ tables_1 := rx_tab5 (List.mem_of_getElem? (i := 144) rfl)
theorem rx_cw150 : rx_cw (0, ⟨"RingDrive$BlockMap", "pickForDirectory", "()Z"⟩, prog_2_method_12_code, 1, (Option.some Jvm.ClassFile.FieldType.boolean), 0, 0, 3, 68, 0, 0) ∈ tables_1 := rx_tab5 (List.mem_of_getElem? (i := 149) rfl)
theorem rx_cw151 : rx_cw (0, ⟨"RingDrive$BlockMap", "pickOf", "(II)Z"⟩, prog_2_method_13_code, 6, (Option.some Jvm.ClassFile.FieldType.boolean), 2, 0, 2, 43, 0, 0) ∈ tables_1 := rx_tab5 (List.mem_of_getElem? (i := 153) rfl)
theorem rx_cw152 : rx_cw (3, ⟨"RingDrive$Directory", "lengthen", "(II)I"⟩, prog_5_method_20_code, 4, (Option.some Jvm.ClassFile.FieldType.int), 2, 0, 3, 89, 0, 0) ∈ tables_1 := rx_tab5 (List.mem_of_getElem? (i := 159) rfl)
theorem rx_cw153 : rx_cw (5, ⟨"RingDrive$Dos", "startFile", "(LRingDrive$Channel;)I"⟩, prog_7_method_19_code, 3, (Option.some Jvm.ClassFile.FieldType.int), 1, 0, 4, 113, 0, 0) ∈ tables_1 := rx_tab5 (List.mem_of_getElem? (i := 163) rfl)
theorem rx_cw154 : rx_cw (0, ⟨"RingDrive$BlockMap", "pick", "()Z"⟩, prog_2_method_10_code, 2, (Option.some Jvm.ClassFile.FieldType.boolean), 0, 0, 3, 68, 0, 0) ∈ tables_1 := rx_tab5 (List.mem_of_getElem? (i := 167) rfl)
theorem rx_cw155 : rx_cw (3, ⟨"RingDrive$Directory", "changeToNew", "(ILRingDrive$BlockMap;LRingDrive$Pattern;)I"⟩, prog_5_method_18_code, 5, (Option.some Jvm.ClassFile.FieldType.int), 3, 0, 3, 89, 0, 0) ∈ tables_1 := rx_tab5 (List.mem_of_getElem? (i := 173) rfl)
theorem rx_cw156 : rx_cw (1, ⟨"RingDrive$Channel", "beginBlock", "(II)V"⟩, prog_3_method_3_code, 3, none, 2, 0, 1, 23, 0, 0) ∈ tables_1 := rx_tab5 (List.mem_of_getElem? (i := 177) rfl)
theorem rx_cw157 : rx_cw (1, ⟨"RingDrive$Channel", "keepEntry", "(LRingDrive$Directory;)V"⟩, prog_3_method_4_code, 2, none, 1, 0, 0, 0, 0, 0) ∈ tables_1 := rx_tab5 (List.mem_of_getElem? (i := 181) rfl)
theorem rx_cw158 : rx_cw (11, ⟨"RingDrive", "write", "(II)I"⟩, prog_1_method_4_code, 3, (Option.some Jvm.ClassFile.FieldType.int), 2, 0, 7, 184, 0, 0) ∈ tables_1 := rx_tab5 (List.mem_of_getElem? (i := 185) rfl)
theorem rx_cw159 : rx_cw (5, ⟨"RingDrive$Dos", "sendBytes", "(I)V"⟩, prog_7_method_27_code, 5, none, 1, 0, 6, 160, 0, 0) ∈ tables_1 := rx_tab5 (List.mem_of_getElem? (i := 189) rfl)
theorem rx_cwl3 : ∀ M ∈ rx_MT_3, rx_cw M ∈ tables_1 := rx_cw_c rx_cw120 (rx_cw_c rx_cw121 (rx_cw_c rx_cw122 (rx_cw_c rx_cw123 (rx_cw_c rx_cw124 (rx_cw_c rx_cw125 (rx_cw_c rx_cw126 (rx_cw_c rx_cw127 (rx_cw_c rx_cw128 (rx_cw_c rx_cw129 (rx_cw_c rx_cw130 (rx_cw_c rx_cw131 (rx_cw_c rx_cw132 (rx_cw_c rx_cw133 (rx_cw_c rx_cw134 (rx_cw_c rx_cw135 (rx_cw_c rx_cw136 (rx_cw_c rx_cw137 (rx_cw_c rx_cw138 (rx_cw_c rx_cw139 (rx_cw_c rx_cw140 (rx_cw_c rx_cw141 (rx_cw_c rx_cw142 (rx_cw_c rx_cw143 (rx_cw_c rx_cw144 (rx_cw_c rx_cw145 (rx_cw_c rx_cw146 (rx_cw_c rx_cw147 (rx_cw_c rx_cw148 (rx_cw_c rx_cw149 (rx_cw_c rx_cw150 (rx_cw_c rx_cw151 (rx_cw_c rx_cw152 (rx_cw_c rx_cw153 (rx_cw_c rx_cw154 (rx_cw_c rx_cw155 (rx_cw_c rx_cw156 (rx_cw_c rx_cw157 (rx_cw_c rx_cw158 (rx_cw_c rx_cw159 (fun X hX => absurd hX List.not_mem_nil))))))))))))))))))))))))))))))))))))))))
theorem rx_cw160 : rx_cw (5, ⟨"RingDrive$Dos", "addToFile", "(LRingDrive$Channel;I)I"⟩, prog_7_method_28_code, 5, (Option.some Jvm.ClassFile.FieldType.int), 2, 0, 5, 136, 0, 0) ∈ tables_1 := rx_tab5 (List.mem_of_getElem? (i := 193) rfl)
theorem rx_cw161 : rx_cw (0, ⟨"RingDrive$BlockMap", "pickBehind", "(II)Z"⟩, prog_2_method_11_code, 3, (Option.some Jvm.ClassFile.FieldType.boolean), 2, 0, 4, 89, 0, 0) ∈ tables_1 := rx_tab5 (List.mem_of_getElem? (i := 197) rfl)
theorem rx_cw162 : rx_cw (5, ⟨"RingDrive$Dos", "goToNextBlock", "(LRingDrive$Channel;)I"⟩, prog_7_method_29_code, 3, (Option.some Jvm.ClassFile.FieldType.int), 1, 0, 4, 98, 0, 0) ∈ tables_1 := rx_tab5 (List.mem_of_getElem? (i := 202) rfl)
theorem rx_cw163 : rx_cw (5, ⟨"RingDrive$Dos", "giveUpFile", "(LRingDrive$Channel;)I"⟩, prog_7_method_30_code, 6, (Option.some Jvm.ClassFile.FieldType.int), 1, 0, 4, 111, 0, 0) ∈ tables_1 := rx_tab5 (List.mem_of_getElem? (i := 206) rfl)
theorem rx_cw164 : rx_cw (11, ⟨"RingDrive", "close", "(I)I"⟩, prog_1_method_5_code, 2, (Option.some Jvm.ClassFile.FieldType.int), 1, 0, 6, 156, 0, 0) ∈ tables_1 := rx_tab5 (List.mem_of_getElem? (i := 210) rfl)
theorem rx_cw165 : rx_cw (5, ⟨"RingDrive$Dos", "closeAll", "()V"⟩, prog_7_method_5_code, 3, none, 0, 0, 5, 134, 0, 0) ∈ tables_1 := rx_tab5 (List.mem_of_getElem? (i := 214) rfl)
theorem rx_cw166 : rx_cw (11, ⟨"RingDrive", "read", "(II)I"⟩, prog_1_method_6_code, 3, (Option.some Jvm.ClassFile.FieldType.int), 2, 0, 9, 197, 0, 0) ∈ tables_1 := rx_tab5 (List.mem_of_getElem? (i := 220) rfl)
theorem rx_cw167 : rx_cw (9, ⟨"RingDrive$Status", "receive", "(I[I)I"⟩, prog_11_method_5_code, 4, (Option.some Jvm.ClassFile.FieldType.int), 2, 0, 7, 149, 0, 0) ∈ tables_1 := rx_tab5 (List.mem_of_getElem? (i := 224) rfl)
theorem rx_cw168 : rx_cw (9, ⟨"RingDrive$Status", "replyByte", "()I"⟩, prog_11_method_6_code, 2, (Option.some Jvm.ClassFile.FieldType.int), 0, 0, 0, 0, 0, 0) ∈ tables_1 := rx_tab5 (List.mem_of_getElem? (i := 228) rfl)
theorem rx_cw169 : rx_cw (9, ⟨"RingDrive$Status", "textByte", "()I"⟩, prog_11_method_7_code, 2, (Option.some Jvm.ClassFile.FieldType.int), 0, 0, 6, 128, 0, 0) ∈ tables_1 := rx_tab5 (List.mem_of_getElem? (i := 232) rfl)
theorem rx_cw170 : rx_cw (9, ⟨"RingDrive$Status", "spell", "()V"⟩, prog_11_method_8_code, 3, none, 0, 0, 5, 106, 0, 0) ∈ tables_1 := rx_tab5 (List.mem_of_getElem? (i := 236) rfl)
theorem rx_cw171 : rx_cw (9, ⟨"RingDrive$Status", "addTwoDigits", "(I)V"⟩, prog_11_method_9_code, 2, none, 1, 0, 1, 21, 0, 0) ∈ tables_1 := rx_tab6 (List.mem_of_getElem? (i := 0) rfl)
theorem rx_cw172 : rx_cw (9, ⟨"RingDrive$Status", "add", "(I)V"⟩, prog_11_method_10_code, 2, none, 1, 0, 0, 0, 0, 0) ∈ tables_1 := rx_tab6 (List.mem_of_getElem? (i := 4) rfl)
theorem rx_cw173 : rx_cw (9, ⟨"RingDrive$Status", "words", "()Ljava/lang/String;"⟩, prog_11_method_11_code, 1, (Option.some (Jvm.ClassFile.FieldType.object "java/lang/String")), 0, 0, 0, 0, 0, 0) ∈ tables_1 := rx_tab6 (List.mem_of_getElem? (i := 8) rfl)
theorem rx_cw174 : rx_cw (16, ⟨"java/lang/String", "length", "()I"⟩, prog_16_method_54_code, 1, (Option.some Jvm.ClassFile.FieldType.int), 0, 0, 1, 20, 0, 0) ∈ tables_1 := rx_tab6 (List.mem_of_getElem? (i := 31) rfl)
theorem rx_cw175 : rx_cw (16, ⟨"java/lang/String", "coder", "()B"⟩, prog_16_method_152_code, 1, (Option.some Jvm.ClassFile.FieldType.byte), 0, 0, 0, 0, 0, 0) ∈ tables_1 := rx_tab6 (List.mem_of_getElem? (i := 35) rfl)
theorem rx_cw176 : rx_cw (16, ⟨"java/lang/String", "charAt", "(I)C"⟩, prog_16_method_56_code, 2, (Option.some Jvm.ClassFile.FieldType.char), 1, 0, 4, 85, 0, 0) ∈ tables_1 := rx_tab6 (List.mem_of_getElem? (i := 41) rfl)
theorem rx_cw177 : rx_cw (16, ⟨"java/lang/String", "isLatin1", "()Z"⟩, prog_16_method_154_code, 1, (Option.some Jvm.ClassFile.FieldType.boolean), 0, 0, 0, 0, 0, 0) ∈ tables_1 := rx_tab6 (List.mem_of_getElem? (i := 45) rfl)
theorem rx_cw178 : rx_cw (17, ⟨"java/lang/StringLatin1", "charAt", "([BI)C"⟩, prog_17_method_2_code, 2, (Option.some Jvm.ClassFile.FieldType.char), 2, 1, 2, 43, 0, 0) ∈ tables_1 := rx_tab6 (List.mem_of_getElem? (i := 48) rfl)
theorem rx_cw179 : rx_cw (16, ⟨"java/lang/String", "checkIndex", "(II)V"⟩, prog_16_method_155_code, 2, none, 2, 1, 1, 22, 0, 0) ∈ tables_1 := rx_tab6 (List.mem_of_getElem? (i := 51) rfl)
theorem rx_cw180 : rx_cw (20, ⟨"jdk/internal/util/Preconditions", "checkIndex", "(IILjava/util/function/BiFunction;)I"⟩, prog_21_method_11_code, 3, (Option.some Jvm.ClassFile.FieldType.int), 3, 1, 0, 0, 0, 0) ∈ tables_1 := rx_tab6 (List.mem_of_getElem? (i := 56) rfl)
theorem rx_cw181 : rx_cw (18, ⟨"java/lang/StringUTF16", "charAt", "([BI)C"⟩, prog_18_method_83_code, 2, (Option.some Jvm.ClassFile.FieldType.char), 2, 1, 3, 64, 0, 0) ∈ tables_1 := rx_tab6 (List.mem_of_getElem? (i := 59) rfl)
theorem rx_cw182 : rx_cw (18, ⟨"java/lang/StringUTF16", "checkIndex", "(I[B)V"⟩, prog_18_method_91_code, 2, none, 2, 1, 2, 43, 0, 0) ∈ tables_1 := rx_tab6 (List.mem_of_getElem? (i := 62) rfl)
theorem rx_cw183 : rx_cw (18, ⟨"java/lang/StringUTF16", "length", "([B)I"⟩, prog_18_method_6_code, 1, (Option.some Jvm.ClassFile.FieldType.int), 1, 1, 0, 0, 0, 0) ∈ tables_1 := rx_tab6 (List.mem_of_getElem? (i := 65) rfl)
theorem rx_cw184 : rx_cw (18, ⟨"java/lang/StringUTF16", "getChar", "([BI)C"⟩, prog_18_method_5_code, 2, (Option.some Jvm.ClassFile.FieldType.char), 2, 1, 1, 20, 0, 0) ∈ tables_1 := rx_tab6 (List.mem_of_getElem? (i := 69) rfl)
theorem rx_cw185 : rx_cw (5, ⟨"RingDrive$Dos", "receive", "(II[I)I"⟩, prog_7_method_20_code, 6, (Option.some Jvm.ClassFile.FieldType.int), 3, 0, 8, 172, 0, 0) ∈ tables_1 := rx_tab6 (List.mem_of_getElem? (i := 79) rfl)
theorem rx_cw186 : rx_cw (5, ⟨"RingDrive$Dos", "nextByte", "(LRingDrive$Channel;)I"⟩, prog_7_method_21_code, 3, (Option.some Jvm.ClassFile.FieldType.int), 1, 0, 7, 150, 0, 0) ∈ tables_1 := rx_tab6 (List.mem_of_getElem? (i := 83) rfl)
theorem rx_cw187 : rx_cw (5, ⟨"RingDrive$Dos", "makeLine", "(LRingDrive$Channel;)I"⟩, prog_7_method_23_code, 3, (Option.some Jvm.ClassFile.FieldType.int), 1, 0, 6, 128, 0, 0) ∈ tables_1 := rx_tab6 (List.mem_of_getElem? (i := 87) rfl)
theorem rx_cw188 : rx_cw (1, ⟨"RingDrive$Channel", "startLine", "()V"⟩, prog_3_method_6_code, 1, none, 0, 0, 0, 0, 0, 0) ∈ tables_1 := rx_tab6 (List.mem_of_getElem? (i := 91) rfl)
theorem rx_cw189 : rx_cw (5, ⟨"RingDrive$Dos", "addTitle", "(LRingDrive$Channel;)V"⟩, prog_7_method_24_code, 4, none, 1, 0, 1, 21, 0, 0) ∈ tables_1 := rx_tab6 (List.mem_of_getElem? (i := 95) rfl)
theorem rx_cw190 : rx_cw (1, ⟨"RingDrive$Channel", "add", "(I)V"⟩, prog_3_method_7_code, 2, none, 1, 0, 0, 0, 0, 0) ∈ tables_1 := rx_tab6 (List.mem_of_getElem? (i := 99) rfl)
theorem rx_cw191 : rx_cw (5, ⟨"RingDrive$Dos", "addEntry", "(LRingDrive$Channel;)V"⟩, prog_7_method_25_code, 3, none, 1, 0, 5, 106, 0, 0) ∈ tables_1 := rx_tab6 (List.mem_of_getElem? (i := 103) rfl)
theorem rx_cw192 : rx_cw (3, ⟨"RingDrive$Directory", "count", "()I"⟩, prog_5_method_14_code, 1, (Option.some Jvm.ClassFile.FieldType.int), 0, 0, 1, 20, 0, 0) ∈ tables_1 := rx_tab6 (List.mem_of_getElem? (i := 107) rfl)
theorem rx_cw193 : rx_cw (1, ⟨"RingDrive$Channel", "addNumber", "(I)V"⟩, prog_3_method_8_code, 4, none, 1, 0, 1, 21, 0, 0) ∈ tables_1 := rx_tab6 (List.mem_of_getElem? (i := 111) rfl)
theorem rx_cw194 : rx_cw (3, ⟨"RingDrive$Directory", "nameByte", "(I)I"⟩, prog_5_method_13_code, 2, (Option.some Jvm.ClassFile.FieldType.int), 1, 0, 1, 20, 0, 0) ∈ tables_1 := rx_tab6 (List.mem_of_getElem? (i := 116) rfl)
theorem rx_cw195 : rx_cw (5, ⟨"RingDrive$Dos", "addFree", "(LRingDrive$Channel;)V"⟩, prog_7_method_26_code, 2, none, 1, 0, 2, 44, 0, 0) ∈ tables_1 := rx_tab6 (List.mem_of_getElem? (i := 122) rfl)
theorem rx_cw196 : rx_cw (0, ⟨"RingDrive$BlockMap", "freeSum", "()I"⟩, prog_2_method_6_code, 3, (Option.some Jvm.ClassFile.FieldType.int), 0, 0, 0, 0, 0, 0) ∈ tables_1 := rx_tab6 (List.mem_of_getElem? (i := 126) rfl)
theorem rx_cw197 : rx_cw (5, ⟨"RingDrive$Dos", "readNext", "(LRingDrive$Channel;)I"⟩, prog_7_method_22_code, 5, (Option.some Jvm.ClassFile.FieldType.int), 1, 0, 3, 89, 0, 0) ∈ tables_1 := rx_tab6 (List.mem_of_getElem? (i := 130) rfl)
theorem rx_cw198 : rx_cw (11, ⟨"RingDrive", "out", "(I)I"⟩, prog_1_method_7_code, 2, (Option.some Jvm.ClassFile.FieldType.int), 1, 0, 0, 0, 0, 0) ∈ tables_1 := rx_tab6 (List.mem_of_getElem? (i := 135) rfl)
theorem rx_cw199 : rx_cw (11, ⟨"RingDrive", "look", "(I)I"⟩, prog_1_method_8_code, 2, (Option.some Jvm.ClassFile.FieldType.int), 1, 0, 1, 22, 0, 0) ∈ tables_1 := rx_tab6 (List.mem_of_getElem? (i := 139) rfl)
theorem rx_cwl4 : ∀ M ∈ rx_MT_4, rx_cw M ∈ tables_1 := rx_cw_c rx_cw160 (rx_cw_c rx_cw161 (rx_cw_c rx_cw162 (rx_cw_c rx_cw163 (rx_cw_c rx_cw164 (rx_cw_c rx_cw165 (rx_cw_c rx_cw166 (rx_cw_c rx_cw167 (rx_cw_c rx_cw168 (rx_cw_c rx_cw169 (rx_cw_c rx_cw170 (rx_cw_c rx_cw171 (rx_cw_c rx_cw172 (rx_cw_c rx_cw173 (rx_cw_c rx_cw174 (rx_cw_c rx_cw175 (rx_cw_c rx_cw176 (rx_cw_c rx_cw177 (rx_cw_c rx_cw178 (rx_cw_c rx_cw179 (rx_cw_c rx_cw180 (rx_cw_c rx_cw181 (rx_cw_c rx_cw182 (rx_cw_c rx_cw183 (rx_cw_c rx_cw184 (rx_cw_c rx_cw185 (rx_cw_c rx_cw186 (rx_cw_c rx_cw187 (rx_cw_c rx_cw188 (rx_cw_c rx_cw189 (rx_cw_c rx_cw190 (rx_cw_c rx_cw191 (rx_cw_c rx_cw192 (rx_cw_c rx_cw193 (rx_cw_c rx_cw194 (rx_cw_c rx_cw195 (rx_cw_c rx_cw196 (rx_cw_c rx_cw197 (rx_cw_c rx_cw198 (rx_cw_c rx_cw199 (fun X hX => absurd hX List.not_mem_nil))))))))))))))))))))))))))))))))))))))))
theorem rx_cw200 : rx_cw (11, ⟨"RingDrive", "bits", "(II)I"⟩, prog_1_method_9_code, 4, (Option.some Jvm.ClassFile.FieldType.int), 2, 0, 2, 47, 0, 0) ∈ tables_1 := rx_tab6 (List.mem_of_getElem? (i := 144) rfl)
theorem rx_cw201 : rx_cw (8, ⟨"RingDrive$Ring", "hasBit", "(I)Z"⟩, prog_10_method_2_code, 2, (Option.some Jvm.ClassFile.FieldType.boolean), 1, 0, 0, 0, 0, 0) ∈ tables_1 := rx_tab6 (List.mem_of_getElem? (i := 149) rfl)
theorem rx_cw202 : rx_cw (8, ⟨"RingDrive$Ring", "word", "(I)I"⟩, prog_10_method_3_code, 4, (Option.some Jvm.ClassFile.FieldType.int), 1, 0, 1, 24, 0, 0) ∈ tables_1 := rx_tab6 (List.mem_of_getElem? (i := 153) rfl)
theorem rx_cw203 : rx_cw (8, ⟨"RingDrive$Ring", "eight", "(I)I"⟩, prog_10_method_5_code, 5, (Option.some Jvm.ClassFile.FieldType.int), 1, 0, 0, 0, 0, 0) ∈ tables_1 := rx_tab6 (List.mem_of_getElem? (i := 157) rfl)
theorem rx_cw204 : rx_cw (11, ⟨"RingDrive", "turn", "(III)Z"⟩, prog_1_method_10_code, 5, (Option.some Jvm.ClassFile.FieldType.boolean), 3, 0, 2, 50, 0, 0) ∈ tables_1 := rx_tab6 (List.mem_of_getElem? (i := 161) rfl)
theorem rx_cw205 : rx_cw (8, ⟨"RingDrive$Ring", "flip", "(II)V"⟩, prog_10_method_4_code, 4, none, 2, 0, 1, 27, 0, 0) ∈ tables_1 := rx_tab6 (List.mem_of_getElem? (i := 165) rfl)
theorem rx_cw206 : rx_cw (11, ⟨"RingDrive", "protect", "(Z)V"⟩, prog_1_method_11_code, 2, none, 1, 0, 0, 0, 0, 0) ∈ tables_1 := rx_tab6 (List.mem_of_getElem? (i := 169) rfl)
theorem rx_cw207 : rx_cw (11, ⟨"RingDrive", "power", "()V"⟩, prog_1_method_12_code, 1, none, 0, 0, 2, 43, 0, 0) ∈ tables_1 := rx_tab6 (List.mem_of_getElem? (i := 173) rfl)
theorem rx_cw208 : rx_cw (7, ⟨"RingDrive$Processor", "reset", "()V"⟩, prog_9_method_4_code, 1, none, 0, 0, 1, 23, 0, 0) ∈ tables_1 := rx_tab6 (List.mem_of_getElem? (i := 179) rfl)
theorem rx_cw209 : rx_cw (11, ⟨"RingDrive", "memory", "(I)I"⟩, prog_1_method_13_code, 2, (Option.some Jvm.ClassFile.FieldType.int), 1, 0, 1, 21, 0, 0) ∈ tables_1 := rx_tab6 (List.mem_of_getElem? (i := 184) rfl)
theorem rx_cw210 : rx_cw (12, ⟨"RingDriveModel", "feed", "(IIIII)I"⟩, prog_14_method_45_code, 6, (Option.some Jvm.ClassFile.FieldType.int), 5, 0, 1, 22, 0, 0) ∈ tables_1 := rx_tab6 (List.mem_of_getElem? (i := 189) rfl)
theorem rx_cw211 : rx_cw (12, ⟨"RingDriveModel", "types", "(I)V"⟩, prog_14_method_44_code, 3, none, 1, 0, 0, 0, 0, 0) ∈ tables_1 := rx_tab6 (List.mem_of_getElem? (i := 194) rfl)
theorem rx_cw212 : rx_cw (12, ⟨"RingDriveModel", "open", "(II)I"⟩, prog_14_method_47_code, 3, (Option.some Jvm.ClassFile.FieldType.int), 2, 0, 11, 277, 0, 0) ∈ tables_1 := rx_tab6 (List.mem_of_getElem? (i := 198) rfl)
theorem rx_cw213 : rx_cw (12, ⟨"RingDriveModel", "sends", "(I)V"⟩, prog_14_method_46_code, 3, none, 1, 0, 0, 0, 0, 0) ∈ tables_1 := rx_tab6 (List.mem_of_getElem? (i := 202) rfl)
theorem rx_cw214 : rx_cw (12, ⟨"RingDriveModel", "commands", "(I)I"⟩, prog_14_method_81_code, 2, (Option.some Jvm.ClassFile.FieldType.int), 1, 0, 10, 248, 0, 0) ∈ tables_1 := rx_tab6 (List.mem_of_getElem? (i := 206) rfl)
theorem rx_cw215 : rx_cw (12, ⟨"RingDriveModel", "begins", "()V"⟩, prog_14_method_41_code, 1, none, 0, 0, 1, 23, 0, 0) ∈ tables_1 := rx_tab6 (List.mem_of_getElem? (i := 210) rfl)
theorem rx_cw216 : rx_cw (12, ⟨"RingDriveModel", "sets", "(III)V"⟩, prog_14_method_40_code, 4, none, 3, 0, 0, 0, 0, 0) ∈ tables_1 := rx_tab6 (List.mem_of_getElem? (i := 214) rfl)
theorem rx_cw217 : rx_cw (12, ⟨"RingDriveModel", "fault", "(III)I"⟩, prog_14_method_4_code, 4, (Option.some Jvm.ClassFile.FieldType.int), 3, 0, 0, 0, 0, 0) ∈ tables_1 := rx_tab6 (List.mem_of_getElem? (i := 218) rfl)
theorem rx_cw218 : rx_cw (12, ⟨"RingDriveModel", "ends", "(I)I"⟩, prog_14_method_42_code, 2, (Option.some Jvm.ClassFile.FieldType.int), 1, 0, 1, 23, 0, 0) ∈ tables_1 := rx_tab6 (List.mem_of_getElem? (i := 222) rfl)
theorem rx_cw219 : rx_cw (12, ⟨"RingDriveModel", "does", "(I)I"⟩, prog_14_method_83_code, 4, (Option.some Jvm.ClassFile.FieldType.int), 1, 0, 9, 225, 0, 0) ∈ tables_1 := rx_tab6 (List.mem_of_getElem? (i := 226) rfl)
theorem rx_cw220 : rx_cw (12, ⟨"RingDriveModel", "again", "()I"⟩, prog_14_method_84_code, 2, (Option.some Jvm.ClassFile.FieldType.int), 0, 0, 6, 143, 0, 0) ∈ tables_1 := rx_tab6 (List.mem_of_getElem? (i := 230) rfl)
theorem rx_cw221 : rx_cw (12, ⟨"RingDriveModel", "takeId", "()I"⟩, prog_14_method_24_code, 4, (Option.some Jvm.ClassFile.FieldType.int), 0, 0, 3, 69, 0, 0) ∈ tables_1 := rx_tab6 (List.mem_of_getElem? (i := 234) rfl)
theorem rx_cw222 : rx_cw (12, ⟨"RingDriveModel", "round", "(I)I"⟩, prog_14_method_10_code, 7, (Option.some Jvm.ClassFile.FieldType.int), 1, 0, 2, 43, 0, 0) ∈ tables_1 := rx_tab6 (List.mem_of_getElem? (i := 238) rfl)
theorem rx_cw223 : rx_cw (12, ⟨"RingDriveModel", "bytesOf", "(I)I"⟩, prog_14_method_1_code, 1, (Option.some Jvm.ClassFile.FieldType.int), 1, 1, 0, 0, 0, 0) ∈ tables_1 := rx_tab7 (List.mem_of_getElem? (i := 1) rfl)
theorem rx_cw224 : rx_cw (12, ⟨"RingDriveModel", "bitAt", "(II)I"⟩, prog_14_method_5_code, 3, (Option.some Jvm.ClassFile.FieldType.int), 2, 0, 0, 0, 0, 0) ∈ tables_1 := rx_tab7 (List.mem_of_getElem? (i := 5) rfl)
theorem rx_cw225 : rx_cw (12, ⟨"RingDriveModel", "along", "(III)V"⟩, prog_14_method_7_code, 4, none, 3, 0, 1, 20, 0, 0) ∈ tables_1 := rx_tab7 (List.mem_of_getElem? (i := 9) rfl)
theorem rx_cw226 : rx_cw (12, ⟨"RingDriveModel", "goes", "()Z"⟩, prog_14_method_8_code, 2, (Option.some Jvm.ClassFile.FieldType.boolean), 0, 0, 1, 22, 0, 0) ∈ tables_1 := rx_tab7 (List.mem_of_getElem? (i := 13) rfl)
theorem rx_cw227 : rx_cw (12, ⟨"RingDriveModel", "comes", "()I"⟩, prog_14_method_9_code, 2, (Option.some Jvm.ClassFile.FieldType.int), 0, 0, 2, 43, 0, 0) ∈ tables_1 := rx_tab7 (List.mem_of_getElem? (i := 17) rfl)
theorem rx_cw228 : rx_cw (12, ⟨"RingDriveModel", "reads", "(I)Z"⟩, prog_14_method_15_code, 6, (Option.some Jvm.ClassFile.FieldType.boolean), 1, 0, 2, 42, 0, 0) ∈ tables_1 := rx_tab7 (List.mem_of_getElem? (i := 21) rfl)
theorem rx_cw229 : rx_cw (12, ⟨"RingDriveModel", "group", "(I)I"⟩, prog_14_method_14_code, 4, (Option.some Jvm.ClassFile.FieldType.int), 1, 0, 0, 0, 0, 0) ∈ tables_1 := rx_tab7 (List.mem_of_getElem? (i := 25) rfl)
theorem rx_cw230 : rx_cw (12, ⟨"RingDriveModel", "valueOf", "(I)I"⟩, prog_14_method_12_code, 3, (Option.some Jvm.ClassFile.FieldType.int), 1, 1, 1, 20, 0, 0) ∈ tables_1 := rx_tab7 (List.mem_of_getElem? (i := 28) rfl)
theorem rx_cw231 : rx_cw (12, ⟨"RingDriveModel", "groupOf", "(I)I"⟩, prog_14_method_11_code, 1, (Option.some Jvm.ClassFile.FieldType.int), 1, 1, 0, 0, 0, 0) ∈ tables_1 := rx_tab7 (List.mem_of_getElem? (i := 31) rfl)
theorem rx_cw232 : rx_cw (12, ⟨"RingDriveModel", "loads", "()I"⟩, prog_14_method_25_code, 1, (Option.some Jvm.ClassFile.FieldType.int), 0, 0, 5, 123, 0, 0) ∈ tables_1 := rx_tab7 (List.mem_of_getElem? (i := 35) rfl)
theorem rx_cw233 : rx_cw (12, ⟨"RingDriveModel", "readBlock", "(II[II)I"⟩, prog_14_method_20_code, 8, (Option.some Jvm.ClassFile.FieldType.int), 4, 0, 4, 96, 0, 0) ∈ tables_1 := rx_tab7 (List.mem_of_getElem? (i := 39) rfl)
theorem rx_cw234 : rx_cw (12, ⟨"RingDriveModel", "seek", "(II)I"⟩, prog_14_method_18_code, 7, (Option.some Jvm.ClassFile.FieldType.int), 2, 0, 3, 70, 0, 0) ∈ tables_1 := rx_tab7 (List.mem_of_getElem? (i := 43) rfl)
theorem rx_cw235 : rx_cw (12, ⟨"RingDriveModel", "header", "(IIII)V"⟩, prog_14_method_16_code, 5, none, 4, 0, 2, 46, 0, 0) ∈ tables_1 := rx_tab7 (List.mem_of_getElem? (i := 47) rfl)
theorem rx_cw236 : rx_cw (12, ⟨"RingDriveModel", "codes", "(I)V"⟩, prog_14_method_13_code, 7, none, 1, 0, 1, 20, 0, 0) ∈ tables_1 := rx_tab7 (List.mem_of_getElem? (i := 51) rfl)
theorem rx_cw237 : rx_cw (12, ⟨"RingDriveModel", "gets", "()V"⟩, prog_14_method_19_code, 3, none, 0, 0, 3, 64, 0, 0) ∈ tables_1 := rx_tab7 (List.mem_of_getElem? (i := 55) rfl)
theorem rx_cw238 : rx_cw (12, ⟨"RingDriveModel", "validates", "()I"⟩, prog_14_method_91_code, 6, (Option.some Jvm.ClassFile.FieldType.int), 0, 0, 8, 200, 0, 0) ∈ tables_1 := rx_tab7 (List.mem_of_getElem? (i := 59) rfl)
theorem rx_cw239 : rx_cw (12, ⟨"RingDriveModel", "freesAll", "()V"⟩, prog_14_method_87_code, 2, none, 0, 0, 1, 20, 0, 0) ∈ tables_1 := rx_tab7 (List.mem_of_getElem? (i := 63) rfl)
theorem rx_cwl5 : ∀ M ∈ rx_MT_5, rx_cw M ∈ tables_1 := rx_cw_c rx_cw200 (rx_cw_c rx_cw201 (rx_cw_c rx_cw202 (rx_cw_c rx_cw203 (rx_cw_c rx_cw204 (rx_cw_c rx_cw205 (rx_cw_c rx_cw206 (rx_cw_c rx_cw207 (rx_cw_c rx_cw208 (rx_cw_c rx_cw209 (rx_cw_c rx_cw210 (rx_cw_c rx_cw211 (rx_cw_c rx_cw212 (rx_cw_c rx_cw213 (rx_cw_c rx_cw214 (rx_cw_c rx_cw215 (rx_cw_c rx_cw216 (rx_cw_c rx_cw217 (rx_cw_c rx_cw218 (rx_cw_c rx_cw219 (rx_cw_c rx_cw220 (rx_cw_c rx_cw221 (rx_cw_c rx_cw222 (rx_cw_c rx_cw223 (rx_cw_c rx_cw224 (rx_cw_c rx_cw225 (rx_cw_c rx_cw226 (rx_cw_c rx_cw227 (rx_cw_c rx_cw228 (rx_cw_c rx_cw229 (rx_cw_c rx_cw230 (rx_cw_c rx_cw231 (rx_cw_c rx_cw232 (rx_cw_c rx_cw233 (rx_cw_c rx_cw234 (rx_cw_c rx_cw235 (rx_cw_c rx_cw236 (rx_cw_c rx_cw237 (rx_cw_c rx_cw238 (rx_cw_c rx_cw239 (fun X hX => absurd hX List.not_mem_nil))))))))))))))))))))))))))))))))))))))))
theorem rx_cw240 : rx_cw (12, ⟨"RingDriveModel", "sectorsOf", "(I)I"⟩, prog_14_method_2_code, 1, (Option.some Jvm.ClassFile.FieldType.int), 1, 1, 0, 0, 0, 0) ∈ tables_1 := rx_tab7 (List.mem_of_getElem? (i := 66) rfl)
theorem rx_cw241 : rx_cw (12, ⟨"RingDriveModel", "takes", "(II)V"⟩, prog_14_method_28_code, 3, none, 2, 0, 0, 0, 0, 0) ∈ tables_1 := rx_tab7 (List.mem_of_getElem? (i := 70) rfl)
theorem rx_cw242 : rx_cw (12, ⟨"RingDriveModel", "isLegal", "(II)Z"⟩, prog_14_method_3_code, 2, (Option.some Jvm.ClassFile.FieldType.boolean), 2, 1, 1, 20, 0, 0) ∈ tables_1 := rx_tab7 (List.mem_of_getElem? (i := 73) rfl)
theorem rx_cw243 : rx_cw (12, ⟨"RingDriveModel", "isFree", "(II)Z"⟩, prog_14_method_27_code, 3, (Option.some Jvm.ClassFile.FieldType.boolean), 2, 0, 0, 0, 0, 0) ∈ tables_1 := rx_tab7 (List.mem_of_getElem? (i := 77) rfl)
theorem rx_cw244 : rx_cw (12, ⟨"RingDriveModel", "entries", "()I"⟩, prog_14_method_92_code, 6, (Option.some Jvm.ClassFile.FieldType.int), 0, 0, 7, 175, 0, 0) ∈ tables_1 := rx_tab7 (List.mem_of_getElem? (i := 81) rfl)
theorem rx_cw245 : rx_cw (12, ⟨"RingDriveModel", "used", "(III)I"⟩, prog_14_method_93_code, 8, (Option.some Jvm.ClassFile.FieldType.int), 3, 0, 6, 148, 0, 0) ∈ tables_1 := rx_tab7 (List.mem_of_getElem? (i := 85) rfl)
theorem rx_cw246 : rx_cw (12, ⟨"RingDriveModel", "changesType", "(IIII)I"⟩, prog_14_method_38_code, 6, (Option.some Jvm.ClassFile.FieldType.int), 4, 0, 5, 123, 0, 0) ∈ tables_1 := rx_tab7 (List.mem_of_getElem? (i := 89) rfl)
theorem rx_cw247 : rx_cw (12, ⟨"RingDriveModel", "writeBlock", "(II[II)I"⟩, prog_14_method_22_code, 8, (Option.some Jvm.ClassFile.FieldType.int), 4, 0, 4, 96, 0, 0) ∈ tables_1 := rx_tab7 (List.mem_of_getElem? (i := 93) rfl)
theorem rx_cw248 : rx_cw (12, ⟨"RingDriveModel", "lays", "(II)V"⟩, prog_14_method_21_code, 4, none, 2, 0, 1, 25, 0, 0) ∈ tables_1 := rx_tab7 (List.mem_of_getElem? (i := 97) rfl)
theorem rx_cw249 : rx_cw (12, ⟨"RingDriveModel", "setBit", "(III)V"⟩, prog_14_method_6_code, 6, none, 3, 0, 0, 0, 0, 0) ∈ tables_1 := rx_tab7 (List.mem_of_getElem? (i := 101) rfl)
theorem rx_cw250 : rx_cw (12, ⟨"RingDriveModel", "data", "([II)V"⟩, prog_14_method_17_code, 5, none, 2, 0, 2, 46, 0, 0) ∈ tables_1 := rx_tab7 (List.mem_of_getElem? (i := 105) rfl)
theorem rx_cw251 : rx_cw (12, ⟨"RingDriveModel", "uses", "(II)I"⟩, prog_14_method_90_code, 3, (Option.some Jvm.ClassFile.FieldType.int), 2, 0, 2, 41, 0, 0) ∈ tables_1 := rx_tab7 (List.mem_of_getElem? (i := 109) rfl)
theorem rx_cw252 : rx_cw (12, ⟨"RingDriveModel", "stores", "()I"⟩, prog_14_method_26_code, 1, (Option.some Jvm.ClassFile.FieldType.int), 0, 0, 5, 123, 0, 0) ∈ tables_1 := rx_tab7 (List.mem_of_getElem? (i := 113) rfl)
theorem rx_cw253 : rx_cw (12, ⟨"RingDriveModel", "shutsAll", "()V"⟩, prog_14_method_59_code, 2, none, 0, 0, 0, 0, 0, 0) ∈ tables_1 := rx_tab7 (List.mem_of_getElem? (i := 117) rfl)
theorem rx_cw254 : rx_cw (12, ⟨"RingDriveModel", "news", "(I)I"⟩, prog_14_method_85_code, 9, (Option.some Jvm.ClassFile.FieldType.int), 1, 0, 7, 166, 0, 0) ∈ tables_1 := rx_tab7 (List.mem_of_getElem? (i := 121) rfl)
theorem rx_cw255 : rx_cw (12, ⟨"RingDriveModel", "isWild", "(II)Z"⟩, prog_14_method_51_code, 5, (Option.some Jvm.ClassFile.FieldType.boolean), 2, 0, 0, 0, 0, 0) ∈ tables_1 := rx_tab7 (List.mem_of_getElem? (i := 125) rfl)
theorem rx_cw256 : rx_cw (12, ⟨"RingDriveModel", "format", "(III)I"⟩, prog_14_method_23_code, 6, (Option.some Jvm.ClassFile.FieldType.int), 3, 0, 3, 70, 0, 0) ∈ tables_1 := rx_tab7 (List.mem_of_getElem? (i := 129) rfl)
theorem rx_cw257 : rx_cw (12, ⟨"RingDriveModel", "maps", "(I)I"⟩, prog_14_method_86_code, 4, (Option.some Jvm.ClassFile.FieldType.int), 1, 0, 6, 143, 0, 0) ∈ tables_1 := rx_tab7 (List.mem_of_getElem? (i := 133) rfl)
theorem rx_cw258 : rx_cw (12, ⟨"RingDriveModel", "scratch", "(I)I"⟩, prog_14_method_88_code, 5, (Option.some Jvm.ClassFile.FieldType.int), 1, 0, 8, 197, 0, 0) ∈ tables_1 := rx_tab7 (List.mem_of_getElem? (i := 137) rfl)
theorem rx_cw259 : rx_cw (12, ⟨"RingDriveModel", "finds", "(I[III)I"⟩, prog_14_method_37_code, 11, (Option.some Jvm.ClassFile.FieldType.int), 4, 0, 5, 123, 0, 0) ∈ tables_1 := rx_tab7 (List.mem_of_getElem? (i := 141) rfl)
theorem rx_cw260 : rx_cw (12, ⟨"RingDriveModel", "fits", "([III[II)Z"⟩, prog_14_method_35_code, 7, (Option.some Jvm.ClassFile.FieldType.boolean), 5, 1, 0, 0, 0, 0) ∈ tables_1 := rx_tab7 (List.mem_of_getElem? (i := 144) rfl)
theorem rx_cw261 : rx_cw (12, ⟨"RingDriveModel", "same", "([III[II)Z"⟩, prog_14_method_36_code, 7, (Option.some Jvm.ClassFile.FieldType.boolean), 5, 1, 0, 0, 0, 0) ∈ tables_1 := rx_tab7 (List.mem_of_getElem? (i := 147) rfl)
theorem rx_cw262 : rx_cw (12, ⟨"RingDriveModel", "scratches", "()I"⟩, prog_14_method_39_code, 5, (Option.some Jvm.ClassFile.FieldType.int), 0, 0, 7, 173, 0, 0) ∈ tables_1 := rx_tab7 (List.mem_of_getElem? (i := 151) rfl)
theorem rx_cw263 : rx_cw (12, ⟨"RingDriveModel", "freesChain", "(II)I"⟩, prog_14_method_34_code, 11, (Option.some Jvm.ClassFile.FieldType.int), 2, 0, 6, 143, 0, 0) ∈ tables_1 := rx_tab7 (List.mem_of_getElem? (i := 155) rfl)
theorem rx_cw264 : rx_cw (12, ⟨"RingDriveModel", "givesBack", "(II)V"⟩, prog_14_method_29_code, 3, none, 2, 0, 2, 41, 0, 0) ∈ tables_1 := rx_tab7 (List.mem_of_getElem? (i := 159) rfl)
theorem rx_cw265 : rx_cw (12, ⟨"RingDriveModel", "renames", "(I)I"⟩, prog_14_method_89_code, 7, (Option.some Jvm.ClassFile.FieldType.int), 1, 0, 6, 153, 0, 0) ∈ tables_1 := rx_tab7 (List.mem_of_getElem? (i := 163) rfl)
theorem rx_cw266 : rx_cw (12, ⟨"RingDriveModel", "blockOf", "(IZ)I"⟩, prog_14_method_97_code, 7, (Option.some Jvm.ClassFile.FieldType.int), 2, 0, 5, 123, 0, 0) ∈ tables_1 := rx_tab7 (List.mem_of_getElem? (i := 167) rfl)
theorem rx_cw267 : rx_cw (12, ⟨"RingDriveModel", "numbers", "(I)Z"⟩, prog_14_method_94_code, 2, (Option.some Jvm.ClassFile.FieldType.boolean), 1, 0, 0, 0, 0, 0) ∈ tables_1 := rx_tab7 (List.mem_of_getElem? (i := 171) rfl)
theorem rx_cw268 : rx_cw (12, ⟨"RingDriveModel", "numberNext", "(I)I"⟩, prog_14_method_96_code, 4, (Option.some Jvm.ClassFile.FieldType.int), 1, 0, 1, 20, 0, 0) ∈ tables_1 := rx_tab7 (List.mem_of_getElem? (i := 175) rfl)
theorem rx_cw269 : rx_cw (12, ⟨"RingDriveModel", "isDigit", "(I)Z"⟩, prog_14_method_95_code, 1, (Option.some Jvm.ClassFile.FieldType.boolean), 1, 1, 0, 0, 0, 0) ∈ tables_1 := rx_tab7 (List.mem_of_getElem? (i := 178) rfl)
theorem rx_cw270 : rx_cw (12, ⟨"RingDriveModel", "begins3", "(III)Z"⟩, prog_14_method_82_code, 4, (Option.some Jvm.ClassFile.FieldType.boolean), 3, 0, 0, 0, 0, 0) ∈ tables_1 := rx_tab7 (List.mem_of_getElem? (i := 182) rfl)
theorem rx_cw271 : rx_cw (12, ⟨"RingDriveModel", "pointer", "(I)I"⟩, prog_14_method_98_code, 4, (Option.some Jvm.ClassFile.FieldType.int), 1, 0, 2, 43, 0, 0) ∈ tables_1 := rx_tab7 (List.mem_of_getElem? (i := 186) rfl)
theorem rx_cw272 : rx_cw (12, ⟨"RingDriveModel", "allocates", "(I)I"⟩, prog_14_method_99_code, 7, (Option.some Jvm.ClassFile.FieldType.int), 1, 0, 6, 143, 0, 0) ∈ tables_1 := rx_tab7 (List.mem_of_getElem? (i := 190) rfl)
theorem rx_cw273 : rx_cw (12, ⟨"RingDriveModel", "frees", "(I)I"⟩, prog_14_method_100_code, 5, (Option.some Jvm.ClassFile.FieldType.int), 1, 0, 6, 143, 0, 0) ∈ tables_1 := rx_tab7 (List.mem_of_getElem? (i := 194) rfl)
theorem rx_cw274 : rx_cw (12, ⟨"RingDriveModel", "memories", "(I)I"⟩, prog_14_method_103_code, 7, (Option.some Jvm.ClassFile.FieldType.int), 1, 0, 8, 174, 0, 0) ∈ tables_1 := rx_tab7 (List.mem_of_getElem? (i := 198) rfl)
theorem rx_cw275 : rx_cw (12, ⟨"RingDriveModel", "put", "(II)V"⟩, prog_14_method_102_code, 3, none, 2, 0, 0, 0, 0, 0) ∈ tables_1 := rx_tab7 (List.mem_of_getElem? (i := 202) rfl)
theorem rx_cw276 : rx_cw (12, ⟨"RingDriveModel", "get", "(I)I"⟩, prog_14_method_101_code, 2, (Option.some Jvm.ClassFile.FieldType.int), 1, 0, 0, 0, 0, 0) ∈ tables_1 := rx_tab7 (List.mem_of_getElem? (i := 206) rfl)
theorem rx_cw277 : rx_cw (12, ⟨"RingDriveModel", "runs", "(I)I"⟩, prog_14_method_104_code, 4, (Option.some Jvm.ClassFile.FieldType.int), 1, 0, 7, 151, 0, 0) ∈ tables_1 := rx_tab7 (List.mem_of_getElem? (i := 210) rfl)
theorem rx_cw278 : rx_cw (12, ⟨"RingDriveModel", "step", "(I)Z"⟩, prog_14_method_128_code, 2, (Option.some Jvm.ClassFile.FieldType.boolean), 1, 0, 6, 130, 0, 0) ∈ tables_1 := rx_tab7 (List.mem_of_getElem? (i := 214) rfl)
theorem rx_cw279 : rx_cw (12, ⟨"RingDriveModel", "works", "(I)Z"⟩, prog_14_method_119_code, 6, (Option.some Jvm.ClassFile.FieldType.boolean), 1, 0, 4, 86, 0, 0) ∈ tables_1 := rx_tab7 (List.mem_of_getElem? (i := 218) rfl)
theorem rx_cwl6 : ∀ M ∈ rx_MT_6, rx_cw M ∈ tables_1 := rx_cw_c rx_cw240 (rx_cw_c rx_cw241 (rx_cw_c rx_cw242 (rx_cw_c rx_cw243 (rx_cw_c rx_cw244 (rx_cw_c rx_cw245 (rx_cw_c rx_cw246 (rx_cw_c rx_cw247 (rx_cw_c rx_cw248 (rx_cw_c rx_cw249 (rx_cw_c rx_cw250 (rx_cw_c rx_cw251 (rx_cw_c rx_cw252 (rx_cw_c rx_cw253 (rx_cw_c rx_cw254 (rx_cw_c rx_cw255 (rx_cw_c rx_cw256 (rx_cw_c rx_cw257 (rx_cw_c rx_cw258 (rx_cw_c rx_cw259 (rx_cw_c rx_cw260 (rx_cw_c rx_cw261 (rx_cw_c rx_cw262 (rx_cw_c rx_cw263 (rx_cw_c rx_cw264 (rx_cw_c rx_cw265 (rx_cw_c rx_cw266 (rx_cw_c rx_cw267 (rx_cw_c rx_cw268 (rx_cw_c rx_cw269 (rx_cw_c rx_cw270 (rx_cw_c rx_cw271 (rx_cw_c rx_cw272 (rx_cw_c rx_cw273 (rx_cw_c rx_cw274 (rx_cw_c rx_cw275 (rx_cw_c rx_cw276 (rx_cw_c rx_cw277 (rx_cw_c rx_cw278 (rx_cw_c rx_cw279 (fun X hX => absurd hX List.not_mem_nil))))))))))))))))))))))))))))))))))))))))
theorem rx_cw280 : rx_cw (12, ⟨"RingDriveModel", "howOf", "(I)I"⟩, prog_14_method_115_code, 1, (Option.some Jvm.ClassFile.FieldType.int), 1, 1, 0, 0, 0, 0) ∈ tables_1 := rx_tab7 (List.mem_of_getElem? (i := 221) rfl)
theorem rx_cw281 : rx_cw (12, ⟨"RingDriveModel", "address", "(I)I"⟩, prog_14_method_112_code, 4, (Option.some Jvm.ClassFile.FieldType.int), 1, 0, 3, 63, 0, 0) ∈ tables_1 := rx_tab7 (List.mem_of_getElem? (i := 225) rfl)
theorem rx_cw282 : rx_cw (12, ⟨"RingDriveModel", "byteNext", "()I"⟩, prog_14_method_105_code, 2, (Option.some Jvm.ClassFile.FieldType.int), 0, 0, 1, 21, 0, 0) ∈ tables_1 := rx_tab7 (List.mem_of_getElem? (i := 229) rfl)
theorem rx_cw283 : rx_cw (12, ⟨"RingDriveModel", "wordNext", "()I"⟩, prog_14_method_106_code, 2, (Option.some Jvm.ClassFile.FieldType.int), 0, 0, 2, 42, 0, 0) ∈ tables_1 := rx_tab7 (List.mem_of_getElem? (i := 233) rfl)
theorem rx_cw284 : rx_cw (12, ⟨"RingDriveModel", "storeTime", "(I)I"⟩, prog_14_method_114_code, 1, (Option.some Jvm.ClassFile.FieldType.int), 1, 1, 0, 0, 0, 0) ∈ tables_1 := rx_tab7 (List.mem_of_getElem? (i := 236) rfl)
theorem rx_cw285 : rx_cw (12, ⟨"RingDriveModel", "readTime", "(I)I"⟩, prog_14_method_113_code, 3, (Option.some Jvm.ClassFile.FieldType.int), 1, 0, 0, 0, 0, 0) ∈ tables_1 := rx_tab8 (List.mem_of_getElem? (i := 0) rfl)
theorem rx_cw286 : rx_cw (12, ⟨"RingDriveModel", "marks", "(I)I"⟩, prog_14_method_109_code, 2, (Option.some Jvm.ClassFile.FieldType.int), 1, 0, 1, 22, 0, 0) ∈ tables_1 := rx_tab8 (List.mem_of_getElem? (i := 4) rfl)
theorem rx_cw287 : rx_cw (12, ⟨"RingDriveModel", "flag", "(IZ)V"⟩, prog_14_method_108_code, 3, none, 2, 0, 0, 0, 0, 0) ∈ tables_1 := rx_tab8 (List.mem_of_getElem? (i := 8) rfl)
theorem rx_cw288 : rx_cw (12, ⟨"RingDriveModel", "adds", "(I)V"⟩, prog_14_method_116_code, 6, none, 1, 0, 2, 43, 0, 0) ∈ tables_1 := rx_tab8 (List.mem_of_getElem? (i := 12) rfl)
theorem rx_cw289 : rx_cw (12, ⟨"RingDriveModel", "is", "(I)Z"⟩, prog_14_method_107_code, 2, (Option.some Jvm.ClassFile.FieldType.boolean), 1, 0, 0, 0, 0, 0) ∈ tables_1 := rx_tab8 (List.mem_of_getElem? (i := 16) rfl)
theorem rx_cw290 : rx_cw (12, ⟨"RingDriveModel", "compares", "(II)V"⟩, prog_14_method_118_code, 3, none, 2, 0, 2, 43, 0, 0) ∈ tables_1 := rx_tab8 (List.mem_of_getElem? (i := 20) rfl)
theorem rx_cw291 : rx_cw (12, ⟨"RingDriveModel", "takesOff", "(I)V"⟩, prog_14_method_117_code, 8, none, 1, 0, 2, 43, 0, 0) ∈ tables_1 := rx_tab8 (List.mem_of_getElem? (i := 24) rfl)
theorem rx_cw292 : rx_cw (12, ⟨"RingDriveModel", "twos", "(I)Z"⟩, prog_14_method_129_code, 2, (Option.some Jvm.ClassFile.FieldType.boolean), 1, 0, 5, 109, 0, 0) ∈ tables_1 := rx_tab8 (List.mem_of_getElem? (i := 28) rfl)
theorem rx_cw293 : rx_cw (12, ⟨"RingDriveModel", "shifted", "(II)I"⟩, prog_14_method_120_code, 4, (Option.some Jvm.ClassFile.FieldType.int), 2, 0, 2, 43, 0, 0) ∈ tables_1 := rx_tab8 (List.mem_of_getElem? (i := 32) rfl)
theorem rx_cw294 : rx_cw (12, ⟨"RingDriveModel", "takes2", "(I)Z"⟩, prog_14_method_127_code, 2, (Option.some Jvm.ClassFile.FieldType.boolean), 1, 0, 0, 0, 0, 0) ∈ tables_1 := rx_tab8 (List.mem_of_getElem? (i := 36) rfl)
theorem rx_cw295 : rx_cw (12, ⟨"RingDriveModel", "changes", "(II)V"⟩, prog_14_method_121_code, 4, none, 2, 0, 4, 86, 0, 0) ∈ tables_1 := rx_tab8 (List.mem_of_getElem? (i := 40) rfl)
theorem rx_cw296 : rx_cw (12, ⟨"RingDriveModel", "keeps", "(II)Z"⟩, prog_14_method_124_code, 3, (Option.some Jvm.ClassFile.FieldType.boolean), 2, 0, 4, 86, 0, 0) ∈ tables_1 := rx_tab8 (List.mem_of_getElem? (i := 44) rfl)
theorem rx_cw297 : rx_cw (12, ⟨"RingDriveModel", "fetches", "(II)Z"⟩, prog_14_method_123_code, 4, (Option.some Jvm.ClassFile.FieldType.boolean), 2, 0, 4, 86, 0, 0) ∈ tables_1 := rx_tab8 (List.mem_of_getElem? (i := 48) rfl)
theorem rx_cw298 : rx_cw (12, ⟨"RingDriveModel", "zeros", "(I)Z"⟩, prog_14_method_130_code, 2, (Option.some Jvm.ClassFile.FieldType.boolean), 1, 0, 5, 109, 0, 0) ∈ tables_1 := rx_tab8 (List.mem_of_getElem? (i := 52) rfl)
theorem rx_cw299 : rx_cw (12, ⟨"RingDriveModel", "branch", "(Z)V"⟩, prog_14_method_122_code, 4, none, 1, 0, 2, 42, 0, 0) ∈ tables_1 := rx_tab8 (List.mem_of_getElem? (i := 56) rfl)
theorem rx_cw300 : rx_cw (12, ⟨"RingDriveModel", "tests", "(I)Z"⟩, prog_14_method_126_code, 3, (Option.some Jvm.ClassFile.FieldType.boolean), 1, 0, 4, 86, 0, 0) ∈ tables_1 := rx_tab8 (List.mem_of_getElem? (i := 60) rfl)
theorem rx_cw301 : rx_cw (12, ⟨"RingDriveModel", "compared", "(II)Z"⟩, prog_14_method_125_code, 4, (Option.some Jvm.ClassFile.FieldType.boolean), 2, 0, 4, 86, 0, 0) ∈ tables_1 := rx_tab8 (List.mem_of_getElem? (i := 64) rfl)
theorem rx_cw302 : rx_cw (12, ⟨"RingDriveModel", "push", "(I)V"⟩, prog_14_method_110_code, 2, none, 1, 0, 1, 22, 0, 0) ∈ tables_1 := rx_tab8 (List.mem_of_getElem? (i := 68) rfl)
theorem rx_cw303 : rx_cw (12, ⟨"RingDriveModel", "pull", "()I"⟩, prog_14_method_111_code, 1, (Option.some Jvm.ClassFile.FieldType.int), 0, 0, 1, 21, 0, 0) ∈ tables_1 := rx_tab8 (List.mem_of_getElem? (i := 72) rfl)
theorem rx_cw304 : rx_cw (12, ⟨"RingDriveModel", "jumps", "(I)Z"⟩, prog_14_method_131_code, 4, (Option.some Jvm.ClassFile.FieldType.boolean), 1, 0, 3, 63, 0, 0) ∈ tables_1 := rx_tab8 (List.mem_of_getElem? (i := 76) rfl)
theorem rx_cw305 : rx_cw (12, ⟨"RingDriveModel", "opens", "(II)I"⟩, prog_14_method_48_code, 4, (Option.some Jvm.ClassFile.FieldType.int), 2, 0, 10, 254, 0, 0) ∈ tables_1 := rx_tab8 (List.mem_of_getElem? (i := 80) rfl)
theorem rx_cw306 : rx_cw (12, ⟨"RingDriveModel", "shuts", "(I)I"⟩, prog_14_method_57_code, 5, (Option.some Jvm.ClassFile.FieldType.int), 1, 0, 5, 123, 0, 0) ∈ tables_1 := rx_tab8 (List.mem_of_getElem? (i := 84) rfl)
theorem rx_cw307 : rx_cw (12, ⟨"RingDriveModel", "openMany", "()I"⟩, prog_14_method_43_code, 3, (Option.some Jvm.ClassFile.FieldType.int), 0, 0, 0, 0, 0, 0) ∈ tables_1 := rx_tab8 (List.mem_of_getElem? (i := 88) rfl)
theorem rx_cw308 : rx_cw (12, ⟨"RingDriveModel", "opensList", "(II)I"⟩, prog_14_method_49_code, 5, (Option.some Jvm.ClassFile.FieldType.int), 2, 0, 1, 23, 0, 0) ∈ tables_1 := rx_tab8 (List.mem_of_getElem? (i := 92) rfl)
theorem rx_cw309 : rx_cw (12, ⟨"RingDriveModel", "opensFile", "(II)I"⟩, prog_14_method_50_code, 10, (Option.some Jvm.ClassFile.FieldType.int), 2, 0, 9, 225, 0, 0) ∈ tables_1 := rx_tab8 (List.mem_of_getElem? (i := 96) rfl)
theorem rx_cw310 : rx_cw (12, ⟨"RingDriveModel", "opensNew", "(IIIIZ)I"⟩, prog_14_method_55_code, 9, (Option.some Jvm.ClassFile.FieldType.int), 5, 0, 8, 197, 0, 0) ∈ tables_1 := rx_tab8 (List.mem_of_getElem? (i := 100) rfl)
theorem rx_cw311 : rx_cw (12, ⟨"RingDriveModel", "makesEntry", "()I"⟩, prog_14_method_54_code, 6, (Option.some Jvm.ClassFile.FieldType.int), 0, 0, 6, 153, 0, 0) ∈ tables_1 := rx_tab8 (List.mem_of_getElem? (i := 104) rfl)
theorem rx_cw312 : rx_cw (12, ⟨"RingDriveModel", "lowest", "(I)I"⟩, prog_14_method_30_code, 4, (Option.some Jvm.ClassFile.FieldType.int), 1, 0, 1, 22, 0, 0) ∈ tables_1 := rx_tab8 (List.mem_of_getElem? (i := 108) rfl)
theorem rx_cw313 : rx_cw (12, ⟨"RingDriveModel", "takesOne", "()I"⟩, prog_14_method_32_code, 4, (Option.some Jvm.ClassFile.FieldType.int), 0, 0, 2, 45, 0, 0) ∈ tables_1 := rx_tab8 (List.mem_of_getElem? (i := 112) rfl)
theorem rx_cw314 : rx_cw (12, ⟨"RingDriveModel", "trackOf", "(I)I"⟩, prog_14_method_31_code, 1, (Option.some Jvm.ClassFile.FieldType.int), 1, 1, 0, 0, 0, 0) ∈ tables_1 := rx_tab8 (List.mem_of_getElem? (i := 115) rfl)
theorem rx_cw315 : rx_cw (12, ⟨"RingDriveModel", "clears", "(I)V"⟩, prog_14_method_56_code, 3, none, 1, 0, 0, 0, 0, 0) ∈ tables_1 := rx_tab8 (List.mem_of_getElem? (i := 119) rfl)
theorem rx_cw316 : rx_cw (12, ⟨"RingDriveModel", "opensOld", "(IIII)I"⟩, prog_14_method_53_code, 9, (Option.some Jvm.ClassFile.FieldType.int), 4, 0, 6, 153, 0, 0) ∈ tables_1 := rx_tab8 (List.mem_of_getElem? (i := 123) rfl)
theorem rx_cw317 : rx_cw (12, ⟨"RingDriveModel", "begun", "(I)V"⟩, prog_14_method_52_code, 4, none, 1, 0, 0, 0, 0, 0) ∈ tables_1 := rx_tab8 (List.mem_of_getElem? (i := 127) rfl)
theorem rx_cw318 : rx_cw (12, ⟨"RingDriveModel", "close", "(I)I"⟩, prog_14_method_58_code, 4, (Option.some Jvm.ClassFile.FieldType.int), 1, 0, 6, 147, 0, 0) ∈ tables_1 := rx_tab8 (List.mem_of_getElem? (i := 131) rfl)
theorem rx_cw319 : rx_cw (12, ⟨"RingDriveModel", "read", "(II)I"⟩, prog_14_method_61_code, 4, (Option.some Jvm.ClassFile.FieldType.int), 2, 0, 9, 218, 0, 0) ∈ tables_1 := rx_tab8 (List.mem_of_getElem? (i := 135) rfl)
theorem rx_cwl7 : ∀ M ∈ rx_MT_7, rx_cw M ∈ tables_1 := rx_cw_c rx_cw280 (rx_cw_c rx_cw281 (rx_cw_c rx_cw282 (rx_cw_c rx_cw283 (rx_cw_c rx_cw284 (rx_cw_c rx_cw285 (rx_cw_c rx_cw286 (rx_cw_c rx_cw287 (rx_cw_c rx_cw288 (rx_cw_c rx_cw289 (rx_cw_c rx_cw290 (rx_cw_c rx_cw291 (rx_cw_c rx_cw292 (rx_cw_c rx_cw293 (rx_cw_c rx_cw294 (rx_cw_c rx_cw295 (rx_cw_c rx_cw296 (rx_cw_c rx_cw297 (rx_cw_c rx_cw298 (rx_cw_c rx_cw299 (rx_cw_c rx_cw300 (rx_cw_c rx_cw301 (rx_cw_c rx_cw302 (rx_cw_c rx_cw303 (rx_cw_c rx_cw304 (rx_cw_c rx_cw305 (rx_cw_c rx_cw306 (rx_cw_c rx_cw307 (rx_cw_c rx_cw308 (rx_cw_c rx_cw309 (rx_cw_c rx_cw310 (rx_cw_c rx_cw311 (rx_cw_c rx_cw312 (rx_cw_c rx_cw313 (rx_cw_c rx_cw314 (rx_cw_c rx_cw315 (rx_cw_c rx_cw316 (rx_cw_c rx_cw317 (rx_cw_c rx_cw318 (rx_cw_c rx_cw319 (fun X hX => absurd hX List.not_mem_nil))))))))))))))))))))))))))))))))))))))))
theorem rx_cw320 : rx_cw (12, ⟨"RingDriveModel", "givesMore", "(I)V"⟩, prog_14_method_62_code, 2, none, 1, 0, 1, 21, 0, 0) ∈ tables_1 := rx_tab8 (List.mem_of_getElem? (i := 139) rfl)
theorem rx_cw321 : rx_cw (12, ⟨"RingDriveModel", "gives", "(I)V"⟩, prog_14_method_60_code, 2, none, 1, 0, 0, 0, 0, 0) ∈ tables_1 := rx_tab8 (List.mem_of_getElem? (i := 143) rfl)
theorem rx_cw322 : rx_cw (12, ⟨"RingDriveModel", "givesStatus", "(I)V"⟩, prog_14_method_68_code, 2, none, 1, 0, 3, 66, 0, 0) ∈ tables_1 := rx_tab8 (List.mem_of_getElem? (i := 147) rfl)
theorem rx_cw323 : rx_cw (12, ⟨"RingDriveModel", "saysTwo", "(I)V"⟩, prog_14_method_66_code, 2, none, 1, 0, 1, 21, 0, 0) ∈ tables_1 := rx_tab8 (List.mem_of_getElem? (i := 151) rfl)
theorem rx_cw324 : rx_cw (12, ⟨"RingDriveModel", "says", "(I)V"⟩, prog_14_method_63_code, 2, none, 1, 0, 0, 0, 0, 0) ∈ tables_1 := rx_tab8 (List.mem_of_getElem? (i := 155) rfl)
theorem rx_cw325 : rx_cw (12, ⟨"RingDriveModel", "saysWords", "(I)V"⟩, prog_14_method_67_code, 2, none, 1, 0, 2, 45, 0, 0) ∈ tables_1 := rx_tab8 (List.mem_of_getElem? (i := 159) rfl)
theorem rx_cw326 : rx_cw (12, ⟨"RingDriveModel", "says8", "(J)V"⟩, prog_14_method_64_code, 5, none, 1, 0, 1, 21, 0, 0) ∈ tables_1 := rx_tab8 (List.mem_of_getElem? (i := 164) rfl)
theorem rx_cw327 : rx_cw (12, ⟨"RingDriveModel", "readsFile", "(II)I"⟩, prog_14_method_69_code, 8, (Option.some Jvm.ClassFile.FieldType.int), 2, 0, 5, 123, 0, 0) ∈ tables_1 := rx_tab8 (List.mem_of_getElem? (i := 205) rfl)
theorem rx_cw328 : rx_cw (12, ⟨"RingDriveModel", "readsList", "(II)I"⟩, prog_14_method_71_code, 6, (Option.some Jvm.ClassFile.FieldType.int), 2, 0, 8, 193, 0, 0) ∈ tables_1 := rx_tab8 (List.mem_of_getElem? (i := 209) rfl)
theorem rx_cw329 : rx_cw (12, ⟨"RingDriveModel", "title", "(I)I"⟩, prog_14_method_72_code, 4, (Option.some Jvm.ClassFile.FieldType.int), 1, 0, 6, 143, 0, 0) ∈ tables_1 := rx_tab8 (List.mem_of_getElem? (i := 213) rfl)
theorem rx_cw330 : rx_cw (12, ⟨"RingDriveModel", "next", "(I)I"⟩, prog_14_method_73_code, 7, (Option.some Jvm.ClassFile.FieldType.int), 1, 0, 7, 167, 0, 0) ∈ tables_1 := rx_tab8 (List.mem_of_getElem? (i := 217) rfl)
theorem rx_cw331 : rx_cw (12, ⟨"RingDriveModel", "entryLine", "(I)V"⟩, prog_14_method_74_code, 4, none, 1, 0, 2, 42, 0, 0) ∈ tables_1 := rx_tab8 (List.mem_of_getElem? (i := 221) rfl)
theorem rx_cw332 : rx_cw (12, ⟨"RingDriveModel", "saysNumber", "(I)V"⟩, prog_14_method_65_code, 2, none, 1, 0, 1, 21, 0, 0) ∈ tables_1 := rx_tab8 (List.mem_of_getElem? (i := 225) rfl)
theorem rx_cw333 : rx_cw (12, ⟨"RingDriveModel", "total", "(I)I"⟩, prog_14_method_75_code, 5, (Option.some Jvm.ClassFile.FieldType.int), 1, 0, 6, 143, 0, 0) ∈ tables_1 := rx_tab8 (List.mem_of_getElem? (i := 229) rfl)
theorem rx_cw334 : rx_cw (12, ⟨"RingDriveModel", "readsBuffer", "(II)I"⟩, prog_14_method_70_code, 4, (Option.some Jvm.ClassFile.FieldType.int), 2, 0, 1, 21, 0, 0) ∈ tables_1 := rx_tab8 (List.mem_of_getElem? (i := 234) rfl)
theorem rx_cw335 : rx_cw (12, ⟨"RingDriveModel", "out", "(I)I"⟩, prog_14_method_76_code, 2, (Option.some Jvm.ClassFile.FieldType.int), 1, 0, 0, 0, 0, 0) ∈ tables_1 := rx_tab8 (List.mem_of_getElem? (i := 238) rfl)
theorem rx_cw336 : rx_cw (12, ⟨"RingDriveModel", "write", "(II)I"⟩, prog_14_method_77_code, 5, (Option.some Jvm.ClassFile.FieldType.int), 2, 0, 11, 269, 0, 0) ∈ tables_1 := rx_tab9 (List.mem_of_getElem? (i := 2) rfl)
theorem rx_cw337 : rx_cw (12, ⟨"RingDriveModel", "writesByte", "(II)I"⟩, prog_14_method_78_code, 4, (Option.some Jvm.ClassFile.FieldType.int), 2, 0, 8, 197, 0, 0) ∈ tables_1 := rx_tab9 (List.mem_of_getElem? (i := 6) rfl)
theorem rx_cw338 : rx_cw (12, ⟨"RingDriveModel", "goesOn", "(I)I"⟩, prog_14_method_79_code, 5, (Option.some Jvm.ClassFile.FieldType.int), 1, 0, 7, 173, 0, 0) ∈ tables_1 := rx_tab9 (List.mem_of_getElem? (i := 10) rfl)
theorem rx_cw339 : rx_cw (12, ⟨"RingDriveModel", "takesNext", "(II)I"⟩, prog_14_method_33_code, 6, (Option.some Jvm.ClassFile.FieldType.int), 2, 0, 3, 68, 0, 0) ∈ tables_1 := rx_tab9 (List.mem_of_getElem? (i := 14) rfl)
theorem rx_cw340 : rx_cw (12, ⟨"RingDriveModel", "isFull", "(I)I"⟩, prog_14_method_80_code, 6, (Option.some Jvm.ClassFile.FieldType.int), 1, 0, 6, 148, 0, 0) ∈ tables_1 := rx_tab9 (List.mem_of_getElem? (i := 18) rfl)
theorem rx_cw341 : rx_cw (12, ⟨"RingDriveModel", "look", "(I)I"⟩, prog_14_method_132_code, 2, (Option.some Jvm.ClassFile.FieldType.int), 1, 0, 1, 22, 0, 0) ∈ tables_1 := rx_tab9 (List.mem_of_getElem? (i := 22) rfl)
theorem rx_cw342 : rx_cw (12, ⟨"RingDriveModel", "bits", "(II)I"⟩, prog_14_method_134_code, 6, (Option.some Jvm.ClassFile.FieldType.int), 2, 0, 2, 41, 0, 0) ∈ tables_1 := rx_tab9 (List.mem_of_getElem? (i := 26) rfl)
theorem rx_cw343 : rx_cw (12, ⟨"RingDriveModel", "isBit", "(II)Z"⟩, prog_14_method_133_code, 2, (Option.some Jvm.ClassFile.FieldType.boolean), 2, 1, 1, 20, 0, 0) ∈ tables_1 := rx_tab9 (List.mem_of_getElem? (i := 29) rfl)
theorem rx_cw344 : rx_cw (12, ⟨"RingDriveModel", "turn", "(III)Z"⟩, prog_14_method_135_code, 7, (Option.some Jvm.ClassFile.FieldType.boolean), 3, 0, 2, 41, 0, 0) ∈ tables_1 := rx_tab9 (List.mem_of_getElem? (i := 33) rfl)
theorem rx_cw345 : rx_cw (12, ⟨"RingDriveModel", "protect", "(Z)V"⟩, prog_14_method_136_code, 2, none, 1, 0, 0, 0, 0, 0) ∈ tables_1 := rx_tab9 (List.mem_of_getElem? (i := 37) rfl)
theorem rx_cw346 : rx_cw (12, ⟨"RingDriveModel", "memory", "(I)I"⟩, prog_14_method_137_code, 2, (Option.some Jvm.ClassFile.FieldType.int), 1, 0, 0, 0, 0, 0) ∈ tables_1 := rx_tab9 (List.mem_of_getElem? (i := 41) rfl)
theorem rx_cw347 : rx_cw (12, ⟨"RingDriveModel", "power", "()V"⟩, prog_14_method_138_code, 2, none, 0, 0, 1, 23, 0, 0) ∈ tables_1 := rx_tab9 (List.mem_of_getElem? (i := 45) rfl)
theorem rx_cw348 : rx_cw (12, ⟨"RingDriveModel", "<init>", "()V"⟩, prog_14_method_139_code, 1, none, 0, 2, 1, 20, 39, 18895) ∈ tables_1 := rx_tab9 (List.mem_of_getElem? (i := 49) rfl)
theorem rx_cwl8 : ∀ M ∈ rx_MT_8, rx_cw M ∈ tables_1 := rx_cw_c rx_cw320 (rx_cw_c rx_cw321 (rx_cw_c rx_cw322 (rx_cw_c rx_cw323 (rx_cw_c rx_cw324 (rx_cw_c rx_cw325 (rx_cw_c rx_cw326 (rx_cw_c rx_cw327 (rx_cw_c rx_cw328 (rx_cw_c rx_cw329 (rx_cw_c rx_cw330 (rx_cw_c rx_cw331 (rx_cw_c rx_cw332 (rx_cw_c rx_cw333 (rx_cw_c rx_cw334 (rx_cw_c rx_cw335 (rx_cw_c rx_cw336 (rx_cw_c rx_cw337 (rx_cw_c rx_cw338 (rx_cw_c rx_cw339 (rx_cw_c rx_cw340 (rx_cw_c rx_cw341 (rx_cw_c rx_cw342 (rx_cw_c rx_cw343 (rx_cw_c rx_cw344 (rx_cw_c rx_cw345 (rx_cw_c rx_cw346 (rx_cw_c rx_cw347 (rx_cw_c rx_cw348 (fun X hX => absurd hX List.not_mem_nil)))))))))))))))))))))))))))))
theorem rx_cw_app {a b : List rx_M} (ha : ∀ M ∈ a, rx_cw M ∈ tables_1) (hb : ∀ M ∈ b, rx_cw M ∈ tables_1) : ∀ M ∈ a ++ b, rx_cw M ∈ tables_1 := fun M h => (List.mem_append.mp h).elim (ha M) (hb M)
theorem rx_cw_all : ∀ M ∈ rx_MT, rx_cw M ∈ rx_Ts := fun M h => rx_cw_in ((rx_cw_app (rx_cw_app (rx_cw_app (rx_cw_app (rx_cw_app (rx_cw_app (rx_cw_app (rx_cw_app (rx_cwl0) rx_cwl1) rx_cwl2) rx_cwl3) rx_cwl4) rx_cwl5) rx_cwl6) rx_cwl7) rx_cwl8 : ∀ M ∈ rx_MT, rx_cw M ∈ tables_1) M h)
end
section
/-! what the table of methods says is among the words -/
def rm_co (M : rx_M) : Nat := M.1
def rm_y (M : rx_M) : MethodName := M.2.1
def rm_code (M : rx_M) : ByteArray := M.2.2.1
def rm_maxL (M : rx_M) : Nat := M.2.2.2.1
def rm_ret (M : rx_M) : Option FieldType := M.2.2.2.2.1
def rm_np (M : rx_M) : Nat := M.2.2.2.2.2.1
def rm_kind (M : rx_M) : Nat := M.2.2.2.2.2.2.1
def rm_fr (M : rx_M) : Nat := M.2.2.2.2.2.2.2.1
def rm_lo (M : rx_M) : Nat := M.2.2.2.2.2.2.2.2.1
def rm_mc (M : rx_M) : Nat := M.2.2.2.2.2.2.2.2.2.1
def rm_ms (M : rx_M) : Nat := M.2.2.2.2.2.2.2.2.2.2
def rm_room (M : rx_M) : Room := { frames := rm_fr M, cells := rm_mc M, slots := rm_ms M, locals := rm_lo M }
def rm_ws (M : rx_M) : List Cond := Cond.code (rm_y M) (rm_code M) (rm_maxL M) (rm_ret M) :: rx_Ts
def rx_mchk (M : rx_M) (q : Nat × Nat × Nat × Nat) : Bool :=
  rx_has q.2.2.1 (.initialized (rm_y M).cls) && plainName (rm_y M).cls && decide ((rm_y M).cls ≠ "java/lang/invoke/MethodHandle") && decide ((rm_y M).cls ≠ "java/lang/invoke/VarHandle") && decide ((parseMethodDescriptor (rm_y M).desc).map (fun d => d.parameters.length) = some (rm_np M)) && decide (rx_cn (rm_co M) = (rm_y M).cls) &&
  (if rm_kind M = 1 then rx_has q.2.1 (.static (rm_y M)) else rx_has q.2.1 (.instanceMethod (rm_y M)) && (if rm_kind M = 2 then decide ((rm_y M).name = "<init>") && decide (rm_ret M = none) else rx_has q.2.2.2 (.selects (rm_y M).cls (rm_y M) (rm_y M))))
theorem rx_mchk_z {a : List rx_M} {b : List (Nat × Nat × Nat × Nat)} (h1 : (a.zip b).all (fun z => rx_mchk z.1 z.2) = true) (h2 : a.length = b.length) : ∀ M ∈ a, ∃ q, rx_mchk M q = true := by
  intro M hM
  obtain ⟨j, hj⟩ := List.getElem?_of_mem hM
  have hl : j < b.length := by rw [← h2]; exact (List.getElem?_eq_some_iff.mp hj).1
  have h3 : (a.zip b)[j]? = some (M, b[j]) := by
    rw [List.getElem?_zip_eq_some]
    exact ⟨hj, by simp [hl]⟩
  exact ⟨_, List.all_eq_true.mp h1 _ (List.mem_of_getElem? h3)⟩
theorem rx_mchk_app {a b : List rx_M} (ha : ∀ M ∈ a, ∃ q, rx_mchk M q = true) (hb : ∀ M ∈ b, ∃ q, rx_mchk M q = true) : ∀ M ∈ a ++ b, ∃ q, rx_mchk M q = true := fun M h => (List.mem_append.mp h).elim (ha M) (hb M)
set_option maxRecDepth 100000 in
theorem rx_mchk0 : ∀ M ∈ rx_MT_0, ∃ q, rx_mchk M q = true := rx_mchk_z (b := rx_ME_0) (by decide +kernel) rfl
set_option maxRecDepth 100000 in
theorem rx_mchk1 : ∀ M ∈ rx_MT_1, ∃ q, rx_mchk M q = true := rx_mchk_z (b := rx_ME_1) (by decide +kernel) rfl
set_option maxRecDepth 100000 in
theorem rx_mchk2 : ∀ M ∈ rx_MT_2, ∃ q, rx_mchk M q = true := rx_mchk_z (b := rx_ME_2) (by decide +kernel) rfl
set_option maxRecDepth 100000 in
theorem rx_mchk3 : ∀ M ∈ rx_MT_3, ∃ q, rx_mchk M q = true := rx_mchk_z (b := rx_ME_3) (by decide +kernel) rfl
set_option maxRecDepth 100000 in
theorem rx_mchk4 : ∀ M ∈ rx_MT_4, ∃ q, rx_mchk M q = true := rx_mchk_z (b := rx_ME_4) (by decide +kernel) rfl
set_option maxRecDepth 100000 in
theorem rx_mchk5 : ∀ M ∈ rx_MT_5, ∃ q, rx_mchk M q = true := rx_mchk_z (b := rx_ME_5) (by decide +kernel) rfl
set_option maxRecDepth 100000 in
theorem rx_mchk6 : ∀ M ∈ rx_MT_6, ∃ q, rx_mchk M q = true := rx_mchk_z (b := rx_ME_6) (by decide +kernel) rfl
set_option maxRecDepth 100000 in
theorem rx_mchk7 : ∀ M ∈ rx_MT_7, ∃ q, rx_mchk M q = true := rx_mchk_z (b := rx_ME_7) (by decide +kernel) rfl
set_option maxRecDepth 100000 in
theorem rx_mchk8 : ∀ M ∈ rx_MT_8, ∃ q, rx_mchk M q = true := rx_mchk_z (b := rx_ME_8) (by decide +kernel) rfl
theorem rx_mt_all : ∀ M ∈ rx_MT, ∃ q, rx_mchk M q = true := rx_mchk_app (rx_mchk_app (rx_mchk_app (rx_mchk_app (rx_mchk_app (rx_mchk_app (rx_mchk_app (rx_mchk_app (rx_mchk0) rx_mchk1) rx_mchk2) rx_mchk3) rx_mchk4) rx_mchk5) rx_mchk6) rx_mchk7) rx_mchk8
set_option maxRecDepth 100000 in
theorem rx_mlchk : rx_MLs.all (fun q => q.2.1.2 || match rx_MT[q.2.1.1]? with
  | some Z => rx_has q.2.2 (.methodLink (rx_cn q.1.1) q.1.2 (rm_y Z))
  | none => false) = true := by decide +kernel
theorem rx_mt_ok {j : Nat} {M : rx_M} (h : rx_MT[j]? = some M) : ∃ q, rx_mchk M q = true := rx_mt_all M (List.mem_of_getElem? h)
theorem rx_ml_ok {co idx j pos : Nat} {Z : rx_M} (h : rx_lk rx_MLs co idx = some ((j, false), pos)) (hZ : rx_MT[j]? = some Z) : Cond.methodLink (rx_cn co) idx (rm_y Z) ∈ rx_Ts := by
  have h1 := List.all_eq_true.mp rx_mlchk _ (rx_lk_mem h)
  simp only [hZ, Bool.false_or] at h1
  exact rx_has_mem h1
end
section
/-! AN ENGINE: a small machine over abstract cells that is run by a function; what it does, the machine does. PART 1: what touches no cell. -/
abbrev rx_L : Type := List (Nat × Value)
def rx_v (ad : Nat → Nat) : Value → Value
  | .ref k => .ref (ad k)
  | v => v
def rx_l (ad : Nat → Nat) (l : rx_L) : rx_L := l.map (fun q => (q.1, rx_v ad q.2))
def rx_gi : rx_L → Nat → Option Value
  | [], _ => none
  | q :: l, i => if q.1 = i then some q.2 else rx_gi l i
def rx_si (l : rx_L) (i : Nat) (v : Value) : rx_L := (i, v) :: l.filter (fun q => !(q.1 == i) && !(q.1 + 1 == i && q.2.category == 2))
def rx_tg (pc : Nat) (off : Int) : Option Nat := if 0 ≤ (pc : Int) + off then some ((pc : Int) + off).toNat else none
def rx_go (pc : Nat) (off : Int) (l : rx_L) (st : List Value) : Option (Nat × rx_L × List Value) := match rx_tg pc off with
  | some t => some (t, l, st)
  | none => none
def rx_ld (l : rx_L) (i n : Nat) (st : List Value) : Option (Nat × rx_L × List Value) := match rx_gi l i with
  | some (.int x) => some (n, l, .int x :: st)
  | _ => none
def rx_ldl (l : rx_L) (i n : Nat) (st : List Value) : Option (Nat × rx_L × List Value) := match rx_gi l i with
  | some (.long x) => some (n, l, .long x :: st)
  | _ => none
def rx_lda (l : rx_L) (i n : Nat) (st : List Value) : Option (Nat × rx_L × List Value) := match rx_gi l i with
  | some (.ref x) => some (n, l, .ref x :: st)
  | some .null => some (n, l, .null :: st)
  | _ => none
def rx_sti (nL : Nat) (l : rx_L) (i n : Nat) (st : List Value) : Option (Nat × rx_L × List Value) := match st with
  | .int x :: r => if i < nL then some (n, rx_si l i (.int x), r) else none
  | _ => none
def rx_sta (nL : Nat) (l : rx_L) (i n : Nat) (st : List Value) : Option (Nat × rx_L × List Value) := match st with
  | .ref x :: r => if i < nL then some (n, rx_si l i (.ref x), r) else none
  | .null :: r => if i < nL then some (n, rx_si l i .null, r) else none
  | _ => none
def rx_inc (nL : Nat) (l : rx_L) (i n : Nat) (d : Int) (st : List Value) : Option (Nat × rx_L × List Value) := match rx_gi l i with
  | some (.int x) => if i < nL then some (n, rx_si l i (.int (x + Int32.ofInt d)), st) else none
  | _ => none
def rx_ii (f : Int32 → Int32 → Int32) (n : Nat) (l : rx_L) (st : List Value) : Option (Nat × rx_L × List Value) := match st with
  | .int y :: .int x :: r => some (n, l, .int (f x y) :: r)
  | _ => none
def rx_id (f : Int32 → Int32 → Int32) (n : Nat) (l : rx_L) (st : List Value) : Option (Nat × rx_L × List Value) := match st with
  | .int y :: .int x :: r => if y = 0 then none else some (n, l, .int (f x y) :: r)
  | _ => none
def rx_b1 (P : Int32 → Bool) (pc : Nat) (off : Int) (l : rx_L) (st : List Value) : Option (Nat × rx_L × List Value) := match st with
  | .int x :: r => match rx_tg pc off with
    | some t => if P x then some (t, l, r) else some (pc + 3, l, r)
    | none => none
  | _ => none
def rx_b2 (P : Int32 → Int32 → Bool) (pc : Nat) (off : Int) (l : rx_L) (st : List Value) : Option (Nat × rx_L × List Value) := match st with
  | .int y :: .int x :: r => match rx_tg pc off with
    | some t => if P x y then some (t, l, r) else some (pc + 3, l, r)
    | none => none
  | _ => none
def rx_c1 : ClassFile.Cond → Int32 → Bool
  | .eq, x => decide (x = 0)
  | .ne, x => decide (¬ x = 0)
  | .lt, x => decide (x < 0)
  | .ge, x => decide (0 ≤ x)
  | .gt, x => decide (0 < x)
  | .le, x => decide (x ≤ 0)
def rx_c2 : ClassFile.Cond → Int32 → Int32 → Bool
  | .eq, x, y => decide (x = y)
  | .ne, x, y => decide (¬ x = y)
  | .lt, x, y => decide (x < y)
  | .ge, x, y => decide (y ≤ x)
  | .gt, x, y => decide (y < x)
  | .le, x, y => decide (x ≤ y)
def rx_tsw (pc : Nat) (d lo hi : Int) (offs : Array Int) (l : rx_L) (st : List Value) : Option (Nat × rx_L × List Value) := match st with
  | .int x :: r => if x.toInt < lo ∨ hi < x.toInt then rx_go pc d l r else match offs[(x.toInt - lo).toNat]? with
    | some o => rx_go pc o l r
    | none => none
  | _ => none
def rx_lsw (pc : Nat) (d : Int) (ps : Array (Int × Int)) (l : rx_L) (st : List Value) : Option (Nat × rx_L × List Value) := match st with
  | .int x :: r => if (ps.toList.zip (ps.toList.drop 1)).all (fun (a, next) => a.1 < next.1) = true then rx_go pc (Op.lookupswitch.offset ps.toList d x.toInt) l r else none
  | _ => none
def rx_pure (nL : Nat) (i : Instr) (len pc : Nat) (l : rx_L) (st : List Value) : Option (Nat × rx_L × List Value) := match i, len with
  | .iconst n, 1 => some (pc + 1, l, .int (Int32.ofInt n) :: st)
  | .bipush n, 2 => some (pc + 2, l, .int (Int8.ofInt n).toInt32 :: st)
  | .sipush n, 3 => some (pc + 3, l, .int (Int16.ofInt n).toInt32 :: st)
  | .aconst_null, 1 => some (pc + 1, l, .null :: st)
  | .iload_n k, 1 => rx_ld l k (pc + 1) st
  | .iload k, 2 => rx_ld l k (pc + 2) st
  | .lload_n k, 1 => rx_ldl l k (pc + 1) st
  | .aload_n k, 1 => rx_lda l k (pc + 1) st
  | .aload k, 2 => rx_lda l k (pc + 2) st
  | .istore_n k, 1 => rx_sti nL l k (pc + 1) st
  | .istore k, 2 => rx_sti nL l k (pc + 2) st
  | .astore_n k, 1 => rx_sta nL l k (pc + 1) st
  | .astore k, 2 => rx_sta nL l k (pc + 2) st
  | .iinc k d, 3 => rx_inc nL l k (pc + 3) d st
  | .iadd, 1 => rx_ii (fun x y => x + y) (pc + 1) l st
  | .isub, 1 => rx_ii (fun x y => x - y) (pc + 1) l st
  | .imul, 1 => rx_ii (fun x y => x * y) (pc + 1) l st
  | .iand, 1 => rx_ii (fun x y => x &&& y) (pc + 1) l st
  | .ior, 1 => rx_ii (fun x y => x ||| y) (pc + 1) l st
  | .ixor, 1 => rx_ii (fun x y => x ^^^ y) (pc + 1) l st
  | .ishl, 1 => rx_ii (fun x y => x <<< (y &&& 31)) (pc + 1) l st
  | .ishr, 1 => rx_ii (fun x y => x >>> (y &&& 31)) (pc + 1) l st
  | .idiv, 1 => rx_id (fun x y => x / y) (pc + 1) l st
  | .irem, 1 => rx_id (fun x y => x - x / y * y) (pc + 1) l st
  | .i2b, 1 => match st with
    | .int x :: r => some (pc + 1, l, .int x.toInt8.toInt32 :: r)
    | _ => none
  | .i2c, 1 => match st with
    | .int x :: r => some (pc + 1, l, .int (x.toUInt32 % 65536).toInt32 :: r)
    | _ => none
  | .l2i, 1 => match st with
    | .long x :: r => some (pc + 1, l, .int x.toInt32 :: r)
    | _ => none
  | .land, 1 => match st with
    | .long y :: .long x :: r => some (pc + 1, l, .long (x &&& y) :: r)
    | _ => none
  | .lshr, 1 => match st with
    | .int y :: .long x :: r => some (pc + 1, l, .long (x >>> (y.toInt64 &&& 63)) :: r)
    | _ => none
  | .dup, 1 => match st with
    | v :: r => if v.category = 1 then some (pc + 1, l, v :: v :: r) else none
    | _ => none
  | .pop, 1 => match st with
    | v :: r => if v.category = 1 then some (pc + 1, l, r) else none
    | _ => none
  | .dup2, 1 => match st with
    | v :: w :: r => if v.category = 1 ∧ w.category = 1 then some (pc + 1, l, v :: w :: v :: w :: r) else none
    | _ => none
  | .ifCond c off, 3 => rx_b1 (rx_c1 c) pc off l st
  | .if_icmp c off, 3 => rx_b2 (rx_c2 c) pc off l st
  | .goto off, 3 => rx_go pc off l st
  | .ifnull off, 3 => match st with
    | .ref _ :: r => some (pc + 3, l, r)
    | .null :: r => rx_go pc off l r
    | _ => none
  | .ifnonnull off, 3 => match st with
    | .ref _ :: r => rx_go pc off l r
    | .null :: r => some (pc + 3, l, r)
    | _ => none
  | .tableswitch d lo hi offs, _ => rx_tsw pc d lo hi offs l st
  | .lookupswitch d ps, _ => rx_lsw pc d ps l st
  | _, _ => none
theorem rx_cat (ad : Nat → Nat) (v : Value) : (rx_v ad v).category = v.category := by cases v <;> rfl
theorem rx_l_at {ad : Nat → Nat} {ls : Array Slot} {nL i : Nat} {l : rx_L} {v : Value} (hl : lv_has ls nL (rx_l ad l)) (h : rx_gi l i = some v) : ls[i]? = some (.val (rx_v ad v)) := by
  have : (i, v) ∈ l := by
    clear hl
    induction l with
    | nil => cases h
    | cons q l ih =>
      unfold rx_gi at h
      split at h
      · next he => subst he; cases h; exact List.mem_cons_self
      · exact List.mem_cons_of_mem _ (ih h)
  exact hl.2.2 (i, rx_v ad v) (List.mem_map.mpr ⟨(i, v), this, rfl⟩)
theorem rx_l_si (ad : Nat → Nat) (l : rx_L) (i : Nat) (v : Value) : (i, rx_v ad v) :: (rx_l ad l).filter (fun q => !(q.1 == i) && !(q.1 + 1 == i && q.2.category == 2)) = rx_l ad (rx_si l i v) := by
  simp only [rx_l, rx_si, List.map_cons, List.filter_map, Function.comp_def, rx_cat]
theorem rx_tg_eq {pc t : Nat} {off : Int} (h : rx_tg pc off = some t) : (pc : Int) + off = (t : Int) := by
  unfold rx_tg at h
  split at h
  · cases h; omega
  · cases h
theorem rx_go_eq {pc t : Nat} {off : Int} {l l' : rx_L} {st st' : List Value} (h : rx_go pc off l st = some (t, l', st')) : (pc : Int) + off = (t : Int) ∧ l' = l ∧ st' = st := by
  unfold rx_go at h
  split at h
  · next e => cases h; exact ⟨rx_tg_eq e, rfl, rfl⟩
  · cases h
end
section
/-! the machine does what rx_pure does -/
section RXP
variable {p : Program} {l : Launch} {e : Env} {R : Room} {s : State} {m : MethodId} {args : Array Value} {below : List Frame} {meth : Method} {c : Code} {H : Heap} {locs : List Loc} {cells slots : Nat} {Q : State → Prop}
variable {cc : ByteArray} {pc pc' nL len : Nat} {ls : Array Slot} {ad : Nat → Nat} {lv lv' : rx_L} {st st' : List Value}
/-- the goal behind an instruction -/
def rx_K (p : Program) (l : Launch) (e : Env) (R : Room) (s : State) (m : MethodId) (args : Array Value) (below : List Frame) (meth : Method) (c : Code) (H : Heap) (locs : List Loc) (cells slots : Nat) (Q : State → Prop) (ad : Nat → Nat) (nL pc : Nat) (lv : rx_L) (st : List Value) : Prop :=
  ∀ ls : Array Slot, lv_has ls nL (rx_l ad lv) → W p l e R s m args below meth c H locs cells slots Q (F0 m pc ls (st.map (rx_v ad)))
theorem rx_k_ld (hx : p.tables.exec = Jvm.exec) (hb : c.code = cc) {i n : Nat} (hs : rx_ld lv i n st = some (pc', lv', st')) (kk : rx_K p l e R s m args below meth c H locs cells slots Q ad nL pc' lv' st') (hl : lv_has ls nL (rx_l ad lv)) :
    ∃ x : Int32, ls[i]? = some (.val (.int x)) ∧ W p l e R s m args below meth c H locs cells slots Q (F0 m n ls (.int x :: st.map (rx_v ad))) := by
  unfold rx_ld at hs
  split at hs
  · next x hg => cases hs; exact ⟨x, rx_l_at hl hg, kk ls hl⟩
  · cases hs
theorem rx_k_ldl (hx : p.tables.exec = Jvm.exec) (hb : c.code = cc) {i n : Nat} (hs : rx_ldl lv i n st = some (pc', lv', st')) (kk : rx_K p l e R s m args below meth c H locs cells slots Q ad nL pc' lv' st') (hl : lv_has ls nL (rx_l ad lv)) :
    ∃ x : Int64, ls[i]? = some (.val (.long x)) ∧ W p l e R s m args below meth c H locs cells slots Q (F0 m n ls (.long x :: st.map (rx_v ad))) := by
  unfold rx_ldl at hs
  split at hs
  · next x hg => cases hs; exact ⟨x, rx_l_at hl hg, kk ls hl⟩
  · cases hs
theorem rx_k_lda (hx : p.tables.exec = Jvm.exec) (hb : c.code = cc) {i n : Nat} (hs : rx_lda lv i n st = some (pc', lv', st')) (kk : rx_K p l e R s m args below meth c H locs cells slots Q ad nL pc' lv' st') (hl : lv_has ls nL (rx_l ad lv)) :
    (∃ x : Nat, ls[i]? = some (.val (.ref x)) ∧ W p l e R s m args below meth c H locs cells slots Q (F0 m n ls (.ref x :: st.map (rx_v ad)))) ∨ (ls[i]? = some (.val .null) ∧ W p l e R s m args below meth c H locs cells slots Q (F0 m n ls (.null :: st.map (rx_v ad)))) := by
  unfold rx_lda at hs
  split at hs
  · next x hg => cases hs; exact Or.inl ⟨ad x, rx_l_at hl hg, kk ls hl⟩
  · next hg => cases hs; exact Or.inr ⟨rx_l_at hl hg, kk ls hl⟩
  · cases hs
theorem rx_k_sti {i n : Nat} (hs : rx_sti nL lv i n st = some (pc', lv', st')) (kk : rx_K p l e R s m args below meth c H locs cells slots Q ad nL pc' lv' st') :
    ∃ (x : Int32) (r : List Value), st = .int x :: r ∧ i < nL ∧ ∀ ls : Array Slot, lv_has ls nL (rx_l ad (rx_si lv i (.int x))) → W p l e R s m args below meth c H locs cells slots Q (F0 m n ls (r.map (rx_v ad))) := by
  unfold rx_sti at hs
  split at hs
  · split at hs
    · next hi => cases hs; exact ⟨_, _, rfl, hi, fun ls hl => kk ls hl⟩
    · cases hs
  · cases hs
theorem rx_k_sta {i n : Nat} (hs : rx_sta nL lv i n st = some (pc', lv', st')) (kk : rx_K p l e R s m args below meth c H locs cells slots Q ad nL pc' lv' st') :
    i < nL ∧ ((∃ (x : Nat) (r : List Value), st = .ref x :: r ∧ ∀ ls : Array Slot, lv_has ls nL (rx_l ad (rx_si lv i (.ref x))) → W p l e R s m args below meth c H locs cells slots Q (F0 m n ls (r.map (rx_v ad)))) ∨
    (∃ (r : List Value), st = .null :: r ∧ ∀ ls : Array Slot, lv_has ls nL (rx_l ad (rx_si lv i .null)) → W p l e R s m args below meth c H locs cells slots Q (F0 m n ls (r.map (rx_v ad))))) := by
  unfold rx_sta at hs
  split at hs
  · split at hs
    · next hi => cases hs; exact ⟨hi, Or.inl ⟨_, _, rfl, fun ls hl => kk ls hl⟩⟩
    · cases hs
  · split at hs
    · next hi => cases hs; exact ⟨hi, Or.inr ⟨_, rfl, fun ls hl => kk ls hl⟩⟩
    · cases hs
  · cases hs
theorem rx_k_inc (hx : p.tables.exec = Jvm.exec) (hb : c.code = cc) {i : Nat} {d : Int} (hd : decode cc pc = .ok (.iinc i d, 3)) (hs : rx_inc nL lv i (pc + 3) d st = some (pc', lv', st')) (kk : rx_K p l e R s m args below meth c H locs cells slots Q ad nL pc' lv' st') (hl : lv_has ls nL (rx_l ad lv)) :
    W p l e R s m args below meth c H locs cells slots Q (F0 m pc ls (st.map (rx_v ad))) := by
  unfold rx_inc at hs
  split at hs
  · next x hg =>
    split at hs
    · next hi =>
      cases hs
      have hm : (i, Value.int x) ∈ rx_l ad lv := by
        have : ∀ l : rx_L, rx_gi l i = some (.int x) → (i, Value.int x) ∈ rx_l ad l := by
          intro l
          induction l with
          | nil => intro h; cases h
          | cons q l ih =>
            intro h
            unfold rx_gi at h
            split at h
            · next he => subst he; obtain ⟨q1, q2⟩ := q; cases h; exact List.mem_cons_self
            · exact List.mem_cons_of_mem _ (ih h)
        exact this lv hg
      obtain ⟨k, hk⟩ := List.getElem?_of_mem hm
      exact lv_iinc hx hb hd hl hk rfl hi (rx_l_si ad lv i (.int (x + Int32.ofInt d))) (fun ls hl => kk ls hl)
    · cases hs
  · cases hs
theorem rx_k_ii {f : Int32 → Int32 → Int32} {n : Nat} (hs : rx_ii f n lv st = some (pc', lv', st')) (kk : rx_K p l e R s m args below meth c H locs cells slots Q ad nL pc' lv' st') (hl : lv_has ls nL (rx_l ad lv)) :
    ∃ (x y : Int32) (r : List Value), st = .int y :: .int x :: r ∧ W p l e R s m args below meth c H locs cells slots Q (F0 m n ls (.int (f x y) :: r.map (rx_v ad))) := by
  unfold rx_ii at hs
  split at hs
  · cases hs; exact ⟨_, _, _, rfl, kk ls hl⟩
  · cases hs
theorem rx_k_id {f : Int32 → Int32 → Int32} {n : Nat} (hs : rx_id f n lv st = some (pc', lv', st')) (kk : rx_K p l e R s m args below meth c H locs cells slots Q ad nL pc' lv' st') (hl : lv_has ls nL (rx_l ad lv)) :
    ∃ (x y : Int32) (r : List Value), st = .int y :: .int x :: r ∧ ¬ y = 0 ∧ W p l e R s m args below meth c H locs cells slots Q (F0 m n ls (.int (f x y) :: r.map (rx_v ad))) := by
  unfold rx_id at hs
  split at hs
  · split at hs
    · cases hs
    · next hy => cases hs; exact ⟨_, _, _, rfl, hy, kk ls hl⟩
  · cases hs
theorem rx_k_b1 {P : Int32 → Bool} {off : Int} (hs : rx_b1 P pc off lv st = some (pc', lv', st')) (kk : rx_K p l e R s m args below meth c H locs cells slots Q ad nL pc' lv' st') (hl : lv_has ls nL (rx_l ad lv)) :
    ∃ (x : Int32) (r : List Value) (t : Nat), st = .int x :: r ∧ (pc : Int) + off = (t : Int) ∧ (P x = true → W p l e R s m args below meth c H locs cells slots Q (F0 m t ls (r.map (rx_v ad)))) ∧ (¬ P x = true → W p l e R s m args below meth c H locs cells slots Q (F0 m (pc + 3) ls (r.map (rx_v ad)))) := by
  unfold rx_b1 at hs
  split at hs
  · next x r =>
    split at hs
    · next t ht =>
      split at hs
      · next hp => cases hs; exact ⟨x, _, _, rfl, rx_tg_eq ht, fun _ => kk ls hl, fun h => absurd hp h⟩
      · next hp => cases hs; exact ⟨x, _, _, rfl, rx_tg_eq ht, fun h => absurd h hp, fun _ => kk ls hl⟩
    · cases hs
  · cases hs
theorem rx_k_b2 {P : Int32 → Int32 → Bool} {off : Int} (hs : rx_b2 P pc off lv st = some (pc', lv', st')) (kk : rx_K p l e R s m args below meth c H locs cells slots Q ad nL pc' lv' st') (hl : lv_has ls nL (rx_l ad lv)) :
    ∃ (x y : Int32) (r : List Value) (t : Nat), st = .int y :: .int x :: r ∧ (pc : Int) + off = (t : Int) ∧ (P x y = true → W p l e R s m args below meth c H locs cells slots Q (F0 m t ls (r.map (rx_v ad)))) ∧ (¬ P x y = true → W p l e R s m args below meth c H locs cells slots Q (F0 m (pc + 3) ls (r.map (rx_v ad)))) := by
  unfold rx_b2 at hs
  split at hs
  · next y x r =>
    split at hs
    · next t ht =>
      split at hs
      · next hp => cases hs; exact ⟨x, y, _, _, rfl, rx_tg_eq ht, fun _ => kk ls hl, fun h => absurd hp h⟩
      · next hp => cases hs; exact ⟨x, y, _, _, rfl, rx_tg_eq ht, fun h => absurd h hp, fun _ => kk ls hl⟩
    · cases hs
  · cases hs
/-- a branch of one number, of two -/
theorem rx_k_if (hx : p.tables.exec = Jvm.exec) (hb : c.code = cc) {cd : ClassFile.Cond} {off : Int} (hd : decode cc pc = .ok (.ifCond cd off, 3)) (hs : rx_b1 (rx_c1 cd) pc off lv st = some (pc', lv', st')) (kk : rx_K p l e R s m args below meth c H locs cells slots Q ad nL pc' lv' st') (hl : lv_has ls nL (rx_l ad lv)) :
    W p l e R s m args below meth c H locs cells slots Q (F0 m pc ls (st.map (rx_v ad))) := by
  obtain ⟨x, r, t, rfl, ht, h1, h2⟩ := rx_k_b1 hs kk hl
  show W p l e R s m args below meth c H locs cells slots Q (F0 m pc ls (.int x :: r.map (rx_v ad)))
  cases cd
  · exact lv_if_eq hx hb hd ht (fun q => h1 (decide_eq_true q)) (fun q => h2 (fun z => q (of_decide_eq_true z)))
  · exact lv_if_ne hx hb hd ht (fun q => h1 (decide_eq_true q)) (fun q => h2 (fun z => absurd q (of_decide_eq_true z)))
  · exact lv_if_lt hx hb hd ht (fun q => h1 (decide_eq_true q)) (fun q => h2 (fun z => q (of_decide_eq_true z)))
  · exact lv_if_ge hx hb hd ht (fun q => h1 (decide_eq_true q)) (fun q => h2 (fun z => q (of_decide_eq_true z)))
  · exact lv_if_gt hx hb hd ht (fun q => h1 (decide_eq_true q)) (fun q => h2 (fun z => q (of_decide_eq_true z)))
  · exact lv_if_le hx hb hd ht (fun q => h1 (decide_eq_true q)) (fun q => h2 (fun z => q (of_decide_eq_true z)))
theorem rx_k_icmp (hx : p.tables.exec = Jvm.exec) (hb : c.code = cc) {cd : ClassFile.Cond} {off : Int} (hd : decode cc pc = .ok (.if_icmp cd off, 3)) (hs : rx_b2 (rx_c2 cd) pc off lv st = some (pc', lv', st')) (kk : rx_K p l e R s m args below meth c H locs cells slots Q ad nL pc' lv' st') (hl : lv_has ls nL (rx_l ad lv)) :
    W p l e R s m args below meth c H locs cells slots Q (F0 m pc ls (st.map (rx_v ad))) := by
  obtain ⟨x, y, r, t, rfl, ht, h1, h2⟩ := rx_k_b2 hs kk hl
  show W p l e R s m args below meth c H locs cells slots Q (F0 m pc ls (.int y :: .int x :: r.map (rx_v ad)))
  cases cd
  · exact lv_icmp_eq hx hb hd ht (fun q => h1 (decide_eq_true q)) (fun q => h2 (fun z => q (of_decide_eq_true z)))
  · exact lv_icmp_ne hx hb hd ht (fun q => h1 (decide_eq_true q)) (fun q => h2 (fun z => absurd q (of_decide_eq_true z)))
  · exact lv_icmp_lt hx hb hd ht (fun q => h1 (decide_eq_true q)) (fun q => h2 (fun z => q (of_decide_eq_true z)))
  · exact lv_icmp_ge hx hb hd ht (fun q => h1 (decide_eq_true q)) (fun q => h2 (fun z => q (of_decide_eq_true z)))
  · exact lv_icmp_gt hx hb hd ht (fun q => h1 (decide_eq_true q)) (fun q => h2 (fun z => q (of_decide_eq_true z)))
  · exact lv_icmp_le hx hb hd ht (fun q => h1 (decide_eq_true q)) (fun q => h2 (fun z => q (of_decide_eq_true z)))
theorem rx_k_tsw (hx : p.tables.exec = Jvm.exec) (hb : c.code = cc) {d lo hi : Int} {offs : Array Int} (hd : decode cc pc = .ok (.tableswitch d lo hi offs, len)) (hs : rx_tsw pc d lo hi offs lv st = some (pc', lv', st')) (kk : rx_K p l e R s m args below meth c H locs cells slots Q ad nL pc' lv' st') (hl : lv_has ls nL (rx_l ad lv)) :
    W p l e R s m args below meth c H locs cells slots Q (F0 m pc ls (st.map (rx_v ad))) := by
  unfold rx_tsw at hs
  split at hs
  · next x r =>
    show W p l e R s m args below meth c H locs cells slots Q (F0 m pc ls (.int x :: r.map (rx_v ad)))
    split at hs
    · next hc =>
      obtain ⟨h1, rfl, rfl⟩ := rx_go_eq hs
      exact lv_tableOut hx hb hd hc h1 (kk ls hl)
    · next hc =>
      split at hs
      · next o ho =>
        obtain ⟨h1, rfl, rfl⟩ := rx_go_eq hs
        exact lv_tableIn hx hb hd (fun q => hc (Or.inl q)) (fun q => hc (Or.inr q)) ho h1 (kk ls hl)
      · cases hs
  · cases hs
theorem rx_k_lsw (hx : p.tables.exec = Jvm.exec) (hb : c.code = cc) {d : Int} {ps : Array (Int × Int)} (hd : decode cc pc = .ok (.lookupswitch d ps, len)) (hs : rx_lsw pc d ps lv st = some (pc', lv', st')) (kk : rx_K p l e R s m args below meth c H locs cells slots Q ad nL pc' lv' st') (hl : lv_has ls nL (rx_l ad lv)) :
    W p l e R s m args below meth c H locs cells slots Q (F0 m pc ls (st.map (rx_v ad))) := by
  unfold rx_lsw at hs
  split at hs
  · next x r =>
    show W p l e R s m args below meth c H locs cells slots Q (F0 m pc ls (.int x :: r.map (rx_v ad)))
    split at hs
    · next hc =>
      obtain ⟨h1, rfl, rfl⟩ := rx_go_eq hs
      exact lv_lookup hx hb hd hc rfl h1 (kk ls hl)
    · cases hs
  · cases hs
set_option maxHeartbeats 4000000 in
theorem rx_pure_sim (hx : p.tables.exec = Jvm.exec) (hb : c.code = cc) {i : Instr} (hd : decode cc pc = .ok (i, len)) (hs : rx_pure nL i len pc lv st = some (pc', lv', st')) (kk : rx_K p l e R s m args below meth c H locs cells slots Q ad nL pc' lv' st') (hl : lv_has ls nL (rx_l ad lv)) :
    W p l e R s m args below meth c H locs cells slots Q (F0 m pc ls (st.map (rx_v ad))) := by
  unfold rx_pure at hs
  split at hs
  · cases hs; exact lv_iconst hx hb hd rfl (kk ls hl)
  · cases hs; exact lv_bipush hx hb hd rfl (kk ls hl)
  · cases hs; exact lv_sipush hx hb hd rfl (kk ls hl)
  · cases hs; exact lv_null hx hb hd (kk ls hl)
  · obtain ⟨x, h1, h2⟩ := rx_k_ld hx hb hs kk hl
    exact lv_iload_n hx hb hd rfl h1 h2
  · obtain ⟨x, h1, h2⟩ := rx_k_ld hx hb hs kk hl
    exact lv_iload hx hb hd h1 h2
  · obtain ⟨x, h1, h2⟩ := rx_k_ldl hx hb hs kk hl
    exact lv_lload_n hx hb hd rfl h1 h2
  · rcases rx_k_lda hx hb hs kk hl with ⟨x, h1, h2⟩ | ⟨h1, h2⟩
    · exact lv_aload_n hx hb hd rfl h1 h2
    · exact lv_aload_nN hx hb hd rfl h1 h2
  · rcases rx_k_lda hx hb hs kk hl with ⟨x, h1, h2⟩ | ⟨h1, h2⟩
    · exact lv_aload hx hb hd h1 h2
    · exact lv_aloadN hx hb hd h1 h2
  · obtain ⟨x, r, rfl, hi, h2⟩ := rx_k_sti hs kk
    exact lv_istore_n hx hb hd rfl hl hi (rx_l_si ad lv _ (.int x)) h2
  · obtain ⟨x, r, rfl, hi, h2⟩ := rx_k_sti hs kk
    exact lv_istore hx hb hd hl hi (rx_l_si ad lv _ (.int x)) h2
  · obtain ⟨hi, ⟨x, r, rfl, h2⟩ | ⟨r, rfl, h2⟩⟩ := rx_k_sta hs kk
    · exact lv_astore_n hx hb hd rfl hl hi (rx_l_si ad lv _ (.ref x)) h2
    · exact lv_astore_nN hx hb hd rfl hl hi (rx_l_si ad lv _ .null) h2
  · obtain ⟨hi, ⟨x, r, rfl, h2⟩ | ⟨r, rfl, h2⟩⟩ := rx_k_sta hs kk
    · exact lv_astore hx hb hd hl hi (rx_l_si ad lv _ (.ref x)) h2
    · exact lv_astoreN hx hb hd hl hi (rx_l_si ad lv _ .null) h2
  · exact rx_k_inc hx hb hd hs kk hl
  · obtain ⟨x, y, r, rfl, h2⟩ := rx_k_ii hs kk hl
    exact lv_iadd hx hb hd h2
  · obtain ⟨x, y, r, rfl, h2⟩ := rx_k_ii hs kk hl
    exact lv_isub hx hb hd h2
  · obtain ⟨x, y, r, rfl, h2⟩ := rx_k_ii hs kk hl
    exact lv_imul hx hb hd h2
  · obtain ⟨x, y, r, rfl, h2⟩ := rx_k_ii hs kk hl
    exact lv_iand hx hb hd h2
  · obtain ⟨x, y, r, rfl, h2⟩ := rx_k_ii hs kk hl
    exact lv_ior hx hb hd h2
  · obtain ⟨x, y, r, rfl, h2⟩ := rx_k_ii hs kk hl
    exact lv_ixor hx hb hd h2
  · obtain ⟨x, y, r, rfl, h2⟩ := rx_k_ii hs kk hl
    exact lv_ishl hx hb hd h2
  · obtain ⟨x, y, r, rfl, h2⟩ := rx_k_ii hs kk hl
    exact lv_ishr hx hb hd h2
  · obtain ⟨x, y, r, rfl, hy, h2⟩ := rx_k_id hs kk hl
    exact lv_idiv hx hb hd hy h2
  · obtain ⟨x, y, r, rfl, hy, h2⟩ := rx_k_id hs kk hl
    exact lv_irem hx hb hd hy h2
  · split at hs
    · cases hs; exact lv_i2b hx hb hd rfl (kk ls hl)
    · cases hs
  · split at hs
    · cases hs; exact lv_i2c hx hb hd rfl (kk ls hl)
    · cases hs
  · split at hs
    · cases hs; exact lv_l2i hx hb hd rfl (kk ls hl)
    · cases hs
  · split at hs
    · cases hs; exact lv_land hx hb hd (kk ls hl)
    · cases hs
  · split at hs
    · cases hs; exact lv_lshr hx hb hd rfl (kk ls hl)
    · cases hs
  · split at hs
    · split at hs
      · next hc => cases hs; exact lv_dup hx hb hd ((rx_cat ad _).trans hc) (kk ls hl)
      · cases hs
    · cases hs
  · split at hs
    · split at hs
      · next hc => cases hs; exact lv_pop hx hb hd ((rx_cat ad _).trans hc) (kk ls hl)
      · cases hs
    · cases hs
  · split at hs
    · split at hs
      · next hc => cases hs; exact lv_dup2_11 hx hb hd ((rx_cat ad _).trans hc.1) ((rx_cat ad _).trans hc.2) (kk ls hl)
      · cases hs
    · cases hs
  · exact rx_k_if hx hb hd hs kk hl
  · exact rx_k_icmp hx hb hd hs kk hl
  · obtain ⟨h1, rfl, rfl⟩ := rx_go_eq hs
    exact lv_goto hx hb hd h1 (kk ls hl)
  · split at hs
    · cases hs; exact lv_ifnull hx hb hd (kk ls hl)
    · obtain ⟨h1, rfl, rfl⟩ := rx_go_eq hs
      exact lv_ifnullN hx hb hd h1 (kk ls hl)
    · cases hs
  · split at hs
    · obtain ⟨h1, rfl, rfl⟩ := rx_go_eq hs
      exact lv_ifnonnull hx hb hd h1 (kk ls hl)
    · cases hs; exact lv_ifnonnullN hx hb hd (kk ls hl)
    · cases hs
  · exact rx_k_tsw hx hb hd hs kk hl
  · exact rx_k_lsw hx hb hd hs kk hl
  · cases hs
end RXP
end
section
/-! AN ENGINE, PART 2: what reads and writes cells. A cell: an array of ints (kind, length, contents), of references (kind, contents), an object (class, fields); references are places in the list of cells; from 1000000 on texts, from 2000000 on their bytes, from 3000000 on static arrays -/
abbrev rx_C : Type := (Nat × Nat × (Nat → Int32)) ⊕ ((Nat × List (Option Nat)) ⊕ (Nat × List Value))
abbrev rx_H : Type := List rx_C
def rx_in (i : Int32) (n : Nat) : Bool := decide (¬ (i < 0 ∨ n ≤ i.toNatClampNeg))
theorem rx_in_iff {i : Int32} {n : Nat} (h : rx_in i n = true) : vp_in i n := of_decide_eq_true (p := ¬ (i < 0 ∨ n ≤ i.toNatClampNeg)) h
/-- what a field or an array of that type takes -/
def rx_fit : FieldType → Value → Bool
  | .int, .int _ => true
  | .boolean, .int x => decide (x = 0) || decide (x = 1)
  | .object _, .ref _ => true
  | .object _, .null => true
  | .array _, .ref _ => true
  | .array _, .null => true
  | _, _ => false
theorem rx_fit_ok {ty : FieldType} {v : Value} (ad : Nat → Nat) (h : rx_fit ty v = true) : narrow ty (rx_v ad v) = rx_v ad v ∧ fits ty (rx_v ad v) = true := by
  cases ty <;> cases v <;> first
    | (cases h; done)
    | exact ⟨rfl, rfl⟩
    | (simp only [rx_fit, Bool.or_eq_true, decide_eq_true_eq] at h
       rcases h with rfl | rfl <;> exact ⟨rfl, rfl⟩)
def rx_ref (o : Option Nat) : Value := match o with
  | some k => .ref k
  | none => .null
def rx_get (co idx : Nat) (st : List Value) (h : rx_H) : Option (List Value) := match st with
  | .ref k :: r => match rx_lk rx_FLs co idx with
    | some ((ci, fk, _, _), _) => match h[k]? with
      | some (.inr (.inr (cj, fs))) => if cj = ci then match fs[fk]? with
          | some v => some (v :: r)
          | none => none
        else none
      | _ => none
    | none => match rx_lk rx_KLs co idx with
      | some (0, _) => if 1000000 ≤ k ∧ k - 1000000 < rx_tb.length then some (.int 0 :: r) else none
      | some (1, _) => if 1000000 ≤ k ∧ k - 1000000 < rx_tb.length then some (.ref (k + 1000000) :: r) else none
      | _ => none
  | _ => none
def rx_put (ini : Bool) (co idx : Nat) (st : List Value) (h : rx_H) : Option (List Value × rx_H) := match st with
  | v :: .ref k :: r => match rx_lk rx_FLs co idx with
    | some ((ci, fk, ty, fin), _) => match h[k]? with
      | some (.inr (.inr (cj, fs))) => if cj = ci ∧ fk < fs.length ∧ rx_fit ty v = true ∧ (fin = false ∨ (ini = true ∧ ci = co)) then some (r, h.set k (.inr (.inr (cj, fs.set fk v)))) else none
      | _ => none
    | none => none
  | _ => none
/-- a static array's contents -/
def rx_sa (k : Nat) : Option (Nat × List Int32) := if 3000000 ≤ k then match rx_sn[k - 3000000]? with
    | some (_, _, _, .inr a) => some a
    | _ => none
  else none
def rx_iald (st : List Value) (h : rx_H) : Option (List Value) := match st with
  | .int i :: .ref k :: r => match h[k]? with
    | some (.inl (0, n, f)) => if rx_in i n then some (.int (f i.toNatClampNeg) :: r) else none
    | some _ => none
    | none => match rx_sa k with
      | some (n, a) => if rx_in i n then some (.int (a.getD i.toNatClampNeg 0) :: r) else none
      | none => none
  | _ => none
def rx_bald (st : List Value) (h : rx_H) : Option (List Value) := match st with
  | .int i :: .ref k :: r => match h[k]? with
    | some (.inl (1, n, f)) => if rx_in i n then some (.int (f i.toNatClampNeg) :: r) else none
    | some (.inl (2, n, f)) => if rx_in i n then some (.int (f i.toNatClampNeg) :: r) else none
    | some _ => none
    | none => if 2000000 ≤ k then match rx_tb[k - 2000000]? with
        | some a => if rx_in i a.length then some (.int (a.getD i.toNatClampNeg 0) :: r) else none
        | none => none
      else none
  | _ => none
def rx_isq (t : Nat) : Bool := rx_el.any (fun q => decide (q.1 = t))
def rx_aald (st : List Value) (h : rx_H) : Option (List Value) := match st with
  | .int i :: .ref k :: r => match h[k]? with
    | some (.inr (.inl (t, a))) => if rx_in i a.length = true ∧ rx_isq t = true then some (rx_ref (a.getD i.toNatClampNeg none) :: r) else none
    | _ => none
  | _ => none
def rx_alen (st : List Value) (h : rx_H) : Option (List Value) := match st with
  | .ref k :: r => match h[k]? with
    | some (.inl (t, n, _)) => if t < 3 then some (.int (Int32.ofNat n) :: r) else none
    | some (.inr (.inl (t, a))) => if rx_isq t = true then some (.int (Int32.ofNat a.length) :: r) else none
    | some _ => none
    | none => match rx_sa k with
      | some (n, _) => some (.int (Int32.ofNat n) :: r)
      | none => if 2000000 ≤ k then match rx_tb[k - 2000000]? with
          | some a => some (.int (Int32.ofNat a.length) :: r)
          | none => none
        else none
  | _ => none
def rx_iast (st : List Value) (h : rx_H) : Option (List Value × rx_H) := match st with
  | .int x :: .int i :: .ref k :: r => match h[k]? with
    | some (.inl (0, n, f)) => if rx_in i n then some (r, h.set k (.inl (0, n, upd f i.toNatClampNeg x))) else none
    | _ => none
  | _ => none
def rx_bast (st : List Value) (h : rx_H) : Option (List Value × rx_H) := match st with
  | .int x :: .int i :: .ref k :: r => match h[k]? with
    | some (.inl (1, n, f)) => if rx_in i n then some (r, h.set k (.inl (1, n, upd f i.toNatClampNeg (vp_nar .byte x)))) else none
    | some (.inl (2, n, f)) => if rx_in i n then some (r, h.set k (.inl (2, n, upd f i.toNatClampNeg (vp_nar .boolean x)))) else none
    | _ => none
  | _ => none
def rx_aast (st : List Value) (h : rx_H) : Option (List Value × rx_H) := match st with
  | .ref q :: .int i :: .ref k :: r => match h[k]?, h[q]? with
    | some (.inr (.inl (t, a))), some (.inr (.inr (ci, _))) => if rx_in i a.length = true ∧ (t, ci) ∈ rx_el then some (r, h.set k (.inr (.inl (t, a.set i.toNatClampNeg (some q))))) else none
    | _, _ => none
  | _ => none
def rx_cats (r : List Value) : Nat := (r.map fun v => v.category).sum
def rx_copy (fr lo : Nat) (st : List Value) (h : rx_H) : Option (List Value × rx_H) := match st with
  | .int n :: .int dp :: .ref k :: .int sp :: .ref j :: r => match h[j]?, h[k]? with
    | some (.inl (0, n0, f)), some (.inl (0, n1, g)) => if ¬ sp < 0 ∧ ¬ dp < 0 ∧ ¬ n < 0 ∧ sp.toNatClampNeg + n.toNatClampNeg ≤ n0 ∧ dp.toNatClampNeg + n.toNatClampNeg ≤ n1 ∧ 1 ≤ fr ∧ rx_cats r + 40 ≤ lo then some (r, h.set k (.inl (0, n1, va_cpy f g sp.toNatClampNeg dp.toNatClampNeg n.toNatClampNeg))) else none
    | _, _ => none
  | _ => none
def rx_math (w fr lo : Nat) (st : List Value) : Option (List Value) := match st with
  | .int y :: .int x :: r => if 1 ≤ fr ∧ rx_cats r + 13 ≤ lo then match w with
      | 0 => some (.int (if x < y then y else x) :: r)
      | 1 => some (.int (if y < x then y else x) :: r)
      | _ => none
    else none
  | _ => none
def rx_stat (co idx : Nat) : Option Value := match rx_lk rx_SLs co idx with
  | some (k, _) => match rx_sn[k]? with
    | some (_, _, _, .inr _) => some (.ref (3000000 + k))
    | some (_, _, _, .inl x) => some (.int x)
    | none => none
  | none => none
def rx_ldc (co idx : Nat) : Option Value := match rx_lk rx_CIs co idx with
  | some (x, _) => some (.int x)
  | none => match rx_lk rx_STs co idx with
    | some k => if k < rx_tb.length then some (.ref (1000000 + k)) else none
    | none => none
def rx_heap (co : Nat) (ini : Bool) (fr lo : Nat) (i : Instr) (len pc : Nat) (st : List Value) (h : rx_H) : Option (Nat × List Value × rx_H) := match i, len with
  | .getfield idx, 3 => (rx_get co idx st h).map fun r => (pc + 3, r, h)
  | .putfield idx, 3 => (rx_put ini co idx st h).map fun r => (pc + 3, r.1, r.2)
  | .iaload, 1 => (rx_iald st h).map fun r => (pc + 1, r, h)
  | .baload, 1 => (rx_bald st h).map fun r => (pc + 1, r, h)
  | .aaload, 1 => (rx_aald st h).map fun r => (pc + 1, r, h)
  | .arraylength, 1 => (rx_alen st h).map fun r => (pc + 1, r, h)
  | .iastore, 1 => (rx_iast st h).map fun r => (pc + 1, r.1, r.2)
  | .bastore, 1 => (rx_bast st h).map fun r => (pc + 1, r.1, r.2)
  | .aastore, 1 => (rx_aast st h).map fun r => (pc + 1, r.1, r.2)
  | .getstatic idx, 3 => (rx_stat co idx).map fun v => (pc + 3, v :: st, h)
  | .ldc idx, 2 => (rx_ldc co idx).map fun v => (pc + 2, v :: st, h)
  | .ldc_w idx, 3 => match rx_lk rx_CIs co idx with
    | some (x, _) => some (pc + 3, .int x :: st, h)
    | none => none
  | .ldc2_w idx, 3 => match rx_lk rx_CJs co idx with
    | some (x, _) => some (pc + 3, .long x :: st, h)
    | none => none
  | .invokespecial idx, 3 => match rx_lk rx_OLs co idx, st with
    | some _, .ref _ :: r => if 1 ≤ fr ∧ rx_cats r + 12 ≤ lo then some (pc + 3, r, h) else none
    | _, _ => none
  | .invokestatic idx, 3 => match rx_lk rx_YLs co idx with
    | some _ => (rx_copy fr lo st h).map fun r => (pc + 3, r.1, r.2)
    | none => match rx_lk rx_JLs co idx with
      | some (w, _) => (rx_math w fr lo st).map fun r => (pc + 3, r, h)
      | none => match rx_lk rx_XLs co idx, st with
        | some _, .int n :: .int i :: r => if ¬ i < 0 ∧ i < n ∧ 2 ≤ fr ∧ 43 ≤ lo ∧ rx_cats r ≤ 8 then some (pc + 3, r, h) else none
        | _, _ => none
  | _, _ => none
/-! the cells as the machine has them -/
def rx_c (ad : Nat → Nat) (tC : Nat → ClassId) : rx_C → va_E
  | .inl (t, n, f) => .inl (tC t, n, .inl f)
  | .inr (.inl (t, a)) => .inl (tC t, a.length, .inr (.inr (.inr (.inr (fun j => (a.getD j none).map ad)))))
  | .inr (.inr (ci, fs)) => .inr (ci, fs.map (rx_v ad))
def rx_w (ad : Nat → Nat) (tC : Nat → ClassId) (h : rx_H) : va_W := h.mapIdx (fun k c => (ad k, rx_c ad tC c))
def rx_tys (tC : Nat → ClassId) : List (ClassId × FieldType) := rx_ty.mapIdx (fun k ty => (tC k, ty))
theorem rx_w_get {ad : Nat → Nat} {tC : Nat → ClassId} {h : rx_H} {k : Nat} {c : rx_C} (hk : h[k]? = some c) : (rx_w ad tC h)[k]? = some (ad k, rx_c ad tC c) := by
  simp [rx_w, List.getElem?_mapIdx, hk]
theorem rx_w_set {ad : Nat → Nat} {tC : Nat → ClassId} {h : rx_H} {k : Nat} {c : rx_C} : (rx_w ad tC h).set k (ad k, rx_c ad tC c) = rx_w ad tC (h.set k c) := by
  apply List.ext_getElem?
  intro j
  simp only [rx_w, List.getElem?_set, List.getElem?_mapIdx, List.length_mapIdx]
  by_cases hj : k = j
  · subst hj
    simp only [if_true]
    split <;> simp_all
  · simp only [if_neg hj]
theorem rx_tys_get {tC : Nat → ClassId} {k : Nat} {ty : FieldType} (hk : rx_ty[k]? = some ty) : (rx_tys tC)[k]? = some (tC k, ty) := by
  simp [rx_tys, List.getElem?_mapIdx, hk]
def rx_A (base : Nat) : Nat → Prop := fun q => base ≤ q
/-- what stands of constants -/
def rx_Con (ad : Nat → Nat) (base : Nat) (s : State) : Prop :=
  vk_S rx_tb.length (rx_tb.map List.length) rx_tb (fun i => ad (1000000 + i)) (fun i => ad (2000000 + i)) (rx_A base) s s.heap ∧
  (∀ (k : Nat) (C n d : String) (N : Nat) (a : List Int32), rx_sn[k]? = some (C, n, d, .inr (N, a)) → va_Z C n d (.ref (ad (3000000 + k))) (rx_A base) s s.heap ∧ va_T .int (ad (3000000 + k)) N (fun j => .int (a.getD j 0)) (rx_A base) s s.heap) ∧
  (∀ (k : Nat) (C n d : String) (x : Int32), rx_sn[k]? = some (C, n, d, .inl x) → va_Z C n d (.int x) (rx_A base) s s.heap) ∧
  (∀ (co idx k : Nat), rx_lk rx_STs co idx = some k → ∃ tx : String, vk_R (rx_cn co) idx tx (ad (1000000 + k)) s) ∧
  (∀ (t ci : Nat), (t, ci) ∈ rx_el → va_AO (rx_cn ci) s) ∧
  (∀ (co idx j pos : Nat), rx_lk rx_MLs co idx = some ((j, true), pos) → ∀ M : rx_M, rx_MT[j]? = some M → va_Nw (.methodLinkNest (rx_cn co) idx M.2.1 rx_host) s) ∧
  va_Zq "jdk/internal/util/Preconditions" "SIOOBE_FORMATTER" "Ljava/util/function/BiFunction;" (rx_A base) s s.heap
/-- the machine's cells are these -/
def rx_Rel (D : va_G) (tC : Nat → ClassId) (ad : Nat → Nat) (base : Nat) (s : State) (H : Heap) (locs : List Loc) (h : rx_H) : Prop :=
  va_K D vwCl (rx_tys tC) s ∧ va_P D vwCl (rx_w ad tC h) H ∧ va_D (rx_A base) (rx_w ad tC h) ∧ va_S (rx_A base) s.heap H locs
end
section
/-! the machine does what rx_heap does -/
theorem rx_n1 {k : Nat} (h : 1000000 ≤ k) : 1000000 + (k - 1000000) = k := by omega
theorem rx_n2 {k : Nat} (h : 1000000 ≤ k) : 2000000 + (k - 1000000) = k + 1000000 := by omega
theorem rx_n3 {k : Nat} (h : 2000000 ≤ k) : 2000000 + (k - 2000000) = k := by omega
theorem rx_n4 {k : Nat} (h : 3000000 ≤ k) : 3000000 + (k - 3000000) = k := by omega
set_option maxRecDepth 100000 in
theorem rx_schk : rx_SLs.all (fun q => match rx_sn[q.2.1]? with
  | some (C, n, d, _) => rx_has q.2.2 (.fieldLink (rx_cn q.1.1) q.1.2 C n d)
  | none => false) = true := by decide +kernel
set_option maxRecDepth 100000 in
theorem rx_kchk : rx_KLs.all (fun q => if q.2.1 = 0 then rx_has q.2.2 (.fieldLink (rx_cn q.1.1) q.1.2 "java/lang/String" "coder" "B") else rx_has q.2.2 (.fieldLink (rx_cn q.1.1) q.1.2 "java/lang/String" "value" "[B")) = true := by decide +kernel
set_option maxRecDepth 100000 in
theorem rx_cichk : rx_CIs.all (fun q => rx_has q.2.2 (.constant (rx_cn q.1.1) q.1.2 q.2.1)) = true := by decide +kernel
set_option maxRecDepth 100000 in
theorem rx_cjchk : rx_CJs.all (fun q => rx_has q.2.2 (.constantLong (rx_cn q.1.1) q.1.2 q.2.1)) = true := by decide +kernel
set_option maxRecDepth 100000 in
theorem rx_olchk : rx_OLs.all (fun q => rx_has q.2 (.methodLink (rx_cn q.1.1) q.1.2 Lib.objectInit)) = true := by decide +kernel
set_option maxRecDepth 100000 in
theorem rx_ylchk : rx_YLs.all (fun q => rx_has q.2 (.methodLink (rx_cn q.1.1) q.1.2 arraycopyName)) = true := by decide +kernel
set_option maxRecDepth 100000 in
theorem rx_w_oi : Cond.instanceMethod Lib.objectInit ∈ rx_Ts ∧ Cond.code Lib.objectInit ⟨#[0xb1]⟩ 1 none ∈ rx_Ts ∧ Cond.native arraycopyName ∈ rx_Ts ∧ Cond.static arraycopyName ∈ rx_Ts ∧ Cond.initialized "java/lang/System" ∈ rx_Ts := by
  have h := rx_in2_mem (ws := [Cond.instanceMethod Lib.objectInit, Cond.code Lib.objectInit ⟨#[0xb1]⟩ 1 none, Cond.native arraycopyName, Cond.static arraycopyName, Cond.initialized "java/lang/System"]) (by decide +kernel)
  exact ⟨h _ (by simp), h _ (by simp), h _ (by simp), h _ (by simp), h _ (by simp)⟩
theorem rx_nfw : nativeFrameWords "java/lang/System" "arraycopy" 5 + 11 ≤ 40 := by decide +kernel
theorem rx_el_ok : rx_el.all (fun q => match vwCl[q.2]? with
  | some (C, _, _) => decide (rx_ty[q.1]? = some (.object C)) && decide (rx_cn q.2 = C)
  | none => false) = true := by decide +kernel
section RXH
variable {p : Program} {l : Launch} {e : Env} {R : Room} {s : State} {m : MethodId} {args : Array Value} {below : List Frame} {meth : Method} {c : Code} {H : Heap} {locs : List Loc} {cells slots : Nat} {Q : State → Prop}
variable {cc : ByteArray} {pc pc' nL len co idx base : Nat} {ini : Bool} {ls : Array Slot} {D : va_G} {tC : Nat → ClassId} {ad : Nat → Nat} {st st' : List Value} {h h' : rx_H}
/-- the goal behind an instruction that may write -/
def rx_KH (p : Program) (l : Launch) (e : Env) (R : Room) (s : State) (m : MethodId) (args : Array Value) (below : List Frame) (meth : Method) (c : Code) (cells slots : Nat) (Q : State → Prop) (D : va_G) (tC : Nat → ClassId) (ad : Nat → Nat) (base : Nat) (ls : Array Slot) (pc : Nat) (st : List Value) (h : rx_H) : Prop :=
  ∀ (H : Heap) (locs : List Loc), rx_Rel D tC ad base s H locs h → W p l e R s m args below meth c H locs cells slots Q (F0 m pc ls (st.map (rx_v ad)))
theorem rx_h_get (hx : p.tables.exec = Jvm.exec) (hb : c.code = cc) (hown : s.vm.findClass (rx_cn co) = some m.cls) (hts : ∀ w ∈ rx_Ts, w.before args s = true) (hC : rx_Con ad base s) (hR : rx_Rel D tC ad base s H locs h) (hd : decode cc pc = .ok (.getfield idx, 3)) (hs : rx_get co idx st h = some st') (kk : W p l e R s m args below meth c H locs cells slots Q (F0 m (pc + 3) ls (st'.map (rx_v ad)))) :
    W p l e R s m args below meth c H locs cells slots Q (F0 m pc ls (st.map (rx_v ad))) := by
  obtain ⟨hK, hP, hD, hS⟩ := hR
  unfold rx_get at hs
  split at hs
  · next k r =>
    split at hs
    · next ci fk ty fin pos hL =>
      split at hs
      · next cj fs hk =>
        split at hs
        · next hcc =>
          subst hcc
          split at hs
          · next v hv =>
            cases hs
            obtain ⟨C, T, N, h1, h2, h3, h4, h5, h6⟩ := rx_FL_ok hL
            exact va_get (D := D) (C := C) (T := T) (N := N) hx hb hts (rx_cl_ok h1).1 hown hK hP k (rx_w_get hk) h1 fk h2 (hts _ h3) (fun _ q => q) (by simp [hv]) hd kk
          · cases hs
        · cases hs
      · cases hs
    · next hL =>
      split at hs
      · next pos hk2 =>
        split at hs
        · next hk =>
          cases hs
          have h1 := List.all_eq_true.mp rx_kchk _ (rx_lk_mem hk2)
          simp only [if_true] at h1
          have h2 := (hC.1.1 _ hk.2).2.1
          dsimp only at h2
          rw [rx_n1 hk.1] at h2
          exact vk_getf hx hb h2 hS hown (hts _ (rx_has_mem h1)) (fun _ q => q) hd kk
        · cases hs
      · next pos hk2 =>
        split at hs
        · next hk =>
          cases hs
          have h1 := List.all_eq_true.mp rx_kchk _ (rx_lk_mem hk2)
          simp only [show (1 : Nat) ≠ 0 by decide, if_false] at h1
          have h2 := (hC.1.1 _ hk.2).2.2.1
          dsimp only at h2
          rw [rx_n1 hk.1, rx_n2 hk.1] at h2
          exact vk_getf hx hb h2 hS hown (hts _ (rx_has_mem h1)) (fun _ q => q) hd kk
        · cases hs
      · cases hs
  · cases hs
theorem rx_h_put (hx : p.tables.exec = Jvm.exec) (hb : c.code = cc) (hown : s.vm.findClass (rx_cn co) = some m.cls) (hts : ∀ w ∈ rx_Ts, w.before args s = true) (hin : ini = true → meth.name = "<init>") (hcn : ∀ ci C T N, vwCl[ci]? = some (C, T, N) → rx_cn ci = C) (hR : rx_Rel D tC ad base s H locs h) (hd : decode cc pc = .ok (.putfield idx, 3)) (hs : rx_put ini co idx st h = some (st', h')) (kk : rx_KH p l e R s m args below meth c cells slots Q D tC ad base ls (pc + 3) st' h') :
    W p l e R s m args below meth c H locs cells slots Q (F0 m pc ls (st.map (rx_v ad))) := by
  obtain ⟨hK, hP, hD, hS⟩ := hR
  unfold rx_put at hs
  split at hs
  · next v k r =>
    split at hs
    · next ci fk ty fin pos hL =>
      split at hs
      · next cj fs hk =>
        split at hs
        · next hcc =>
          obtain ⟨e1, hlen, hfit, hfin⟩ := hcc
          subst e1
          simp only [Option.some.injEq, Prod.mk.injEq] at hs
          obtain ⟨e2, e3⟩ := hs
          subst e2
          subst e3
          obtain ⟨C, T, N, h1, h2, h3, h4, h5, h6⟩ := rx_FL_ok hL
          obtain ⟨f1, f2⟩ := rx_fit_ok ad hfit
          obtain ⟨w1, ⟨ty0, -, w2⟩, w3, -, -⟩ := rx_cl_ok h1
          have hfs : (fs.map (rx_v ad)).set fk (rx_v ad v) = (fs.set fk v).map (rx_v ad) := by simp [List.map_set]
          have kk' : ∀ (H1 : Heap) (locs1 : List Loc), va_P D vwCl ((rx_w ad tC h).set k (ad k, .inr (cj, (fs.map (rx_v ad)).set fk (rx_v ad v)))) H1 → va_D (rx_A base) ((rx_w ad tC h).set k (ad k, .inr (cj, (fs.map (rx_v ad)).set fk (rx_v ad v)))) → va_S (rx_A base) s.heap H1 locs1 → W p l e R s m args below meth c H1 locs1 cells slots Q (F0 m (pc + 3) ls (r.map (rx_v ad))) := by
            intro H1 locs1 a1 a2 a3
            rw [hfs] at a1 a2
            have e2 := rx_w_set (ad := ad) (tC := tC) (h := h) (k := k) (c := .inr (.inr (cj, fs.set fk v)))
            exact kk H1 locs1 ⟨hK, e2 ▸ a1, e2 ▸ a2, a3⟩
          cases hb2 : fin with
          | false =>
            rw [hb2] at h5
            exact va_put (D := D) (C := C) (T := T) (N := N) hx hb hts w1 ty0 w2 w3 hown hK hP hD hS k (rx_w_get hk) h1 fk h2 (hts _ h3) (fun _ q => q) h5 h4 f1 f2 (by simpa using hlen) hd kk'
          | true =>
            rw [hb2] at h5 hfin
            rcases hfin with q | ⟨q1, q2⟩
            · cases q
            · subst q2
              exact va_putF (D := D) (C := C) (T := T) (N := N) hx hb hts w1 ty0 w2 w3 hown hK hP hD hS k (rx_w_get hk) h1 fk h2 (hts _ h3) (fun _ q => q) h5 (hin q1) (h6.trans (hcn _ _ _ _ h1).symm) h4 f1 f2 (by simpa using hlen) hd kk'
        · cases hs
      · cases hs
    · cases hs
  · cases hs
theorem rx_sa_ok (hC : rx_Con ad base s) {k N : Nat} {a : List Int32} (h1 : rx_sa k = some (N, a)) : va_T .int (ad k) N (fun j => .int (a.getD j 0)) (rx_A base) s s.heap := by
  unfold rx_sa at h1
  split at h1
  · next hk =>
    split at h1
    · next C n d a' he =>
      cases h1
      have := (hC.2.1 _ _ _ _ _ _ he).2
      rwa [rx_n4 hk] at this
    · cases h1
  · cases h1
theorem rx_tb_ok (hC : rx_Con ad base s) {k : Nat} {a : List Int32} (hk : 2000000 ≤ k) (h1 : rx_tb[k - 2000000]? = some a) : va_T .byte (ad k) a.length (fun j => .int (a.getD j 0)) (rx_A base) s s.heap := by
  have hl : k - 2000000 < rx_tb.length := (List.getElem?_eq_some_iff.mp h1).1
  have := (hC.1.1 _ hl).2.2.2
  have e1 : (rx_tb.map List.length).getD (k - 2000000) 0 = a.length := by simp [List.getD_eq_getElem?_getD, h1]
  have e2 : rx_tb.getD (k - 2000000) [] = a := by simp [List.getD_eq_getElem?_getD, h1]
  rw [e1, e2] at this
  dsimp only at this
  rwa [rx_n3 hk] at this
theorem rx_h_iald (hx : p.tables.exec = Jvm.exec) (hb : c.code = cc) (hC : rx_Con ad base s) (hR : rx_Rel D tC ad base s H locs h) (hd : decode cc pc = .ok (.iaload, 1)) (hs : rx_iald st h = some st') (kk : W p l e R s m args below meth c H locs cells slots Q (F0 m (pc + 1) ls (st'.map (rx_v ad)))) :
    W p l e R s m args below meth c H locs cells slots Q (F0 m pc ls (st.map (rx_v ad))) := by
  obtain ⟨hK, hP, hD, hS⟩ := hR
  unfold rx_iald at hs
  split at hs
  · next i k r =>
    split at hs
    · next n f hk =>
      split at hs
      · next hi => cases hs; exact va_iald hx hb hK hP k 0 (rx_w_get hk) (rx_tys_get rfl) (rx_in_iff hi) hd kk
      · cases hs
    · cases hs
    · split at hs
      · next N a ha =>
        split at hs
        · next hi => cases hs; exact va_ti hx hb (rx_sa_ok hC ha) hS (rx_in_iff hi) rfl hd kk
        · cases hs
      · cases hs
  · cases hs
theorem rx_h_bald (hx : p.tables.exec = Jvm.exec) (hb : c.code = cc) (hC : rx_Con ad base s) (hR : rx_Rel D tC ad base s H locs h) (hd : decode cc pc = .ok (.baload, 1)) (hs : rx_bald st h = some st') (kk : W p l e R s m args below meth c H locs cells slots Q (F0 m (pc + 1) ls (st'.map (rx_v ad)))) :
    W p l e R s m args below meth c H locs cells slots Q (F0 m pc ls (st.map (rx_v ad))) := by
  obtain ⟨hK, hP, hD, hS⟩ := hR
  unfold rx_bald at hs
  split at hs
  · next i k r =>
    split at hs
    · next n f hk =>
      split at hs
      · next hi => cases hs; exact va_bald hx hb hK hP k 1 (rx_w_get hk) (rx_tys_get rfl) (rx_in_iff hi) hd kk
      · cases hs
    · next n f hk =>
      split at hs
      · next hi => cases hs; exact va_zald hx hb hK hP k 2 (rx_w_get hk) (rx_tys_get rfl) (rx_in_iff hi) hd kk
      · cases hs
    · cases hs
    · split at hs
      · next hk =>
        split at hs
        · next a ha =>
          split at hs
          · next hi => cases hs; exact va_tb hx hb (rx_tb_ok hC hk ha) hS (rx_in_iff hi) rfl hd kk
          · cases hs
        · cases hs
      · cases hs
  · cases hs
theorem rx_v_ref (o : Option Nat) : rx_v ad (rx_ref o) = va_rf (o.map ad) := by cases o <;> rfl
theorem rx_isq_ok {t : Nat} (h1 : rx_isq t = true) : ∃ C : String, rx_ty[t]? = some (.object C) := by
  unfold rx_isq at h1
  obtain ⟨q, hq, he⟩ := List.any_eq_true.mp h1
  have h2 := List.all_eq_true.mp rx_el_ok q hq
  split at h2
  · next C T N hc =>
    simp only [Bool.and_eq_true, decide_eq_true_eq] at h2 he
    exact ⟨C, he ▸ h2.1⟩
  · cases h2
theorem rx_el_has {t ci : Nat} (h1 : (t, ci) ∈ rx_el) : ∃ (C : String) (T : u_T) (N : Nat), vwCl[ci]? = some (C, T, N) ∧ rx_ty[t]? = some (.object C) ∧ rx_cn ci = C := by
  have h2 := List.all_eq_true.mp rx_el_ok _ h1
  split at h2
  · next C T N hc =>
    simp only [Bool.and_eq_true, decide_eq_true_eq] at h2
    exact ⟨C, T, N, hc, h2.1, h2.2⟩
  · cases h2
theorem rx_ty3 {t : Nat} (h1 : t < 3) : ∃ ty, rx_ty[t]? = some ty := by
  match t, h1 with
  | 0, _ => exact ⟨_, rfl⟩
  | 1, _ => exact ⟨_, rfl⟩
  | 2, _ => exact ⟨_, rfl⟩
theorem rx_h_aald (hx : p.tables.exec = Jvm.exec) (hb : c.code = cc) (hR : rx_Rel D tC ad base s H locs h) (hd : decode cc pc = .ok (.aaload, 1)) (hs : rx_aald st h = some st') (kk : W p l e R s m args below meth c H locs cells slots Q (F0 m (pc + 1) ls (st'.map (rx_v ad)))) :
    W p l e R s m args below meth c H locs cells slots Q (F0 m pc ls (st.map (rx_v ad))) := by
  obtain ⟨hK, hP, hD, hS⟩ := hR
  unfold rx_aald at hs
  split at hs
  · next i k r =>
    split at hs
    · next t a hk =>
      split at hs
      · next hi =>
        cases hs
        obtain ⟨C, hC⟩ := rx_isq_ok hi.2
        refine va_aldq hx hb hK hP k t (rx_w_get hk) (rx_tys_get hC) (rx_in_iff hi.1) hd ?_
        have e : rx_v ad (rx_ref (a.getD i.toNatClampNeg none)) = va_rf ((a.getD i.toNatClampNeg none).map ad) := rx_v_ref _
        rw [← e]
        exact kk
      · cases hs
    · cases hs
  · cases hs
theorem rx_h_alen (hx : p.tables.exec = Jvm.exec) (hb : c.code = cc) (hC : rx_Con ad base s) (hR : rx_Rel D tC ad base s H locs h) (hd : decode cc pc = .ok (.arraylength, 1)) (hs : rx_alen st h = some st') (kk : W p l e R s m args below meth c H locs cells slots Q (F0 m (pc + 1) ls (st'.map (rx_v ad)))) :
    W p l e R s m args below meth c H locs cells slots Q (F0 m pc ls (st.map (rx_v ad))) := by
  obtain ⟨hK, hP, hD, hS⟩ := hR
  unfold rx_alen at hs
  split at hs
  · next k r =>
    split at hs
    · next t n f hk =>
      split at hs
      · next ht =>
        cases hs
        obtain ⟨ty, hty⟩ := rx_ty3 ht
        exact va_alen hx hb hK hP k t (rx_w_get hk) (rx_tys_get hty) rfl hd kk
      · cases hs
    · next t a hk =>
      split at hs
      · next ht =>
        cases hs
        obtain ⟨C, hty⟩ := rx_isq_ok ht
        exact va_alen hx hb hK hP k t (rx_w_get hk) (rx_tys_get hty) rfl hd kk
      · cases hs
    · cases hs
    · split at hs
      · next N a ha => cases hs; exact va_tlen hx hb (rx_sa_ok hC ha) hS rfl hd kk
      · split at hs
        · next hk =>
          split at hs
          · next a ha => cases hs; exact va_tlen hx hb (rx_tb_ok hC hk ha) hS rfl hd kk
          · cases hs
        · cases hs
  · cases hs
theorem rx_h_iast (hx : p.tables.exec = Jvm.exec) (hb : c.code = cc) (hR : rx_Rel D tC ad base s H locs h) (hd : decode cc pc = .ok (.iastore, 1)) (hs : rx_iast st h = some (st', h')) (kk : rx_KH p l e R s m args below meth c cells slots Q D tC ad base ls (pc + 1) st' h') :
    W p l e R s m args below meth c H locs cells slots Q (F0 m pc ls (st.map (rx_v ad))) := by
  obtain ⟨hK, hP, hD, hS⟩ := hR
  unfold rx_iast at hs
  split at hs
  · next x i k r =>
    split at hs
    · next n f hk =>
      split at hs
      · next hi =>
        simp only [Option.some.injEq, Prod.mk.injEq] at hs
        obtain ⟨e2, e3⟩ := hs
        subst e2; subst e3
        have e2 := rx_w_set (ad := ad) (tC := tC) (h := h) (k := k) (c := .inl (0, n, upd f i.toNatClampNeg x))
        exact va_iast hx hb hK hP hD hS k 0 (rx_w_get hk) (rx_tys_get rfl) (rx_in_iff hi) hd (fun H1 locs1 a1 a2 a3 => kk H1 locs1 ⟨hK, e2 ▸ a1, e2 ▸ a2, a3⟩)
      · cases hs
    · cases hs
  · cases hs
theorem rx_h_bast (hx : p.tables.exec = Jvm.exec) (hb : c.code = cc) (hR : rx_Rel D tC ad base s H locs h) (hd : decode cc pc = .ok (.bastore, 1)) (hs : rx_bast st h = some (st', h')) (kk : rx_KH p l e R s m args below meth c cells slots Q D tC ad base ls (pc + 1) st' h') :
    W p l e R s m args below meth c H locs cells slots Q (F0 m pc ls (st.map (rx_v ad))) := by
  obtain ⟨hK, hP, hD, hS⟩ := hR
  unfold rx_bast at hs
  split at hs
  · next x i k r =>
    split at hs
    · next n f hk =>
      split at hs
      · next hi =>
        simp only [Option.some.injEq, Prod.mk.injEq] at hs
        obtain ⟨e2, e3⟩ := hs
        subst e2; subst e3
        have e2 := rx_w_set (ad := ad) (tC := tC) (h := h) (k := k) (c := .inl (1, n, upd f i.toNatClampNeg (vp_nar .byte x)))
        exact va_bast hx hb hK hP hD hS k 1 (rx_w_get hk) (rx_tys_get rfl) (rx_in_iff hi) hd (fun H1 locs1 a1 a2 a3 => kk H1 locs1 ⟨hK, e2 ▸ a1, e2 ▸ a2, a3⟩)
      · cases hs
    · next n f hk =>
      split at hs
      · next hi =>
        simp only [Option.some.injEq, Prod.mk.injEq] at hs
        obtain ⟨e2, e3⟩ := hs
        subst e2; subst e3
        have e2 := rx_w_set (ad := ad) (tC := tC) (h := h) (k := k) (c := .inl (2, n, upd f i.toNatClampNeg (vp_nar .boolean x)))
        exact va_zast hx hb hK hP hD hS k 2 (rx_w_get hk) (rx_tys_get rfl) (rx_in_iff hi) hd (fun H1 locs1 a1 a2 a3 => kk H1 locs1 ⟨hK, e2 ▸ a1, e2 ▸ a2, a3⟩)
      · cases hs
    · cases hs
  · cases hs
theorem rx_q_set {a : List (Option Nat)} {i q : Nat} (hi : i < a.length) : (fun j => ((a.set i (some q)).getD j none).map ad) = va_up (fun j => (a.getD j none).map ad) i (some (ad q)) := by
  funext j
  unfold va_up
  simp only [List.getD_eq_getElem?_getD, List.getElem?_set]
  by_cases hj : j = i
  · subst hj; simp [hi]
  · simp [hj, Ne.symm hj]
theorem rx_h_aast (hx : p.tables.exec = Jvm.exec) (hb : c.code = cc) (hR : rx_Rel D tC ad base s H locs h) (hd : decode cc pc = .ok (.aastore, 1)) (hs : rx_aast st h = some (st', h')) (kk : rx_KH p l e R s m args below meth c cells slots Q D tC ad base ls (pc + 1) st' h') :
    W p l e R s m args below meth c H locs cells slots Q (F0 m pc ls (st.map (rx_v ad))) := by
  obtain ⟨hK, hP, hD, hS⟩ := hR
  unfold rx_aast at hs
  split at hs
  · next q i k r =>
    split at hs
    · next t a ci fs hk hq =>
      split at hs
      · next hi =>
        simp only [Option.some.injEq, Prod.mk.injEq] at hs
        obtain ⟨e2, e3⟩ := hs
        subst e2; subst e3
        obtain ⟨C, T, N, h1, h2, h3⟩ := rx_el_has hi.2
        have hlt : i.toNatClampNeg < a.length := Nat.not_le.mp fun z => rx_in_iff hi.1 (Or.inr z)
        have e2 := rx_w_set (ad := ad) (tC := tC) (h := h) (k := k) (c := .inr (.inl (t, a.set i.toNatClampNeg (some q))))
        simp only [rx_c, List.length_set, rx_q_set hlt] at e2
        exact va_astq (r := (C, T, N)) hx hb hK hP hD hS k t q ci (rx_w_get hk) (rx_tys_get h2) (rx_w_get hq) h1 (rx_in_iff hi.1) hd (fun H1 locs1 a1 a2 a3 => kk H1 locs1 ⟨hK, e2 ▸ a1, e2 ▸ a2, a3⟩)
      · cases hs
    · cases hs
  · cases hs
theorem rx_cats_map (r : List Value) : ((r.map (rx_v ad)).map fun v => v.category).sum = rx_cats r := by
  unfold rx_cats
  rw [List.map_map]
  congr 1
  apply List.map_congr_left
  intro v _
  exact rx_cat ad v
theorem rx_h_copy (hx : p.tables.exec = Jvm.exec) (hb : c.code = cc) (hml : c.maxLocals = ls.size) (hown : s.vm.findClass (rx_cn co) = some m.cls) (hts : ∀ w ∈ rx_Ts, w.before args s = true) {pos : Nat} (hY : rx_lk rx_YLs co idx = some pos) (hR : rx_Rel D tC ad base s H locs h) (hd : decode cc pc = .ok (.invokestatic idx, 3)) (hs : rx_copy R.frames R.locals st h = some (st', h')) (kk : rx_KH p l e R s m args below meth c cells slots Q D tC ad base ls (pc + 3) st' h') :
    W p l e R s m args below meth c H locs cells slots Q (F0 m pc ls (st.map (rx_v ad))) := by
  obtain ⟨hK, hP, hD, hS⟩ := hR
  unfold rx_copy at hs
  split at hs
  · next n dp k sp j r =>
    split at hs
    · next n0 f n1 g hj hk =>
      split at hs
      · next hi =>
        obtain ⟨i1, i2, i3, i4, i5, i6, i7⟩ := hi
        simp only [Option.some.injEq, Prod.mk.injEq] at hs
        obtain ⟨e2, e3⟩ := hs
        subst e2; subst e3
        have h1 := List.all_eq_true.mp rx_ylchk _ (rx_lk_mem hY)
        have e2 := rx_w_set (ad := ad) (tC := tC) (h := h) (k := k) (c := .inl (0, n1, va_cpy f g sp.toNatClampNeg dp.toNatClampNeg n.toNatClampNeg))
        have hw := rx_w_oi
        have hnf := rx_nfw
        exact va_copyi hx hb hml hown (hts _ (rx_has_mem h1)) (hts _ hw.2.2.1) (hts _ hw.2.2.2.1) (hts _ hw.2.2.2.2) hK hP hD hS j k 0 0 (rx_w_get hj) (rx_w_get hk) (rx_tys_get rfl) (rx_tys_get rfl) rfl i1 i2 i3 i4 i5 (fun _ _ => rfl) i6 (by rw [rx_cats_map]; omega) hd (fun H1 locs1 a1 a2 a3 => kk H1 locs1 ⟨hK, e2 ▸ a1, e2 ▸ a2, a3⟩)
      · cases hs
    · cases hs
  · cases hs
end RXH
end
section
/-! the machine does what rx_heap does: all of it -/
set_option maxRecDepth 100000 in
theorem rx_jlchk : rx_JLs.all (fun q => if q.2.1 = 0 then rx_has q.2.2 (.methodLink (rx_cn q.1.1) q.1.2 Lib.Math.max.name) else if q.2.1 = 1 then rx_has q.2.2 (.methodLink (rx_cn q.1.1) q.1.2 Lib.Math.min.name) else true) = true := by decide +kernel
set_option maxRecDepth 100000 in
theorem rx_w_mx : Cond.static Lib.Math.max.name ∈ rx_Ts ∧ Cond.initialized "java/lang/Math" ∈ rx_Ts ∧ Cond.code Lib.Math.max.name Lib.Math.max.code 2 (some .int) ∈ rx_Ts ∧ Cond.static Lib.Math.min.name ∈ rx_Ts ∧ Cond.code Lib.Math.min.name Lib.Math.min.code 2 (some .int) ∈ rx_Ts := by
  have h := rx_in2_mem (ws := [Cond.static Lib.Math.max.name, Cond.initialized "java/lang/Math", Cond.code Lib.Math.max.name Lib.Math.max.code 2 (some .int), Cond.static Lib.Math.min.name, Cond.code Lib.Math.min.name Lib.Math.min.code 2 (some .int)]) (by decide +kernel)
  exact ⟨h _ (by simp), h _ (by simp), h _ (by simp), h _ (by simp), h _ (by simp)⟩
section RXW
variable {p : Program} {l : Launch} {e : Env} {R : Room} {s : State} {m : MethodId} {args : Array Value} {below : List Frame} {meth : Method} {c : Code} {H : Heap} {locs : List Loc} {uc us : Nat} {Q : State → Prop} {pc : Nat} {ls : Array Slot}
theorem rx_callW {mc ms : Nat} {st0 rest : List Value} {Qa : State → Outcome → State → Prop} {free : Addr → Prop} (hr : va_Run p l e R s m args below meth c H locs uc us mc ms (F0 m pc ls st0) rest Qa free)
    (kk : ∀ (v : Option Value) (st₀ t : State) (H1 : Heap) (L : List Loc), st₀.heap = H → t.heap = H1 → Qa st₀ (.returned v) t → (∀ q ∈ L, free q.base) → W p l e R s m args below meth c H1 (locs ++ L) (uc + mc) (us + ms) Q (F0 m (pc + 3) ls (v.toList ++ rest))) : W p l e R s m args below meth c H locs uc us Q (F0 m pc ls st0) := by
  intro T hT X
  obtain ⟨v, st₀, t, T', L, h0, X', hL, e1, e2, hq, st⟩ := hr T hT X
  obtain ⟨t2, a1, b1⟩ := kk v st₀ t T'.heap L h0 e1.symm hq hL T' rfl X'
  exact ⟨t2, st t2 a1, b1⟩
end RXW
/-! String.checkIndex of an index within: by hand -/
set_option maxRecDepth 100000 in
theorem rx_xlchk : rx_XLs.all (fun q => rx_has q.2 (.methodLink (rx_cn q.1.1) q.1.2 (rm_y rx_ciM))) = true := by decide +kernel
set_option maxRecDepth 100000 in
theorem rx_w_ci : Cond.fieldLink "java/lang/String" rx_cii.1 "jdk/internal/util/Preconditions" "SIOOBE_FORMATTER" "Ljava/util/function/BiFunction;" ∈ rx_Ts ∧ Cond.methodLink "java/lang/String" rx_cii.2 (rm_y rx_pcM) ∈ rx_Ts := by
  have h := rx_in2_mem (ws := [Cond.fieldLink "java/lang/String" rx_cii.1 "jdk/internal/util/Preconditions" "SIOOBE_FORMATTER" "Ljava/util/function/BiFunction;", Cond.methodLink "java/lang/String" rx_cii.2 (rm_y rx_pcM)]) (by decide +kernel)
  exact ⟨h _ (by simp), h _ (by simp)⟩
theorem rx_ci_in : rx_ciM ∈ rx_MT ∧ rx_pcM ∈ rx_MT := by
  have e : ∃ i j, rx_MT[i]? = some rx_ciM ∧ rx_MT[j]? = some rx_pcM := ⟨179, 180, rfl, rfl⟩
  obtain ⟨i, j, h1, h2⟩ := e
  exact ⟨List.mem_of_getElem? h1, List.mem_of_getElem? h2⟩
theorem rx_d_pc : decode (rm_code rx_pcM) 0 = .ok (.iload_n 0, 1) ∧ decode (rm_code rx_pcM) 1 = .ok (.ifCond .lt 8, 3) ∧ decode (rm_code rx_pcM) 4 = .ok (.iload_n 0, 1) ∧ decode (rm_code rx_pcM) 5 = .ok (.iload_n 1, 1) ∧ decode (rm_code rx_pcM) 6 = .ok (.if_icmp .lt 10, 3) ∧ decode (rm_code rx_pcM) 16 = .ok (.iload_n 0, 1) ∧ decode (rm_code rx_pcM) 17 = .ok (.ireturn, 1) := by decide +kernel
theorem rx_d_ci : decode (rm_code rx_ciM) 0 = .ok (.iload_n 0, 1) ∧ decode (rm_code rx_ciM) 1 = .ok (.iload_n 1, 1) ∧ decode (rm_code rx_ciM) 2 = .ok (.getstatic rx_cii.1, 3) ∧ decode (rm_code rx_ciM) 5 = .ok (.invokestatic rx_cii.2, 3) ∧ decode (rm_code rx_ciM) 8 = .ok (.pop, 1) ∧ decode (rm_code rx_ciM) 9 = .ok (.return_, 1) := by decide +kernel
theorem rx_good {w : Cond} (h : w ∈ rx_Ts) : (w.onTables && w.keeps) = true ∨ ∃ ty, w = .arrayClass ty := good_of_word (List.mem_filter.mp h).2
theorem rx_GoodIn {Z : rx_M} (hZ : Z ∈ rx_MT) : GoodIn rx_Ts (rm_ws Z) := by
  intro w hw
  have : w ∈ rx_Ts := (List.mem_cons.mp hw).elim (fun e => e ▸ rx_cw_all Z hZ) id
  exact ⟨this, rx_good this⟩
theorem rx_m_pc (l : Launch) {i n : Int32} {v : Value} (hv : v = .null ∨ ∃ t, v = .ref t) (h1 : ¬ i < 0) (h2 : i < n) : Met l (rm_y rx_pcM) (rm_ws rx_pcM) { frames := 0, cells := 0, slots := 0, locals := 0 } (va_Pc [.int i, .int n, v] (fun _ => True)) (fun _ st oc t => oc = .returned (some (.int i)) ∧ t.heap = st.heap) 0 0 (fun _ => False) := by
  obtain ⟨d0, d1, d4, d5, d6, d16, d17⟩ := rx_d_pc
  refine Met.ofW (cc := rm_code rx_pcM) (maxL := 3) (ret := some .int) (by decide) rfl ?_
  intro p e s m args below meth c s₁ B hml hv0
  obtain ⟨rfl, -⟩ := hv0
  have hx := B.exec
  have hb := B.bytes
  have hr := B.returns
  have hlocks := B.notSynchronized
  have hl := lv_entry ([.int i, .int n, v]) (n := 3) (by rcases hv with rfl | ⟨t, rfl⟩ <;> exact Nat.le_of_ble_eq_true rfl)
  rw [lg_entry_eq]
  generalize (lg_sl ([.int i, .int n, v]) ++ List.replicate (3 - (lg_sl ([.int i, .int n, v])).length) Slot.unset).toArray = ls at hl ⊢
  have hl0 : ls[0]? = some (.val (.int i)) := lv_at hl 0 rfl
  have hl1 : ls[1]? = some (.val (.int n)) := lv_at hl 1 rfl
  refine lv_iload_n hx hb d0 rfl hl0 ?_
  refine lv_if_lt (tgt := 9) hx hb d1 (by decide) (fun q => absurd q h1) (fun _ => ?_)
  refine lv_iload_n hx hb d4 rfl hl0 ?_
  refine lv_iload_n hx hb d5 rfl hl1 ?_
  refine lv_icmp_lt (tgt := 16) hx hb d6 (by decide) (fun _ => ?_) (fun q => absurd h2 q)
  refine lv_iload_n hx hb d16 rfl hl0 ?_
  exact W.iret hx hb hr (fun t ht _ => ⟨rfl, ht⟩) (fun _ h => by cases h) d17 hlocks
theorem rx_m_ci (l : Launch) (base : Nat) {i n : Int32} (h1 : ¬ i < 0) (h2 : i < n) : Met l (rm_y rx_ciM) (rm_ws rx_ciM) { frames := 1, cells := 0, slots := 0, locals := 22 } (va_Pc [.int i, .int n] (fun U => va_Zq "jdk/internal/util/Preconditions" "SIOOBE_FORMATTER" "Ljava/util/function/BiFunction;" (rx_A base) U U.heap)) (fun _ st oc t => oc = .returned none ∧ t.heap = st.heap) 0 0 (fun _ => False) := by
  obtain ⟨d0, d1, d2, d5, d8, d9⟩ := rx_d_ci
  obtain ⟨w1, w2⟩ := rx_w_ci
  refine Met.ofW (cc := rm_code rx_ciM) (maxL := 2) (ret := none) (by decide) rfl ?_
  intro p e s m args below meth c s₁ B hml hv0
  obtain ⟨rfl, hZ⟩ := hv0
  have hx := B.exec
  have hb := B.bytes
  have hr := B.returns
  have hlocks := B.notSynchronized
  have hts0 := atoms_spec (ws := rm_ws rx_ciM) B.pre
  have hts : ∀ w ∈ rx_Ts, w.before #[Value.int i, Value.int n] s = true := fun w hw => hts0 w (List.mem_cons_of_mem _ hw)
  have hown : s.vm.findClass "java/lang/String" = some m.cls := findClass_of_methodNamed B.named
  have hl := lv_entry ([.int i, .int n]) (n := 2) (Nat.le_of_ble_eq_true rfl)
  rw [lg_entry_eq]
  generalize (lg_sl ([.int i, .int n]) ++ List.replicate (2 - (lg_sl ([.int i, .int n])).length) Slot.unset).toArray = ls at hl ⊢
  have hl : lv_has ls 2 [(0, .int i), (1, .int n)] := hl
  refine lv_iload_n hx hb d0 rfl (lv_at hl 0 rfl) ?_
  refine lv_iload_n hx hb d1 rfl (lv_at hl 1 rfl) ?_
  have hS : va_S (rx_A base) s.heap s.heap [] := va_S.rf
  have go : ∀ v : Value, (v = .null ∨ ∃ t, v = .ref t) → va_Z "jdk/internal/util/Preconditions" "SIOOBE_FORMATTER" "Ljava/util/function/BiFunction;" v (rx_A base) s s.heap → W p l e (headSpec (rm_ws rx_ciM) { frames := 1, cells := 0, slots := 0, locals := 22 }).room s m #[Value.int i, Value.int n] below meth c s.heap [] 0 0 (MQ below (fun _ st oc t => oc = .returned none ∧ t.heap = st.heap) #[Value.int i, Value.int n] s 0 0 (fun _ => False)) (F0 m 2 ls [.int n, .int i]) := by
    intro v hv hz
    refine va_gets hx hb hz hS hown (hts _ w1) (fun _ q => q) d2 ?_
    obtain ⟨q, hq⟩ := rx_mt_all rx_pcM rx_ci_in.2
    have hw := rx_GoodIn rx_ci_in.2
    have hk : Cond.initialized (rm_y rx_pcM).cls ∈ rx_Ts ∧ Cond.static (rm_y rx_pcM) ∈ rx_Ts := by
      unfold rx_mchk at hq
      simp only [Bool.and_eq_true, decide_eq_true_eq] at hq
      have h7 := hq.2
      rw [if_pos (by decide)] at h7
      exact ⟨rx_has_mem hq.1.1.1.1.1.1, rx_has_mem h7⟩
    refine rx_callW (rest := []) (va_runS (As := [.int i, .int n, v]) (rest := []) ⟨hx, hb, hml, hown, hts⟩ (rx_m_pc l hv h1 h2) ⟨callB_of 3 hts hw rfl rfl rfl (hts _ hk.1) (hts _ w2) (by decide) ⟨Nat.le_refl _, Nat.le_of_ble_eq_true rfl⟩, hts _ hk.2⟩ ⟨fun a U g mk q => q, fun U hU hW => ⟨rfl, trivial⟩⟩ rfl rfl hl.1 rfl (by exact Nat.le_of_ble_eq_true rfl) d5 ⟨Nat.le_refl _, Nat.le_refl _⟩) (fun v1 st₀ t H1 L e0 e1 hq1 hL => ?_)
    obtain ⟨g1, g2⟩ := hq1
    cases g1
    have eH : H1 = s.heap := by rw [← e1, g2, e0]
    subst eH
    refine lv_pop hx hb d8 rfl ?_
    exact W.vret hx hb hr (fun t ht _ => ⟨rfl, ht⟩) (fun q hq => by
      rcases List.mem_append.mp hq with h | h
      · cases h
      · exact (hL q h).elim) d9 hlocks
  rcases hZ with hz | ⟨t, hz⟩
  · exact go .null (Or.inl rfl) hz
  · exact go (.ref t) (Or.inr ⟨t, rfl⟩) hz
section RXI
variable {p : Program} {l : Launch} {e : Env} {R : Room} {s : State} {m : MethodId} {args : Array Value} {below : List Frame} {meth : Method} {c : Code} {H : Heap} {locs : List Loc} {cells slots : Nat} {Q : State → Prop}
variable {cc : ByteArray} {pc pc' nL len co idx base : Nat} {ini : Bool} {ls : Array Slot} {D : va_G} {tC : Nat → ClassId} {ad : Nat → Nat} {st st' : List Value} {h h' : rx_H}
theorem rx_h_stat (hx : p.tables.exec = Jvm.exec) (hb : c.code = cc) (hown : s.vm.findClass (rx_cn co) = some m.cls) (hts : ∀ w ∈ rx_Ts, w.before args s = true) (hC : rx_Con ad base s) (hR : rx_Rel D tC ad base s H locs h) (hd : decode cc pc = .ok (.getstatic idx, 3)) {v : Value} (hs : rx_stat co idx = some v) (kk : W p l e R s m args below meth c H locs cells slots Q (F0 m (pc + 3) ls (rx_v ad v :: st.map (rx_v ad)))) :
    W p l e R s m args below meth c H locs cells slots Q (F0 m pc ls (st.map (rx_v ad))) := by
  obtain ⟨hK, hP, hD, hS⟩ := hR
  unfold rx_stat at hs
  split at hs
  · next k pos hL =>
    have h1 := List.all_eq_true.mp rx_schk _ (rx_lk_mem hL)
    split at hs
    · next C n d a he =>
      cases hs
      obtain ⟨N, a⟩ := a
      simp only [he] at h1
      exact va_gets hx hb (hC.2.1 _ _ _ _ _ _ he).1 hS hown (hts _ (rx_has_mem h1)) (fun _ q => q) hd kk
    · next C n d x he =>
      cases hs
      simp only [he] at h1
      exact va_gets hx hb (hC.2.2.1 _ _ _ _ _ he) hS hown (hts _ (rx_has_mem h1)) (fun _ q => q) hd kk
    · cases hs
  · cases hs
theorem rx_h_ldc (hx : p.tables.exec = Jvm.exec) (hb : c.code = cc) (hown : s.vm.findClass (rx_cn co) = some m.cls) (hts : ∀ w ∈ rx_Ts, w.before args s = true) (hC : rx_Con ad base s) (hd : decode cc pc = .ok (.ldc idx, 2)) {v : Value} (hs : rx_ldc co idx = some v) (kk : W p l e R s m args below meth c H locs cells slots Q (F0 m (pc + 2) ls (rx_v ad v :: st.map (rx_v ad)))) :
    W p l e R s m args below meth c H locs cells slots Q (F0 m pc ls (st.map (rx_v ad))) := by
  unfold rx_ldc at hs
  split at hs
  · next x pos hL =>
    cases hs
    have h1 := List.all_eq_true.mp rx_cichk _ (rx_lk_mem hL)
    exact lv_ldc hx hb hown (hts _ (rx_has_mem h1)) hd kk
  · split at hs
    · next k hk =>
      split at hs
      · cases hs
        obtain ⟨tx, hr⟩ := hC.2.2.2.1 co idx k hk
        exact va_ldcS hx hb hown hr hd kk
      · cases hs
    · cases hs
theorem rx_h_math (hx : p.tables.exec = Jvm.exec) (hb : c.code = cc) (hml : c.maxLocals = ls.size) (hown : s.vm.findClass (rx_cn co) = some m.cls) (hts : ∀ w ∈ rx_Ts, w.before args s = true) (hcs : cells ≤ R.cells ∧ slots ≤ R.slots) {w pos : Nat} (hJ : rx_lk rx_JLs co idx = some (w, pos)) (hd : decode cc pc = .ok (.invokestatic idx, 3)) (hs : rx_math w R.frames R.locals st = some st') (kk : W p l e R s m args below meth c H locs cells slots Q (F0 m (pc + 3) ls (st'.map (rx_v ad)))) :
    W p l e R s m args below meth c H locs cells slots Q (F0 m pc ls (st.map (rx_v ad))) := by
  have h1 := List.all_eq_true.mp rx_jlchk _ (rx_lk_mem hJ)
  obtain ⟨w1, w2, w3, w4, w5⟩ := rx_w_mx
  unfold rx_math at hs
  split at hs
  · next y x r =>
    split at hs
    · next hi =>
      split at hs
      · cases hs
        simp only [if_true] at h1
        exact va_mmax hx hb hml hown (hts _ (rx_has_mem h1)) (hts _ w1) (hts _ w2) (hts _ w3) hi.1 (by rw [rx_cats_map]; exact hi.2) hcs.1 hcs.2 hd kk
      · cases hs
        simp only [show (1 : Nat) ≠ 0 by decide, if_false, if_true] at h1
        exact va_mmin hx hb hml hown (hts _ (rx_has_mem h1)) (hts _ w4) (hts _ w2) (hts _ w5) hi.1 (by rw [rx_cats_map]; exact hi.2) hcs.1 hcs.2 hd kk
      · cases hs
    · cases hs
  · cases hs
theorem rx_h_ci (hx : p.tables.exec = Jvm.exec) (hb : c.code = cc) (hml : c.maxLocals = ls.size) (hown : s.vm.findClass (rx_cn co) = some m.cls) (hts : ∀ w ∈ rx_Ts, w.before args s = true) (hcs : cells ≤ R.cells ∧ slots ≤ R.slots) (hC : rx_Con ad base s) (hR : rx_Rel D tC ad base s H locs h) {pos : Nat} (hX : rx_lk rx_XLs co idx = some pos) (hd : decode cc pc = .ok (.invokestatic idx, 3)) {i n : Int32} {r : List Value} (h1 : ¬ i < 0) (h2 : i < n) (h3 : 2 ≤ R.frames) (h4 : 43 ≤ R.locals) (h5 : rx_cats r ≤ 8)
    (kk : rx_KH p l e R s m args below meth c cells slots Q D tC ad base ls (pc + 3) r h) :
    W p l e R s m args below meth c H locs cells slots Q (F0 m pc ls (.int n :: .int i :: r.map (rx_v ad))) := by
  have hlk := List.all_eq_true.mp rx_xlchk _ (rx_lk_mem hX)
  obtain ⟨q, hq⟩ := rx_mt_all rx_ciM rx_ci_in.1
  have hk : Cond.initialized (rm_y rx_ciM).cls ∈ rx_Ts ∧ Cond.static (rm_y rx_ciM) ∈ rx_Ts := by
    unfold rx_mchk at hq
    simp only [Bool.and_eq_true, decide_eq_true_eq] at hq
    have h7 := hq.2
    rw [if_pos (by decide)] at h7
    exact ⟨rx_has_mem hq.1.1.1.1.1.1, rx_has_mem h7⟩
  obtain ⟨hK, hP, hD, hS⟩ := hR
  have e0 : ∀ x, (F0 m pc ls x).monitorRoom = 0 := fun _ => rfl
  refine rx_callW (rest := r.map (rx_v ad)) (va_runS (As := [.int i, .int n]) (rest := r.map (rx_v ad)) ⟨hx, hb, hml, hown, hts⟩ (rx_m_ci l base h1 h2) ⟨callB_of 2 hts (rx_GoodIn rx_ci_in.1) rfl rfl rfl (hts _ hk.1) (hts _ (rx_has_mem hlk)) (by decide) ⟨h3, h4⟩, hts _ hk.2⟩ ⟨fun a U g mk q => q, fun U hU hW => ⟨rfl, ((hC.2.2.2.2.2.2).moved hW.alike).kept (fun a g1 g2 => by rw [hU]; exact hS.2.1 a g1 g2)⟩⟩ rfl rfl rfl rfl (by rw [rx_cats_map, e0]; omega) hd ⟨hcs.1, hcs.2⟩) (fun v1 st₀ t H1 L e2 e1 hq1 hL => ?_)
  obtain ⟨g1, g2⟩ := hq1
  cases g1
  have eH : H1 = H := by rw [← e1, g2, e2]
  subst eH
  exact kk H1 (locs ++ L) ⟨hK, hP, hD, hS.1, hS.2.1, fun z hz => (List.mem_append.mp hz).elim (hS.2.2 z) (fun h => (hL z h).elim)⟩
theorem rx_cn_cl : ∀ ci C T N, vwCl[ci]? = some (C, T, N) → rx_cn ci = C := by
  intro ci C T N h
  have h1 : (List.range vwCl.length).all (fun i => match vwCl[i]? with
    | some (C, _, _) => decide (rx_cn i = C)
    | none => true) = true := by decide +kernel
  have hl : ci < vwCl.length := (List.getElem?_eq_some_iff.mp h).1
  have h2 := List.all_eq_true.mp h1 ci (List.mem_range.mpr hl)
  simp only [h, decide_eq_true_eq] at h2
  exact h2
theorem rx_map1 {α β : Type} {o : Option α} {f : α → β} {b : β} (h : o.map f = some b) : ∃ a, o = some a ∧ f a = b := by
  cases o with
  | none => cases h
  | some a => exact ⟨a, rfl, Option.some.inj h⟩
set_option maxHeartbeats 2000000 in
theorem rx_heap_sim (hx : p.tables.exec = Jvm.exec) (hb : c.code = cc) (hml : c.maxLocals = ls.size) (hown : s.vm.findClass (rx_cn co) = some m.cls) (hts : ∀ w ∈ rx_Ts, w.before args s = true) (hin : ini = true → meth.name = "<init>") (hcs : cells ≤ R.cells ∧ slots ≤ R.slots) (hC : rx_Con ad base s) (hR : rx_Rel D tC ad base s H locs h) {i : Instr} (hd : decode cc pc = .ok (i, len)) (hs : rx_heap co ini R.frames R.locals i len pc st h = some (pc', st', h')) (kk : rx_KH p l e R s m args below meth c cells slots Q D tC ad base ls pc' st' h') :
    W p l e R s m args below meth c H locs cells slots Q (F0 m pc ls (st.map (rx_v ad))) := by
  unfold rx_heap at hs
  split at hs
  · obtain ⟨r, h1, h2⟩ := rx_map1 hs
    cases h2
    exact rx_h_get hx hb hown hts hC hR hd h1 (kk H locs hR)
  · obtain ⟨⟨r, hh⟩, h1, h2⟩ := rx_map1 hs
    cases h2
    exact rx_h_put hx hb hown hts hin rx_cn_cl hR hd h1 kk
  · obtain ⟨r, h1, h2⟩ := rx_map1 hs
    cases h2
    exact rx_h_iald hx hb hC hR hd h1 (kk H locs hR)
  · obtain ⟨r, h1, h2⟩ := rx_map1 hs
    cases h2
    exact rx_h_bald hx hb hC hR hd h1 (kk H locs hR)
  · obtain ⟨r, h1, h2⟩ := rx_map1 hs
    cases h2
    exact rx_h_aald hx hb hR hd h1 (kk H locs hR)
  · obtain ⟨r, h1, h2⟩ := rx_map1 hs
    cases h2
    exact rx_h_alen hx hb hC hR hd h1 (kk H locs hR)
  · obtain ⟨⟨r, hh⟩, h1, h2⟩ := rx_map1 hs
    cases h2
    exact rx_h_iast hx hb hR hd h1 kk
  · obtain ⟨⟨r, hh⟩, h1, h2⟩ := rx_map1 hs
    cases h2
    exact rx_h_bast hx hb hR hd h1 kk
  · obtain ⟨⟨r, hh⟩, h1, h2⟩ := rx_map1 hs
    cases h2
    exact rx_h_aast hx hb hR hd h1 kk
  · obtain ⟨v, h1, h2⟩ := rx_map1 hs
    cases h2
    exact rx_h_stat hx hb hown hts hC hR hd h1 (kk H locs hR)
  · obtain ⟨v, h1, h2⟩ := rx_map1 hs
    cases h2
    exact rx_h_ldc hx hb hown hts hC hd h1 (kk H locs hR)
  · split at hs
    · next x pos hL =>
      cases hs
      have h1 := List.all_eq_true.mp rx_cichk _ (rx_lk_mem hL)
      exact lv_ldcw hx hb hown (hts _ (rx_has_mem h1)) hd (kk H locs hR)
    · cases hs
  · split at hs
    · next x pos hL =>
      cases hs
      have h1 := List.all_eq_true.mp rx_cjchk _ (rx_lk_mem hL)
      exact lv_ldc2 hx hb hown (hts _ (rx_has_mem h1)) hd (kk H locs hR)
    · cases hs
  · split at hs
    · next pos k r hL =>
      split at hs
      · next hi =>
        cases hs
        have h1 := List.all_eq_true.mp rx_olchk _ (rx_lk_mem hL)
        have hw := rx_w_oi
        exact W.objInit hx hb hown (hts _ (rx_has_mem h1)) (hts _ hw.1) (hts _ hw.2.1) rfl hml.symm rfl hd hi.1 (by
          have hz := hi.2
          show 2 * (F0 m pc ls _).monitorRoom + _ + 12 ≤ _
          have e0 : ∀ x, (F0 m pc ls x).monitorRoom = 0 := fun _ => rfl
          rw [rx_cats_map, e0]
          omega) (kk H locs hR)
      · cases hs
    · cases hs
  · split at hs
    · next pos hL =>
      obtain ⟨⟨r, hh⟩, h1, h2⟩ := rx_map1 hs
      cases h2
      exact rx_h_copy hx hb hml hown hts hL hR hd h1 kk
    · split at hs
      · next w pos hJ =>
        obtain ⟨r, h1, h2⟩ := rx_map1 hs
        cases h2
        exact rx_h_math hx hb hml hown hts hcs hJ hd h1 (kk H locs hR)
      · split at hs
        · next pos n i r hX =>
          split at hs
          · next hi =>
            cases hs
            exact rx_h_ci hx hb hml hown hts hcs hC hR hX hd hi.1 hi.2.1 hi.2.2.1 hi.2.2.2.1 hi.2.2.2.2 kk
          · cases hs
        · cases hs
  · cases hs
end RXI
end
section
/-! AN ENGINE, PART 3: new cells -/
def rx_nr (n : Nat) : Value → Bool
  | .ref k => decide (k ≠ n)
  | _ => true
def rx_nrC (n : Nat) : rx_C → Bool
  | .inl _ => true
  | .inr (.inl (_, a)) => a.all (fun o => match o with
    | some k => decide (k ≠ n)
    | none => true)
  | .inr (.inr (_, fs)) => fs.all (rx_nr n)
/-- nothing names the place n yet -/
def rx_fresh (n : Nat) (l : rx_L) (st : List Value) (h : rx_H) : Bool := decide (n < 1000000) && l.all (fun q => rx_nr n q.2) && st.all (rx_nr n) && h.all (rx_nrC n)
def rx_at : ArrayType → Option Nat
  | .int => some 0
  | .byte => some 1
  | .boolean => some 2
  | _ => none
def rx_alloc (co mc ms : Nat) (i : Instr) (len pc : Nat) (l : rx_L) (st : List Value) (h : rx_H) (uc us : Nat) : Option (Nat × List Value × rx_H × Nat × Nat) := match i, len with
  | .new idx, 3 => match rx_lk rx_NLs co idx with
    | some (ci, _) => match vwCl[ci]?, rx_cf[ci]? with
      | some (_, _, N), some ty0 => if rx_fresh h.length l st h = true ∧ uc + 1 ≤ mc ∧ us + N ≤ ms then some (pc + 3, .ref h.length :: st, h ++ [.inr (.inr (ci, (List.range N).map (fun k => defaultValue (ty0 k))))], uc + 1, us + N) else none
      | _, _ => none
    | none => none
  | .newarray a, 2 => match st, rx_at a with
    | .int n :: r, some t => if rx_fresh h.length l r h = true ∧ ¬ n < 0 ∧ n.toNatClampNeg ≤ 1000000 ∧ uc + 1 ≤ mc ∧ us + n.toNatClampNeg ≤ ms then some (pc + 2, .ref h.length :: r, h ++ [.inl (t, n.toNatClampNeg, fun _ => 0)], uc + 1, us + n.toNatClampNeg) else none
    | _, _ => none
  | .anewarray idx, 3 => match st, rx_lk rx_ALs co idx with
    | .int n :: r, some (t, _) => if rx_fresh h.length l r h = true ∧ ¬ n < 0 ∧ n.toNatClampNeg ≤ 1000000 ∧ uc + 1 ≤ mc ∧ us + n.toNatClampNeg ≤ ms then some (pc + 3, .ref h.length :: r, h ++ [.inr (.inl (t, List.replicate n.toNatClampNeg none))], uc + 1, us + n.toNatClampNeg) else none
    | _, _ => none
  | _, _ => none
set_option maxRecDepth 100000 in
theorem rx_nlchk : rx_NLs.all (fun q => match vwCl[q.2.1]? with
  | some (C, _, _) => rx_has q.2.2 (.classLink (rx_cn q.1.1) q.1.2 C)
  | none => false) = true := by decide +kernel
set_option maxRecDepth 100000 in
theorem rx_alchk : rx_ALs.all (fun q => rx_el.any (fun z => decide (z.1 = q.2.1) && rx_has q.2.2 (.classLink (rx_cn q.1.1) q.1.2 (rx_cn z.2)))) = true := by decide +kernel
set_option maxRecDepth 100000 in
theorem rx_w_ac : Cond.arrayClass .int ∈ rx_Ts ∧ Cond.arrayClass .byte ∈ rx_Ts ∧ Cond.arrayClass .boolean ∈ rx_Ts := by
  have h := rx_in2_mem (ws := [Cond.arrayClass .int, Cond.arrayClass .byte, Cond.arrayClass .boolean]) (by decide +kernel)
  exact ⟨h _ (by simp), h _ (by simp), h _ (by simp)⟩
theorem rx_RA_uniq {U : State} {a b : ClassId} {ty : FieldType} (h1 : va_RA U a ty) (h2 : va_RA U b ty) : a = b := by
  cases ty with
  | object C =>
    obtain ⟨_, _, _, _, _, e1⟩ := h1
    obtain ⟨_, _, _, _, _, e2⟩ := h2
    exact Option.some.inj (e1.symm.trans e2)
  | _ => exact Option.some.inj (Eq.trans (Eq.symm h1) h2)
section RXN
variable {p : Program} {l : Launch} {e : Env} {R : Room} {s : State} {m : MethodId} {args : Array Value} {below : List Frame} {meth : Method} {c : Code} {H : Heap} {locs : List Loc} {uc us : Nat} {Q : State → Prop}
variable {cc : ByteArray} {pc pc' nL len co idx base n uc' us' : Nat} {ls : Array Slot} {D : va_G} {tC : Nat → ClassId} {ad ad' : Nat → Nat} {lv : rx_L} {st st' : List Value} {h h' : rx_H}
theorem rx_nr_v {v : Value} (h1 : rx_nr n v = true) (ha : ∀ k, k ≠ n → ad' k = ad k) : rx_v ad' v = rx_v ad v := by
  cases v with
  | ref k => exact congrArg Value.ref (ha k (of_decide_eq_true h1))
  | _ => rfl
theorem rx_nr_c {x : rx_C} (h1 : rx_nrC n x = true) (ha : ∀ k, k ≠ n → ad' k = ad k) : rx_c ad' tC x = rx_c ad tC x := by
  rcases x with ⟨t, N, f⟩ | ⟨t, a⟩ | ⟨ci, fs⟩
  · rfl
  · simp only [rx_c]
    have hf : (fun j => (a.getD j none).map ad') = (fun j => (a.getD j none).map ad) := by
      funext j
      cases hj : a[j]? with
      | none => simp [List.getD_eq_getElem?_getD, hj]
      | some o =>
        cases o with
        | none => simp [List.getD_eq_getElem?_getD, hj]
        | some k =>
          have h2 := List.all_eq_true.mp h1 (some k) (List.mem_of_getElem? hj)
          have h3 : k ≠ n := of_decide_eq_true h2
          simp [List.getD_eq_getElem?_getD, hj, ha k h3]
    rw [hf]
  · simp only [rx_c]
    have hf : fs.map (rx_v ad') = fs.map (rx_v ad) := List.map_congr_left fun v hv => rx_nr_v (List.all_eq_true.mp h1 v hv) ha
    rw [hf]
theorem rx_fresh_all (h1 : rx_fresh n lv st h = true) (ha : ∀ k, k ≠ n → ad' k = ad k) : n < 1000000 ∧ rx_l ad' lv = rx_l ad lv ∧ st.map (rx_v ad') = st.map (rx_v ad) ∧ (h.length ≤ n → rx_w ad' tC h = rx_w ad tC h) := by
  unfold rx_fresh at h1
  simp only [Bool.and_eq_true, decide_eq_true_eq] at h1
  obtain ⟨⟨⟨h1, h2⟩, h3⟩, h4⟩ := h1
  refine ⟨h1, ?_, ?_, ?_⟩
  · exact List.map_congr_left fun q hq => by rw [rx_nr_v (List.all_eq_true.mp h2 q hq) ha]
  · exact List.map_congr_left fun v hv => rx_nr_v (List.all_eq_true.mp h3 v hv) ha
  · intro hl
    apply List.ext_getElem?
    intro j
    simp only [rx_w, List.getElem?_mapIdx]
    cases hj : h[j]? with
    | none => rfl
    | some x =>
      have hlt : j < h.length := (List.getElem?_eq_some_iff.mp hj).1
      simp only [Option.map_some]
      rw [rx_nr_c (List.all_eq_true.mp h4 x (List.mem_of_getElem? hj)) ha, ha j (by omega)]
theorem rx_w_push {x : rx_C} : rx_w ad tC (h ++ [x]) = rx_w ad tC h ++ [(ad h.length, rx_c ad tC x)] := by
  simp [rx_w, List.mapIdx_append]
/-- the goal behind a new cell -/
def rx_KN (p : Program) (l : Launch) (e : Env) (R : Room) (s : State) (m : MethodId) (args : Array Value) (below : List Frame) (meth : Method) (c : Code) (Q : State → Prop) (D : va_G) (tC : Nat → ClassId) (ad : Nat → Nat) (base : Nat) (ls : Array Slot) (lv : rx_L) (n pc : Nat) (st : List Value) (h : rx_H) (uc us : Nat) : Prop :=
  ∀ (ad' : Nat → Nat) (H : Heap) (locs : List Loc), (∀ k, k ≠ n → ad' k = ad k) → rx_l ad' lv = rx_l ad lv → rx_Rel D tC ad' base s H locs h → W p l e R s m args below meth c H locs uc us Q (F0 m pc ls (st.map (rx_v ad')))
theorem rx_up {q : Nat} : ∀ k, k ≠ n → va_up ad n q k = ad k := fun k hk => by unfold va_up; rw [if_neg hk]
theorem rx_up0 {q : Nat} : va_up ad n q n = q := by unfold va_up; rw [if_pos rfl]
theorem rx_n_new (hx : p.tables.exec = Jvm.exec) (hb : c.code = cc) (hown : s.vm.findClass (rx_cn co) = some m.cls) (hts : ∀ w ∈ rx_Ts, w.before args s = true) (hbs : base ≤ s.heap.size) (hR : rx_Rel D tC ad base s H locs h) (hd : decode cc pc = .ok (.new idx, 3)) {ci pos N : Nat} {C : String} {T : u_T} {ty0 : Nat → FieldType} (hL : rx_lk rx_NLs co idx = some (ci, pos)) (h1 : vwCl[ci]? = some (C, T, N)) (h2 : rx_cf[ci]? = some ty0) (hf : rx_fresh h.length lv st h = true) (hc1 : uc + 1 ≤ R.cells) (hc2 : us + N ≤ R.slots)
    (kk : rx_KN p l e R s m args below meth c Q D tC ad base ls lv h.length (pc + 3) (.ref h.length :: st) (h ++ [.inr (.inr (ci, (List.range N).map (fun k => defaultValue (ty0 k))))]) (uc + 1) (us + N)) :
    W p l e R s m args below meth c H locs uc us Q (F0 m pc ls (st.map (rx_v ad))) := by
  obtain ⟨hK, hP, hD, hS⟩ := hR
  have hlk := List.all_eq_true.mp rx_nlchk _ (rx_lk_mem hL)
  simp only [h1] at hlk
  obtain ⟨w1, ⟨ty1, e1, w2⟩, w3, w4, w5⟩ := rx_cl_ok h1
  cases e1.symm.trans h2
  refine va_new (D := D) (C := C) (T := T) (N := N) (ci := ci) (fs := (List.range N).map (fun k => defaultValue (ty0 k))) hx hb hts w1 ty0 w2 hown (hts _ (rx_has_mem hlk)) (hts _ w4) (hts _ w5) hK hP hD hS (fun q hq => Nat.le_trans hbs hq) h1 (fun j hj => by simp [vp_V, List.getD_eq_getElem?_getD, hj]) hc1 hc2 hd (fun q H1 a1 a2 a3 => ?_)
  obtain ⟨f1, f2, f3, f4⟩ := rx_fresh_all (ad := ad) (ad' := va_up ad h.length q) (tC := tC) hf rx_up
  have hdf : ((List.range N).map (fun k => defaultValue (ty0 k))).map (rx_v (va_up ad h.length q)) = (List.range N).map (fun k => defaultValue (ty0 k)) := by
    rw [List.map_map]
    apply List.map_congr_left
    intro k _
    show rx_v _ (defaultValue (ty0 k)) = defaultValue (ty0 k)
    cases ty0 k <;> rfl
  have hw : rx_w (va_up ad h.length q) tC (h ++ [.inr (.inr (ci, (List.range N).map (fun k => defaultValue (ty0 k))))]) = rx_w ad tC h ++ [(q, .inr (ci, (List.range N).map (fun k => defaultValue (ty0 k))))] := by
    rw [rx_w_push, f4 (Nat.le_refl _), rx_up0]
    simp only [rx_c, hdf]
  have := kk (va_up ad h.length q) H1 locs rx_up f2 ⟨hK, hw ▸ a1, hw ▸ a2, a3⟩
  simp only [List.map_cons, f3] at this
  have e2 : rx_v (va_up ad h.length q) (.ref h.length) = .ref q := congrArg Value.ref rx_up0
  rw [e2] at this
  exact this
theorem rx_n_arr (hx : p.tables.exec = Jvm.exec) (hb : c.code = cc) (hts : ∀ w ∈ rx_Ts, w.before args s = true) (hbs : base ≤ s.heap.size) (hR : rx_Rel D tC ad base s H locs h) {a : ArrayType} (hd : decode cc pc = .ok (.newarray a, 2)) {x : Int32} {t : Nat} (ht : rx_at a = some t) (hf : rx_fresh h.length lv st h = true) (hn : ¬ x < 0) (hn2 : x.toNatClampNeg ≤ 1000000) (hc1 : uc + 1 ≤ R.cells) (hc2 : us + x.toNatClampNeg ≤ R.slots)
    (kk : rx_KN p l e R s m args below meth c Q D tC ad base ls lv h.length (pc + 2) (.ref h.length :: st) (h ++ [.inl (t, x.toNatClampNeg, fun _ => 0)]) (uc + 1) (us + x.toNatClampNeg)) :
    W p l e R s m args below meth c H locs uc us Q (F0 m pc ls (.int x :: st.map (rx_v ad))) := by
  obtain ⟨hK, hP, hD, hS⟩ := hR
  obtain ⟨g1, g2, g3⟩ := rx_w_ac
  have key : ∃ ty, newarray.typeOf a = ty ∧ rx_ty[t]? = some ty ∧ Cond.arrayClass ty ∈ rx_Ts ∧ (∀ cA : ClassId, vp_cell cA (x.toNatClampNeg, .inl (fun _ => 0)) = arrV cA x.toNatClampNeg (fun _ => defaultValue ty)) ∧ componentBytes ty ≤ 8 := by
    cases a <;> first
      | (cases ht; done)
      | (cases ht; exact ⟨_, rfl, rfl, g1, fun _ => rfl, by decide⟩)
      | (cases ht; exact ⟨_, rfl, rfl, g2, fun _ => rfl, by decide⟩)
      | (cases ht; exact ⟨_, rfl, rfl, g3, fun _ => rfl, by decide⟩)
  obtain ⟨ty, k1, k2, k3, k4, k5⟩ := key
  subst k1
  refine va_newa (D := D) hx hb (hts _ k3) rfl hK hP hD hS (fun q hq => Nat.le_trans hbs hq) k4 hn rfl (by
    have := Nat.mul_le_mul hn2 k5
    omega) hc1 hc2 hd (fun q cA H1 a0 a1 a2 a3 => ?_)
  have hcA : cA = tC t := by
    have e1 := (a0.2 (rx_tys tC).length (cA, newarray.typeOf a) (by simp)).2
    have e2 := (hK.2 t _ (rx_tys_get k2)).2
    exact rx_RA_uniq e1 e2
  subst hcA
  obtain ⟨f1, f2, f3, f4⟩ := rx_fresh_all (ad := ad) (ad' := va_up ad h.length q) (tC := tC) hf rx_up
  have hw : rx_w (va_up ad h.length q) tC (h ++ [.inl (t, x.toNatClampNeg, fun _ => 0)]) = rx_w ad tC h ++ [(q, .inl (tC t, x.toNatClampNeg, .inl (fun _ => 0)))] := by
    rw [rx_w_push, f4 (Nat.le_refl _), rx_up0]
    rfl
  have := kk (va_up ad h.length q) H1 locs rx_up f2 ⟨hK, hw ▸ a1, hw ▸ a2, a3⟩
  simp only [List.map_cons, f3] at this
  have e2 : rx_v (va_up ad h.length q) (.ref h.length) = .ref q := congrArg Value.ref rx_up0
  rw [e2] at this
  exact this
theorem rx_n_arq (hx : p.tables.exec = Jvm.exec) (hb : c.code = cc) (hown : s.vm.findClass (rx_cn co) = some m.cls) (hts : ∀ w ∈ rx_Ts, w.before args s = true) (hC : rx_Con ad base s) (hbs : base ≤ s.heap.size) (hR : rx_Rel D tC ad base s H locs h) (hd : decode cc pc = .ok (.anewarray idx, 3)) {x : Int32} {t pos : Nat} (hL : rx_lk rx_ALs co idx = some (t, pos)) (hf : rx_fresh h.length lv st h = true) (hn : ¬ x < 0) (hn2 : x.toNatClampNeg ≤ 1000000) (hc1 : uc + 1 ≤ R.cells) (hc2 : us + x.toNatClampNeg ≤ R.slots)
    (kk : rx_KN p l e R s m args below meth c Q D tC ad base ls lv h.length (pc + 3) (.ref h.length :: st) (h ++ [.inr (.inl (t, List.replicate x.toNatClampNeg none))]) (uc + 1) (us + x.toNatClampNeg)) :
    W p l e R s m args below meth c H locs uc us Q (F0 m pc ls (.int x :: st.map (rx_v ad))) := by
  obtain ⟨hK, hP, hD, hS⟩ := hR
  have hlk := List.all_eq_true.mp rx_alchk _ (rx_lk_mem hL)
  obtain ⟨⟨t2, ci⟩, hz1, hz2⟩ := List.any_eq_true.mp hlk
  simp only [Bool.and_eq_true, decide_eq_true_eq] at hz2
  obtain ⟨e0, hz2⟩ := hz2
  subst e0
  obtain ⟨C, T, N, h1, h2, h3⟩ := rx_el_has hz1
  refine va_newq (D := D) (C := rx_cn ci) hx hb hown (hts _ (rx_has_mem hz2)) (hC.2.2.2.2.1 _ _ hz1) hK hP hD hS (fun q hq => Nat.le_trans hbs hq) hn rfl (by omega) hc1 hc2 hd (fun q cA H1 a0 a1 a2 a3 => ?_)
  have hcA : cA = tC t2 := by
    have e1 := (a0.2 (rx_tys tC).length (cA, .object (rx_cn ci)) (by simp)).2
    have e2 := (hK.2 t2 _ (rx_tys_get h2)).2
    rw [← h3] at e2
    exact rx_RA_uniq e1 e2
  subst hcA
  obtain ⟨f1, f2, f3, f4⟩ := rx_fresh_all (ad := ad) (ad' := va_up ad h.length q) (tC := tC) hf rx_up
  have hw : rx_w (va_up ad h.length q) tC (h ++ [.inr (.inl (t2, List.replicate x.toNatClampNeg none))]) = rx_w ad tC h ++ [(q, .inl (tC t2, x.toNatClampNeg, .inr (.inr (.inr (.inr (fun _ => none))))))] := by
    rw [rx_w_push, f4 (Nat.le_refl _), rx_up0]
    simp only [rx_c, List.length_replicate]
    have hfn : (fun j => ((List.replicate x.toNatClampNeg (none : Option Nat)).getD j none).map (va_up ad h.length q)) = (fun _ => none) := by
      funext j
      simp only [List.getD_eq_getElem?_getD, List.getElem?_replicate]
      split <;> rfl
    rw [hfn]
  have := kk (va_up ad h.length q) H1 locs rx_up f2 ⟨hK, hw ▸ a1, hw ▸ a2, a3⟩
  simp only [List.map_cons, f3] at this
  have e2 : rx_v (va_up ad h.length q) (.ref h.length) = .ref q := congrArg Value.ref rx_up0
  rw [e2] at this
  exact this
theorem rx_alloc_sim (hx : p.tables.exec = Jvm.exec) (hb : c.code = cc) (hown : s.vm.findClass (rx_cn co) = some m.cls) (hts : ∀ w ∈ rx_Ts, w.before args s = true) (hC : rx_Con ad base s) (hbs : base ≤ s.heap.size) (hR : rx_Rel D tC ad base s H locs h) {i : Instr} (hd : decode cc pc = .ok (i, len)) (hs : rx_alloc co R.cells R.slots i len pc lv st h uc us = some (pc', st', h', uc', us')) (kk : rx_KN p l e R s m args below meth c Q D tC ad base ls lv h.length pc' st' h' uc' us') :
    h.length < 1000000 ∧ uc < R.cells ∧ W p l e R s m args below meth c H locs uc us Q (F0 m pc ls (st.map (rx_v ad))) := by
  have hz : ∀ {st0 : List Value}, rx_fresh h.length lv st0 h = true → h.length < 1000000 := fun q => (rx_fresh_all (ad := ad) (ad' := ad) (tC := tC) q (fun _ _ => rfl)).1
  unfold rx_alloc at hs
  split at hs
  · split at hs
    · next ci pos hL =>
      split at hs
      · next C T N ty0 h1 h2 =>
        split at hs
        · next hi => cases hs; exact ⟨hz hi.1, hi.2.1, rx_n_new hx hb hown hts hbs hR hd hL h1 h2 hi.1 hi.2.1 hi.2.2 kk⟩
        · cases hs
      · cases hs
    · cases hs
  · split at hs
    · next n r t ht =>
      split at hs
      · next hi => cases hs; exact ⟨hz hi.1, hi.2.2.2.1, rx_n_arr hx hb hts hbs hR hd ht hi.1 hi.2.1 hi.2.2.1 hi.2.2.2.1 hi.2.2.2.2 kk⟩
      · cases hs
    · cases hs
  · split at hs
    · next n r t pos hL =>
      split at hs
      · next hi => cases hs; exact ⟨hz hi.1, hi.2.2.2.1, rx_n_arq hx hb hown hts hC hbs hR hd hL hi.1 hi.2.1 hi.2.2.1 hi.2.2.2.1 hi.2.2.2.2 kk⟩
      · cases hs
    · cases hs
  · cases hs
end RXN
end
section
/-! AN ENGINE, PART 4: calls, answers, and the run -/
/-- every reference is to a cell that stands, or a constant -/
def rx_od (n : Nat) : Value → Bool
  | .ref k => decide (k < n) || decide (1000000 ≤ k)
  | _ => true
def rx_old (n : Nat) (l : rx_L) (st : List Value) : Bool := l.all (fun q => rx_od n q.2) && st.all (rx_od n)
/-- who is called, of the right kind -/
def rx_who (co : Nat) (i : Instr) (len : Nat) : Option rx_M := match i, len with
  | .invokevirtual idx, 3 => match rx_lk rx_MLs co idx with
    | some ((j, false), _) => match rx_MT[j]? with
      | some Z => if rm_kind Z = 0 then some Z else none
      | none => none
    | _ => none
  | .invokestatic idx, 3 => match rx_lk rx_MLs co idx with
    | some ((j, false), _) => match rx_MT[j]? with
      | some Z => if rm_kind Z = 1 then some Z else none
      | none => none
    | _ => none
  | .invokespecial idx, 3 => match rx_lk rx_MLs co idx with
    | some ((j, _), _) => match rx_MT[j]? with
      | some Z => if rm_kind Z = 2 then some Z else none
      | none => none
    | none => none
  | _, _ => none
/-- the receiver is an object of that class -/
def rx_rcv (Z : rx_M) (h : rx_H) : List Value → Bool
  | .ref k :: _ => match h[k]? with
    | some (.inr (.inr (ci, _))) => decide (ci = rm_co Z)
    | some _ => false
    | none => decide (1000000 ≤ k) && decide (k - 1000000 < rx_tb.length) && decide ((rm_y Z).cls = "java/lang/String")
  | _ => false
def rx_isref : List Value → Bool
  | .ref _ :: _ => true
  | _ => false
/-- how many words of the stack are arguments -/
def rx_na (Z : rx_M) : Nat := if rm_kind Z = 1 then rm_np Z else rm_np Z + 1
def rx_may (M Z : rx_M) (l : rx_L) (st : List Value) (h : rx_H) (uc us : Nat) : Bool :=
  decide (rx_na Z ≤ st.length) && decide (rm_fr Z + 1 ≤ rm_fr M) && decide (8 + (rm_maxL Z + 11) + rm_lo Z ≤ rm_lo M) && decide (rx_cats (st.drop (rx_na Z)) ≤ 8) && decide (uc + rm_mc Z ≤ rm_mc M) && decide (us + rm_ms Z ≤ rm_ms M) && (decide (rm_mc Z = 0) || rx_old h.length l (st.drop (rx_na Z))) && decide (rx_cats (st.take (rx_na Z)) ≤ rm_maxL Z) &&
  (if rm_kind Z = 0 then rx_rcv Z h (st.take (rx_na Z)).reverse else if rm_kind Z = 2 then rx_isref (st.take (rx_na Z)).reverse else true)
def rx_nok : FieldType → Int32 → Bool
  | .int, _ => true
  | .boolean, x => decide (x = 0) || decide (x = 1)
  | .byte, x => decide (x.toInt8.toInt32 = x)
  | .char, x => decide ((x.toUInt32 % 65536).toInt32 = x)
  | _, _ => false
/-- an answer -/
def rx_ans (M : rx_M) (i : Instr) (len : Nat) (st : List Value) : Option (Option Value) := match i, len with
  | .ireturn, 1 => match st, rm_ret M with
    | [.int x], some ty => if rx_nok ty x then some (some (.int x)) else none
    | _, _ => none
  | .areturn, 1 => match st, rm_ret M with
    | [.ref k], some (.object _) => some (some (.ref k))
    | [.null], some (.object _) => some (some .null)
    | _, _ => none
  | .return_, 1 => match st, rm_ret M with
    | [], none => some none
    | _, _ => none
  | _, _ => none
abbrev rx_F : Type := Nat × rx_L × List Value × rx_H × Nat × Nat
def rx_ini (M : rx_M) : Bool := decide (rm_kind M = 2)
def rx_run : Nat → rx_M → rx_F → Option (Option Value × rx_H)
  | 0, _, _ => none
  | n + 1, M, (pc, l, st, h, uc, us) => match decode (rm_code M) pc with
    | .ok (i, len) => match rx_pure (rm_maxL M) i len pc l st with
      | some (pc', l', st') => rx_run n M (pc', l', st', h, uc, us)
      | none => match rx_heap (rm_co M) (rx_ini M) (rm_fr M) (rm_lo M) i len pc st h with
        | some (pc', st', h') => rx_run n M (pc', l, st', h', uc, us)
        | none => match rx_who (rm_co M) i len with
          | some Z => if rx_may M Z l st h uc us = true then match rx_run n Z (0, lv_args 0 (st.take (rx_na Z)).reverse, [], h, 0, 0) with
              | some (r, h') => rx_run n M (pc + 3, l, r.toList ++ st.drop (rx_na Z), h', uc + rm_mc Z, us + rm_ms Z)
              | none => none
            else none
          | none => match rx_ans M i len st with
            | some r => some (r, h)
            | none => match rx_alloc (rm_co M) (rm_mc M) (rm_ms M) i len pc l st h uc us with
              | some (pc', st', h', uc', us') => rx_run n M (pc', l, st', h', uc', us')
              | none => none
    | .error _ => none
/-! what must stand at a call of it, and what stands behind it -/
def rx_Pc (D : va_G) (tC : Nat → ClassId) (ad : Nat → Nat) (base : Nat) (as : List Value) (h : rx_H) : Array Value → State → Prop := va_Pc (as.map (rx_v ad)) (fun U => base ≤ U.heap.size ∧ rx_Con ad base U ∧ va_K D vwCl (rx_tys tC) U ∧ va_P D vwCl (rx_w ad tC h) U.heap ∧ va_D (rx_A base) (rx_w ad tC h))
def rx_Qc (D : va_G) (tC : Nat → ClassId) (ad : Nat → Nat) (base mc : Nat) (h : rx_H) (r : Option Value) (h' : rx_H) : Array Value → State → Outcome → State → Prop := fun _ st oc t =>
  ∃ ad' : Nat → Nat, (∀ k, k < h.length ∨ 1000000 ≤ k → ad' k = ad k) ∧ (mc = 0 → ad' = ad) ∧ h.length ≤ h'.length ∧ oc = .returned (r.map (rx_v ad')) ∧ va_P D vwCl (rx_w ad' tC h') t.heap ∧ va_D (rx_A base) (rx_w ad' tC h') ∧ va_F (rx_A base) st t
def rx_Met (l : Launch) (M : rx_M) (as : List Value) (h : rx_H) (r : Option Value) (h' : rx_H) : Prop :=
  ∀ (D : va_G) (tC : Nat → ClassId) (ad : Nat → Nat) (base : Nat), Met l (rm_y M) (rm_ws M) (rm_room M) (rx_Pc D tC ad base as h) (rx_Qc D tC ad base (rm_mc M) h r h') (rm_mc M) (rm_ms M) (rx_A base)
/-! constants stand in later states -/
theorem rx_Con_at {ad : Nat → Nat} {base : Nat} {s U : State} (hW : s.WarmedH U.vm) (hk : ∀ a : Nat, a < s.heap.size → ¬ rx_A base a → U.heap[a]? = s.heap[a]?) (h : rx_Con ad base s) : rx_Con ad base U := by
  obtain ⟨h1, h2, h3, h4, h5, h6, h7⟩ := h
  exact ⟨(vk_S.moved hW.alike h1).kept hk, fun k C n d N a q => ⟨((h2 k C n d N a q).1.moved hW.alike).kept hk, ((h2 k C n d N a q).2.moved hW.alike).kept hk⟩, fun k C n d x q => ((h3 k C n d x q).moved hW.alike).kept hk, fun co idx k q => (h4 co idx k q).imp fun _ z => z.warm hW, fun t ci q => (h5 t ci q).moved hW.alike, fun co idx j pos q M z => (h6 co idx j pos q M z).warmM hW, (h7.moved hW.alike).kept hk⟩
theorem rx_Con_vm {ad : Nat → Nat} {base : Nat} {s U : State} (hv : s.vm = U.vm) (hh : U.heap = s.heap) (h : rx_Con ad base s) : rx_Con ad base U := by
  obtain ⟨h1, h2, h3, h4, h5, h6, h7⟩ := h
  have ha : s.vm.Alike U.vm := by rw [hv]; exact Vm.Alike.refl _
  have hk : ∀ a : Nat, a < s.heap.size → ¬ rx_A base a → U.heap[a]? = s.heap[a]? := fun a _ _ => by rw [hh]
  exact ⟨(vk_S.moved ha h1).kept hk, fun k C n d N a q => ⟨((h2 k C n d N a q).1.moved ha).kept hk, ((h2 k C n d N a q).2.moved ha).kept hk⟩, fun k C n d x q => ((h3 k C n d x q).moved ha).kept hk, fun co idx k q => (h4 co idx k q).imp fun _ z => z.same hv.symm, fun t ci q => (h5 t ci q).moved ha, fun co idx j pos q M z => (h6 co idx j pos q M z).same rfl hv, (h7.moved ha).kept hk⟩
theorem rx_Con_ad {ad ad' : Nat → Nat} {base : Nat} {s : State} (he : ∀ k, 1000000 ≤ k → ad' k = ad k) (h : rx_Con ad base s) : rx_Con ad' base s := by
  obtain ⟨h1, h2, h3, h4, h5, h6, h7⟩ := h
  have e1 : (fun i => ad' (1000000 + i)) = (fun i => ad (1000000 + i)) := funext fun i => he _ (by omega)
  have e2 : (fun i => ad' (2000000 + i)) = (fun i => ad (2000000 + i)) := funext fun i => he _ (by omega)
  refine ⟨by rw [e1, e2]; exact h1, fun k C n d N a q => ?_, h3, fun co idx k q => ?_, h5, h6, h7⟩
  · rw [he _ (by omega)]; exact h2 k C n d N a q
  · rw [he _ (by omega)]; exact h4 co idx k q
theorem rx_Pc_blind {D : va_G} {tC : Nat → ClassId} {ad : Nat → Nat} {base : Nat} {as : List Value} {h : rx_H} : FrameBlind (rx_Pc D tC ad base as h) := by
  intro a U g mk q
  obtain ⟨q0, q1, q2, q3, q4, q5⟩ := q
  exact ⟨q0, q1, rx_Con_vm rfl rfl q2, va_K.moved (u := U) (U := U.calling g mk a) (Vm.Alike.refl U.vm) q3, q4, q5⟩
end
section
/-! the machine does what rx_run does -/
theorem rx_mk_of {M : rx_M} {q : Nat × Nat × Nat × Nat} (h : rx_mchk M q = true) :
    Cond.initialized (rm_y M).cls ∈ rx_Ts ∧ plainName (rm_y M).cls = true ∧ (rm_y M).cls ≠ "java/lang/invoke/MethodHandle" ∧ (rm_y M).cls ≠ "java/lang/invoke/VarHandle" ∧ (parseMethodDescriptor (rm_y M).desc).map (fun d => d.parameters.length) = some (rm_np M) ∧ rx_cn (rm_co M) = (rm_y M).cls ∧
    (rm_kind M = 1 → Cond.static (rm_y M) ∈ rx_Ts) ∧ (rm_kind M ≠ 1 → Cond.instanceMethod (rm_y M) ∈ rx_Ts) ∧ (rm_kind M = 2 → (rm_y M).name = "<init>" ∧ rm_ret M = none) ∧ (rm_kind M = 0 → Cond.selects (rm_y M).cls (rm_y M) (rm_y M) ∈ rx_Ts) := by
  unfold rx_mchk at h
  simp only [Bool.and_eq_true, decide_eq_true_eq] at h
  obtain ⟨⟨⟨⟨⟨⟨h1, h2⟩, h3⟩, h4⟩, h5⟩, h6⟩, h7⟩ := h
  refine ⟨rx_has_mem h1, h2, h3, h4, h5, h6, fun k => ?_, fun k => ?_, fun k => ?_, fun k => ?_⟩
  · rw [if_pos k] at h7; exact rx_has_mem h7
  · rw [if_neg k] at h7
    simp only [Bool.and_eq_true] at h7
    exact rx_has_mem h7.1
  · rw [if_neg (by omega)] at h7
    simp only [Bool.and_eq_true] at h7
    have h8 := h7.2
    rw [if_pos k] at h8
    simp only [Bool.and_eq_true, decide_eq_true_eq] at h8
    exact h8
  · rw [if_neg (by omega)] at h7
    simp only [Bool.and_eq_true] at h7
    have h8 := h7.2
    rw [if_neg (by omega)] at h8
    exact rx_has_mem h8
theorem rx_sl_len (as : List Value) : (lg_sl as).length = rx_cats as := by
  unfold lg_sl rx_cats
  induction as with
  | nil => rfl
  | cons v t ih =>
    simp only [List.flatMap_cons, List.length_append, List.map_cons, List.sum_cons, ih]
    rcases lv_cat v with h | h
    · rw [h, if_neg (by omega)]; rfl
    · rw [h, if_pos rfl]; rfl
theorem rx_args_map (ad : Nat → Nat) (as : List Value) : ∀ i, lv_args i (as.map (rx_v ad)) = rx_l ad (lv_args i as) := by
  induction as with
  | nil => intro i; rfl
  | cons v t ih =>
    intro i
    show (i, rx_v ad v) :: lv_args (if (rx_v ad v).category = 2 then i + 2 else i + 1) (t.map (rx_v ad)) = (i, rx_v ad v) :: rx_l ad (lv_args (if v.category = 2 then i + 2 else i + 1) t)
    rw [rx_cat, ih]
theorem rx_od_v {n : Nat} {ad ad' : Nat → Nat} {v : Value} (h : rx_od n v = true) (ha : ∀ k, k < n ∨ 1000000 ≤ k → ad' k = ad k) : rx_v ad' v = rx_v ad v := by
  cases v with
  | ref k =>
    simp only [rx_od, Bool.or_eq_true, decide_eq_true_eq] at h
    exact congrArg Value.ref (ha k h)
  | _ => rfl
theorem rx_old_ok {n : Nat} {ad ad' : Nat → Nat} {lv : rx_L} {st : List Value} (h : rx_old n lv st = true) (ha : ∀ k, k < n ∨ 1000000 ≤ k → ad' k = ad k) : rx_l ad' lv = rx_l ad lv ∧ st.map (rx_v ad') = st.map (rx_v ad) := by
  unfold rx_old at h
  simp only [Bool.and_eq_true] at h
  exact ⟨List.map_congr_left fun q hq => by rw [rx_od_v (List.all_eq_true.mp h.1 q hq) ha], List.map_congr_left fun v hv => rx_od_v (List.all_eq_true.mp h.2 v hv) ha⟩
section RXR
variable {p : Program} {l : Launch} {e : Env} {R : Room} {s : State} {m : MethodId} {args : Array Value} {below : List Frame} {meth : Method} {c : Code} {H : Heap} {locs : List Loc} {uc us : Nat} {Q : State → Prop}
variable {cc : ByteArray} {pc nL len base : Nat} {ls : Array Slot} {D : va_G} {tC : Nat → ClassId} {ad : Nat → Nat} {lv : rx_L} {st : List Value} {h : rx_H}
/-- the room of a call -/
theorem rx_may_ok {M Z : rx_M} (h1 : rx_may M Z lv st h uc us = true) : rx_na Z ≤ st.length ∧ rm_fr Z + 1 ≤ rm_fr M ∧ 8 + (rm_maxL Z + 11) + rm_lo Z ≤ rm_lo M ∧ rx_cats (st.drop (rx_na Z)) ≤ 8 ∧ uc + rm_mc Z ≤ rm_mc M ∧ us + rm_ms Z ≤ rm_ms M ∧ (rm_mc Z = 0 ∨ rx_old h.length lv (st.drop (rx_na Z)) = true) ∧ rx_cats (st.take (rx_na Z)) ≤ rm_maxL Z ∧ (rm_kind Z = 0 → rx_rcv Z h (st.take (rx_na Z)).reverse = true) ∧ (rm_kind Z = 2 → rx_isref (st.take (rx_na Z)).reverse = true) := by
  unfold rx_may at h1
  simp only [Bool.and_eq_true, Bool.or_eq_true, decide_eq_true_eq] at h1
  obtain ⟨⟨⟨⟨⟨⟨⟨⟨a1, a2⟩, a3⟩, a4⟩, a5⟩, a6⟩, a7⟩, a8⟩, a9⟩ := h1
  refine ⟨a1, a2, a3, a4, a5, a6, a7, a8, fun k => ?_, fun k => ?_⟩
  · rw [if_pos k] at a9; exact a9
  · rw [if_neg (by omega), if_pos k] at a9; exact a9
theorem rx_cats_rev (r : List Value) : rx_cats r.reverse = rx_cats r := by
  unfold rx_cats
  rw [List.map_reverse, List.sum_reverse]
/-- a call's own walk, by its kind -/
theorem rx_call_run {M Z : rx_M} {i : Instr} (hZ : Z ∈ rx_MT) (hx : p.tables.exec = Jvm.exec) (hb : c.code = rm_code M) (hml : c.maxLocals = ls.size) (hown : s.vm.findClass (rx_cn (rm_co M)) = some m.cls) (hts : ∀ w ∈ rx_Ts, w.before args s = true) (hbs : base ≤ s.heap.size) (hC : rx_Con ad base s) (hR : rx_Rel D tC ad base s H locs h) (hd : decode (rm_code M) pc = .ok (i, len)) (hw : rx_who (rm_co M) i len = some Z) (hm : rx_may M Z lv st h uc us = true) {r : Option Value} {h' : rx_H} (hM : rx_Met l Z (st.take (rx_na Z)).reverse h r h') :
    va_Run p l e (rm_room M) s m args below meth c H locs uc us (rm_mc Z) (rm_ms Z) (F0 m pc ls (st.map (rx_v ad))) ((st.drop (rx_na Z)).map (rx_v ad)) (rx_Qc D tC ad base (rm_mc Z) h r h' ((st.take (rx_na Z)).reverse.map (rx_v ad)).toArray) (rx_A base) := by
  obtain ⟨a1, a2, a3, a4, a5, a6, a7, a8, a9, a10⟩ := rx_may_ok hm
  obtain ⟨q, hq⟩ := rx_mt_all Z hZ
  obtain ⟨k1, k2, k3, k4, k5, k6, k7, k8, k9, k10⟩ := rx_mk_of hq
  obtain ⟨hK, hP, hD, hS⟩ := hR
  have hPc : ∀ U : State, U.heap = H → s.WarmedH U.vm → rx_Pc D tC ad base (st.take (rx_na Z)).reverse h ((st.take (rx_na Z)).reverse.map (rx_v ad)).toArray U := by
    intro U hU hW
    refine ⟨rfl, ?_, rx_Con_at hW (fun a h1 h2 => by rw [hU]; exact hS.2.1 a h1 h2) hC, va_K.moved hW.alike hK, by rw [hU]; exact hP, hD⟩
    rw [hU]; exact Nat.le_trans hbs hS.1
  have hst : st.map (rx_v ad) = ((st.take (rx_na Z)).reverse.map (rx_v ad)).reverse ++ (st.drop (rx_na Z)).map (rx_v ad) := by
    rw [← List.map_reverse, List.reverse_reverse, ← List.map_append, List.take_append_drop]
  have hlen : ((st.take (rx_na Z)).reverse.map (rx_v ad)).length = rx_na Z := by simp [a1]
  have hroom : 2 * (F0 m pc ls (st.map (rx_v ad))).monitorRoom + (((st.drop (rx_na Z)).map (rx_v ad)).map fun v => v.category).sum ≤ 8 := by
    have e0 : ∀ x, (F0 m pc ls x).monitorRoom = 0 := fun _ => rfl
    rw [rx_cats_map, e0]; omega
  have hCB : ∀ {idx : Nat}, Cond.methodLink (rx_cn (rm_co M)) idx (rm_y Z) ∈ rx_Ts → CallB (rm_room M) s args (rx_cn (rm_co M)) idx (rm_y Z) (rm_code Z) (rm_maxL Z) (rm_ret Z) (rm_ws Z) (rm_room Z) (rm_mc Z) (rm_ms Z) (rm_np Z) := fun hl => callB_of (rm_np Z) hts (rx_GoodIn hZ) rfl rfl rfl (hts _ k1) (hts _ hl) ⟨k3, k4, k5⟩ ⟨a2, a3⟩
  have hM' := hM D tC ad base
  unfold rx_who at hw
  split at hw
  · next idx =>
    split at hw
    · next j pos hL =>
      split at hw
      · next Z' hj =>
        split at hw
        · next hk =>
          cases hw
          have hna : rx_na Z = rm_np Z + 1 := by unfold rx_na; rw [if_neg (by omega)]
          have hrc := a9 hk
          cases has : (st.take (rx_na Z)).reverse with
          | nil => rw [has] at hrc; cases hrc
          | cons v t =>
            cases v <;> first
              | (rw [has] at hrc; cases hrc; done)
              | skip
            next k =>
            have hrecv : ∃ cellB : Cell, H[ad k]? = some cellB ∧ cellB.vm.isStatics = false ∧ s.vm.findClass (rm_y Z).cls = some cellB.cls := by
              rw [has] at hrc
              simp only [rx_rcv] at hrc
              split at hrc
              · next ci fs hk2 =>
                have hci := of_decide_eq_true hrc
                subst hci
                have hex : ∃ q : vw_C, vwCl[rm_co Z]? = some q := by
                  obtain ⟨r2, hr2, -⟩ := hP k _ (rx_w_get hk2)
                  exact ⟨r2, hr2⟩
                obtain ⟨⟨C, T, N⟩, hcl⟩ := hex
                have := va_recv hK hP hcl (rx_w_get hk2)
                rw [← k6, rx_cn_cl _ _ _ _ hcl]
                exact this
              · cases hrc
              · simp only [Bool.and_eq_true, decide_eq_true_eq] at hrc
                have := vk_recv hC.1 hrc.1.2 hS
                rw [rx_n1 hrc.1.1] at this
                rw [hrc.2]
                exact this
            rw [has] at hst hlen hPc hM'
            refine va_runV (C := (rm_y Z).cls) (b := ad k) (As := t.map (rx_v ad)) ⟨hx, hb, hml, hown, hts⟩ hM' ⟨hCB (rx_ml_ok hL hj), hts _ (k8 (by omega)), hts _ (k10 hk)⟩ ⟨rx_Pc_blind, hrecv, hPc⟩ rfl (by simp only [List.map_cons, List.length_cons] at hlen; omega) rfl ?_ hroom hd ⟨a5, a6⟩
            show st.map (rx_v ad) = _
            rw [hst]
            simp [rx_v]
        · cases hw
      · cases hw
    · cases hw
  · next idx =>
    split at hw
    · next j pos hL =>
      split at hw
      · next Z' hj =>
        split at hw
        · next hk =>
          cases hw
          have hna : rx_na Z = rm_np Z := by unfold rx_na; rw [if_pos hk]
          exact va_runS (As := (st.take (rx_na Z)).reverse.map (rx_v ad)) ⟨hx, hb, hml, hown, hts⟩ hM' ⟨hCB (rx_ml_ok hL hj), hts _ (k7 hk)⟩ ⟨rx_Pc_blind, hPc⟩ rfl (by omega) rfl hst hroom hd ⟨a5, a6⟩
        · cases hw
      · cases hw
    · cases hw
  · next idx =>
    split at hw
    · next j nest pos hL =>
      split at hw
      · next Z' hj =>
        split at hw
        · next hk =>
          cases hw
          have hna : rx_na Z = rm_np Z + 1 := by unfold rx_na; rw [if_neg (by omega)]
          have hrc := a10 hk
          obtain ⟨n1, n2⟩ := k9 hk
          cases has : (st.take (rx_na Z)).reverse with
          | nil => rw [has] at hrc; cases hrc
          | cons v t =>
            cases v <;> first
              | (rw [has] at hrc; cases hrc; done)
              | skip
            next k =>
            rw [has] at hst hlen hPc hM'
            have hst2 : (F0 m pc ls (st.map (rx_v ad))).stack = (t.map (rx_v ad)).reverse ++ .ref (ad k) :: (st.drop (rx_na Z)).map (rx_v ad) := by
              show st.map (rx_v ad) = _
              rw [hst]
              simp [rx_v]
            have hl2 : (t.map (rx_v ad)).length = rm_np Z := by simp only [List.map_cons, List.length_cons] at hlen; omega
            cases nest with
            | false =>
              have hcb := hCB (rx_ml_ok hL hj)
              rw [n2] at hcb
              exact va_runI (b := ad k) (As := t.map (rx_v ad)) ⟨hx, hb, hml, hown, hts⟩ hM' ⟨hcb, n1, hts _ (k8 (by omega))⟩ ⟨rx_Pc_blind, hPc⟩ rfl hl2 rfl hst2 hroom hd ⟨a5, a6⟩
            | true =>
              have hcn := va_cnB (R := rm_room M) (own := rx_cn (rm_co M)) (index := idx) (bytes := rm_code Z) (maxL := rm_maxL Z) (ret := rm_ret Z) (ws := rm_ws Z) (rm := rm_room Z) (mc := rm_mc Z) (ms := rm_ms Z) (rm_np Z) hts (rx_GoodIn hZ) rfl rfl rfl (hC.2.2.2.2.2.1 _ _ _ _ hL Z hj) (hts _ k1) ⟨k3, k4, k5⟩ ⟨a2, a3⟩
              rw [n2] at hcn
              exact va_runIN (b := ad k) (As := t.map (rx_v ad)) ⟨hx, hb, hml, hown, hts⟩ hM' ⟨hcn, n1, hts _ (k8 (by omega))⟩ ⟨rx_Pc_blind, hPc⟩ rfl hl2 rfl hst2 hroom hd ⟨a5, a6⟩
        · cases hw
      · cases hw
    · cases hw
  · cases hw
end RXR
end
section
/-! THE ENGINE'S THEOREM: what rx_run answers, the machine answers -/
theorem rx_nok_ok {ty : FieldType} {x : Int32} (h : rx_nok ty x = true) : narrow ty (.int x) = .int x := by
  cases ty <;> first
    | rfl
    | (cases h; done)
    | (simp only [rx_nok, Bool.or_eq_true, decide_eq_true_eq] at h
       rcases h with rfl | rfl <;> rfl)
    | (simp only [rx_nok, decide_eq_true_eq] at h
       exact congrArg Value.int h)
section RXZ
variable {p : Program} {l : Launch} {e : Env} {R : Room} {s : State} {m : MethodId} {args : Array Value} {below : List Frame} {meth : Method} {c : Code} {H : Heap} {locs : List Loc} {uc us : Nat}
variable {cc : ByteArray} {pc nL len base : Nat} {ls : Array Slot} {ad : Nat → Nat} {lv : rx_L} {st : List Value} {h : rx_H}
theorem rx_ans_W {M : rx_M} {i : Instr} {r : Option Value} {Qc : Array Value → State → Outcome → State → Prop} {free : Addr → Prop} (hx : p.tables.exec = Jvm.exec) (hb : c.code = cc) (hr : meth.sig.returnType = rm_ret M) (hlocks : meth.locks = false) (hd : decode cc pc = .ok (i, len)) (ha : rx_ans M i len st = some r)
    (hq : ∀ t : State, t.heap = H → s.WarmedH t.vm → Qc args s (.returned (r.map (rx_v ad))) t) (hf : ∀ q ∈ locs, free q.base) : W p l e R s m args below meth c H locs uc us (MQ below Qc args s uc us free) (F0 m pc ls (st.map (rx_v ad))) := by
  unfold rx_ans at ha
  split at ha
  · split at ha
    · next x ty hty =>
      split at ha
      · next hn => cases ha; exact W.zret hx hb (hr.trans hty) (rx_nok_ok hn) hq hf hd hlocks
      · cases ha
    · cases ha
  · split at ha
    · next k C hty => cases ha; exact W.aret hx hb (hr.trans hty) (Or.inl ⟨_, rfl⟩) (Or.inr ⟨_, rfl⟩) hq hf hd hlocks
    · next C hty => cases ha; exact W.aret hx hb (hr.trans hty) (Or.inl ⟨_, rfl⟩) (Or.inl rfl) hq hf hd hlocks
    · cases ha
  · split at ha
    · next hty => cases ha; exact W.vret hx hb (hr.trans hty) hq hf hd hlocks
    · cases ha
  · cases ha
end RXZ
theorem rx_put_len {ini : Bool} {co idx : Nat} {st st' : List Value} {h h' : rx_H} (hs : rx_put ini co idx st h = some (st', h')) : h'.length = h.length := by
  unfold rx_put at hs
  repeat' (split at hs)
  all_goals first
    | (cases hs; done)
    | (simp only [Option.some.injEq, Prod.mk.injEq] at hs; rw [← hs.2]; simp)
theorem rx_iast_len {st st' : List Value} {h h' : rx_H} (hs : rx_iast st h = some (st', h')) : h'.length = h.length := by
  unfold rx_iast at hs
  repeat' (split at hs)
  all_goals first
    | (cases hs; done)
    | (simp only [Option.some.injEq, Prod.mk.injEq] at hs; rw [← hs.2]; simp)
theorem rx_bast_len {st st' : List Value} {h h' : rx_H} (hs : rx_bast st h = some (st', h')) : h'.length = h.length := by
  unfold rx_bast at hs
  repeat' (split at hs)
  all_goals first
    | (cases hs; done)
    | (simp only [Option.some.injEq, Prod.mk.injEq] at hs; rw [← hs.2]; simp)
theorem rx_aast_len {st st' : List Value} {h h' : rx_H} (hs : rx_aast st h = some (st', h')) : h'.length = h.length := by
  unfold rx_aast at hs
  repeat' (split at hs)
  all_goals first
    | (cases hs; done)
    | (simp only [Option.some.injEq, Prod.mk.injEq] at hs; rw [← hs.2]; simp)
theorem rx_copy_len {fr lo : Nat} {st st' : List Value} {h h' : rx_H} (hs : rx_copy fr lo st h = some (st', h')) : h'.length = h.length := by
  unfold rx_copy at hs
  repeat' (split at hs)
  all_goals first
    | (cases hs; done)
    | (simp only [Option.some.injEq, Prod.mk.injEq] at hs; rw [← hs.2]; simp)
theorem rx_heap_len {co : Nat} {ini : Bool} {fr lo : Nat} {i : Instr} {len pc pc' : Nat} {st st' : List Value} {h h' : rx_H} (hs : rx_heap co ini fr lo i len pc st h = some (pc', st', h')) : h'.length = h.length := by
  unfold rx_heap at hs
  split at hs
  · obtain ⟨r, h1, h2⟩ := rx_map1 hs; cases h2; rfl
  · obtain ⟨⟨r, hh⟩, h1, h2⟩ := rx_map1 hs; cases h2; exact rx_put_len h1
  · obtain ⟨r, h1, h2⟩ := rx_map1 hs; cases h2; rfl
  · obtain ⟨r, h1, h2⟩ := rx_map1 hs; cases h2; rfl
  · obtain ⟨r, h1, h2⟩ := rx_map1 hs; cases h2; rfl
  · obtain ⟨r, h1, h2⟩ := rx_map1 hs; cases h2; rfl
  · obtain ⟨⟨r, hh⟩, h1, h2⟩ := rx_map1 hs; cases h2; exact rx_iast_len h1
  · obtain ⟨⟨r, hh⟩, h1, h2⟩ := rx_map1 hs; cases h2; exact rx_bast_len h1
  · obtain ⟨⟨r, hh⟩, h1, h2⟩ := rx_map1 hs; cases h2; exact rx_aast_len h1
  · obtain ⟨v, h1, h2⟩ := rx_map1 hs; cases h2; rfl
  · obtain ⟨v, h1, h2⟩ := rx_map1 hs; cases h2; rfl
  · split at hs
    · cases hs; rfl
    · cases hs
  · split at hs
    · cases hs; rfl
    · cases hs
  · split at hs
    · split at hs
      · cases hs; rfl
      · cases hs
    · cases hs
  · split at hs
    · obtain ⟨⟨r, hh⟩, h1, h2⟩ := rx_map1 hs; cases h2; exact rx_copy_len h1
    · split at hs
      · obtain ⟨r, h1, h2⟩ := rx_map1 hs; cases h2; rfl
      · split at hs
        · split at hs
          · cases hs; rfl
          · cases hs
        · cases hs
  · cases hs
theorem rx_alloc_len {co mc ms : Nat} {i : Instr} {len pc pc' uc us uc' us' : Nat} {lv : rx_L} {st st' : List Value} {h h' : rx_H} (hs : rx_alloc co mc ms i len pc lv st h uc us = some (pc', st', h', uc', us')) : h'.length = h.length + 1 ∧ uc' ≤ mc ∧ us' ≤ ms ∧ uc < mc ∧ h.length < 1000000 := by
  have hz : ∀ {st0 : List Value}, rx_fresh h.length lv st0 h = true → h.length < 1000000 := fun q => (rx_fresh_all (ad := id) (ad' := id) (tC := fun _ => 0) q (fun _ _ => rfl)).1
  unfold rx_alloc at hs
  repeat' (split at hs)
  all_goals first
    | (cases hs; done)
    | (rename_i hi
       simp only [Option.some.injEq, Prod.mk.injEq] at hs
       obtain ⟨-, -, e1, e2, e3⟩ := hs
       subst e1; subst e2; subst e3
       exact ⟨by simp, by omega, by omega, by omega, hz hi.1⟩)
theorem rx_who_mem {co : Nat} {i : Instr} {len : Nat} {Z : rx_M} (hw : rx_who co i len = some Z) : Z ∈ rx_MT := by
  unfold rx_who at hw
  repeat' (split at hw)
  all_goals first
    | (cases hw; done)
    | (rename_i hj _; cases hw; exact List.mem_of_getElem? hj)
    | (rename_i hj _ _; cases hw; exact List.mem_of_getElem? hj)
/-- what is claimed of n steps -/
def rx_Sim (l : Launch) (n : Nat) : Prop := ∀ (M : rx_M), M ∈ rx_MT → ∀ (as : List Value) (h : rx_H) (r : Option Value) (h' : rx_H), rx_cats as ≤ rm_maxL M → rx_run n M (0, lv_args 0 as, [], h, 0, 0) = some (r, h') → rx_Met l M as h r h'
section RXB
variable {p : Program} {l : Launch} {e : Env} {s : State} {m : MethodId} {args : Array Value} {below : List Frame} {meth : Method} {c : Code}
variable {base : Nat} {D : va_G} {tC : Nat → ClassId} {ad0 : Nat → Nat} {h0 : rx_H} {M : rx_M}
set_option maxHeartbeats 4000000 in
theorem rx_body {n : Nat} (IH : ∀ k, k < n → rx_Sim l k) (hM : M ∈ rx_MT) (hx : p.tables.exec = Jvm.exec) (hb : c.code = rm_code M) (hml : c.maxLocals = rm_maxL M) (hown : s.vm.findClass (rx_cn (rm_co M)) = some m.cls) (hts : ∀ w ∈ rx_Ts, w.before args s = true) (hin : rx_ini M = true → meth.name = "<init>") (hr : meth.sig.returnType = rm_ret M) (hlocks : meth.locks = false) (hbs : base ≤ s.heap.size) (hC0 : rx_Con ad0 base s) :
    ∀ k, k ≤ n → ∀ (pc : Nat) (lv : rx_L) (st : List Value) (h : rx_H) (uc us : Nat) (ad : Nat → Nat) (H : Heap) (locs : List Loc) (ls : Array Slot) (r : Option Value) (h' : rx_H), rx_run k M (pc, lv, st, h, uc, us) = some (r, h') → rx_Rel D tC ad base s H locs h → lv_has ls (rm_maxL M) (rx_l ad lv) → uc ≤ rm_mc M → us ≤ rm_ms M → (∀ k, k < h0.length ∨ 1000000 ≤ k → ad k = ad0 k) → (rm_mc M = 0 → ad = ad0) → h0.length ≤ h.length →
      W p l e (rm_room M) s m args below meth c H locs uc us (MQ below (rx_Qc D tC ad0 base (rm_mc M) h0 r h') args s (rm_mc M) (rm_ms M) (rx_A base)) (F0 m pc ls (st.map (rx_v ad))) := by
  intro k
  induction k with
  | zero => intro _ pc lv st h uc us ad H locs ls r h' hs; cases hs
  | succ k ih =>
    intro hk pc lv st h uc us ad H locs ls r h' hs hR hl huc hus hag ha0 hlen
    have hC : rx_Con ad base s := rx_Con_ad (fun k hk => hag k (Or.inr hk)) hC0
    have hml' : c.maxLocals = ls.size := hml.trans hl.1.symm
    unfold rx_run at hs
    split at hs
    · next i len hd =>
      split at hs
      · next pc' lv' st' hp => exact rx_pure_sim hx hb hd hp (fun ls' hl' => ih (by omega) pc' lv' st' h uc us ad H locs ls' r h' hs hR hl' huc hus hag ha0 hlen) hl
      · split at hs
        · next pc' st' h1 hp =>
          exact rx_heap_sim (R := rm_room M) hx hb hml' hown hts hin ⟨huc, hus⟩ hC hR hd hp (fun H1 locs1 hR1 => ih (by omega) pc' lv st' h1 uc us ad H1 locs1 ls r h' hs hR1 hl huc hus hag ha0 (by rw [rx_heap_len hp]; exact hlen))
        · split at hs
          · next Z hw =>
            split at hs
            · next hmay =>
              split at hs
              · next r1 h1 hrun =>
                obtain ⟨a1, a2, a3, a4, a5, a6, a7, a8, a9, a10⟩ := rx_may_ok hmay
                have hZ := rx_who_mem hw
                have hMet := IH k (by omega) Z hZ _ h r1 h1 (by rw [rx_cats_rev]; exact a8) hrun
                refine rx_callW (rx_call_run hZ hx hb hml' hown hts hbs hC hR hd hw hmay hMet) (fun v st₀ t H1 L e0 e1 hq hL => ?_)
                obtain ⟨ad', g1, g2, g3, g4, g5, g6, g7⟩ := hq
                have hv : v = r1.map (rx_v ad') := by
                  have := g4
                  simp only [Outcome.returned.injEq] at this
                  exact this
                subst hv
                obtain ⟨hK, hP, hD, hS⟩ := hR
                have hst : rx_l ad' lv = rx_l ad lv ∧ (st.drop (rx_na Z)).map (rx_v ad') = (st.drop (rx_na Z)).map (rx_v ad) := by
                  rcases a7 with z | z
                  · rw [g2 z]; exact ⟨rfl, rfl⟩
                  · exact rx_old_ok z g1
                have hR1 : rx_Rel D tC ad' base s H1 (locs ++ L) h1 := by
                  obtain ⟨f1, f2⟩ := g7
                  rw [e0] at f1 f2
                  rw [e1] at f1 f2 g5
                  exact ⟨hK, g5, g6, Nat.le_trans hS.1 f1, fun q q1 q2 => (f2 q (Nat.lt_of_lt_of_le q1 hS.1) q2).trans (hS.2.1 q q1 q2), fun q hq => (List.mem_append.mp hq).elim (hS.2.2 q) (hL q)⟩
                have := ih (by omega) (pc + 3) lv (r1.toList ++ st.drop (rx_na Z)) h1 (uc + rm_mc Z) (us + rm_ms Z) ad' H1 (locs ++ L) ls r h' hs hR1 (by rw [hst.1]; exact hl) a5 a6 (fun k hk => (g1 k (hk.imp (fun z => Nat.lt_of_lt_of_le z hlen) id)).trans (hag k hk)) (fun z => (g2 (by omega)).trans (ha0 z)) (Nat.le_trans hlen g3)
                rw [List.map_append, hst.2] at this
                have e3 : r1.toList.map (rx_v ad') = (r1.map (rx_v ad')).toList := by cases r1 <;> rfl
                rw [e3] at this
                exact this
              · cases hs
            · cases hs
          · split at hs
            · next r1 ha =>
              cases hs
              obtain ⟨hK, hP, hD, hS⟩ := hR
              refine W.widen (k := rm_mc M) (n := rm_ms M) huc hus ?_
              exact rx_ans_W hx hb hr hlocks hd ha (fun t ht hW => ⟨ad, hag, ha0, hlen, rfl, by rw [ht]; exact hP, hD, hS.F ht⟩) hS.2.2
            · split at hs
              · next pc' st' h1 uc' us' hp =>
                have hlen2 := rx_alloc_len hp
                have key := rx_alloc_sim (R := rm_room M) (Q := MQ below (rx_Qc D tC ad0 base (rm_mc M) h0 r h') args s (rm_mc M) (rm_ms M) (rx_A base)) (p := p) (l := l) (e := e) (below := below) (meth := meth) (ls := ls) hx hb hown hts hC hbs hR hd hp
                have hlt : h.length < 1000000 ∧ uc < rm_mc M := ⟨hlen2.2.2.2.2, hlen2.2.2.2.1⟩
                exact (key (fun ad' H1 locs1 f1 f2 f3 => ih (by omega) pc' lv st' h1 uc' us' ad' H1 locs1 ls r h' hs f3 (by rw [f2]; exact hl) hlen2.2.1 hlen2.2.2.1 (fun k hk => (f1 k (by omega)).trans (hag k hk)) (fun z => by omega) (by omega))).2.2
              · cases hs
    · cases hs
end RXB
/-- what rx_run answers, the machine answers -/
theorem rx_sim (l : Launch) : ∀ n, rx_Sim l n := by
  intro n
  induction n using Nat.strongRecOn with
  | ind n IH =>
    intro M hM as h r h' hcat hrun D tC ad base
    obtain ⟨q, hq⟩ := rx_mt_all M hM
    obtain ⟨k1, k2, k3, k4, k5, k6, k7, k8, k9, k10⟩ := rx_mk_of hq
    refine Met.ofW (cc := rm_code M) (maxL := rm_maxL M) (ret := rm_ret M) k2 rfl ?_
    intro p e s m args below meth c s₁ B hml hv
    obtain ⟨rfl, hbs, hC, hK, hP, hD⟩ := hv
    have hts0 := atoms_spec (ws := rm_ws M) B.pre
    have hts : ∀ w ∈ rx_Ts, w.before ((as.map (rx_v ad)).toArray) s = true := fun w hw => hts0 w (List.mem_cons_of_mem _ hw)
    have hown : s.vm.findClass (rx_cn (rm_co M)) = some m.cls := by rw [k6]; exact findClass_of_methodNamed B.named
    have hin : rx_ini M = true → meth.name = "<init>" := fun z => by rw [(name_of_methodNamed B.named B.method).1]; exact (k9 (of_decide_eq_true z)).1
    have hl := lv_entry (as.map (rx_v ad)) (n := rm_maxL M) (by rw [rx_sl_len]; show rx_cats _ ≤ _; unfold rx_cats; rw [rx_cats_map]; exact hcat)
    rw [lg_entry_eq]
    rw [rx_args_map] at hl
    exact rx_body (D := D) (tC := tC) (ad0 := ad) (h0 := h) IH hM B.exec B.bytes hml hown hts hin B.returns B.notSynchronized hbs hC n (Nat.le_refl _) 0 (lv_args 0 as) [] h 0 0 ad s.heap [] _ r h' hrun ⟨hK, hP, hD, va_S.rf⟩ hl (Nat.zero_le _) (Nat.zero_le _) (fun _ _ => rfl) (fun _ => rfl) (Nat.le_refl _)
end
section
/-! THE CLAIM OUT OF ONE WALK OF THE LAW'S BODY. Your part is whole_start (and what it stands on); all else here is the same for every law, but numbers. -/
def R_law : String := "RingDriveLaw"
def lw_P (b : Addr) (xs : List Int32) (args : Array Value) (s : State) : Prop := args = #[.ref b] ∧ s.IntsAt b xs ∧ xs.length ≤ 3072 ∧ (Jvm.Cond.and given_1 narrow_1).before args s = true
def lw_Q (_ : Array Value) (s : State) (o : Outcome) (t : State) : Prop := o = .returned (some (.int 1)) ∧ Framed s o t [] 600000 7302250
def lw_Z (below : List Frame) (a : Array Value) (s : State) : State → Prop := fun t => ∃ o, t.status = .running ∧ Ended t below o ∧ lw_Q a s o t
/-- the law's own end, with 1 on the stack, nothing written that was there before, its room as the claim has it -/
theorem lw_ret {p : Program} {l : Launch} {e : Env} {s : State} {m : MethodId} {below : List Frame} {meth : Method} {c : Code} {b : Nat} (hx : p.tables.exec = Jvm.exec) (hb : c.code = code) (hr : meth.sig.returnType = ret) (hlocks : meth.locks = false) {pc : Nat} {H : Heap} {ls : Array Slot} (hdg : decode code pc = .ok (.ireturn, 1)) : W p l e room_1 s m #[Value.ref b] below meth c H [] 600000 7302250 (lw_Z below #[Value.ref b] s) (F0 m pc ls [.int 1]) := by
  intro T hT X
  obtain ⟨fs, hret, hrun, hended, hW, hframe⟩ := X.leave (v := some (.int 1)) (hlocks := hlocks) (fun h => by rw [hr] at h; cases h)
  have hmeth' : T.vm.method? m = some meth := X.method'
  refine ⟨T.setFrames fs, ?_, .returned (some (.int 1)), hrun, hended, rfl, ⟨_, rfl⟩, hW, hframe⟩
  jvm_step X.here [X.here.top, hx, hb, hdg, hmeth', hr, ret, narrow_b1]
  (try refine ⟨rfl, ?_⟩); (try refine ⟨rfl, ?_⟩)
  first | (intro acts; rw [hret _ acts rfl rfl rfl]) | rw [hret _ _ rfl rfl rfl]
  exact Steps.refl _
/-- what holds at the law's entry: the machine, the code, the tables' words (any of lw_tbl by 'hts w (by decide +kernel)'), the script of L ints xs at the cell b, what the Statement gives of the start (any of its parts by flat_of_before) -/
def lw_At (p : Program) (s : State) (m : MethodId) (meth : Method) (c : Code) (b L : Nat) (xs : Nat → Int32) : Prop :=
  p.tables.exec = Jvm.exec ∧ c.code = code ∧ meth.sig.returnType = ret ∧ c.maxLocals = 4 ∧ s.vm.findClass R_law = some m.cls ∧ (∀ w ∈ lw_tbl, w.before #[Value.ref b] s = true) ∧ va_X b L xs s s.heap ∧ b < s.heap.size ∧ meth.locks = false ∧ (Jvm.Cond.and given_1 narrow_1).before #[Value.ref b] s = true
/-! the law, run by a function: its script is the array at the place 5000000 -/
def rx_lawM : rx_M := (13, x, code, 4, some .boolean, 1, 1, 14, 600, 600000, 7302250)
def rx_scr (L : Nat) (xs : Nat → Int32) (i : Instr) (len : Nat) (st : List Value) : Option (List Value) := match i, len, st with
  | .iaload, 1, .int j :: .ref k :: r => if k = 5000000 ∧ rx_in j L = true then some (.int (xs j.toNatClampNeg) :: r) else none
  | .arraylength, 1, .ref k :: r => if k = 5000000 then some (.int (Int32.ofNat L) :: r) else none
  | _, _, _ => none
def rx_end (i : Instr) (len : Nat) (st : List Value) : Bool := match i, len, st with
  | .ireturn, 1, [.int x] => decide (x = 1)
  | _, _, _ => false
def rx_runL (M : rx_M) (L : Nat) (xs : Nat → Int32) : Nat → rx_F → Option rx_H
  | 0, _ => none
  | n + 1, (pc, l, st, h, uc, us) => match decode (rm_code M) pc with
    | .ok (i, len) => match rx_scr L xs i len st with
      | some st' => rx_runL M L xs n (pc + 1, l, st', h, uc, us)
      | none => match rx_pure (rm_maxL M) i len pc l st with
        | some (pc', l', st') => rx_runL M L xs n (pc', l', st', h, uc, us)
        | none => match rx_who (rm_co M) i len with
          | some Z => if rx_may M Z l st h uc us = true then match rx_run n Z (0, lv_args 0 (st.take (rx_na Z)).reverse, [], h, 0, 0) with
              | some (r, h') => rx_runL M L xs n (pc + 3, l, r.toList ++ st.drop (rx_na Z), h', uc + rm_mc Z, us + rm_ms Z)
              | none => none
            else none
          | none => if rx_end i len st = true then some h else match rx_alloc (rm_co M) (rm_mc M) (rm_ms M) i len pc l st h uc us with
            | some (pc', st', h', uc', us') => rx_runL M L xs n (pc', l, st', h', uc', us')
            | none => none
    | .error _ => none
theorem rx_law_room : room_1 = rm_room rx_lawM := rfl
section RXL
variable {p : Program} {l : Launch} {e : Env} {s : State} {m : MethodId} {below : List Frame} {meth : Method} {c : Code} {b L : Nat} {xs : Nat → Int32}
variable {D : va_G} {tC : Nat → ClassId} {ad0 : Nat → Nat} {M : rx_M}
set_option maxRecDepth 20000 in
set_option maxHeartbeats 4000000 in
theorem rx_bodyL (hret : ∀ (pc : Nat) (H : Heap) (ls : Array Slot), decode (rm_code M) pc = .ok (.ireturn, 1) → W p l e (rm_room M) s m #[Value.ref b] below meth c H [] (rm_mc M) (rm_ms M) (lw_Z below #[Value.ref b] s) (F0 m pc ls [.int 1])) (hx : p.tables.exec = Jvm.exec) (hb : c.code = rm_code M) (hml : c.maxLocals = rm_maxL M) (hown : s.vm.findClass (rx_cn (rm_co M)) = some m.cls) (hts : ∀ w ∈ rx_Ts, w.before #[Value.ref b] s = true) (hC0 : rx_Con ad0 s.heap.size s) (hX : va_X b L xs s s.heap) (hbl : b < s.heap.size) (hb0 : ad0 5000000 = b) :
    ∀ k, ∀ (pc : Nat) (lv : rx_L) (st : List Value) (h : rx_H) (uc us : Nat) (ad : Nat → Nat) (H : Heap) (locs : List Loc) (ls : Array Slot) (h' : rx_H), rx_runL M L xs k (pc, lv, st, h, uc, us) = some h' → rx_Rel D tC ad s.heap.size s H locs h → lv_has ls (rm_maxL M) (rx_l ad lv) → uc ≤ rm_mc M → us ≤ rm_ms M → (∀ k, 1000000 ≤ k → ad k = ad0 k) →
      W p l e (rm_room M) s m #[Value.ref b] below meth c H locs uc us (lw_Z below #[Value.ref b] s) (F0 m pc ls (st.map (rx_v ad))) := by
  intro k
  induction k with
  | zero => intro pc lv st h uc us ad H locs ls h' hs; cases hs
  | succ k ih =>
    intro pc lv st h uc us ad H locs ls h' hs hR hl huc hus hag
    have hC : rx_Con ad s.heap.size s := rx_Con_ad hag hC0
    have hml' : c.maxLocals = ls.size := hml.trans hl.1.symm
    have hbA : ¬ rx_A s.heap.size b := Nat.not_le.mpr hbl
    have hadb : ad 5000000 = b := (hag _ (by omega)).trans hb0
    unfold rx_runL at hs
    split at hs
    · next i len hd =>
      split at hs
      · next st' hp =>
        have kk := ih (pc + 1) lv st' h uc us ad H locs ls h' hs hR hl huc hus hag
        unfold rx_scr at hp
        split at hp
        · next j k' r =>
          split at hp
          · next hi =>
            cases hp
            obtain ⟨e1, hi⟩ := hi
            subst e1
            show W p l e (rm_room M) s m #[Value.ref b] below meth c H locs uc us (lw_Z below #[Value.ref b] s) (F0 m pc ls (.int j :: .ref (ad 5000000) :: r.map (rx_v ad)))
            rw [hadb]
            exact va_sld hx hb hX hbl hbA hR.2.2.2 (rx_in_iff hi) hd kk
          · cases hp
        · next k' r =>
          split at hp
          · next hi =>
            cases hp
            subst hi
            show W p l e (rm_room M) s m #[Value.ref b] below meth c H locs uc us (lw_Z below #[Value.ref b] s) (F0 m pc ls (.ref (ad 5000000) :: r.map (rx_v ad)))
            rw [hadb]
            exact va_slen hx hb hX hbl hbA hR.2.2.2 hd kk
          · cases hp
        · cases hp
      · split at hs
        · next pc' lv' st' hp => exact rx_pure_sim hx hb hd hp (fun ls' hl' => ih pc' lv' st' h uc us ad H locs ls' h' hs hR hl' huc hus hag) hl
        · split at hs
          · next Z hw =>
            split at hs
            · next hmay =>
              split at hs
              · next r1 h1 hrun =>
                obtain ⟨a1, a2, a3, a4, a5, a6, a7, a8, a9, a10⟩ := rx_may_ok hmay
                have hZ := rx_who_mem hw
                have hMet := rx_sim l k Z hZ _ h r1 h1 (by rw [rx_cats_rev]; exact a8) hrun
                refine rx_callW (rx_call_run (M := M) hZ hx hb hml' hown hts (Nat.le_refl _) hC hR hd hw hmay hMet) (fun v st₀ t H1 L' e0 e1 hq hL => ?_)
                obtain ⟨ad', g1, g2, g3, g4, g5, g6, g7⟩ := hq
                have hv : v = r1.map (rx_v ad') := by
                  have := g4
                  simp only [Outcome.returned.injEq] at this
                  exact this
                subst hv
                obtain ⟨hK, hP, hD, hS⟩ := hR
                have hst : rx_l ad' lv = rx_l ad lv ∧ (st.drop (rx_na Z)).map (rx_v ad') = (st.drop (rx_na Z)).map (rx_v ad) := by
                  rcases a7 with z | z
                  · rw [g2 z]; exact ⟨rfl, rfl⟩
                  · exact rx_old_ok z g1
                have hR1 : rx_Rel D tC ad' s.heap.size s H1 (locs ++ L') h1 := by
                  obtain ⟨f1, f2⟩ := g7
                  rw [e0] at f1 f2
                  rw [e1] at f1 f2 g5
                  exact ⟨hK, g5, g6, Nat.le_trans hS.1 f1, fun q q1 q2 => (f2 q (Nat.lt_of_lt_of_le q1 hS.1) q2).trans (hS.2.1 q q1 q2), fun q hq => (List.mem_append.mp hq).elim (hS.2.2 q) (hL q)⟩
                have := ih (pc + 3) lv (r1.toList ++ st.drop (rx_na Z)) h1 (uc + rm_mc Z) (us + rm_ms Z) ad' H1 (locs ++ L') ls h' hs hR1 (by rw [hst.1]; exact hl) a5 a6 (fun k hk => (g1 k (Or.inr hk)).trans (hag k hk))
                rw [List.map_append, hst.2] at this
                have e3 : r1.toList.map (rx_v ad') = (r1.map (rx_v ad')).toList := by cases r1 <;> rfl
                rw [e3] at this
                exact this
              · cases hs
            · cases hs
          · split at hs
            · next hend =>
              unfold rx_end at hend
              split at hend
              · next y =>
                have hy := of_decide_eq_true hend
                subst hy
                refine va_forget (fun q hq => hR.2.2.2.2.2 q hq) ?_
                refine W.widen (k := rm_mc M) (n := rm_ms M) huc hus ?_
                exact hret pc H ls hd
              · cases hend
            · split at hs
              · next pc' st' h1 uc' us' hp =>
                have hlen2 := rx_alloc_len hp
                exact (rx_alloc_sim (R := rm_room M) (co := rm_co M) hx hb hown hts hC (Nat.le_refl _) hR hd hp (fun ad' H1 locs1 f1 f2 f3 => ih pc' lv st' h1 uc' us' ad' H1 locs1 ls h' hs f3 (by rw [f2]; exact hl) hlen2.2.1 hlen2.2.2.1 (fun k hk => (f1 k (by omega)).trans (hag k hk)))).2.2
              · cases hs
    · cases hs
end RXL
end
section
/-! what the Statement gives at the law's entry is what the engine asks for -/
def rx_sat (q : String × String × String × (Int32 ⊕ (Nat × List Int32))) : List Cond := match q with
  | (C, n, d, .inr (N, a)) => [.isRef (.static C n d), .arrayOf (.static C n d) .int, .eq (.length (.static C n d)) (.int (Int32.ofNat N))] ++ (List.range N).map (fun j => .eq (.elem (.static C n d) (.int (Int32.ofNat j))) (.int (a.getD j 0)))
  | (C, n, d, .inl x) => [.eq (.static C n d) (.int x)]
def rx_tm (i : Nat) : Term := match rx_STs[i]? with
  | some ((co, idx), _) => .string (rx_cn co) idx
  | none => .int 0
def rx_sst (i : Nat) : List Cond :=
  [.exactly (rx_tm i) "java/lang/String", .eq (.field (rx_tm i) "java/lang/String" "coder" "B") (.int 0), .arrayOf (.field (rx_tm i) "java/lang/String" "value" "[B") .byte, .eq (.length (.field (rx_tm i) "java/lang/String" "value" "[B")) (.int (Int32.ofNat ((rx_tb.map List.length).getD i 0)))] ++
  (List.range ((rx_tb.map List.length).getD i 0)).map (fun j => .eq (.elem (.field (rx_tm i) "java/lang/String" "value" "[B") (.int (Int32.ofNat j))) (.int ((rx_tb.getD i []).getD j 0)))
def rx_flL : List Cond := [.arrayOf (.arg 0) .int, .le (.length (.arg 0)) (.int 3072)] ++ ((rx_sn.take 8).flatMap rx_sat ++ ((rx_sn.drop 8).take 1).flatMap rx_sat ++ [.isRef (.static "jdk/internal/util/Preconditions" "SIOOBE_FORMATTER" "Ljava/util/function/BiFunction;")] ++ (rx_sn.drop 9).flatMap rx_sat) ++
  (List.range rx_tb.length).flatMap (fun i => rx_sst i ++ (List.range i).map (fun j => .not (.eq (rx_tm j) (rx_tm i)))) ++ (rx_sn.take 8).map (fun q => .not (.eq (.arg 0) (.static q.1 q.2.1 q.2.2.1)))
set_option maxRecDepth 1000000 in
theorem rx_flat : flatC narrow_1 = rx_flL := by decide +kernel
set_option maxRecDepth 100000 in
theorem rx_sn_ls : rx_sn.all (fun q => decide (Cond.laysStatic q.1 q.2.1 q.2.2.1 ∈ tables_1) && decide (Cond.initialized q.1 ∈ tables_1)) = true := by decide +kernel
theorem rx_sn_all : rx_sn = rx_sn.take 8 ++ ((rx_sn.drop 8).take 1 ++ rx_sn.drop 9) := rfl
theorem rx_sn_mem {q : String × String × String × (Int32 ⊕ (Nat × List Int32))} (h : q ∈ rx_sn) {w : Cond} (hw : w ∈ rx_sat q) : w ∈ rx_flL := by
  rw [rx_sn_all] at h
  unfold rx_flL
  simp only [List.mem_append, List.mem_flatMap]
  rcases List.mem_append.mp h with h | h
  · exact Or.inl (Or.inl (Or.inr (Or.inl (Or.inl (Or.inl ⟨q, h, hw⟩)))))
  · rcases List.mem_append.mp h with h | h
    · exact Or.inl (Or.inl (Or.inr (Or.inl (Or.inl (Or.inr ⟨q, h, hw⟩)))))
    · exact Or.inl (Or.inl (Or.inr (Or.inr ⟨q, h, hw⟩)))
theorem rx_tx_mem {i : Nat} (hi : i < rx_tb.length) {w : Cond} (hw : w ∈ rx_sst i) : w ∈ rx_flL := by
  unfold rx_flL
  simp only [List.mem_append, List.mem_flatMap]
  exact Or.inl (Or.inr ⟨i, List.mem_range.mpr hi, Or.inl hw⟩)
theorem rx_tx_ne {i j : Nat} (hi : i < rx_tb.length) (hj : j < i) : Cond.not (.eq (rx_tm j) (rx_tm i)) ∈ rx_flL := by
  unfold rx_flL
  simp only [List.mem_append, List.mem_flatMap]
  exact Or.inl (Or.inr ⟨i, List.mem_range.mpr hi, Or.inr (List.mem_map.mpr ⟨j, List.mem_range.mpr hj, rfl⟩)⟩)
set_option maxRecDepth 100000 in
theorem rx_sts : rx_tb.length = 20 ∧ rx_STs.length = 20 ∧ (List.range 20).all (fun i => match rx_STs[i]?, rx_tx[i]? with
  | some ((co, idx), k), some tx => decide (k = i) && decide (Cond.stringRef (rx_cn co) idx tx ∈ tables_1)
  | _, _ => false) = true ∧ (rx_tb.map List.length).all (fun n => decide (n < 100)) = true ∧ rx_sn.all (fun q => match q.2.2.2 with
  | .inr (N, _) => decide (N < 1000)
  | .inl _ => true) = true := by decide +kernel
theorem rx_sts_lk {co idx k : Nat} (h : rx_lk rx_STs co idx = some k) : k < rx_tb.length ∧ rx_tm k = .string (rx_cn co) idx ∧ ∃ tx, Cond.stringRef (rx_cn co) idx tx ∈ tables_1 := by
  obtain ⟨h1, h2, h3, -, -⟩ := rx_sts
  obtain ⟨i, hi⟩ := List.getElem?_of_mem (rx_lk_mem h)
  have hl : i < 20 := by rw [← h2]; exact (List.getElem?_eq_some_iff.mp hi).1
  have h4 := List.all_eq_true.mp h3 i (List.mem_range.mpr hl)
  rw [hi] at h4
  split at h4
  · next co' idx' k' tx e1 e2 =>
    cases e1
    simp only [Bool.and_eq_true, decide_eq_true_eq] at h4
    obtain ⟨e, h5⟩ := h4
    subst e
    refine ⟨by rw [h1]; exact hl, ?_, tx, h5⟩
    unfold rx_tm
    rw [hi]
  · cases h4
set_option maxRecDepth 100000 in
theorem rx_nestw : rx_MLs.all (fun q => !q.2.1.2 || match rx_MT[q.2.1.1]? with
  | some Z => decide (Cond.methodLinkNest (rx_cn q.1.1) q.1.2 Z.2.1 rx_host ∈ tables_1)
  | none => true) = true := by decide +kernel
set_option maxRecDepth 100000 in
theorem rx_overw : rx_el.all (fun q => decide (Cond.arrayOver (.object (rx_cn q.2)) ∈ tables_1)) = true := by decide +kernel
end
section
/-! the law's entry: all that the engine asks for stands there -/
theorem rx_Ts_of {args : Array Value} {s : State} (hts : ∀ w ∈ lw_tbl, w.before args s = true) : ∀ w ∈ rx_Ts, w.before args s = true := fun w hw => hts w (List.mem_filter.mp hw).1
theorem rx_tab_of {args : Array Value} {s : State} (hts : ∀ w ∈ lw_tbl, w.before args s = true) : ∀ w ∈ tables_1, w.before args s = true := fun w hw => hts w (List.mem_append_right _ hw)
/-- the classes -/
theorem rx_D_of {args : Array Value} {s : State} (hts : ∀ w ∈ lw_tbl, w.before args s = true) : ∃ D : va_G, ∀ (c : Nat) (q : vw_C), vwCl[c]? = some q → u_Kn s q.1 q.2.1 q.2.2 (D.1 c) (D.2 c) := by
  have h0 : ∀ c : Nat, ∃ z : ClassId × (Nat → Nat), ∀ q : vw_C, vwCl[c]? = some q → u_Kn s q.1 q.2.1 q.2.2 z.1 z.2 := by
    intro c
    cases hc : vwCl[c]? with
    | none => exact ⟨(0, fun _ => 0), fun q hq => by cases hq⟩
    | some q =>
      obtain ⟨C, T, N⟩ := q
      obtain ⟨w1, -, -, w4, -⟩ := rx_cl_ok hc
      obtain ⟨cC, iS, hk⟩ := u_known (C := C) (T := T) (N := N) (n := N) (rx_Ts_of hts) w1 (rx_Ts_of hts _ w4)
      exact ⟨(cC, iS), fun q hq => by cases hq; exact hk⟩
  obtain ⟨f, hf⟩ := Classical.axiomOfChoice h0
  exact ⟨(fun c => (f c).1, fun c => (f c).2), fun c q hq => hf c q hq⟩
/-- the kinds of arrays -/
theorem rx_tC_of {args : Array Value} {s : State} (hts : ∀ w ∈ lw_tbl, w.before args s = true) : ∃ tC : Nat → ClassId, ∀ (k : Nat) (q : ClassId × FieldType), (rx_tys tC)[k]? = some q → ArrOfT s q.1 q.2 ∧ va_RA s q.1 q.2 := by
  have prim : ∀ ty : FieldType, Cond.arrayClass ty ∈ rx_Ts → (∀ C, ty ≠ .object C) → ∃ cA : ClassId, ArrOfT s cA ty ∧ va_RA s cA ty := by
    intro ty hw hne
    obtain ⟨c, k, comp, h1, h2, h3⟩ := Cond.arrayClass_spec (rx_Ts_of hts _ hw)
    refine ⟨c, fun n z => ⟨fun k h => (by cases h), k, h2, comp, h3⟩, ?_⟩
    cases ty with
    | object C => exact absurd rfl (hne C)
    | _ => exact h1
  have h0 : ∀ k : Nat, ∃ cA : ClassId, ∀ ty, rx_ty[k]? = some ty → ArrOfT s cA ty ∧ va_RA s cA ty := by
    intro k
    obtain ⟨g1, g2, g3⟩ := rx_w_ac
    cases hk : rx_ty[k]? with
    | none => exact ⟨0, fun ty h => by cases h⟩
    | some ty =>
      have hlt : k < rx_ty.length := (List.getElem?_eq_some_iff.mp hk).1
      have hcase : ty = .int ∨ ty = .byte ∨ ty = .boolean ∨ ∃ ci, (k, ci) ∈ rx_el ∧ ty = .object (rx_cn ci) := by
        have hall : (List.range rx_ty.length).all (fun k => match rx_ty[k]? with
          | some ty => decide (ty = .int) || decide (ty = .byte) || decide (ty = .boolean) || rx_el.any (fun z => decide (z.1 = k) && decide (ty = .object (rx_cn z.2)))
          | none => true) = true := by decide +kernel
        have h1 := List.all_eq_true.mp hall k (List.mem_range.mpr hlt)
        rw [hk] at h1
        simp only [Bool.or_eq_true, decide_eq_true_eq, List.any_eq_true, Bool.and_eq_true] at h1
        rcases h1 with ((h1 | h1) | h1) | ⟨⟨z1, z2⟩, hz, e1, e2⟩
        · exact Or.inl h1
        · exact Or.inr (Or.inl h1)
        · exact Or.inr (Or.inr (Or.inl h1))
        · dsimp only at e1 e2
          subst e1
          exact Or.inr (Or.inr (Or.inr ⟨z2, hz, e2⟩))
      have hres : ∃ cA : ClassId, ArrOfT s cA ty ∧ va_RA s cA ty := by
        rcases hcase with rfl | rfl | rfl | ⟨ci, hz, rfl⟩
        · exact prim _ g1 (fun C h => by cases h)
        · exact prim _ g2 (fun C h => by cases h)
        · exact prim _ g3 (fun C h => by cases h)
        · have hw := List.all_eq_true.mp rx_overw _ hz
          have hw2 := rx_tab_of hts _ (of_decide_eq_true hw)
          obtain ⟨comp, c, kk, h1, h2, h3, h4, h5⟩ := Cond.arrayOver_spec hw2
          exact ⟨c, fun n z => ⟨fun k h => (by cases h), kk, h3, comp, h4⟩, kk, comp, h3, h4, h1, h5⟩
      obtain ⟨cA, hcA⟩ := hres
      exact ⟨cA, fun ty' h => by cases h; exact hcA⟩
  obtain ⟨f, hf⟩ := Classical.axiomOfChoice h0
  refine ⟨f, fun k q hq => ?_⟩
  simp only [rx_tys, List.getElem?_mapIdx] at hq
  cases hk : rx_ty[k]? with
  | none => rw [hk] at hq; cases hq
  | some ty =>
    rw [hk] at hq
    cases hq
    exact hf k ty hk
set_option maxRecDepth 100000 in
theorem rx_zqw : Cond.laysStatic "jdk/internal/util/Preconditions" "SIOOBE_FORMATTER" "Ljava/util/function/BiFunction;" ∈ tables_1 ∧ Cond.initialized "jdk/internal/util/Preconditions" ∈ tables_1 := by decide +kernel
/-- the constants -/
theorem rx_Con_of {s : State} {b : Nat} (hts : ∀ w ∈ lw_tbl, w.before #[Value.ref b] s = true) (hgv : (Jvm.Cond.and given_1 narrow_1).before #[Value.ref b] s = true) : ∃ ad : Nat → Nat, ad 5000000 = b ∧ rx_Con ad s.heap.size s := by
  have hA : ∀ a : Nat, a < s.heap.size → ¬ rx_A s.heap.size a := fun a h => Nat.not_le.mpr h
  have hf : ∀ w ∈ rx_flL, w.before #[Value.ref b] s = true := by
    rw [Cond.before_and, Bool.and_eq_true] at hgv
    have := flat_of_before narrow_1 hgv.2
    rw [rx_flat] at this
    exact this
  obtain ⟨s1, s2, s3, s4, s5⟩ := rx_sts
  -- texts
  have hst : ∃ adK adV : Nat → Nat, vk_S rx_tb.length (rx_tb.map List.length) rx_tb adK adV (rx_A s.heap.size) s s.heap ∧ ∀ i : Nat, i < rx_tb.length → (rx_tm i).eval #[Value.ref b] s none [] s = some (.ref (adK i)) := by
    have hm : ∀ {i : Nat}, i < rx_tb.length → ∀ {w : Cond}, w ∈ rx_sst i → w.before #[Value.ref b] s = true := fun hi _ hw => hf _ (rx_tx_mem hi hw)
    refine vk_Sof (tm := rx_tm) (fun i hi => ?_) (fun i hi => hm hi (by simp [rx_sst])) (fun i hi => hm hi (by simp [rx_sst])) (fun i hi => hm hi (by simp [rx_sst])) (fun i hi => hm hi (by simp [rx_sst])) (fun i hi j hj => hm hi ?_) (fun i j hi hj hij => ?_) hA
    · have hl : i < (rx_tb.map List.length).length := by simpa using hi
      have h1 := List.all_eq_true.mp s4 _ (List.getElem_mem hl)
      have h2 : (rx_tb.map List.length)[i] < 100 := of_decide_eq_true h1
      rw [List.getD_eq_getElem?_getD, List.getElem?_eq_getElem hl, Option.getD_some]
      omega
    · unfold rx_sst
      exact List.mem_append_right _ (List.mem_map.mpr ⟨j, List.mem_range.mpr hj, rfl⟩)
    · rcases Nat.lt_or_gt_of_ne hij with h | h
      · exact Or.inl (hf _ (rx_tx_ne hj h))
      · exact Or.inr (hf _ (rx_tx_ne hi h))
  obtain ⟨adK, adV, hS, hev⟩ := hst
  -- static arrays
  have hsa : ∀ k : Nat, ∃ t : Nat, ∀ (C n d : String) (N : Nat) (a : List Int32), rx_sn[k]? = some (C, n, d, .inr (N, a)) → va_Z C n d (.ref t) (rx_A s.heap.size) s s.heap ∧ va_T .int t N (fun j => .int (a.getD j 0)) (rx_A s.heap.size) s s.heap := by
    intro k
    cases hk : rx_sn[k]? with
    | none => exact ⟨0, fun C n d N a h => by cases h⟩
    | some q =>
      obtain ⟨C, n, d, z⟩ := q
      cases z with
      | inl x => exact ⟨0, fun C n d N a h => by cases h⟩
      | inr z =>
        obtain ⟨N, a⟩ := z
        have hq := List.mem_of_getElem? hk
        have hm : ∀ {w : Cond}, w ∈ rx_sat (C, n, d, .inr (N, a)) → w.before #[Value.ref b] s = true := fun hw => hf _ (rx_sn_mem hq hw)
        have hls := List.all_eq_true.mp rx_sn_ls _ hq
        simp only [Bool.and_eq_true, decide_eq_true_eq] at hls
        have hN : N < 1000 := of_decide_eq_true (List.all_eq_true.mp s5 _ hq)
        obtain ⟨t, ht, hT⟩ := va_Tof (tm := .static C n d) (ty := .int) (N := N) (f := fun j => .int (a.getD j 0)) (A := rx_A s.heap.size) (by omega) (hm (by simp [rx_sat])) (va_eqt (hm (by simp [rx_sat]))) (fun j hj => va_eqt (hm (by
          unfold rx_sat
          exact List.mem_append_right _ (List.mem_map.mpr ⟨j, List.mem_range.mpr hj, rfl⟩)))) hA
        refine ⟨t, fun C' n' d' N' a' h => ?_⟩
        cases h
        exact ⟨va_Zof (rx_tab_of hts _ hls.1) (rx_tab_of hts _ hls.2) ht hA, hT⟩
  obtain ⟨adS, hadS⟩ := Classical.axiomOfChoice hsa
  refine ⟨fun k => if k = 5000000 then b else if 3000000 ≤ k then adS (k - 3000000) else if 2000000 ≤ k then adV (k - 2000000) else adK (k - 1000000), by simp, ?_, ?_, ?_, ?_, ?_, ?_, ?_⟩
  · refine ⟨fun i hi => ?_, fun i j hi hj e => ?_⟩
    · have hi2 : i < 20 := by rw [← s1]; exact hi
      have e1 : ¬ (1000000 + i = 5000000) := by omega
      have e2 : ¬ (3000000 ≤ 1000000 + i) := by omega
      have e3 : ¬ (2000000 ≤ 1000000 + i) := by omega
      have e4 : ¬ (2000000 + i = 5000000) := by omega
      have e5 : ¬ (3000000 ≤ 2000000 + i) := by omega
      have e6 : 2000000 ≤ 2000000 + i := by omega
      simp only [if_neg e1, if_neg e2, if_neg e3, if_neg e4, if_neg e5, if_pos e6, Nat.add_sub_cancel_left]
      exact hS.1 i hi
    · have hi2 : i < 20 := by rw [← s1]; exact hi
      have hj2 : j < 20 := by rw [← s1]; exact hj
      have e1 : ¬ (1000000 + i = 5000000) := by omega
      have e2 : ¬ (3000000 ≤ 1000000 + i) := by omega
      have e3 : ¬ (2000000 ≤ 1000000 + i) := by omega
      have f1 : ¬ (1000000 + j = 5000000) := by omega
      have f2 : ¬ (3000000 ≤ 1000000 + j) := by omega
      have f3 : ¬ (2000000 ≤ 1000000 + j) := by omega
      simp only [if_neg e1, if_neg e2, if_neg e3, if_neg f1, if_neg f2, if_neg f3, Nat.add_sub_cancel_left] at e
      exact hS.2 i j hi hj e
  · intro k C n d N a hk
    have hk2 : k < rx_sn.length := (List.getElem?_eq_some_iff.mp hk).1
    have hk3 : rx_sn.length = 12 := rfl
    have e1 : ¬ (3000000 + k = 5000000) := by omega
    have e2 : 3000000 ≤ 3000000 + k := by omega
    simp only [if_neg e1, if_pos e2, Nat.add_sub_cancel_left]
    exact hadS k C n d N a hk
  · intro k C n d x hk
    have hq := List.mem_of_getElem? hk
    have hls := List.all_eq_true.mp rx_sn_ls _ hq
    simp only [Bool.and_eq_true, decide_eq_true_eq] at hls
    exact va_Zof (rx_tab_of hts _ hls.1) (rx_tab_of hts _ hls.2) (va_eqi (hf _ (rx_sn_mem hq (by simp [rx_sat])))) hA
  · intro co idx k hk
    obtain ⟨h1, h2, tx, h3⟩ := rx_sts_lk hk
    have hk2 : k < 20 := by rw [← s1]; exact h1
    have e1 : ¬ (1000000 + k = 5000000) := by omega
    have e2 : ¬ (3000000 ≤ 1000000 + k) := by omega
    have e3 : ¬ (2000000 ≤ 1000000 + k) := by omega
    simp only [if_neg e1, if_neg e2, if_neg e3, Nat.add_sub_cancel_left]
    have h4 := hev k h1
    rw [h2] at h4
    exact ⟨tx, vk_R.of (rx_tab_of hts _ h3) h4⟩
  · intro t ci h
    exact va_AO.of (rx_tab_of hts _ (of_decide_eq_true (List.all_eq_true.mp rx_overw _ h)))
  · intro co idx j pos h M hM
    have h1 := List.all_eq_true.mp rx_nestw _ (rx_lk_mem h)
    simp only [hM, Bool.not_true, Bool.false_or, decide_eq_true_eq] at h1
    exact va_Nw.of rfl (rx_tab_of hts _ h1)
  · have hw := rx_zqw
    exact va_Zqof (rx_tab_of hts _ hw.1) (rx_tab_of hts _ hw.2) (hf _ (by
      unfold rx_flL
      simp only [List.mem_append, List.mem_flatMap]
      exact Or.inl (Or.inl (Or.inr (Or.inl (Or.inr List.mem_cons_self)))))) hA
/-- THE CLAIM OUT OF THE FUNCTION'S RUN: what is left is a fact about rx_runL -/
def law_pure : Prop := ∀ (L : Nat) (xs : Nat → Int32), L ≤ 3072 → ∃ (n : Nat) (h' : rx_H), rx_runL rx_lawM L xs n (0, [(0, .ref 5000000)], [], [], 0, 0) = some h'
theorem whole_open (hp : law_pure) {p : Program} {e : Env} {s : State} {m : MethodId} {below : List Frame} {meth : Method} {c : Code} (l : Launch) {b L : Nat} {xs : Nat → Int32} (hL : L ≤ 3072) (C0 : lw_At p s m meth c b L xs) : W p l e room_1 s m #[Value.ref b] below meth c s.heap [] 0 0 (lw_Z below #[Value.ref b] s) (entryFrame m ([Value.ref b] : List Value).toArray 4) := by
  obtain ⟨hx, hb, hr, hml, hown, hts, hX, hbl, hlocks, hgv⟩ := id C0
  obtain ⟨D, hD⟩ := rx_D_of hts
  obtain ⟨tC, htC⟩ := rx_tC_of hts
  obtain ⟨ad, had, hC⟩ := rx_Con_of hts hgv
  obtain ⟨n, h', hrun⟩ := hp L xs hL
  have hl := lv_entry ([.ref b]) (n := 4) (Nat.le_of_ble_eq_true rfl)
  rw [lg_entry_eq]
  generalize (lg_sl ([.ref b]) ++ List.replicate (4 - (lg_sl ([.ref b])).length) Slot.unset).toArray = ls at hl ⊢
  have hl2 : lv_has ls (rm_maxL rx_lawM) (rx_l ad [(0, .ref 5000000)]) := by
    have e1 : rx_l ad [(0, .ref 5000000)] = [(0, .ref b)] := by
      show [(0, Value.ref (ad 5000000))] = _
      rw [had]
    rw [e1]
    exact hl
  have hR : rx_Rel D tC ad s.heap.size s s.heap [] [] := ⟨⟨hD, htC⟩, fun k q h => by simp [rx_w] at h, ⟨fun i j p q h => by simp [rx_w] at h, fun k q h => by simp [rx_w] at h⟩, va_S.rf⟩
  rw [rx_law_room]
  exact rx_bodyL (M := rx_lawM) (D := D) (tC := tC) (ad0 := ad) (fun pc H ls hd => by rw [← rx_law_room]; exact lw_ret hx hb hr hlocks hd) hx hb hml hown (rx_Ts_of hts) hC hX hbl had n 0 [(0, .ref 5000000)] [] [] 0 0 ad s.heap [] ls h' hrun hR hl2 (Nat.zero_le _) (Nat.zero_le _) (fun _ _ => rfl)
end
section
/-! the cells behind the constructors: what never changes of them (an array: kind, length; an object: class, its references; none: a number) -/
abbrev rz_C : Type := (Nat × Nat) ⊕ ((Nat × List (Option Nat)) ⊕ (Nat × List (Option Value)))
def rz_T : List rz_C := [.inr (.inr (11, [(some (.ref 1)), (some (.ref 3)), (some (.ref 6)), (some (.ref 37)), (some (.ref 39)), (some (.ref 108)), (some (.ref 115)), none, none])),
  .inr (.inr (10, [(some (.ref 2)), none, none, none])),
  .inl (0, 400),
  .inr (.inr (9, [none, none, none, none, (some (.ref 4)), none, none, (some (.ref 5)), none, none])),
  .inl (0, 40),
  .inl (0, 32),
  .inr (.inr (4, [none, none, none, (some (.ref 3)), (some (.ref 7)), (some (.ref 8)), (some (.ref 9)), (some (.ref 10)), (some (.ref 11)), (some (.ref 12))])),
  .inr (.inl (4, [some 13, some 15, some 17, some 19, some 21, some 23, some 25, some 27, some 29, some 31, some 33, some 35])),
  .inl (0, 8),
  .inl (0, 10),
  .inl (0, 68),
  .inl (0, 85),
  .inl (0, 85),
  .inr (.inr (8, [none, none, (some (.ref 14)), none, none, none, none, none])),
  .inl (0, 1000),
  .inr (.inr (8, [none, none, (some (.ref 16)), none, none, none, none, none])),
  .inl (0, 1000),
  .inr (.inr (8, [none, none, (some (.ref 18)), none, none, none, none, none])),
  .inl (0, 1000),
  .inr (.inr (8, [none, none, (some (.ref 20)), none, none, none, none, none])),
  .inl (0, 880),
  .inr (.inr (8, [none, none, (some (.ref 22)), none, none, none, none, none])),
  .inl (0, 880),
  .inr (.inr (8, [none, none, (some (.ref 24)), none, none, none, none, none])),
  .inl (0, 880),
  .inr (.inr (8, [none, none, (some (.ref 26)), none, none, none, none, none])),
  .inl (0, 760),
  .inr (.inr (8, [none, none, (some (.ref 28)), none, none, none, none, none])),
  .inl (0, 760),
  .inr (.inr (8, [none, none, (some (.ref 30)), none, none, none, none, none])),
  .inl (0, 760),
  .inr (.inr (8, [none, none, (some (.ref 32)), none, none, none, none, none])),
  .inl (0, 640),
  .inr (.inr (8, [none, none, (some (.ref 34)), none, none, none, none, none])),
  .inl (0, 640),
  .inr (.inr (8, [none, none, (some (.ref 36)), none, none, none, none, none])),
  .inl (0, 640),
  .inr (.inr (7, [none, none, none, none, none, none, none, (some (.ref 38)), none, none])),
  .inl (0, 2048),
  .inr (.inr (5, [(some (.ref 3)), (some (.ref 6)), (some (.ref 1)), (some (.ref 44)), (some (.ref 46)), (some (.ref 40)), none, (some (.ref 41)), (some (.ref 42)), none, none, none])),
  .inl (0, 64),
  .inr (.inl (3, [some 48, some 52, some 56, some 60, some 64, some 68, some 72, some 76, some 80, some 84, some 88, some 92, some 96, some 100, some 104])),
  .inr (.inr (6, [(some (.ref 43)), none])),
  .inl (0, 10),
  .inr (.inr (0, [(some (.ref 45)), none, none, (some (.ref 6))])),
  .inl (0, 64),
  .inr (.inr (3, [(some (.ref 47)), none, none, none, none, none, none, (some (.ref 6)), (some (.ref 3))])),
  .inl (0, 64),
  .inr (.inr (1, [none, (some (.ref 49)), none, none, none, none, none, none, none, none, none, none, none, none, (some (.ref 50)), none])),
  .inl (0, 64),
  .inr (.inr (6, [(some (.ref 51)), none])),
  .inl (0, 10),
  .inr (.inr (1, [none, (some (.ref 53)), none, none, none, none, none, none, none, none, none, none, none, none, (some (.ref 54)), none])),
  .inl (0, 64),
  .inr (.inr (6, [(some (.ref 55)), none])),
  .inl (0, 10),
  .inr (.inr (1, [none, (some (.ref 57)), none, none, none, none, none, none, none, none, none, none, none, none, (some (.ref 58)), none])),
  .inl (0, 64),
  .inr (.inr (6, [(some (.ref 59)), none])),
  .inl (0, 10),
  .inr (.inr (1, [none, (some (.ref 61)), none, none, none, none, none, none, none, none, none, none, none, none, (some (.ref 62)), none])),
  .inl (0, 64),
  .inr (.inr (6, [(some (.ref 63)), none])),
  .inl (0, 10),
  .inr (.inr (1, [none, (some (.ref 65)), none, none, none, none, none, none, none, none, none, none, none, none, (some (.ref 66)), none])),
  .inl (0, 64),
  .inr (.inr (6, [(some (.ref 67)), none])),
  .inl (0, 10),
  .inr (.inr (1, [none, (some (.ref 69)), none, none, none, none, none, none, none, none, none, none, none, none, (some (.ref 70)), none])),
  .inl (0, 64),
  .inr (.inr (6, [(some (.ref 71)), none])),
  .inl (0, 10),
  .inr (.inr (1, [none, (some (.ref 73)), none, none, none, none, none, none, none, none, none, none, none, none, (some (.ref 74)), none])),
  .inl (0, 64),
  .inr (.inr (6, [(some (.ref 75)), none])),
  .inl (0, 10),
  .inr (.inr (1, [none, (some (.ref 77)), none, none, none, none, none, none, none, none, none, none, none, none, (some (.ref 78)), none])),
  .inl (0, 64),
  .inr (.inr (6, [(some (.ref 79)), none])),
  .inl (0, 10),
  .inr (.inr (1, [none, (some (.ref 81)), none, none, none, none, none, none, none, none, none, none, none, none, (some (.ref 82)), none])),
  .inl (0, 64),
  .inr (.inr (6, [(some (.ref 83)), none])),
  .inl (0, 10),
  .inr (.inr (1, [none, (some (.ref 85)), none, none, none, none, none, none, none, none, none, none, none, none, (some (.ref 86)), none])),
  .inl (0, 64),
  .inr (.inr (6, [(some (.ref 87)), none])),
  .inl (0, 10),
  .inr (.inr (1, [none, (some (.ref 89)), none, none, none, none, none, none, none, none, none, none, none, none, (some (.ref 90)), none])),
  .inl (0, 64),
  .inr (.inr (6, [(some (.ref 91)), none])),
  .inl (0, 10),
  .inr (.inr (1, [none, (some (.ref 93)), none, none, none, none, none, none, none, none, none, none, none, none, (some (.ref 94)), none])),
  .inl (0, 64),
  .inr (.inr (6, [(some (.ref 95)), none])),
  .inl (0, 10),
  .inr (.inr (1, [none, (some (.ref 97)), none, none, none, none, none, none, none, none, none, none, none, none, (some (.ref 98)), none])),
  .inl (0, 64),
  .inr (.inr (6, [(some (.ref 99)), none])),
  .inl (0, 10),
  .inr (.inr (1, [none, (some (.ref 101)), none, none, none, none, none, none, none, none, none, none, none, none, (some (.ref 102)), none])),
  .inl (0, 64),
  .inr (.inr (6, [(some (.ref 103)), none])),
  .inl (0, 10),
  .inr (.inr (1, [none, (some (.ref 105)), none, none, none, none, none, none, none, none, none, none, none, none, (some (.ref 106)), none])),
  .inl (0, 64),
  .inr (.inr (6, [(some (.ref 107)), none])),
  .inl (0, 10),
  .inr (.inr (2, [(some (.ref 39)), (some (.ref 3)), (some (.ref 6)), (some (.ref 1)), (some (.ref 44)), (some (.ref 46)), (some (.ref 37)), (some (.ref 109)), (some (.ref 111)), (some (.ref 113))])),
  .inr (.inr (6, [(some (.ref 110)), none])),
  .inl (0, 10),
  .inr (.inr (6, [(some (.ref 112)), none])),
  .inl (0, 10),
  .inr (.inr (6, [(some (.ref 114)), none])),
  .inl (0, 10),
  .inl (0, 300),
  .inr (.inr (12, [(some (.ref 117)), none, none, none, none, none, none, none, none, none, none, none, none, none, none, none, (some (.ref 118)), (some (.ref 119)), (some (.ref 120)), (some (.ref 121)), none, (some (.ref 122)), (some (.ref 123)), (some (.ref 124)), (some (.ref 125)), none, none, none, none, none, none, none, none, (some (.ref 126)), (some (.ref 127)), (some (.ref 128)), (some (.ref 129)), (some (.ref 130)), (some (.ref 131)), (some (.ref 132)), (some (.ref 133)), (some (.ref 134)), (some (.ref 135)), (some (.ref 136)), (some (.ref 137)), (some (.ref 138)), (some (.ref 139)), (some (.ref 140)), (some (.ref 141)), (some (.ref 142)), (some (.ref 143)), (some (.ref 144)), (some (.ref 145)), (some (.ref 146)), (some (.ref 147)), (some (.ref 148)), none, none, none, none, (some (.ref 149)), none, none, (some (.ref 150)), none, (some (.ref 151)), (some (.ref 152)), none, none, (some (.ref 153)), none, (some (.ref 154)), none, none, (some (.ref 155)), none, none, none, none, none, none, none, none, none])),
  .inl (1, 12000),
  .inl (0, 800),
  .inl (0, 68),
  .inl (0, 85),
  .inl (0, 85),
  .inl (0, 64),
  .inl (0, 64),
  .inl (0, 64),
  .inl (0, 64),
  .inl (0, 15),
  .inl (0, 960),
  .inl (0, 15),
  .inl (0, 15),
  .inl (2, 15),
  .inl (0, 15),
  .inl (0, 15),
  .inl (0, 15),
  .inl (0, 15),
  .inl (0, 15),
  .inl (0, 15),
  .inl (0, 15),
  .inl (0, 15),
  .inl (0, 15),
  .inl (0, 15),
  .inl (0, 15),
  .inl (0, 15),
  .inl (0, 15),
  .inl (0, 15),
  .inl (0, 15),
  .inl (0, 15),
  .inl (0, 150),
  .inl (0, 960),
  .inl (0, 32),
  .inl (1, 400),
  .inl (0, 401),
  .inl (0, 300),
  .inl (0, 40),
  .inl (0, 10),
  .inl (1, 2048)]
/-- the numbers behind the constructors -/
def rz_I0 (k j : Nat) : Int32 := match k, j with
  | 3, 0 => 73
  | 6, 1 => -1
  | 6, 2 => -1
  | 13, 0 => 8
  | 13, 1 => 8000
  | 15, 0 => 8
  | 15, 1 => 8000
  | 17, 0 => 8
  | 17, 1 => 8000
  | 19, 0 => 7
  | 19, 1 => 7040
  | 21, 0 => 7
  | 21, 1 => 7040
  | 23, 0 => 7
  | 23, 1 => 7040
  | 25, 0 => 6
  | 25, 1 => 6080
  | 27, 0 => 6
  | 27, 1 => 6080
  | 29, 0 => 6
  | 29, 1 => 6080
  | 31, 0 => 5
  | 31, 1 => 5120
  | 33, 0 => 5
  | 33, 1 => 5120
  | 35, 0 => 5
  | 35, 1 => 5120
  | 113, 1 => 1
  | 116, 2 => -1
  | 116, 3 => -1
  | 116, 56 => 73
  | _, _ => 0
def rz_A0 (k j : Nat) : Int32 := match k, j with
  | 114, 0 => 42
  | _, _ => 0
end
section
/-! runs over the fixed cells: a state is the arrays' contents and the objects' numbers -/
abbrev rz_S : Type := (Nat → Nat → Int32) × (Nat → Nat → Int32)
def rz_f (S : rz_S) (k : Nat) (j : Nat) (o : Option Value) : Value := match o with
  | some v => v
  | none => .int (S.2 k j)
def rz_c (S : rz_S) (k : Nat) : rz_C → rx_C
  | .inl (t, n) => .inl (t, n, S.1 k)
  | .inr (.inl a) => .inr (.inl a)
  | .inr (.inr (ci, fs)) => .inr (.inr (ci, fs.mapIdx (rz_f S k)))
def rz_H (S : rz_S) : rx_H := rz_T.mapIdx (rz_c S)
def rz_uA (S : rz_S) (k i : Nat) (x : Int32) : rz_S := (fun q => if q = k then upd (S.1 k) i x else S.1 q, S.2)
def rz_fA (S : rz_S) (k : Nat) (f : Nat → Int32) : rz_S := (fun q => if q = k then f else S.1 q, S.2)
def rz_uI (S : rz_S) (k j : Nat) (x : Int32) : rz_S := (S.1, fun q z => if q = k ∧ z = j then x else S.2 q z)
theorem rz_get {S : rz_S} {k : Nat} {t : rz_C} (h : rz_T[k]? = some t) : (rz_H S)[k]? = some (rz_c S k t) := by
  simp [rz_H, List.getElem?_mapIdx, h]
theorem rz_none {S : rz_S} {k : Nat} (h : rz_T[k]? = none) : (rz_H S)[k]? = none := by
  simp only [rz_H, List.getElem?_mapIdx, h, Option.map_none]
theorem rz_ext {S S' : rz_S} {k : Nat} {t : rz_C} (h : rz_T[k]? = some t) (hq : ∀ q u, q ≠ k → rz_c S' q u = rz_c S q u) : (rz_H S).set k (rz_c S' k t) = rz_H S' := by
  apply List.ext_getElem?
  intro j
  simp only [rz_H, List.getElem?_set, List.getElem?_mapIdx, List.length_mapIdx]
  by_cases hj : k = j
  · subst hj
    obtain ⟨hl, he⟩ := List.getElem?_eq_some_iff.mp h
    simp [hl, he]
  · simp only [if_neg hj]
    cases hT : rz_T[j]? with
    | none => rfl
    | some u => simp only [Option.map_some]; rw [hq j u (Ne.symm hj)]
theorem rz_setA {S : rz_S} {k t n : Nat} (h : rz_T[k]? = some (.inl (t, n))) (f : Nat → Int32) : (rz_H S).set k (.inl (t, n, f)) = rz_H (rz_fA S k f) := by
  have e : rz_c (rz_fA S k f) k (.inl (t, n)) = .inl (t, n, f) := by simp [rz_c, rz_fA]
  rw [← e]
  refine rz_ext h (fun q u hq => ?_)
  rcases u with ⟨t, n⟩ | ⟨a⟩ | ⟨ci, fs⟩ <;> simp [rz_c, rz_fA, hq] <;> rfl
theorem rz_setI {S : rz_S} {k ci j : Nat} {fs : List (Option Value)} (h : rz_T[k]? = some (.inr (.inr (ci, fs)))) (hj : fs[j]? = some none) (x : Int32) : (rz_H S).set k (.inr (.inr (ci, (fs.mapIdx (rz_f S k)).set j (.int x)))) = rz_H (rz_uI S k j x) := by
  have e : rz_c (rz_uI S k j x) k (.inr (.inr (ci, fs))) = .inr (.inr (ci, (fs.mapIdx (rz_f S k)).set j (.int x))) := by
    simp only [rz_c]
    congr 3
    apply List.ext_getElem?
    intro i
    simp only [List.getElem?_set, List.getElem?_mapIdx, List.length_mapIdx]
    by_cases hi : j = i
    · subst hi
      obtain ⟨hl, he⟩ := List.getElem?_eq_some_iff.mp hj
      simp [hl, he, rz_f, rz_uI]
    · simp only [if_neg hi]
      cases hf : fs[i]? with
      | none => rfl
      | some o =>
        cases o with
        | some v => rfl
        | none => simp [rz_f, rz_uI, Ne.symm hi]
  rw [← e]
  refine rz_ext h (fun q u hq => ?_)
  rcases u with ⟨t, n⟩ | ⟨a⟩ | ⟨ci, fs⟩
  · rfl
  · rfl
  · simp only [rz_c]
    congr 3
    apply List.ext_getElem?
    intro i
    simp only [List.getElem?_mapIdx]
    cases fs[i]? with
    | none => rfl
    | some o => cases o <;> simp [rz_f, rz_uI, hq]
/-! more fuel does no harm -/
theorem rx_mono1 : ∀ (n : Nat) (M : rx_M) (f : rx_F) (z : Option Value × rx_H), rx_run n M f = some z → rx_run (n + 1) M f = some z := by
  intro n
  induction n with
  | zero => intro M f z h; cases h
  | succ n ih =>
    intro M f z h
    obtain ⟨pc, l, st, hh, uc, us⟩ := f
    unfold rx_run at h
    rw [rx_run]
    cases hd : decode (rm_code M) pc with
    | error e => rw [hd] at h; cases h
    | ok q =>
      obtain ⟨i, len⟩ := q
      rw [hd] at h
      dsimp only at h ⊢
      cases hp : rx_pure (rm_maxL M) i len pc l st with
      | some q => rw [hp] at h; exact ih _ _ _ h
      | none =>
        rw [hp] at h
        dsimp only at h ⊢
        cases hq : rx_heap (rm_co M) (rx_ini M) (rm_fr M) (rm_lo M) i len pc st hh with
        | some q => rw [hq] at h; exact ih _ _ _ h
        | none =>
          rw [hq] at h
          dsimp only at h ⊢
          cases hw : rx_who (rm_co M) i len with
          | some Z =>
            rw [hw] at h
            dsimp only at h ⊢
            by_cases hm : rx_may M Z l st hh uc us = true
            · rw [if_pos hm] at h ⊢
              cases hr : rx_run n Z (0, lv_args 0 (st.take (rx_na Z)).reverse, [], hh, 0, 0) with
              | none => rw [hr] at h; cases h
              | some r =>
                rw [hr] at h
                rw [ih _ _ _ hr]
                exact ih _ _ _ h
            · rw [if_neg hm] at h; cases h
          | none =>
            rw [hw] at h
            dsimp only at h ⊢
            cases ha : rx_ans M i len st with
            | some r => rw [ha] at h; exact h
            | none =>
              rw [ha] at h
              dsimp only at h ⊢
              cases hl : rx_alloc (rm_co M) (rm_mc M) (rm_ms M) i len pc l st hh uc us with
              | none => rw [hl] at h; cases h
              | some q => rw [hl] at h; exact ih _ _ _ h
theorem rx_mono {n m : Nat} {M : rx_M} {f : rx_F} {z : Option Value × rx_H} (h : rx_run n M f = some z) (hnm : n ≤ m) : rx_run m M f = some z := by
  induction hnm with
  | refl => exact h
  | step _ ih => exact rx_mono1 _ _ _ _ ih
/-- from that frame it comes to an answer r and a state S' with Q Q -/
def rz (M : rx_M) (pc : Nat) (l : rx_L) (st : List Value) (S : rz_S) (Q : Option Value → rz_S → Prop) : Prop := ∃ (n : Nat) (r : Option Value) (S' : rz_S), rx_run n M (pc, l, st, rz_H S, 0, 0) = some (r, rz_H S') ∧ Q r S'
/-- called with as -/
def rz_ev (M : rx_M) (as : List Value) (S : rz_S) (Q : Option Value → rz_S → Prop) : Prop := rz M 0 (lv_args 0 as) [] S Q
section RZ
variable {M : rx_M} {pc pc' len : Nat} {i : Instr} {l l' : rx_L} {st st' : List Value} {S S1 : rz_S} {Q : Option Value → rz_S → Prop}
theorem rz_pure (hd : decode (rm_code M) pc = .ok (i, len)) (hp : rx_pure (rm_maxL M) i len pc l st = some (pc', l', st')) (k : rz M pc' l' st' S Q) : rz M pc l st S Q := by
  obtain ⟨n, r, S', hn, hq⟩ := k
  refine ⟨n + 1, r, S', ?_, hq⟩
  rw [rx_run, hd]
  simp only [hp]
  exact hn
theorem rz_heap (hd : decode (rm_code M) pc = .ok (i, len)) (h0 : rx_pure (rm_maxL M) i len pc l st = none) (hp : rx_heap (rm_co M) (rx_ini M) (rm_fr M) (rm_lo M) i len pc st (rz_H S) = some (pc', st', rz_H S1)) (k : rz M pc' l st' S1 Q) : rz M pc l st S Q := by
  obtain ⟨n, r, S', hn, hq⟩ := k
  refine ⟨n + 1, r, S', ?_, hq⟩
  rw [rx_run, hd]
  simp only [h0, hp]
  exact hn
/-- a field that is a number -/
theorem rz_geti {idx ci j k pos : Nat} {ty : FieldType} {fin : Bool} {fs : List (Option Value)} {rest : List Value} (hd : decode (rm_code M) pc = .ok (.getfield idx, 3)) (hL : rx_lk rx_FLs (rm_co M) idx = some ((ci, j, ty, fin), pos)) (hT : rz_T[k]? = some (.inr (.inr (ci, fs)))) (hj : fs[j]? = some none) (kk : rz M (pc + 3) l (.int (S.2 k j) :: rest) S Q) : rz M pc l (.ref k :: rest) S Q := by
  refine rz_heap (S1 := S) hd rfl ?_ kk
  have e1 : (rz_H S)[k]? = some (.inr (.inr (ci, fs.mapIdx (rz_f S k)))) := rz_get hT
  have e2 : (fs.mapIdx (rz_f S k))[j]? = some (.int (S.2 k j)) := by simp [List.getElem?_mapIdx, hj, rz_f]
  simp [rx_heap, rx_get, hL, e1, e2]
/-- a field that is a reference -/
theorem rz_getr {idx ci j k pos : Nat} {ty : FieldType} {fin : Bool} {fs : List (Option Value)} {rest : List Value} {v : Value} (hd : decode (rm_code M) pc = .ok (.getfield idx, 3)) (hL : rx_lk rx_FLs (rm_co M) idx = some ((ci, j, ty, fin), pos)) (hT : rz_T[k]? = some (.inr (.inr (ci, fs)))) (hj : fs[j]? = some (some v)) (kk : rz M (pc + 3) l (v :: rest) S Q) : rz M pc l (.ref k :: rest) S Q := by
  refine rz_heap (S1 := S) hd rfl ?_ kk
  have e1 : (rz_H S)[k]? = some (.inr (.inr (ci, fs.mapIdx (rz_f S k)))) := rz_get hT
  have e2 : (fs.mapIdx (rz_f S k))[j]? = some v := by simp [List.getElem?_mapIdx, hj, rz_f]
  simp [rx_heap, rx_get, hL, e1, e2]
theorem rz_puti {idx ci j k pos : Nat} {ty : FieldType} {fs : List (Option Value)} {rest : List Value} {x : Int32} (hd : decode (rm_code M) pc = .ok (.putfield idx, 3)) (hL : rx_lk rx_FLs (rm_co M) idx = some ((ci, j, ty, false), pos)) (hT : rz_T[k]? = some (.inr (.inr (ci, fs)))) (hj : fs[j]? = some none) (hf : rx_fit ty (.int x) = true) (kk : rz M (pc + 3) l rest (rz_uI S k j x) Q) : rz M pc l (.int x :: .ref k :: rest) S Q := by
  refine rz_heap (S1 := rz_uI S k j x) hd rfl ?_ kk
  have e1 : (rz_H S)[k]? = some (.inr (.inr (ci, fs.mapIdx (rz_f S k)))) := rz_get hT
  have hl : j < fs.length := (List.getElem?_eq_some_iff.mp hj).1
  simp [rx_heap, rx_put, hL, e1, hl, hf, rz_setI hT hj]
theorem rz_iald {k n : Nat} {x : Int32} {rest : List Value} (hd : decode (rm_code M) pc = .ok (.iaload, 1)) (hT : rz_T[k]? = some (.inl (0, n))) (hi : rx_in x n = true) (kk : rz M (pc + 1) l (.int (S.1 k x.toNatClampNeg) :: rest) S Q) : rz M pc l (.int x :: .ref k :: rest) S Q := by
  refine rz_heap (S1 := S) hd rfl ?_ kk
  have e1 : (rz_H S)[k]? = some (.inl (0, n, S.1 k)) := rz_get hT
  simp [rx_heap, rx_iald, e1, hi]
theorem rz_bald {k t n : Nat} {x : Int32} {rest : List Value} (hd : decode (rm_code M) pc = .ok (.baload, 1)) (hT : rz_T[k]? = some (.inl (t, n))) (ht : t = 1 ∨ t = 2) (hi : rx_in x n = true) (kk : rz M (pc + 1) l (.int (S.1 k x.toNatClampNeg) :: rest) S Q) : rz M pc l (.int x :: .ref k :: rest) S Q := by
  refine rz_heap (S1 := S) hd rfl ?_ kk
  have e1 : (rz_H S)[k]? = some (.inl (t, n, S.1 k)) := rz_get hT
  rcases ht with rfl | rfl <;> simp [rx_heap, rx_bald, e1, hi]
theorem rz_stald {k n : Nat} {x : Int32} {a : List Int32} {rest : List Value} (hd : decode (rm_code M) pc = .ok (.iaload, 1)) (hT : rz_T[k]? = none) (ha : rx_sa k = some (n, a)) (hi : rx_in x n = true) (kk : rz M (pc + 1) l (.int (a.getD x.toNatClampNeg 0) :: rest) S Q) : rz M pc l (.int x :: .ref k :: rest) S Q := by
  refine rz_heap (S1 := S) hd rfl ?_ kk
  have e1 : (rz_H S)[k]? = none := rz_none hT
  simp [rx_heap, rx_iald, e1, ha, hi]
theorem rz_iast {k n : Nat} {x y : Int32} {rest : List Value} (hd : decode (rm_code M) pc = .ok (.iastore, 1)) (hT : rz_T[k]? = some (.inl (0, n))) (hi : rx_in x n = true) (kk : rz M (pc + 1) l rest (rz_fA S k (upd (S.1 k) x.toNatClampNeg y)) Q) : rz M pc l (.int y :: .int x :: .ref k :: rest) S Q := by
  refine rz_heap (S1 := rz_fA S k (upd (S.1 k) x.toNatClampNeg y)) hd rfl ?_ kk
  have e1 : (rz_H S)[k]? = some (.inl (0, n, S.1 k)) := rz_get hT
  simp [rx_heap, rx_iast, e1, hi, rz_setA hT]
theorem rz_bast {k n : Nat} {x y : Int32} {rest : List Value} (hd : decode (rm_code M) pc = .ok (.bastore, 1)) (hT : rz_T[k]? = some (.inl (1, n))) (hi : rx_in x n = true) (kk : rz M (pc + 1) l rest (rz_fA S k (upd (S.1 k) x.toNatClampNeg (vp_nar .byte y))) Q) : rz M pc l (.int y :: .int x :: .ref k :: rest) S Q := by
  refine rz_heap (S1 := rz_fA S k (upd (S.1 k) x.toNatClampNeg (vp_nar .byte y))) hd rfl ?_ kk
  have e1 : (rz_H S)[k]? = some (.inl (1, n, S.1 k)) := rz_get hT
  simp [rx_heap, rx_bast, e1, hi, rz_setA hT]
theorem rz_zast {k n : Nat} {x y : Int32} {rest : List Value} (hd : decode (rm_code M) pc = .ok (.bastore, 1)) (hT : rz_T[k]? = some (.inl (2, n))) (hi : rx_in x n = true) (kk : rz M (pc + 1) l rest (rz_fA S k (upd (S.1 k) x.toNatClampNeg (vp_nar .boolean y))) Q) : rz M pc l (.int y :: .int x :: .ref k :: rest) S Q := by
  refine rz_heap (S1 := rz_fA S k (upd (S.1 k) x.toNatClampNeg (vp_nar .boolean y))) hd rfl ?_ kk
  have e1 : (rz_H S)[k]? = some (.inl (2, n, S.1 k)) := rz_get hT
  simp [rx_heap, rx_bast, e1, hi, rz_setA hT]
theorem rz_aald {k t : Nat} {a : List (Option Nat)} {x : Int32} {rest : List Value} (hd : decode (rm_code M) pc = .ok (.aaload, 1)) (hT : rz_T[k]? = some (.inr (.inl (t, a)))) (ht : rx_isq t = true) (hi : rx_in x a.length = true) (kk : rz M (pc + 1) l (rx_ref (a.getD x.toNatClampNeg none) :: rest) S Q) : rz M pc l (.int x :: .ref k :: rest) S Q := by
  refine rz_heap (S1 := S) hd rfl ?_ kk
  have e1 : (rz_H S)[k]? = some (.inr (.inl (t, a))) := rz_get hT
  simp [rx_heap, rx_aald, e1, hi, ht]
theorem rz_alen {k t n : Nat} {rest : List Value} (hd : decode (rm_code M) pc = .ok (.arraylength, 1)) (hT : rz_T[k]? = some (.inl (t, n))) (ht : t < 3) (kk : rz M (pc + 1) l (.int (Int32.ofNat n) :: rest) S Q) : rz M pc l (.ref k :: rest) S Q := by
  refine rz_heap (S1 := S) hd rfl ?_ kk
  have e1 : (rz_H S)[k]? = some (.inl (t, n, S.1 k)) := rz_get hT
  simp [rx_heap, rx_alen, e1, ht]
theorem rz_stat {idx : Nat} {v : Value} (hd : decode (rm_code M) pc = .ok (.getstatic idx, 3)) (hs : rx_stat (rm_co M) idx = some v) (kk : rz M (pc + 3) l (v :: st) S Q) : rz M pc l st S Q := by
  refine rz_heap (S1 := S) hd rfl ?_ kk
  simp [rx_heap, hs]
/-- a call -/
theorem rz_call {Z : rx_M} {Q1 : Option Value → rz_S → Prop} (hd : decode (rm_code M) pc = .ok (i, len)) (h0 : rx_pure (rm_maxL M) i len pc l st = none) (h1 : rx_heap (rm_co M) (rx_ini M) (rm_fr M) (rm_lo M) i len pc st (rz_H S) = none) (hw : rx_who (rm_co M) i len = some Z) (hm : rx_may M Z l st (rz_H S) 0 0 = true) (hz : rm_mc Z = 0 ∧ rm_ms Z = 0) (hc : rz_ev Z (st.take (rx_na Z)).reverse S Q1) (k : ∀ r1 S1, Q1 r1 S1 → rz M (pc + 3) l (r1.toList ++ st.drop (rx_na Z)) S1 Q) : rz M pc l st S Q := by
  obtain ⟨n1, r1, S1, hn1, hq1⟩ := hc
  obtain ⟨n2, r, S', hn2, hq⟩ := k r1 S1 hq1
  refine ⟨(max n1 n2) + 1, r, S', ?_, hq⟩
  rw [rx_run, hd]
  simp only [h0, h1, hw, hm, if_true]
  rw [rx_mono hn1 (Nat.le_max_left _ _)]
  simp only [hz.1, hz.2, Nat.add_zero]
  exact rx_mono hn2 (Nat.le_max_right _ _)
theorem rz_ret {r : Option Value} (hd : decode (rm_code M) pc = .ok (i, len)) (h0 : rx_pure (rm_maxL M) i len pc l st = none) (h1 : rx_heap (rm_co M) (rx_ini M) (rm_fr M) (rm_lo M) i len pc st (rz_H S) = none) (hw : rx_who (rm_co M) i len = none) (ha : rx_ans M i len st = some r) (hq : Q r S) : rz M pc l st S Q := by
  refine ⟨1, r, S, ?_, hq⟩
  rw [rx_run, hd]
  simp only [h0, h1, hw, ha]
/-- weaker -/
theorem rz_weak {Q1 : Option Value → rz_S → Prop} (h : rz M pc l st S Q1) (hq : ∀ r S', Q1 r S' → Q r S') : rz M pc l st S Q := by
  obtain ⟨n, r, S', h1, h2⟩ := h
  exact ⟨n, r, S', h1, hq r S' h2⟩
end RZ
/-- answers: a number, none, a value -/
def rz_i (P : Int32 → rz_S → Prop) : Option Value → rz_S → Prop := fun r S => ∃ x, r = some (.int x) ∧ P x S
def rz_v (P : rz_S → Prop) : Option Value → rz_S → Prop := fun r S => r = none ∧ P S
def rz_r (P : Value → rz_S → Prop) : Option Value → rz_S → Prop := fun r S => ∃ v, r = some v ∧ P v S
end
section
/-! rows: branches, calls, answers -/
section RZ2
variable {M : rx_M} {pc len tgt : Nat} {l : rx_L} {st rest : List Value} {S S1 : rz_S} {Q : Option Value → rz_S → Prop} {x y : Int32} {off : Int}
theorem rz_b1 {cd : ClassFile.Cond} (hd : decode (rm_code M) pc = .ok (.ifCond cd off, 3)) (ht : rx_tg pc off = some tgt) (k1 : rx_c1 cd x = true → rz M tgt l rest S Q) (k2 : ¬ rx_c1 cd x = true → rz M (pc + 3) l rest S Q) : rz M pc l (.int x :: rest) S Q := by
  by_cases h : rx_c1 cd x = true
  · exact rz_pure hd (by simp only [rx_pure, rx_b1, ht, h, if_true]) (k1 h)
  · exact rz_pure (pc' := pc + 3) (l' := l) (st' := rest) hd (by simp only [rx_pure, rx_b1, ht]; rw [if_neg h]) (k2 h)
theorem rz_b2 {cd : ClassFile.Cond} (hd : decode (rm_code M) pc = .ok (.if_icmp cd off, 3)) (ht : rx_tg pc off = some tgt) (k1 : rx_c2 cd x y = true → rz M tgt l rest S Q) (k2 : ¬ rx_c2 cd x y = true → rz M (pc + 3) l rest S Q) : rz M pc l (.int y :: .int x :: rest) S Q := by
  by_cases h : rx_c2 cd x y = true
  · exact rz_pure hd (by simp only [rx_pure, rx_b2, ht, h, if_true]) (k1 h)
  · exact rz_pure (pc' := pc + 3) (l' := l) (st' := rest) hd (by simp only [rx_pure, rx_b2, ht]; rw [if_neg h]) (k2 h)
theorem rz_ifeq (hd : decode (rm_code M) pc = .ok (.ifCond .eq off, 3)) (ht : rx_tg pc off = some tgt) (k1 : x = 0 → rz M tgt l rest S Q) (k2 : ¬ x = 0 → rz M (pc + 3) l rest S Q) : rz M pc l (.int x :: rest) S Q := rz_b1 hd ht (fun h => k1 (of_decide_eq_true h)) (fun h => k2 (fun z => h (decide_eq_true z)))
theorem rz_ifne (hd : decode (rm_code M) pc = .ok (.ifCond .ne off, 3)) (ht : rx_tg pc off = some tgt) (k1 : ¬ x = 0 → rz M tgt l rest S Q) (k2 : x = 0 → rz M (pc + 3) l rest S Q) : rz M pc l (.int x :: rest) S Q := rz_b1 hd ht (fun h => k1 (of_decide_eq_true h)) (fun h => k2 (Decidable.byContradiction fun z => h (decide_eq_true z)))
theorem rz_iflt (hd : decode (rm_code M) pc = .ok (.ifCond .lt off, 3)) (ht : rx_tg pc off = some tgt) (k1 : x < 0 → rz M tgt l rest S Q) (k2 : ¬ x < 0 → rz M (pc + 3) l rest S Q) : rz M pc l (.int x :: rest) S Q := rz_b1 hd ht (fun h => k1 (of_decide_eq_true h)) (fun h => k2 (fun z => h (decide_eq_true z)))
theorem rz_ifge (hd : decode (rm_code M) pc = .ok (.ifCond .ge off, 3)) (ht : rx_tg pc off = some tgt) (k1 : 0 ≤ x → rz M tgt l rest S Q) (k2 : ¬ 0 ≤ x → rz M (pc + 3) l rest S Q) : rz M pc l (.int x :: rest) S Q := rz_b1 hd ht (fun h => k1 (of_decide_eq_true h)) (fun h => k2 (fun z => h (decide_eq_true z)))
theorem rz_ifgt (hd : decode (rm_code M) pc = .ok (.ifCond .gt off, 3)) (ht : rx_tg pc off = some tgt) (k1 : 0 < x → rz M tgt l rest S Q) (k2 : ¬ 0 < x → rz M (pc + 3) l rest S Q) : rz M pc l (.int x :: rest) S Q := rz_b1 hd ht (fun h => k1 (of_decide_eq_true h)) (fun h => k2 (fun z => h (decide_eq_true z)))
theorem rz_ifle (hd : decode (rm_code M) pc = .ok (.ifCond .le off, 3)) (ht : rx_tg pc off = some tgt) (k1 : x ≤ 0 → rz M tgt l rest S Q) (k2 : ¬ x ≤ 0 → rz M (pc + 3) l rest S Q) : rz M pc l (.int x :: rest) S Q := rz_b1 hd ht (fun h => k1 (of_decide_eq_true h)) (fun h => k2 (fun z => h (decide_eq_true z)))
theorem rz_icmpeq (hd : decode (rm_code M) pc = .ok (.if_icmp .eq off, 3)) (ht : rx_tg pc off = some tgt) (k1 : x = y → rz M tgt l rest S Q) (k2 : ¬ x = y → rz M (pc + 3) l rest S Q) : rz M pc l (.int y :: .int x :: rest) S Q := rz_b2 hd ht (fun h => k1 (of_decide_eq_true h)) (fun h => k2 (fun z => h (decide_eq_true z)))
theorem rz_icmpne (hd : decode (rm_code M) pc = .ok (.if_icmp .ne off, 3)) (ht : rx_tg pc off = some tgt) (k1 : ¬ x = y → rz M tgt l rest S Q) (k2 : x = y → rz M (pc + 3) l rest S Q) : rz M pc l (.int y :: .int x :: rest) S Q := rz_b2 hd ht (fun h => k1 (of_decide_eq_true h)) (fun h => k2 (Decidable.byContradiction fun z => h (decide_eq_true z)))
theorem rz_icmplt (hd : decode (rm_code M) pc = .ok (.if_icmp .lt off, 3)) (ht : rx_tg pc off = some tgt) (k1 : x < y → rz M tgt l rest S Q) (k2 : ¬ x < y → rz M (pc + 3) l rest S Q) : rz M pc l (.int y :: .int x :: rest) S Q := rz_b2 hd ht (fun h => k1 (of_decide_eq_true h)) (fun h => k2 (fun z => h (decide_eq_true z)))
theorem rz_icmpge (hd : decode (rm_code M) pc = .ok (.if_icmp .ge off, 3)) (ht : rx_tg pc off = some tgt) (k1 : y ≤ x → rz M tgt l rest S Q) (k2 : ¬ y ≤ x → rz M (pc + 3) l rest S Q) : rz M pc l (.int y :: .int x :: rest) S Q := rz_b2 hd ht (fun h => k1 (of_decide_eq_true h)) (fun h => k2 (fun z => h (decide_eq_true z)))
theorem rz_icmpgt (hd : decode (rm_code M) pc = .ok (.if_icmp .gt off, 3)) (ht : rx_tg pc off = some tgt) (k1 : y < x → rz M tgt l rest S Q) (k2 : ¬ y < x → rz M (pc + 3) l rest S Q) : rz M pc l (.int y :: .int x :: rest) S Q := rz_b2 hd ht (fun h => k1 (of_decide_eq_true h)) (fun h => k2 (fun z => h (decide_eq_true z)))
theorem rz_icmple (hd : decode (rm_code M) pc = .ok (.if_icmp .le off, 3)) (ht : rx_tg pc off = some tgt) (k1 : x ≤ y → rz M tgt l rest S Q) (k2 : ¬ x ≤ y → rz M (pc + 3) l rest S Q) : rz M pc l (.int y :: .int x :: rest) S Q := rz_b2 hd ht (fun h => k1 (of_decide_eq_true h)) (fun h => k2 (fun z => h (decide_eq_true z)))
theorem rz_idiv (hd : decode (rm_code M) pc = .ok (.idiv, 1)) (hy : ¬ y = 0) (k : rz M (pc + 1) l (.int (x / y) :: rest) S Q) : rz M pc l (.int y :: .int x :: rest) S Q := rz_pure hd (by simp only [rx_pure, rx_id, if_neg hy]) k
theorem rz_irem (hd : decode (rm_code M) pc = .ok (.irem, 1)) (hy : ¬ y = 0) (k : rz M (pc + 1) l (.int (x - x / y * y) :: rest) S Q) : rz M pc l (.int y :: .int x :: rest) S Q := rz_pure hd (by simp only [rx_pure, rx_id, if_neg hy]) k
theorem rz_iconst {n : Int} {v : Int32} (hd : decode (rm_code M) pc = .ok (.iconst n, 1)) (hv : Int32.ofInt n = v) (k : rz M (pc + 1) l (.int v :: st) S Q) : rz M pc l st S Q := rz_pure hd (by rw [← hv]; rfl) k
theorem rz_bipush {n : Int} {v : Int32} (hd : decode (rm_code M) pc = .ok (.bipush n, 2)) (hv : (Int8.ofInt n).toInt32 = v) (k : rz M (pc + 2) l (.int v :: st) S Q) : rz M pc l st S Q := rz_pure hd (by rw [← hv]; rfl) k
theorem rz_sipush {n : Int} {v : Int32} (hd : decode (rm_code M) pc = .ok (.sipush n, 3)) (hv : (Int16.ofInt n).toInt32 = v) (k : rz M (pc + 3) l (.int v :: st) S Q) : rz M pc l st S Q := rz_pure hd (by rw [← hv]; rfl) k
/-- a number gets a name -/
theorem rz_top (k : ∀ z : Int32, z = x → rz M pc l (.int z :: rest) S Q) : rz M pc l (.int x :: rest) S Q := k x rfl
/-- the room of a call, by numbers -/
def rz_room (M Z : rx_M) (rest : List Value) (as : List Value) : Bool := decide (rm_fr Z + 1 ≤ rm_fr M) && decide (8 + (rm_maxL Z + 11) + rm_lo Z ≤ rm_lo M) && decide (rx_cats rest ≤ 8) && decide (rm_mc Z = 0) && decide (rm_ms Z = 0) && decide (rx_cats as ≤ rm_maxL Z) && decide (rx_na Z = as.length)
theorem rz_callV {Z : rx_M} {Q1 : Option Value → rz_S → Prop} {idx k : Nat} {fs : List (Option Value)} {t : List Value} (hd : decode (rm_code M) pc = .ok (.invokevirtual idx, 3)) (hw : rx_who (rm_co M) (.invokevirtual idx) 3 = some Z) (hk : rm_kind Z = 0) (hT : rz_T[k]? = some (.inr (.inr (rm_co Z, fs)))) (hroom : rz_room M Z rest (t ++ [Value.ref k]) = true) (hc : rz_ev Z (.ref k :: t.reverse) S Q1) (kk : ∀ r1 S1, Q1 r1 S1 → rz M (pc + 3) l (r1.toList ++ rest) S1 Q) : rz M pc l (t ++ Value.ref k :: rest) S Q := by
  unfold rz_room at hroom
  simp only [Bool.and_eq_true, decide_eq_true_eq] at hroom
  obtain ⟨⟨⟨⟨⟨⟨a1, a2⟩, a3⟩, a4⟩, a5⟩, a6⟩, a7⟩ := hroom
  have e0 : t ++ Value.ref k :: rest = (t ++ [Value.ref k]) ++ rest := by simp
  have e1 : (t ++ Value.ref k :: rest).take (rx_na Z) = t ++ [Value.ref k] := by rw [e0, a7]; exact List.take_left
  have e2 : (t ++ Value.ref k :: rest).drop (rx_na Z) = rest := by rw [e0, a7]; exact List.drop_left
  have hz : (rz_H S)[k]? = some (.inr (.inr (rm_co Z, fs.mapIdx (rz_f S k)))) := rz_get hT
  refine rz_call (Z := Z) (Q1 := Q1) hd rfl rfl hw ?_ ⟨a4, a5⟩ ?_ ?_
  · unfold rx_may
    rw [e1, e2, if_pos hk]
    have : rx_rcv Z (rz_H S) (t ++ [Value.ref k]).reverse = true := by simp [rx_rcv, hz]
    rw [this]
    simp only [Bool.and_eq_true, decide_eq_true_eq, Bool.or_eq_true]
    exact ⟨⟨⟨⟨⟨⟨⟨⟨by rw [a7]; simp, a1⟩, a2⟩, a3⟩, by omega⟩, by omega⟩, Or.inl a4⟩, a6⟩, trivial⟩
  · rw [e1]; simpa using hc
  · rw [e2]; exact kk
theorem rz_callS {Z : rx_M} {Q1 : Option Value → rz_S → Prop} {idx : Nat} {t : List Value} (hd : decode (rm_code M) pc = .ok (.invokestatic idx, 3)) (h1 : rx_heap (rm_co M) (rx_ini M) (rm_fr M) (rm_lo M) (.invokestatic idx) 3 pc (t ++ rest) (rz_H S) = none) (hw : rx_who (rm_co M) (.invokestatic idx) 3 = some Z) (hk : rm_kind Z = 1) (hroom : rz_room M Z rest t = true) (hc : rz_ev Z t.reverse S Q1) (kk : ∀ r1 S1, Q1 r1 S1 → rz M (pc + 3) l (r1.toList ++ rest) S1 Q) : rz M pc l (t ++ rest) S Q := by
  unfold rz_room at hroom
  simp only [Bool.and_eq_true, decide_eq_true_eq] at hroom
  obtain ⟨⟨⟨⟨⟨⟨a1, a2⟩, a3⟩, a4⟩, a5⟩, a6⟩, a7⟩ := hroom
  have e1 : (t ++ rest).take (rx_na Z) = t := by rw [a7]; simp
  have e2 : (t ++ rest).drop (rx_na Z) = rest := by rw [a7]; simp
  refine rz_call (Z := Z) (Q1 := Q1) hd rfl h1 hw ?_ ⟨a4, a5⟩ ?_ ?_
  · unfold rx_may
    rw [e1, e2, if_neg (by omega), if_neg (by omega)]
    simp only [Bool.and_eq_true, decide_eq_true_eq, Bool.or_eq_true]
    exact ⟨⟨⟨⟨⟨⟨⟨⟨by rw [a7]; simp, a1⟩, a2⟩, a3⟩, by omega⟩, by omega⟩, Or.inl a4⟩, a6⟩, trivial⟩
  · rw [e1]; exact hc
  · rw [e2]; exact kk
theorem rz_callVi {Z : rx_M} {P : Int32 → rz_S → Prop} {idx k : Nat} {fs : List (Option Value)} {t : List Value} (hd : decode (rm_code M) pc = .ok (.invokevirtual idx, 3)) (hw : rx_who (rm_co M) (.invokevirtual idx) 3 = some Z) (hk : rm_kind Z = 0) (hT : rz_T[k]? = some (.inr (.inr (rm_co Z, fs)))) (hroom : rz_room M Z rest (t ++ [Value.ref k]) = true) (hc : rz_ev Z (.ref k :: t.reverse) S (rz_i P)) (kk : ∀ x S1, P x S1 → rz M (pc + 3) l (.int x :: rest) S1 Q) : rz M pc l (t ++ Value.ref k :: rest) S Q :=
  rz_callV hd hw hk hT hroom hc (fun r1 S1 h => by obtain ⟨x, rfl, h⟩ := h; exact kk x S1 h)
theorem rz_callVv {Z : rx_M} {P : rz_S → Prop} {idx k : Nat} {fs : List (Option Value)} {t : List Value} (hd : decode (rm_code M) pc = .ok (.invokevirtual idx, 3)) (hw : rx_who (rm_co M) (.invokevirtual idx) 3 = some Z) (hk : rm_kind Z = 0) (hT : rz_T[k]? = some (.inr (.inr (rm_co Z, fs)))) (hroom : rz_room M Z rest (t ++ [Value.ref k]) = true) (hc : rz_ev Z (.ref k :: t.reverse) S (rz_v P)) (kk : ∀ S1, P S1 → rz M (pc + 3) l rest S1 Q) : rz M pc l (t ++ Value.ref k :: rest) S Q :=
  rz_callV hd hw hk hT hroom hc (fun r1 S1 h => by obtain ⟨rfl, h⟩ := h; exact kk S1 h)
theorem rz_callSi {Z : rx_M} {P : Int32 → rz_S → Prop} {idx : Nat} {t : List Value} (hd : decode (rm_code M) pc = .ok (.invokestatic idx, 3)) (h1 : rx_heap (rm_co M) (rx_ini M) (rm_fr M) (rm_lo M) (.invokestatic idx) 3 pc (t ++ rest) (rz_H S) = none) (hw : rx_who (rm_co M) (.invokestatic idx) 3 = some Z) (hk : rm_kind Z = 1) (hroom : rz_room M Z rest t = true) (hc : rz_ev Z t.reverse S (rz_i P)) (kk : ∀ x S1, P x S1 → rz M (pc + 3) l (.int x :: rest) S1 Q) : rz M pc l (t ++ rest) S Q :=
  rz_callS hd h1 hw hk hroom hc (fun r1 S1 h => by obtain ⟨x, rfl, h⟩ := h; exact kk x S1 h)
theorem rz_callSv {Z : rx_M} {P : rz_S → Prop} {idx : Nat} {t : List Value} (hd : decode (rm_code M) pc = .ok (.invokestatic idx, 3)) (h1 : rx_heap (rm_co M) (rx_ini M) (rm_fr M) (rm_lo M) (.invokestatic idx) 3 pc (t ++ rest) (rz_H S) = none) (hw : rx_who (rm_co M) (.invokestatic idx) 3 = some Z) (hk : rm_kind Z = 1) (hroom : rz_room M Z rest t = true) (hc : rz_ev Z t.reverse S (rz_v P)) (kk : ∀ S1, P S1 → rz M (pc + 3) l rest S1 Q) : rz M pc l (t ++ rest) S Q :=
  rz_callS hd h1 hw hk hroom hc (fun r1 S1 h => by obtain ⟨rfl, h⟩ := h; exact kk S1 h)
theorem rz_iret {ty : FieldType} (hd : decode (rm_code M) pc = .ok (.ireturn, 1)) (hr : rm_ret M = some ty) (hn : rx_nok ty x = true) (hq : Q (some (.int x)) S) : rz M pc l [.int x] S Q := rz_ret hd rfl rfl rfl (by simp only [rx_ans, hr, hn, if_true]) hq
theorem rz_ireti {P : Int32 → rz_S → Prop} {ty : FieldType} (hd : decode (rm_code M) pc = .ok (.ireturn, 1)) (hr : rm_ret M = some ty) (hn : rx_nok ty x = true) (hq : P x S) : rz M pc l [.int x] S (rz_i P) := rz_iret hd hr hn ⟨x, rfl, hq⟩
theorem rz_vret (hd : decode (rm_code M) pc = .ok (.return_, 1)) (hr : rm_ret M = none) (hq : Q none S) : rz M pc l [] S Q := rz_ret hd rfl rfl rfl (by simp only [rx_ans, hr]) hq
theorem rz_vretv {P : rz_S → Prop} (hd : decode (rm_code M) pc = .ok (.return_, 1)) (hr : rm_ret M = none) (hq : P S) : rz M pc l [] S (rz_v P) := rz_vret hd hr ⟨rfl, hq⟩
theorem rz_aret {C : String} {k : Nat} (hd : decode (rm_code M) pc = .ok (.areturn, 1)) (hr : rm_ret M = some (.object C)) (hq : Q (some (.ref k)) S) : rz M pc l [.ref k] S Q := rz_ret hd rfl rfl rfl (by simp only [rx_ans, hr]) hq
theorem rz_anull {C : String} (hd : decode (rm_code M) pc = .ok (.areturn, 1)) (hr : rm_ret M = some (.object C)) (hq : Q (some .null) S) : rz M pc l [.null] S Q := rz_ret hd rfl rfl rfl (by simp only [rx_ans, hr]) hq
end RZ2
end
section
/-! a name for each method, a row for each link -/
def mX_init : rx_M := (11, ⟨"RingDrive", "<init>", "()V"⟩, prog_1_method_1_code, 1, none, 0, 2, 4, 84, 115, 16888)
def mTape_init : rx_M := (10, ⟨"RingDrive$Tape", "<init>", "()V"⟩, prog_12_method_1_code, 1, none, 0, 2, 1, 20, 1, 400)
def mStatus_init : rx_M := (9, ⟨"RingDrive$Status", "<init>", "()V"⟩, prog_11_method_1_code, 1, none, 0, 2, 1, 20, 2, 72)
def mDisk_init : rx_M := (4, ⟨"RingDrive$Disk", "<init>", "(LRingDrive$Status;)V"⟩, prog_6_method_1_code, 3, none, 1, 2, 2, 46, 30, 12364)
def mRing_init : rx_M := (8, ⟨"RingDrive$Ring", "<init>", "(II)V"⟩, prog_10_method_1_code, 3, none, 2, 2, 1, 24, 1, 1000)
def mProcessor_init : rx_M := (7, ⟨"RingDrive$Processor", "<init>", "()V"⟩, prog_9_method_1_code, 1, none, 0, 2, 1, 20, 1, 2048)
def mDos_init : rx_M := (5, ⟨"RingDrive$Dos", "<init>", "(LRingDrive$Status;LRingDrive$Disk;LRingDrive$Tape;)V"⟩, prog_7_method_1_code, 5, none, 3, 2, 3, 60, 68, 1612)
def mPattern_init : rx_M := (6, ⟨"RingDrive$Pattern", "<init>", "()V"⟩, prog_8_method_1_code, 1, none, 0, 2, 1, 20, 1, 10)
def mBlockMap_init : rx_M := (0, ⟨"RingDrive$BlockMap", "<init>", "(LRingDrive$Disk;)V"⟩, prog_2_method_1_code, 2, none, 1, 2, 1, 20, 1, 64)
def mDirectory_init : rx_M := (3, ⟨"RingDrive$Directory", "<init>", "(LRingDrive$Disk;LRingDrive$Status;)V"⟩, prog_5_method_1_code, 3, none, 2, 2, 1, 20, 1, 64)
def mChannel_init : rx_M := (1, ⟨"RingDrive$Channel", "<init>", "()V"⟩, prog_3_method_1_code, 1, none, 0, 2, 2, 40, 3, 76)
def mCommands_init : rx_M := (2, ⟨"RingDrive$Commands", "<init>", "(LRingDrive$Dos;LRingDrive$Processor;)V"⟩, prog_4_method_1_code, 3, none, 2, 2, 2, 40, 6, 36)
def mPattern_fitAll : rx_M := (6, ⟨"RingDrive$Pattern", "fitAll", "()V"⟩, prog_8_method_4_code, 1, none, 0, 0, 0, 0, 0, 0)
def mX_feed : rx_M := (11, ⟨"RingDrive", "feed", "(IIIII)I"⟩, prog_1_method_2_code, 6, (Option.some Jvm.ClassFile.FieldType.int), 5, 0, 1, 22, 0, 0)
def mTape_add : rx_M := (10, ⟨"RingDrive$Tape", "add", "(I)V"⟩, prog_12_method_3_code, 3, none, 1, 0, 0, 0, 0, 0)
def mX_open : rx_M := (11, ⟨"RingDrive", "open", "(II)I"⟩, prog_1_method_3_code, 3, (Option.some Jvm.ClassFile.FieldType.int), 2, 0, 7, 184, 0, 0)
def mX_sendText : rx_M := (11, ⟨"RingDrive", "sendText", "(II)Z"⟩, prog_1_method_15_code, 3, (Option.some Jvm.ClassFile.FieldType.boolean), 2, 0, 1, 21, 0, 0)
def mX_isChannel : rx_M := (11, ⟨"RingDrive", "isChannel", "(I)Z"⟩, prog_1_method_14_code, 1, (Option.some Jvm.ClassFile.FieldType.boolean), 1, 1, 0, 0, 0, 0)
def mTape_has : rx_M := (10, ⟨"RingDrive$Tape", "has", "(I)Z"⟩, prog_12_method_2_code, 2, (Option.some Jvm.ClassFile.FieldType.boolean), 1, 0, 0, 0, 0, 0)
def mTape_send : rx_M := (10, ⟨"RingDrive$Tape", "send", "(I)V"⟩, prog_12_method_4_code, 2, none, 1, 0, 0, 0, 0, 0)
def mCommands_run : rx_M := (2, ⟨"RingDrive$Commands", "run", "()I"⟩, prog_4_method_2_code, 1, (Option.some Jvm.ClassFile.FieldType.int), 0, 0, 6, 163, 0, 0)
def mStatus_begin : rx_M := (9, ⟨"RingDrive$Status", "begin", "()V"⟩, prog_11_method_2_code, 1, none, 0, 0, 1, 23, 0, 0)
def mStatus_set : rx_M := (9, ⟨"RingDrive$Status", "set", "(III)I"⟩, prog_11_method_3_code, 4, (Option.some Jvm.ClassFile.FieldType.int), 3, 0, 0, 0, 0, 0)
def mTape_byteAt : rx_M := (10, ⟨"RingDrive$Tape", "byteAt", "(I)I"⟩, prog_12_method_5_code, 2, (Option.some Jvm.ClassFile.FieldType.int), 1, 0, 0, 0, 0, 0)
def mCommands_newDisk : rx_M := (2, ⟨"RingDrive$Commands", "newDisk", "()I"⟩, prog_4_method_4_code, 5, (Option.some Jvm.ClassFile.FieldType.int), 0, 0, 5, 118, 0, 0)
def mTape_find : rx_M := (10, ⟨"RingDrive$Tape", "find", "(II)I"⟩, prog_12_method_6_code, 4, (Option.some Jvm.ClassFile.FieldType.int), 2, 0, 1, 24, 0, 0)
def mPattern_take : rx_M := (6, ⟨"RingDrive$Pattern", "take", "(LRingDrive$Tape;II)Z"⟩, prog_8_method_2_code, 5, (Option.some Jvm.ClassFile.FieldType.boolean), 3, 0, 1, 24, 0, 0)
def mPattern_isEmpty : rx_M := (6, ⟨"RingDrive$Pattern", "isEmpty", "()Z"⟩, prog_8_method_3_code, 1, (Option.some Jvm.ClassFile.FieldType.boolean), 0, 0, 0, 0, 0, 0)
def mPattern_isWild : rx_M := (6, ⟨"RingDrive$Pattern", "isWild", "()Z"⟩, prog_8_method_6_code, 2, (Option.some Jvm.ClassFile.FieldType.boolean), 0, 0, 0, 0, 0, 0)
def mCommands_formatAll : rx_M := (2, ⟨"RingDrive$Commands", "formatAll", "(II)I"⟩, prog_4_method_5_code, 5, (Option.some Jvm.ClassFile.FieldType.int), 2, 0, 4, 94, 0, 0)
def mDos_dropAll : rx_M := (5, ⟨"RingDrive$Dos", "dropAll", "()V"⟩, prog_7_method_4_code, 2, none, 0, 0, 0, 0, 0, 0)
def mDisk_format : rx_M := (4, ⟨"RingDrive$Disk", "format", "(III)I"⟩, prog_6_method_12_code, 6, (Option.some Jvm.ClassFile.FieldType.int), 3, 0, 3, 69, 0, 0)
def mDisk_ring : rx_M := (4, ⟨"RingDrive$Disk", "ring", "(I)LRingDrive$Ring;"⟩, prog_6_method_2_code, 2, (Option.some (Jvm.ClassFile.FieldType.object "RingDrive$Ring")), 1, 0, 0, 0, 0, 0)
def mRing_goTo : rx_M := (8, ⟨"RingDrive$Ring", "goTo", "(II)V"⟩, prog_10_method_11_code, 3, none, 2, 0, 0, 0, 0, 0)
def mDisk_codeData : rx_M := (4, ⟨"RingDrive$Disk", "codeData", "([I)V"⟩, prog_6_method_16_code, 4, none, 1, 0, 1, 26, 0, 0)
def mDisk_encode : rx_M := (4, ⟨"RingDrive$Disk", "encode", "([I[I)V"⟩, prog_6_method_17_code, 7, none, 2, 1, 0, 0, 0, 0)
def mDisk_fillHeader : rx_M := (4, ⟨"RingDrive$Disk", "fillHeader", "(IIII)V"⟩, prog_6_method_15_code, 5, none, 4, 0, 0, 0, 0, 0)
def mRing_putMarked : rx_M := (8, ⟨"RingDrive$Ring", "putMarked", "([I)V"⟩, prog_10_method_7_code, 4, none, 1, 0, 1, 27, 0, 0)
def mRing_put : rx_M := (8, ⟨"RingDrive$Ring", "put", "(II)V"⟩, prog_10_method_6_code, 8, none, 2, 0, 0, 0, 0, 0)
def mRing_putGap : rx_M := (8, ⟨"RingDrive$Ring", "putGap", "(I)V"⟩, prog_10_method_8_code, 3, none, 1, 0, 1, 27, 0, 0)
def mRing_putGapToEnd : rx_M := (8, ⟨"RingDrive$Ring", "putGapToEnd", "()V"⟩, prog_10_method_9_code, 1, none, 0, 0, 2, 49, 0, 0)
def mDisk_setId : rx_M := (4, ⟨"RingDrive$Disk", "setId", "(II)V"⟩, prog_6_method_7_code, 3, none, 2, 0, 0, 0, 0, 0)
def mDisk_hasId : rx_M := (4, ⟨"RingDrive$Disk", "hasId", "()Z"⟩, prog_6_method_5_code, 1, (Option.some Jvm.ClassFile.FieldType.boolean), 0, 0, 0, 0, 0, 0)
def mDisk_takeId : rx_M := (4, ⟨"RingDrive$Disk", "takeId", "()I"⟩, prog_6_method_8_code, 5, (Option.some Jvm.ClassFile.FieldType.int), 0, 0, 1, 26, 0, 0)
def mDisk_dropId : rx_M := (4, ⟨"RingDrive$Disk", "dropId", "()V"⟩, prog_6_method_6_code, 1, none, 0, 0, 0, 0, 0, 0)
def mRing_onesAhead : rx_M := (8, ⟨"RingDrive$Ring", "onesAhead", "(I)I"⟩, prog_10_method_10_code, 5, (Option.some Jvm.ClassFile.FieldType.int), 1, 0, 0, 0, 0, 0)
def mRing_startRound : rx_M := (8, ⟨"RingDrive$Ring", "startRound", "(I)V"⟩, prog_10_method_12_code, 2, none, 1, 0, 0, 0, 0, 0)
def mRing_nextFirst : rx_M := (8, ⟨"RingDrive$Ring", "nextFirst", "()I"⟩, prog_10_method_13_code, 5, (Option.some Jvm.ClassFile.FieldType.int), 0, 0, 0, 0, 0, 0)
def mRing_next : rx_M := (8, ⟨"RingDrive$Ring", "next", "()I"⟩, prog_10_method_15_code, 5, (Option.some Jvm.ClassFile.FieldType.int), 0, 0, 0, 0, 0, 0)
def mDisk_decode : rx_M := (4, ⟨"RingDrive$Disk", "decode", "([I[I)Z"⟩, prog_6_method_18_code, 7, (Option.some Jvm.ClassFile.FieldType.boolean), 2, 1, 0, 0, 0, 0)
def mDisk_isHeader : rx_M := (4, ⟨"RingDrive$Disk", "isHeader", "()Z"⟩, prog_6_method_9_code, 1, (Option.some Jvm.ClassFile.FieldType.boolean), 0, 0, 0, 0, 0, 0)
def mBlockMap_begin : rx_M := (0, ⟨"RingDrive$BlockMap", "begin", "(LRingDrive$Pattern;)V"⟩, prog_2_method_4_code, 2, none, 1, 0, 2, 43, 0, 0)
def mArr_fill : rx_M := (19, ⟨"java/util/Arrays", "fill", "([II)V"⟩, prog_20_method_103_code, 4, none, 2, 1, 0, 0, 0, 0)
def mBlockMap_freeAll : rx_M := (0, ⟨"RingDrive$BlockMap", "freeAll", "()V"⟩, prog_2_method_5_code, 2, none, 0, 0, 1, 20, 0, 0)
def mDisk_sectorsOf : rx_M := (4, ⟨"RingDrive$Disk", "sectorsOf", "(I)I"⟩, prog_6_method_3_code, 1, (Option.some Jvm.ClassFile.FieldType.int), 1, 1, 0, 0, 0, 0)
def mBlockMap_takeBlock : rx_M := (0, ⟨"RingDrive$BlockMap", "takeBlock", "(II)V"⟩, prog_2_method_8_code, 3, none, 2, 0, 1, 21, 0, 0)
def mDisk_isLegal : rx_M := (4, ⟨"RingDrive$Disk", "isLegal", "(II)Z"⟩, prog_6_method_4_code, 2, (Option.some Jvm.ClassFile.FieldType.boolean), 2, 1, 0, 0, 0, 0)
def mPattern_putInto : rx_M := (6, ⟨"RingDrive$Pattern", "putInto", "([II)V"⟩, prog_8_method_8_code, 4, none, 2, 0, 0, 0, 0, 0)
def mBlockMap_store : rx_M := (0, ⟨"RingDrive$BlockMap", "store", "()I"⟩, prog_2_method_3_code, 1, (Option.some Jvm.ClassFile.FieldType.int), 0, 0, 3, 78, 0, 0)
def mDisk_writeBlock : rx_M := (4, ⟨"RingDrive$Disk", "writeBlock", "(II[I)I"⟩, prog_6_method_11_code, 7, (Option.some Jvm.ClassFile.FieldType.int), 3, 0, 2, 52, 0, 0)
def mDisk_seek : rx_M := (4, ⟨"RingDrive$Disk", "seek", "(LRingDrive$Ring;II)I"⟩, prog_6_method_13_code, 7, (Option.some Jvm.ClassFile.FieldType.int), 3, 0, 1, 26, 0, 0)
def mRing_holds : rx_M := (8, ⟨"RingDrive$Ring", "holds", "(I[I)Z"⟩, prog_10_method_14_code, 7, (Option.some Jvm.ClassFile.FieldType.boolean), 2, 0, 0, 0, 0, 0)
def mRing_skip : rx_M := (8, ⟨"RingDrive$Ring", "skip", "(I)V"⟩, prog_10_method_16_code, 3, none, 1, 0, 1, 24, 0, 0)
def mRing_gatherFromFirst : rx_M := (8, ⟨"RingDrive$Ring", "gatherFromFirst", "([I)V"⟩, prog_10_method_17_code, 4, none, 1, 0, 1, 24, 0, 0)
def mDisk_areSame : rx_M := (4, ⟨"RingDrive$Disk", "areSame", "([I[I)Z"⟩, prog_6_method_19_code, 3, (Option.some Jvm.ClassFile.FieldType.boolean), 2, 1, 0, 0, 0, 0)
def mDirectory_writeEmpty : rx_M := (3, ⟨"RingDrive$Directory", "writeEmpty", "(II)I"⟩, prog_5_method_19_code, 3, (Option.some Jvm.ClassFile.FieldType.int), 2, 0, 3, 78, 0, 0)
def mCommands_scratch : rx_M := (2, ⟨"RingDrive$Commands", "scratch", "()I"⟩, prog_4_method_6_code, 5, (Option.some Jvm.ClassFile.FieldType.int), 0, 0, 5, 139, 0, 0)
def mDirectory_rewind : rx_M := (3, ⟨"RingDrive$Directory", "rewind", "()V"⟩, prog_5_method_2_code, 1, none, 0, 0, 1, 24, 0, 0)
def mDirectory_goTo : rx_M := (3, ⟨"RingDrive$Directory", "goTo", "(IIII)V"⟩, prog_5_method_3_code, 5, none, 4, 0, 0, 0, 0, 0)
def mDirectory_find : rx_M := (3, ⟨"RingDrive$Directory", "find", "(LRingDrive$Pattern;)I"⟩, prog_5_method_4_code, 4, (Option.some Jvm.ClassFile.FieldType.int), 1, 0, 3, 89, 0, 0)
def mDisk_readBlock : rx_M := (4, ⟨"RingDrive$Disk", "readBlock", "(II[I)I"⟩, prog_6_method_10_code, 6, (Option.some Jvm.ClassFile.FieldType.int), 3, 0, 2, 64, 0, 0)
def mDisk_dataFault : rx_M := (4, ⟨"RingDrive$Disk", "dataFault", "()I"⟩, prog_6_method_14_code, 3, (Option.some Jvm.ClassFile.FieldType.int), 0, 0, 1, 26, 0, 0)
def mDirectory_isWanted : rx_M := (3, ⟨"RingDrive$Directory", "isWanted", "(LRingDrive$Pattern;)Z"⟩, prog_5_method_7_code, 2, (Option.some Jvm.ClassFile.FieldType.boolean), 1, 0, 2, 40, 0, 0)
def mDirectory_type : rx_M := (3, ⟨"RingDrive$Directory", "type", "()I"⟩, prog_5_method_9_code, 1, (Option.some Jvm.ClassFile.FieldType.int), 0, 0, 1, 20, 0, 0)
def mDirectory_base : rx_M := (3, ⟨"RingDrive$Directory", "base", "()I"⟩, prog_5_method_8_code, 1, (Option.some Jvm.ClassFile.FieldType.int), 0, 0, 0, 0, 0, 0)
def mPattern_fits : rx_M := (6, ⟨"RingDrive$Pattern", "fits", "([II)Z"⟩, prog_8_method_7_code, 5, (Option.some Jvm.ClassFile.FieldType.boolean), 2, 0, 0, 0, 0, 0)
def mDirectory_isLast : rx_M := (3, ⟨"RingDrive$Directory", "isLast", "()Z"⟩, prog_5_method_5_code, 1, (Option.some Jvm.ClassFile.FieldType.boolean), 0, 0, 1, 20, 0, 0)
def mDirectory_isFull : rx_M := (3, ⟨"RingDrive$Directory", "isFull", "()Z"⟩, prog_5_method_6_code, 1, (Option.some Jvm.ClassFile.FieldType.boolean), 0, 0, 0, 0, 0, 0)
def mDos_scratchFound : rx_M := (5, ⟨"RingDrive$Dos", "scratchFound", "()I"⟩, prog_7_method_16_code, 5, (Option.some Jvm.ClassFile.FieldType.int), 0, 0, 4, 115, 0, 0)
def mBlockMap_load : rx_M := (0, ⟨"RingDrive$BlockMap", "load", "()I"⟩, prog_2_method_2_code, 1, (Option.some Jvm.ClassFile.FieldType.int), 0, 0, 3, 89, 0, 0)
def mDirectory_firstTrack : rx_M := (3, ⟨"RingDrive$Directory", "firstTrack", "()I"⟩, prog_5_method_11_code, 1, (Option.some Jvm.ClassFile.FieldType.int), 0, 0, 1, 20, 0, 0)
def mDirectory_firstSector : rx_M := (3, ⟨"RingDrive$Directory", "firstSector", "()I"⟩, prog_5_method_12_code, 1, (Option.some Jvm.ClassFile.FieldType.int), 0, 0, 1, 20, 0, 0)
def mDos_giveBackChain : rx_M := (5, ⟨"RingDrive$Dos", "giveBackChain", "(II)I"⟩, prog_7_method_17_code, 7, (Option.some Jvm.ClassFile.FieldType.int), 2, 0, 3, 89, 0, 0)
def mBlockMap_giveBack : rx_M := (0, ⟨"RingDrive$BlockMap", "giveBack", "(II)V"⟩, prog_2_method_9_code, 3, none, 2, 0, 1, 21, 0, 0)
def mDirectory_changeType : rx_M := (3, ⟨"RingDrive$Directory", "changeType", "(I)I"⟩, prog_5_method_15_code, 3, (Option.some Jvm.ClassFile.FieldType.int), 1, 0, 3, 89, 0, 0)
def mCommands_rename : rx_M := (2, ⟨"RingDrive$Commands", "rename", "()I"⟩, prog_4_method_7_code, 4, (Option.some Jvm.ClassFile.FieldType.int), 0, 0, 4, 112, 0, 0)
def mDirectory_changeName : rx_M := (3, ⟨"RingDrive$Directory", "changeName", "(LRingDrive$Pattern;)I"⟩, prog_5_method_16_code, 3, (Option.some Jvm.ClassFile.FieldType.int), 1, 0, 3, 89, 0, 0)
def mCommands_initialise : rx_M := (2, ⟨"RingDrive$Commands", "initialise", "()I"⟩, prog_4_method_8_code, 2, (Option.some Jvm.ClassFile.FieldType.int), 0, 0, 4, 109, 0, 0)
def mCommands_unknown : rx_M := (2, ⟨"RingDrive$Commands", "unknown", "()I"⟩, prog_4_method_3_code, 1, (Option.some Jvm.ClassFile.FieldType.int), 0, 0, 1, 23, 0, 0)
def mCommands_validate : rx_M := (2, ⟨"RingDrive$Commands", "validate", "()I"⟩, prog_4_method_9_code, 3, (Option.some Jvm.ClassFile.FieldType.int), 0, 0, 4, 115, 0, 0)
def mCommands_takeDirectory : rx_M := (2, ⟨"RingDrive$Commands", "takeDirectory", "()I"⟩, prog_4_method_10_code, 5, (Option.some Jvm.ClassFile.FieldType.int), 0, 0, 3, 89, 0, 0)
def mDirectory_isClosed : rx_M := (3, ⟨"RingDrive$Directory", "isClosed", "()Z"⟩, prog_5_method_10_code, 1, (Option.some Jvm.ClassFile.FieldType.boolean), 0, 0, 2, 40, 0, 0)
def mCommands_takeChain : rx_M := (2, ⟨"RingDrive$Commands", "takeChain", "(II)I"⟩, prog_4_method_11_code, 7, (Option.some Jvm.ClassFile.FieldType.int), 2, 0, 3, 89, 0, 0)
def mBlockMap_isFree : rx_M := (0, ⟨"RingDrive$BlockMap", "isFree", "(II)Z"⟩, prog_2_method_7_code, 3, (Option.some Jvm.ClassFile.FieldType.boolean), 2, 0, 1, 21, 0, 0)
def mCommands_user : rx_M := (2, ⟨"RingDrive$Commands", "user", "()I"⟩, prog_4_method_12_code, 1, (Option.some Jvm.ClassFile.FieldType.int), 0, 0, 4, 115, 0, 0)
def mCommands_moveBlock : rx_M := (2, ⟨"RingDrive$Commands", "moveBlock", "(Z)I"⟩, prog_4_method_14_code, 7, (Option.some Jvm.ClassFile.FieldType.int), 1, 0, 3, 89, 0, 0)
def mTape_startNumbers : rx_M := (10, ⟨"RingDrive$Tape", "startNumbers", "()V"⟩, prog_12_method_7_code, 1, none, 0, 0, 2, 47, 0, 0)
def mTape_nextNumber : rx_M := (10, ⟨"RingDrive$Tape", "nextNumber", "()I"⟩, prog_12_method_8_code, 4, (Option.some Jvm.ClassFile.FieldType.int), 0, 0, 1, 21, 0, 0)
def mTape_isDigit : rx_M := (10, ⟨"RingDrive$Tape", "isDigit", "(I)Z"⟩, prog_12_method_9_code, 1, (Option.some Jvm.ClassFile.FieldType.boolean), 1, 1, 0, 0, 0, 0)
def mDos_buffer : rx_M := (5, ⟨"RingDrive$Dos", "buffer", "(I)LRingDrive$Channel;"⟩, prog_7_method_2_code, 3, (Option.some (Jvm.ClassFile.FieldType.object "RingDrive$Channel")), 1, 0, 0, 0, 0, 0)
def mCommands_restart : rx_M := (2, ⟨"RingDrive$Commands", "restart", "()I"⟩, prog_4_method_13_code, 1, (Option.some Jvm.ClassFile.FieldType.int), 0, 0, 1, 23, 0, 0)
def mCommands_block : rx_M := (2, ⟨"RingDrive$Commands", "block", "()I"⟩, prog_4_method_15_code, 1, (Option.some Jvm.ClassFile.FieldType.int), 0, 0, 5, 133, 0, 0)
def mCommands_setPlace : rx_M := (2, ⟨"RingDrive$Commands", "setPlace", "()I"⟩, prog_4_method_16_code, 4, (Option.some Jvm.ClassFile.FieldType.int), 0, 0, 3, 67, 0, 0)
def mCommands_allocate : rx_M := (2, ⟨"RingDrive$Commands", "allocate", "(Z)I"⟩, prog_4_method_17_code, 5, (Option.some Jvm.ClassFile.FieldType.int), 1, 0, 4, 109, 0, 0)
def mCommands_tellNextFree : rx_M := (2, ⟨"RingDrive$Commands", "tellNextFree", "(II)I"⟩, prog_4_method_18_code, 6, (Option.some Jvm.ClassFile.FieldType.int), 2, 0, 2, 43, 0, 0)
def mCommands_program : rx_M := (2, ⟨"RingDrive$Commands", "program", "()I"⟩, prog_4_method_19_code, 4, (Option.some Jvm.ClassFile.FieldType.int), 0, 0, 5, 116, 0, 0)
def mCommands_argument : rx_M := (2, ⟨"RingDrive$Commands", "argument", "(I)I"⟩, prog_4_method_20_code, 2, (Option.some Jvm.ClassFile.FieldType.int), 1, 0, 1, 24, 0, 0)
def mProcessor_set : rx_M := (7, ⟨"RingDrive$Processor", "set", "(II)V"⟩, prog_9_method_3_code, 3, none, 2, 0, 0, 0, 0, 0)
def mProcessor_get : rx_M := (7, ⟨"RingDrive$Processor", "get", "(I)I"⟩, prog_9_method_2_code, 2, (Option.some Jvm.ClassFile.FieldType.int), 1, 0, 0, 0, 0, 0)
def mStatus_addReply : rx_M := (9, ⟨"RingDrive$Status", "addReply", "(I)V"⟩, prog_11_method_4_code, 2, none, 1, 0, 0, 0, 0, 0)
def mProcessor_run : rx_M := (7, ⟨"RingDrive$Processor", "run", "(I)I"⟩, prog_9_method_6_code, 5, (Option.some Jvm.ClassFile.FieldType.int), 1, 0, 4, 92, 0, 0)
def mProcessor_begin : rx_M := (7, ⟨"RingDrive$Processor", "begin", "(I)V"⟩, prog_9_method_5_code, 2, none, 1, 0, 0, 0, 0, 0)
def mProcessor_locate : rx_M := (7, ⟨"RingDrive$Processor", "locate", "(I)V"⟩, prog_9_method_12_code, 4, none, 1, 0, 2, 42, 0, 0)
def mProcessor_fetch : rx_M := (7, ⟨"RingDrive$Processor", "fetch", "()I"⟩, prog_9_method_8_code, 2, (Option.some Jvm.ClassFile.FieldType.int), 0, 0, 0, 0, 0, 0)
def mProcessor_fetchTwo : rx_M := (7, ⟨"RingDrive$Processor", "fetchTwo", "()I"⟩, prog_9_method_9_code, 2, (Option.some Jvm.ClassFile.FieldType.int), 0, 0, 1, 21, 0, 0)
def mProcessor_indexed : rx_M := (7, ⟨"RingDrive$Processor", "indexed", "(II)V"⟩, prog_9_method_11_code, 3, none, 2, 0, 0, 0, 0, 0)
def mProcessor_pair : rx_M := (7, ⟨"RingDrive$Processor", "pair", "(I)I"⟩, prog_9_method_10_code, 2, (Option.some Jvm.ClassFile.FieldType.int), 1, 0, 0, 0, 0, 0)
def mProcessor_perform : rx_M := (7, ⟨"RingDrive$Processor", "perform", "(II)V"⟩, prog_9_method_7_code, 3, none, 2, 0, 3, 70, 0, 0)
def mProcessor_useValue : rx_M := (7, ⟨"RingDrive$Processor", "useValue", "(II)V"⟩, prog_9_method_16_code, 3, none, 2, 0, 2, 48, 0, 0)
def mProcessor_marked : rx_M := (7, ⟨"RingDrive$Processor", "marked", "(I)I"⟩, prog_9_method_15_code, 3, (Option.some Jvm.ClassFile.FieldType.int), 1, 0, 0, 0, 0, 0)
def mProcessor_add : rx_M := (7, ⟨"RingDrive$Processor", "add", "(I)V"⟩, prog_9_method_19_code, 4, none, 1, 0, 1, 25, 0, 0)
def mProcessor_has : rx_M := (7, ⟨"RingDrive$Processor", "has", "(I)Z"⟩, prog_9_method_14_code, 2, (Option.some Jvm.ClassFile.FieldType.boolean), 1, 0, 0, 0, 0, 0)
def mProcessor_addBinary : rx_M := (7, ⟨"RingDrive$Processor", "addBinary", "(I)V"⟩, prog_9_method_18_code, 6, none, 1, 0, 0, 0, 0, 0)
def mProcessor_flag : rx_M := (7, ⟨"RingDrive$Processor", "flag", "(IZ)V"⟩, prog_9_method_13_code, 3, none, 2, 0, 0, 0, 0, 0)
def mProcessor_subtract : rx_M := (7, ⟨"RingDrive$Processor", "subtract", "(I)V"⟩, prog_9_method_20_code, 4, none, 1, 0, 1, 25, 0, 0)
def mProcessor_compare : rx_M := (7, ⟨"RingDrive$Processor", "compare", "(II)V"⟩, prog_9_method_17_code, 3, none, 2, 0, 1, 22, 0, 0)
def mProcessor_changeValue : rx_M := (7, ⟨"RingDrive$Processor", "changeValue", "(IZ)V"⟩, prog_9_method_21_code, 5, none, 2, 0, 1, 22, 0, 0)
def mProcessor_branch : rx_M := (7, ⟨"RingDrive$Processor", "branch", "(I)V"⟩, prog_9_method_22_code, 3, none, 1, 0, 1, 21, 0, 0)
def mProcessor_move : rx_M := (7, ⟨"RingDrive$Processor", "move", "(I)V"⟩, prog_9_method_23_code, 2, none, 1, 0, 1, 22, 0, 0)
def mProcessor_changeFlag : rx_M := (7, ⟨"RingDrive$Processor", "changeFlag", "(I)V"⟩, prog_9_method_24_code, 2, none, 1, 0, 1, 22, 0, 0)
def mProcessor_stack : rx_M := (7, ⟨"RingDrive$Processor", "stack", "(I)V"⟩, prog_9_method_28_code, 3, none, 1, 0, 2, 41, 0, 0)
def mProcessor_push : rx_M := (7, ⟨"RingDrive$Processor", "push", "(I)V"⟩, prog_9_method_25_code, 2, none, 1, 0, 0, 0, 0, 0)
def mProcessor_pull : rx_M := (7, ⟨"RingDrive$Processor", "pull", "()I"⟩, prog_9_method_26_code, 1, (Option.some Jvm.ClassFile.FieldType.int), 0, 0, 0, 0, 0, 0)
def mProcessor_pullTwo : rx_M := (7, ⟨"RingDrive$Processor", "pullTwo", "()I"⟩, prog_9_method_27_code, 2, (Option.some Jvm.ClassFile.FieldType.int), 0, 0, 1, 20, 0, 0)
def mDos_openChannel : rx_M := (5, ⟨"RingDrive$Dos", "openChannel", "(I)I"⟩, prog_7_method_8_code, 4, (Option.some Jvm.ClassFile.FieldType.int), 1, 0, 6, 161, 0, 0)
def mDos_closeChannel : rx_M := (5, ⟨"RingDrive$Dos", "closeChannel", "(I)I"⟩, prog_7_method_6_code, 4, (Option.some Jvm.ClassFile.FieldType.int), 1, 0, 4, 111, 0, 0)
def mDos_goToEntryOf : rx_M := (5, ⟨"RingDrive$Dos", "goToEntryOf", "(LRingDrive$Channel;)V"⟩, prog_7_method_7_code, 2, none, 1, 0, 1, 24, 0, 0)
def mDirectory_changeToClosed : rx_M := (3, ⟨"RingDrive$Directory", "changeToClosed", "(I)I"⟩, prog_5_method_17_code, 3, (Option.some Jvm.ClassFile.FieldType.int), 1, 0, 3, 89, 0, 0)
def mDos_countOpen : rx_M := (5, ⟨"RingDrive$Dos", "countOpen", "()I"⟩, prog_7_method_3_code, 3, (Option.some Jvm.ClassFile.FieldType.int), 0, 0, 0, 0, 0, 0)
def mDos_openBuffer : rx_M := (5, ⟨"RingDrive$Dos", "openBuffer", "(LRingDrive$Channel;)I"⟩, prog_7_method_9_code, 2, (Option.some Jvm.ClassFile.FieldType.int), 1, 0, 2, 44, 0, 0)
def mChannel_begin : rx_M := (1, ⟨"RingDrive$Channel", "begin", "(I)V"⟩, prog_3_method_2_code, 2, none, 1, 0, 1, 23, 0, 0)
def mDos_openList : rx_M := (5, ⟨"RingDrive$Dos", "openList", "(LRingDrive$Channel;)I"⟩, prog_7_method_10_code, 3, (Option.some Jvm.ClassFile.FieldType.int), 1, 0, 2, 85, 0, 0)
def mPattern_copyFrom : rx_M := (6, ⟨"RingDrive$Pattern", "copyFrom", "(LRingDrive$Pattern;)V"⟩, prog_8_method_5_code, 2, none, 1, 0, 1, 64, 0, 0)
def mDos_parseFile : rx_M := (5, ⟨"RingDrive$Dos", "parseFile", "(I)I"⟩, prog_7_method_11_code, 5, (Option.some Jvm.ClassFile.FieldType.int), 1, 0, 2, 48, 0, 0)
def mDos_sortTold : rx_M := (5, ⟨"RingDrive$Dos", "sortTold", "(I)I"⟩, prog_7_method_12_code, 2, (Option.some Jvm.ClassFile.FieldType.int), 1, 0, 1, 21, 0, 0)
def mDos_wayTold : rx_M := (5, ⟨"RingDrive$Dos", "wayTold", "(I)I"⟩, prog_7_method_13_code, 3, (Option.some Jvm.ClassFile.FieldType.int), 1, 0, 1, 21, 0, 0)
def mDos_openToRead : rx_M := (5, ⟨"RingDrive$Dos", "openToRead", "(LRingDrive$Channel;)I"⟩, prog_7_method_14_code, 5, (Option.some Jvm.ClassFile.FieldType.int), 1, 0, 4, 112, 0, 0)
def mChannel_unfold : rx_M := (1, ⟨"RingDrive$Channel", "unfold", "()V"⟩, prog_3_method_5_code, 1, none, 0, 0, 1, 24, 0, 0)
def mDos_openToWrite : rx_M := (5, ⟨"RingDrive$Dos", "openToWrite", "(LRingDrive$Channel;)I"⟩, prog_7_method_15_code, 3, (Option.some Jvm.ClassFile.FieldType.int), 1, 0, 5, 139, 0, 0)
def mDos_findRoom : rx_M := (5, ⟨"RingDrive$Dos", "findRoom", "()I"⟩, prog_7_method_18_code, 2, (Option.some Jvm.ClassFile.FieldType.int), 0, 0, 4, 112, 0, 0)
def mBlockMap_pickForDirectory : rx_M := (0, ⟨"RingDrive$BlockMap", "pickForDirectory", "()Z"⟩, prog_2_method_12_code, 1, (Option.some Jvm.ClassFile.FieldType.boolean), 0, 0, 3, 68, 0, 0)
def mBlockMap_pickOf : rx_M := (0, ⟨"RingDrive$BlockMap", "pickOf", "(II)Z"⟩, prog_2_method_13_code, 6, (Option.some Jvm.ClassFile.FieldType.boolean), 2, 0, 2, 43, 0, 0)
def mDirectory_lengthen : rx_M := (3, ⟨"RingDrive$Directory", "lengthen", "(II)I"⟩, prog_5_method_20_code, 4, (Option.some Jvm.ClassFile.FieldType.int), 2, 0, 3, 89, 0, 0)
def mDos_startFile : rx_M := (5, ⟨"RingDrive$Dos", "startFile", "(LRingDrive$Channel;)I"⟩, prog_7_method_19_code, 3, (Option.some Jvm.ClassFile.FieldType.int), 1, 0, 4, 113, 0, 0)
def mBlockMap_pick : rx_M := (0, ⟨"RingDrive$BlockMap", "pick", "()Z"⟩, prog_2_method_10_code, 2, (Option.some Jvm.ClassFile.FieldType.boolean), 0, 0, 3, 68, 0, 0)
def mDirectory_changeToNew : rx_M := (3, ⟨"RingDrive$Directory", "changeToNew", "(ILRingDrive$BlockMap;LRingDrive$Pattern;)I"⟩, prog_5_method_18_code, 5, (Option.some Jvm.ClassFile.FieldType.int), 3, 0, 3, 89, 0, 0)
def mChannel_beginBlock : rx_M := (1, ⟨"RingDrive$Channel", "beginBlock", "(II)V"⟩, prog_3_method_3_code, 3, none, 2, 0, 1, 23, 0, 0)
def mChannel_keepEntry : rx_M := (1, ⟨"RingDrive$Channel", "keepEntry", "(LRingDrive$Directory;)V"⟩, prog_3_method_4_code, 2, none, 1, 0, 0, 0, 0, 0)
def mX_write : rx_M := (11, ⟨"RingDrive", "write", "(II)I"⟩, prog_1_method_4_code, 3, (Option.some Jvm.ClassFile.FieldType.int), 2, 0, 7, 184, 0, 0)
def mDos_sendBytes : rx_M := (5, ⟨"RingDrive$Dos", "sendBytes", "(I)V"⟩, prog_7_method_27_code, 5, none, 1, 0, 6, 160, 0, 0)
def mDos_addToFile : rx_M := (5, ⟨"RingDrive$Dos", "addToFile", "(LRingDrive$Channel;I)I"⟩, prog_7_method_28_code, 5, (Option.some Jvm.ClassFile.FieldType.int), 2, 0, 5, 136, 0, 0)
def mBlockMap_pickBehind : rx_M := (0, ⟨"RingDrive$BlockMap", "pickBehind", "(II)Z"⟩, prog_2_method_11_code, 3, (Option.some Jvm.ClassFile.FieldType.boolean), 2, 0, 4, 89, 0, 0)
def mDos_goToNextBlock : rx_M := (5, ⟨"RingDrive$Dos", "goToNextBlock", "(LRingDrive$Channel;)I"⟩, prog_7_method_29_code, 3, (Option.some Jvm.ClassFile.FieldType.int), 1, 0, 4, 98, 0, 0)
def mDos_giveUpFile : rx_M := (5, ⟨"RingDrive$Dos", "giveUpFile", "(LRingDrive$Channel;)I"⟩, prog_7_method_30_code, 6, (Option.some Jvm.ClassFile.FieldType.int), 1, 0, 4, 111, 0, 0)
def mX_close : rx_M := (11, ⟨"RingDrive", "close", "(I)I"⟩, prog_1_method_5_code, 2, (Option.some Jvm.ClassFile.FieldType.int), 1, 0, 6, 156, 0, 0)
def mDos_closeAll : rx_M := (5, ⟨"RingDrive$Dos", "closeAll", "()V"⟩, prog_7_method_5_code, 3, none, 0, 0, 5, 134, 0, 0)
def mX_read : rx_M := (11, ⟨"RingDrive", "read", "(II)I"⟩, prog_1_method_6_code, 3, (Option.some Jvm.ClassFile.FieldType.int), 2, 0, 9, 197, 0, 0)
def mStatus_receive : rx_M := (9, ⟨"RingDrive$Status", "receive", "(I[I)I"⟩, prog_11_method_5_code, 4, (Option.some Jvm.ClassFile.FieldType.int), 2, 0, 7, 149, 0, 0)
def mStatus_replyByte : rx_M := (9, ⟨"RingDrive$Status", "replyByte", "()I"⟩, prog_11_method_6_code, 2, (Option.some Jvm.ClassFile.FieldType.int), 0, 0, 0, 0, 0, 0)
def mStatus_textByte : rx_M := (9, ⟨"RingDrive$Status", "textByte", "()I"⟩, prog_11_method_7_code, 2, (Option.some Jvm.ClassFile.FieldType.int), 0, 0, 6, 128, 0, 0)
def mStatus_spell : rx_M := (9, ⟨"RingDrive$Status", "spell", "()V"⟩, prog_11_method_8_code, 3, none, 0, 0, 5, 106, 0, 0)
def mStatus_addTwoDigits : rx_M := (9, ⟨"RingDrive$Status", "addTwoDigits", "(I)V"⟩, prog_11_method_9_code, 2, none, 1, 0, 1, 21, 0, 0)
def mStatus_add : rx_M := (9, ⟨"RingDrive$Status", "add", "(I)V"⟩, prog_11_method_10_code, 2, none, 1, 0, 0, 0, 0, 0)
def mStatus_words : rx_M := (9, ⟨"RingDrive$Status", "words", "()Ljava/lang/String;"⟩, prog_11_method_11_code, 1, (Option.some (Jvm.ClassFile.FieldType.object "java/lang/String")), 0, 0, 0, 0, 0, 0)
def mStr_length : rx_M := (16, ⟨"java/lang/String", "length", "()I"⟩, prog_16_method_54_code, 1, (Option.some Jvm.ClassFile.FieldType.int), 0, 0, 1, 20, 0, 0)
def mStr_coder : rx_M := (16, ⟨"java/lang/String", "coder", "()B"⟩, prog_16_method_152_code, 1, (Option.some Jvm.ClassFile.FieldType.byte), 0, 0, 0, 0, 0, 0)
def mStr_charAt : rx_M := (16, ⟨"java/lang/String", "charAt", "(I)C"⟩, prog_16_method_56_code, 2, (Option.some Jvm.ClassFile.FieldType.char), 1, 0, 4, 85, 0, 0)
def mStr_isLatin1 : rx_M := (16, ⟨"java/lang/String", "isLatin1", "()Z"⟩, prog_16_method_154_code, 1, (Option.some Jvm.ClassFile.FieldType.boolean), 0, 0, 0, 0, 0, 0)
def mLat_charAt : rx_M := (17, ⟨"java/lang/StringLatin1", "charAt", "([BI)C"⟩, prog_17_method_2_code, 2, (Option.some Jvm.ClassFile.FieldType.char), 2, 1, 2, 43, 0, 0)
def mStr_checkIndex : rx_M := (16, ⟨"java/lang/String", "checkIndex", "(II)V"⟩, prog_16_method_155_code, 2, none, 2, 1, 1, 22, 0, 0)
def mPre_checkIndex : rx_M := (20, ⟨"jdk/internal/util/Preconditions", "checkIndex", "(IILjava/util/function/BiFunction;)I"⟩, prog_21_method_11_code, 3, (Option.some Jvm.ClassFile.FieldType.int), 3, 1, 0, 0, 0, 0)
def mU16_charAt : rx_M := (18, ⟨"java/lang/StringUTF16", "charAt", "([BI)C"⟩, prog_18_method_83_code, 2, (Option.some Jvm.ClassFile.FieldType.char), 2, 1, 3, 64, 0, 0)
def mU16_checkIndex : rx_M := (18, ⟨"java/lang/StringUTF16", "checkIndex", "(I[B)V"⟩, prog_18_method_91_code, 2, none, 2, 1, 2, 43, 0, 0)
def mU16_length : rx_M := (18, ⟨"java/lang/StringUTF16", "length", "([B)I"⟩, prog_18_method_6_code, 1, (Option.some Jvm.ClassFile.FieldType.int), 1, 1, 0, 0, 0, 0)
def mU16_getChar : rx_M := (18, ⟨"java/lang/StringUTF16", "getChar", "([BI)C"⟩, prog_18_method_5_code, 2, (Option.some Jvm.ClassFile.FieldType.char), 2, 1, 1, 20, 0, 0)
def mDos_receive : rx_M := (5, ⟨"RingDrive$Dos", "receive", "(II[I)I"⟩, prog_7_method_20_code, 6, (Option.some Jvm.ClassFile.FieldType.int), 3, 0, 8, 172, 0, 0)
def mDos_nextByte : rx_M := (5, ⟨"RingDrive$Dos", "nextByte", "(LRingDrive$Channel;)I"⟩, prog_7_method_21_code, 3, (Option.some Jvm.ClassFile.FieldType.int), 1, 0, 7, 150, 0, 0)
def mDos_makeLine : rx_M := (5, ⟨"RingDrive$Dos", "makeLine", "(LRingDrive$Channel;)I"⟩, prog_7_method_23_code, 3, (Option.some Jvm.ClassFile.FieldType.int), 1, 0, 6, 128, 0, 0)
def mChannel_startLine : rx_M := (1, ⟨"RingDrive$Channel", "startLine", "()V"⟩, prog_3_method_6_code, 1, none, 0, 0, 0, 0, 0, 0)
def mDos_addTitle : rx_M := (5, ⟨"RingDrive$Dos", "addTitle", "(LRingDrive$Channel;)V"⟩, prog_7_method_24_code, 4, none, 1, 0, 1, 21, 0, 0)
def mChannel_add : rx_M := (1, ⟨"RingDrive$Channel", "add", "(I)V"⟩, prog_3_method_7_code, 2, none, 1, 0, 0, 0, 0, 0)
def mDos_addEntry : rx_M := (5, ⟨"RingDrive$Dos", "addEntry", "(LRingDrive$Channel;)V"⟩, prog_7_method_25_code, 3, none, 1, 0, 5, 106, 0, 0)
def mDirectory_count : rx_M := (3, ⟨"RingDrive$Directory", "count", "()I"⟩, prog_5_method_14_code, 1, (Option.some Jvm.ClassFile.FieldType.int), 0, 0, 1, 20, 0, 0)
def mChannel_addNumber : rx_M := (1, ⟨"RingDrive$Channel", "addNumber", "(I)V"⟩, prog_3_method_8_code, 4, none, 1, 0, 1, 21, 0, 0)
def mDirectory_nameByte : rx_M := (3, ⟨"RingDrive$Directory", "nameByte", "(I)I"⟩, prog_5_method_13_code, 2, (Option.some Jvm.ClassFile.FieldType.int), 1, 0, 1, 20, 0, 0)
def mDos_addFree : rx_M := (5, ⟨"RingDrive$Dos", "addFree", "(LRingDrive$Channel;)V"⟩, prog_7_method_26_code, 2, none, 1, 0, 2, 44, 0, 0)
def mBlockMap_freeSum : rx_M := (0, ⟨"RingDrive$BlockMap", "freeSum", "()I"⟩, prog_2_method_6_code, 3, (Option.some Jvm.ClassFile.FieldType.int), 0, 0, 0, 0, 0, 0)
def mDos_readNext : rx_M := (5, ⟨"RingDrive$Dos", "readNext", "(LRingDrive$Channel;)I"⟩, prog_7_method_22_code, 5, (Option.some Jvm.ClassFile.FieldType.int), 1, 0, 3, 89, 0, 0)
def mX_out : rx_M := (11, ⟨"RingDrive", "out", "(I)I"⟩, prog_1_method_7_code, 2, (Option.some Jvm.ClassFile.FieldType.int), 1, 0, 0, 0, 0, 0)
def mX_look : rx_M := (11, ⟨"RingDrive", "look", "(I)I"⟩, prog_1_method_8_code, 2, (Option.some Jvm.ClassFile.FieldType.int), 1, 0, 1, 22, 0, 0)
def mX_bits : rx_M := (11, ⟨"RingDrive", "bits", "(II)I"⟩, prog_1_method_9_code, 4, (Option.some Jvm.ClassFile.FieldType.int), 2, 0, 2, 47, 0, 0)
def mRing_hasBit : rx_M := (8, ⟨"RingDrive$Ring", "hasBit", "(I)Z"⟩, prog_10_method_2_code, 2, (Option.some Jvm.ClassFile.FieldType.boolean), 1, 0, 0, 0, 0, 0)
def mRing_word : rx_M := (8, ⟨"RingDrive$Ring", "word", "(I)I"⟩, prog_10_method_3_code, 4, (Option.some Jvm.ClassFile.FieldType.int), 1, 0, 1, 24, 0, 0)
def mRing_eight : rx_M := (8, ⟨"RingDrive$Ring", "eight", "(I)I"⟩, prog_10_method_5_code, 5, (Option.some Jvm.ClassFile.FieldType.int), 1, 0, 0, 0, 0, 0)
def mX_turn : rx_M := (11, ⟨"RingDrive", "turn", "(III)Z"⟩, prog_1_method_10_code, 5, (Option.some Jvm.ClassFile.FieldType.boolean), 3, 0, 2, 50, 0, 0)
def mRing_flip : rx_M := (8, ⟨"RingDrive$Ring", "flip", "(II)V"⟩, prog_10_method_4_code, 4, none, 2, 0, 1, 27, 0, 0)
def mX_protect : rx_M := (11, ⟨"RingDrive", "protect", "(Z)V"⟩, prog_1_method_11_code, 2, none, 1, 0, 0, 0, 0, 0)
def mX_power : rx_M := (11, ⟨"RingDrive", "power", "()V"⟩, prog_1_method_12_code, 1, none, 0, 0, 2, 43, 0, 0)
def mProcessor_reset : rx_M := (7, ⟨"RingDrive$Processor", "reset", "()V"⟩, prog_9_method_4_code, 1, none, 0, 0, 1, 23, 0, 0)
def mX_memory : rx_M := (11, ⟨"RingDrive", "memory", "(I)I"⟩, prog_1_method_13_code, 2, (Option.some Jvm.ClassFile.FieldType.int), 1, 0, 1, 21, 0, 0)
def mM_feed : rx_M := (12, ⟨"RingDriveModel", "feed", "(IIIII)I"⟩, prog_14_method_45_code, 6, (Option.some Jvm.ClassFile.FieldType.int), 5, 0, 1, 22, 0, 0)
def mM_types : rx_M := (12, ⟨"RingDriveModel", "types", "(I)V"⟩, prog_14_method_44_code, 3, none, 1, 0, 0, 0, 0, 0)
def mM_open : rx_M := (12, ⟨"RingDriveModel", "open", "(II)I"⟩, prog_14_method_47_code, 3, (Option.some Jvm.ClassFile.FieldType.int), 2, 0, 11, 277, 0, 0)
def mM_sends : rx_M := (12, ⟨"RingDriveModel", "sends", "(I)V"⟩, prog_14_method_46_code, 3, none, 1, 0, 0, 0, 0, 0)
def mM_commands : rx_M := (12, ⟨"RingDriveModel", "commands", "(I)I"⟩, prog_14_method_81_code, 2, (Option.some Jvm.ClassFile.FieldType.int), 1, 0, 10, 248, 0, 0)
def mM_begins : rx_M := (12, ⟨"RingDriveModel", "begins", "()V"⟩, prog_14_method_41_code, 1, none, 0, 0, 1, 23, 0, 0)
def mM_sets : rx_M := (12, ⟨"RingDriveModel", "sets", "(III)V"⟩, prog_14_method_40_code, 4, none, 3, 0, 0, 0, 0, 0)
def mM_fault : rx_M := (12, ⟨"RingDriveModel", "fault", "(III)I"⟩, prog_14_method_4_code, 4, (Option.some Jvm.ClassFile.FieldType.int), 3, 0, 0, 0, 0, 0)
def mM_ends : rx_M := (12, ⟨"RingDriveModel", "ends", "(I)I"⟩, prog_14_method_42_code, 2, (Option.some Jvm.ClassFile.FieldType.int), 1, 0, 1, 23, 0, 0)
def mM_does : rx_M := (12, ⟨"RingDriveModel", "does", "(I)I"⟩, prog_14_method_83_code, 4, (Option.some Jvm.ClassFile.FieldType.int), 1, 0, 9, 225, 0, 0)
def mM_again : rx_M := (12, ⟨"RingDriveModel", "again", "()I"⟩, prog_14_method_84_code, 2, (Option.some Jvm.ClassFile.FieldType.int), 0, 0, 6, 143, 0, 0)
def mM_takeId : rx_M := (12, ⟨"RingDriveModel", "takeId", "()I"⟩, prog_14_method_24_code, 4, (Option.some Jvm.ClassFile.FieldType.int), 0, 0, 3, 69, 0, 0)
def mM_round : rx_M := (12, ⟨"RingDriveModel", "round", "(I)I"⟩, prog_14_method_10_code, 7, (Option.some Jvm.ClassFile.FieldType.int), 1, 0, 2, 43, 0, 0)
def mM_bytesOf : rx_M := (12, ⟨"RingDriveModel", "bytesOf", "(I)I"⟩, prog_14_method_1_code, 1, (Option.some Jvm.ClassFile.FieldType.int), 1, 1, 0, 0, 0, 0)
def mM_bitAt : rx_M := (12, ⟨"RingDriveModel", "bitAt", "(II)I"⟩, prog_14_method_5_code, 3, (Option.some Jvm.ClassFile.FieldType.int), 2, 0, 0, 0, 0, 0)
def mM_along : rx_M := (12, ⟨"RingDriveModel", "along", "(III)V"⟩, prog_14_method_7_code, 4, none, 3, 0, 1, 20, 0, 0)
def mM_goes : rx_M := (12, ⟨"RingDriveModel", "goes", "()Z"⟩, prog_14_method_8_code, 2, (Option.some Jvm.ClassFile.FieldType.boolean), 0, 0, 1, 22, 0, 0)
def mM_comes : rx_M := (12, ⟨"RingDriveModel", "comes", "()I"⟩, prog_14_method_9_code, 2, (Option.some Jvm.ClassFile.FieldType.int), 0, 0, 2, 43, 0, 0)
def mM_reads : rx_M := (12, ⟨"RingDriveModel", "reads", "(I)Z"⟩, prog_14_method_15_code, 6, (Option.some Jvm.ClassFile.FieldType.boolean), 1, 0, 2, 42, 0, 0)
def mM_group : rx_M := (12, ⟨"RingDriveModel", "group", "(I)I"⟩, prog_14_method_14_code, 4, (Option.some Jvm.ClassFile.FieldType.int), 1, 0, 0, 0, 0, 0)
def mM_valueOf : rx_M := (12, ⟨"RingDriveModel", "valueOf", "(I)I"⟩, prog_14_method_12_code, 3, (Option.some Jvm.ClassFile.FieldType.int), 1, 1, 1, 20, 0, 0)
def mM_groupOf : rx_M := (12, ⟨"RingDriveModel", "groupOf", "(I)I"⟩, prog_14_method_11_code, 1, (Option.some Jvm.ClassFile.FieldType.int), 1, 1, 0, 0, 0, 0)
def mM_loads : rx_M := (12, ⟨"RingDriveModel", "loads", "()I"⟩, prog_14_method_25_code, 1, (Option.some Jvm.ClassFile.FieldType.int), 0, 0, 5, 123, 0, 0)
def mM_readBlock : rx_M := (12, ⟨"RingDriveModel", "readBlock", "(II[II)I"⟩, prog_14_method_20_code, 8, (Option.some Jvm.ClassFile.FieldType.int), 4, 0, 4, 96, 0, 0)
def mM_seek : rx_M := (12, ⟨"RingDriveModel", "seek", "(II)I"⟩, prog_14_method_18_code, 7, (Option.some Jvm.ClassFile.FieldType.int), 2, 0, 3, 70, 0, 0)
def mM_header : rx_M := (12, ⟨"RingDriveModel", "header", "(IIII)V"⟩, prog_14_method_16_code, 5, none, 4, 0, 2, 46, 0, 0)
def mM_codes : rx_M := (12, ⟨"RingDriveModel", "codes", "(I)V"⟩, prog_14_method_13_code, 7, none, 1, 0, 1, 20, 0, 0)
def mM_gets : rx_M := (12, ⟨"RingDriveModel", "gets", "()V"⟩, prog_14_method_19_code, 3, none, 0, 0, 3, 64, 0, 0)
def mM_validates : rx_M := (12, ⟨"RingDriveModel", "validates", "()I"⟩, prog_14_method_91_code, 6, (Option.some Jvm.ClassFile.FieldType.int), 0, 0, 8, 200, 0, 0)
def mM_freesAll : rx_M := (12, ⟨"RingDriveModel", "freesAll", "()V"⟩, prog_14_method_87_code, 2, none, 0, 0, 1, 20, 0, 0)
def mM_sectorsOf : rx_M := (12, ⟨"RingDriveModel", "sectorsOf", "(I)I"⟩, prog_14_method_2_code, 1, (Option.some Jvm.ClassFile.FieldType.int), 1, 1, 0, 0, 0, 0)
def mM_takes : rx_M := (12, ⟨"RingDriveModel", "takes", "(II)V"⟩, prog_14_method_28_code, 3, none, 2, 0, 0, 0, 0, 0)
def mM_isLegal : rx_M := (12, ⟨"RingDriveModel", "isLegal", "(II)Z"⟩, prog_14_method_3_code, 2, (Option.some Jvm.ClassFile.FieldType.boolean), 2, 1, 1, 20, 0, 0)
def mM_isFree : rx_M := (12, ⟨"RingDriveModel", "isFree", "(II)Z"⟩, prog_14_method_27_code, 3, (Option.some Jvm.ClassFile.FieldType.boolean), 2, 0, 0, 0, 0, 0)
def mM_entries : rx_M := (12, ⟨"RingDriveModel", "entries", "()I"⟩, prog_14_method_92_code, 6, (Option.some Jvm.ClassFile.FieldType.int), 0, 0, 7, 175, 0, 0)
def mM_used : rx_M := (12, ⟨"RingDriveModel", "used", "(III)I"⟩, prog_14_method_93_code, 8, (Option.some Jvm.ClassFile.FieldType.int), 3, 0, 6, 148, 0, 0)
def mM_changesType : rx_M := (12, ⟨"RingDriveModel", "changesType", "(IIII)I"⟩, prog_14_method_38_code, 6, (Option.some Jvm.ClassFile.FieldType.int), 4, 0, 5, 123, 0, 0)
def mM_writeBlock : rx_M := (12, ⟨"RingDriveModel", "writeBlock", "(II[II)I"⟩, prog_14_method_22_code, 8, (Option.some Jvm.ClassFile.FieldType.int), 4, 0, 4, 96, 0, 0)
def mM_lays : rx_M := (12, ⟨"RingDriveModel", "lays", "(II)V"⟩, prog_14_method_21_code, 4, none, 2, 0, 1, 25, 0, 0)
def mM_setBit : rx_M := (12, ⟨"RingDriveModel", "setBit", "(III)V"⟩, prog_14_method_6_code, 6, none, 3, 0, 0, 0, 0, 0)
def mM_data : rx_M := (12, ⟨"RingDriveModel", "data", "([II)V"⟩, prog_14_method_17_code, 5, none, 2, 0, 2, 46, 0, 0)
def mM_uses : rx_M := (12, ⟨"RingDriveModel", "uses", "(II)I"⟩, prog_14_method_90_code, 3, (Option.some Jvm.ClassFile.FieldType.int), 2, 0, 2, 41, 0, 0)
def mM_stores : rx_M := (12, ⟨"RingDriveModel", "stores", "()I"⟩, prog_14_method_26_code, 1, (Option.some Jvm.ClassFile.FieldType.int), 0, 0, 5, 123, 0, 0)
def mM_shutsAll : rx_M := (12, ⟨"RingDriveModel", "shutsAll", "()V"⟩, prog_14_method_59_code, 2, none, 0, 0, 0, 0, 0, 0)
def mM_news : rx_M := (12, ⟨"RingDriveModel", "news", "(I)I"⟩, prog_14_method_85_code, 9, (Option.some Jvm.ClassFile.FieldType.int), 1, 0, 7, 166, 0, 0)
def mM_isWild : rx_M := (12, ⟨"RingDriveModel", "isWild", "(II)Z"⟩, prog_14_method_51_code, 5, (Option.some Jvm.ClassFile.FieldType.boolean), 2, 0, 0, 0, 0, 0)
def mM_format : rx_M := (12, ⟨"RingDriveModel", "format", "(III)I"⟩, prog_14_method_23_code, 6, (Option.some Jvm.ClassFile.FieldType.int), 3, 0, 3, 70, 0, 0)
def mM_maps : rx_M := (12, ⟨"RingDriveModel", "maps", "(I)I"⟩, prog_14_method_86_code, 4, (Option.some Jvm.ClassFile.FieldType.int), 1, 0, 6, 143, 0, 0)
def mM_scratch : rx_M := (12, ⟨"RingDriveModel", "scratch", "(I)I"⟩, prog_14_method_88_code, 5, (Option.some Jvm.ClassFile.FieldType.int), 1, 0, 8, 197, 0, 0)
def mM_finds : rx_M := (12, ⟨"RingDriveModel", "finds", "(I[III)I"⟩, prog_14_method_37_code, 11, (Option.some Jvm.ClassFile.FieldType.int), 4, 0, 5, 123, 0, 0)
def mM_fits : rx_M := (12, ⟨"RingDriveModel", "fits", "([III[II)Z"⟩, prog_14_method_35_code, 7, (Option.some Jvm.ClassFile.FieldType.boolean), 5, 1, 0, 0, 0, 0)
def mM_same : rx_M := (12, ⟨"RingDriveModel", "same", "([III[II)Z"⟩, prog_14_method_36_code, 7, (Option.some Jvm.ClassFile.FieldType.boolean), 5, 1, 0, 0, 0, 0)
def mM_scratches : rx_M := (12, ⟨"RingDriveModel", "scratches", "()I"⟩, prog_14_method_39_code, 5, (Option.some Jvm.ClassFile.FieldType.int), 0, 0, 7, 173, 0, 0)
def mM_freesChain : rx_M := (12, ⟨"RingDriveModel", "freesChain", "(II)I"⟩, prog_14_method_34_code, 11, (Option.some Jvm.ClassFile.FieldType.int), 2, 0, 6, 143, 0, 0)
def mM_givesBack : rx_M := (12, ⟨"RingDriveModel", "givesBack", "(II)V"⟩, prog_14_method_29_code, 3, none, 2, 0, 2, 41, 0, 0)
def mM_renames : rx_M := (12, ⟨"RingDriveModel", "renames", "(I)I"⟩, prog_14_method_89_code, 7, (Option.some Jvm.ClassFile.FieldType.int), 1, 0, 6, 153, 0, 0)
def mM_blockOf : rx_M := (12, ⟨"RingDriveModel", "blockOf", "(IZ)I"⟩, prog_14_method_97_code, 7, (Option.some Jvm.ClassFile.FieldType.int), 2, 0, 5, 123, 0, 0)
def mM_numbers : rx_M := (12, ⟨"RingDriveModel", "numbers", "(I)Z"⟩, prog_14_method_94_code, 2, (Option.some Jvm.ClassFile.FieldType.boolean), 1, 0, 0, 0, 0, 0)
def mM_numberNext : rx_M := (12, ⟨"RingDriveModel", "numberNext", "(I)I"⟩, prog_14_method_96_code, 4, (Option.some Jvm.ClassFile.FieldType.int), 1, 0, 1, 20, 0, 0)
def mM_isDigit : rx_M := (12, ⟨"RingDriveModel", "isDigit", "(I)Z"⟩, prog_14_method_95_code, 1, (Option.some Jvm.ClassFile.FieldType.boolean), 1, 1, 0, 0, 0, 0)
def mM_begins3 : rx_M := (12, ⟨"RingDriveModel", "begins3", "(III)Z"⟩, prog_14_method_82_code, 4, (Option.some Jvm.ClassFile.FieldType.boolean), 3, 0, 0, 0, 0, 0)
def mM_pointer : rx_M := (12, ⟨"RingDriveModel", "pointer", "(I)I"⟩, prog_14_method_98_code, 4, (Option.some Jvm.ClassFile.FieldType.int), 1, 0, 2, 43, 0, 0)
def mM_allocates : rx_M := (12, ⟨"RingDriveModel", "allocates", "(I)I"⟩, prog_14_method_99_code, 7, (Option.some Jvm.ClassFile.FieldType.int), 1, 0, 6, 143, 0, 0)
def mM_frees : rx_M := (12, ⟨"RingDriveModel", "frees", "(I)I"⟩, prog_14_method_100_code, 5, (Option.some Jvm.ClassFile.FieldType.int), 1, 0, 6, 143, 0, 0)
def mM_memories : rx_M := (12, ⟨"RingDriveModel", "memories", "(I)I"⟩, prog_14_method_103_code, 7, (Option.some Jvm.ClassFile.FieldType.int), 1, 0, 8, 174, 0, 0)
def mM_put : rx_M := (12, ⟨"RingDriveModel", "put", "(II)V"⟩, prog_14_method_102_code, 3, none, 2, 0, 0, 0, 0, 0)
def mM_get : rx_M := (12, ⟨"RingDriveModel", "get", "(I)I"⟩, prog_14_method_101_code, 2, (Option.some Jvm.ClassFile.FieldType.int), 1, 0, 0, 0, 0, 0)
def mM_runs : rx_M := (12, ⟨"RingDriveModel", "runs", "(I)I"⟩, prog_14_method_104_code, 4, (Option.some Jvm.ClassFile.FieldType.int), 1, 0, 7, 151, 0, 0)
def mM_step : rx_M := (12, ⟨"RingDriveModel", "step", "(I)Z"⟩, prog_14_method_128_code, 2, (Option.some Jvm.ClassFile.FieldType.boolean), 1, 0, 6, 130, 0, 0)
def mM_works : rx_M := (12, ⟨"RingDriveModel", "works", "(I)Z"⟩, prog_14_method_119_code, 6, (Option.some Jvm.ClassFile.FieldType.boolean), 1, 0, 4, 86, 0, 0)
def mM_howOf : rx_M := (12, ⟨"RingDriveModel", "howOf", "(I)I"⟩, prog_14_method_115_code, 1, (Option.some Jvm.ClassFile.FieldType.int), 1, 1, 0, 0, 0, 0)
def mM_address : rx_M := (12, ⟨"RingDriveModel", "address", "(I)I"⟩, prog_14_method_112_code, 4, (Option.some Jvm.ClassFile.FieldType.int), 1, 0, 3, 63, 0, 0)
def mM_byteNext : rx_M := (12, ⟨"RingDriveModel", "byteNext", "()I"⟩, prog_14_method_105_code, 2, (Option.some Jvm.ClassFile.FieldType.int), 0, 0, 1, 21, 0, 0)
def mM_wordNext : rx_M := (12, ⟨"RingDriveModel", "wordNext", "()I"⟩, prog_14_method_106_code, 2, (Option.some Jvm.ClassFile.FieldType.int), 0, 0, 2, 42, 0, 0)
def mM_storeTime : rx_M := (12, ⟨"RingDriveModel", "storeTime", "(I)I"⟩, prog_14_method_114_code, 1, (Option.some Jvm.ClassFile.FieldType.int), 1, 1, 0, 0, 0, 0)
def mM_readTime : rx_M := (12, ⟨"RingDriveModel", "readTime", "(I)I"⟩, prog_14_method_113_code, 3, (Option.some Jvm.ClassFile.FieldType.int), 1, 0, 0, 0, 0, 0)
def mM_marks : rx_M := (12, ⟨"RingDriveModel", "marks", "(I)I"⟩, prog_14_method_109_code, 2, (Option.some Jvm.ClassFile.FieldType.int), 1, 0, 1, 22, 0, 0)
def mM_flag : rx_M := (12, ⟨"RingDriveModel", "flag", "(IZ)V"⟩, prog_14_method_108_code, 3, none, 2, 0, 0, 0, 0, 0)
def mM_adds : rx_M := (12, ⟨"RingDriveModel", "adds", "(I)V"⟩, prog_14_method_116_code, 6, none, 1, 0, 2, 43, 0, 0)
def mM_is : rx_M := (12, ⟨"RingDriveModel", "is", "(I)Z"⟩, prog_14_method_107_code, 2, (Option.some Jvm.ClassFile.FieldType.boolean), 1, 0, 0, 0, 0, 0)
def mM_compares : rx_M := (12, ⟨"RingDriveModel", "compares", "(II)V"⟩, prog_14_method_118_code, 3, none, 2, 0, 2, 43, 0, 0)
def mM_takesOff : rx_M := (12, ⟨"RingDriveModel", "takesOff", "(I)V"⟩, prog_14_method_117_code, 8, none, 1, 0, 2, 43, 0, 0)
def mM_twos : rx_M := (12, ⟨"RingDriveModel", "twos", "(I)Z"⟩, prog_14_method_129_code, 2, (Option.some Jvm.ClassFile.FieldType.boolean), 1, 0, 5, 109, 0, 0)
def mM_shifted : rx_M := (12, ⟨"RingDriveModel", "shifted", "(II)I"⟩, prog_14_method_120_code, 4, (Option.some Jvm.ClassFile.FieldType.int), 2, 0, 2, 43, 0, 0)
def mM_takes2 : rx_M := (12, ⟨"RingDriveModel", "takes2", "(I)Z"⟩, prog_14_method_127_code, 2, (Option.some Jvm.ClassFile.FieldType.boolean), 1, 0, 0, 0, 0, 0)
def mM_changes : rx_M := (12, ⟨"RingDriveModel", "changes", "(II)V"⟩, prog_14_method_121_code, 4, none, 2, 0, 4, 86, 0, 0)
def mM_keeps : rx_M := (12, ⟨"RingDriveModel", "keeps", "(II)Z"⟩, prog_14_method_124_code, 3, (Option.some Jvm.ClassFile.FieldType.boolean), 2, 0, 4, 86, 0, 0)
def mM_fetches : rx_M := (12, ⟨"RingDriveModel", "fetches", "(II)Z"⟩, prog_14_method_123_code, 4, (Option.some Jvm.ClassFile.FieldType.boolean), 2, 0, 4, 86, 0, 0)
def mM_zeros : rx_M := (12, ⟨"RingDriveModel", "zeros", "(I)Z"⟩, prog_14_method_130_code, 2, (Option.some Jvm.ClassFile.FieldType.boolean), 1, 0, 5, 109, 0, 0)
def mM_branch : rx_M := (12, ⟨"RingDriveModel", "branch", "(Z)V"⟩, prog_14_method_122_code, 4, none, 1, 0, 2, 42, 0, 0)
def mM_tests : rx_M := (12, ⟨"RingDriveModel", "tests", "(I)Z"⟩, prog_14_method_126_code, 3, (Option.some Jvm.ClassFile.FieldType.boolean), 1, 0, 4, 86, 0, 0)
def mM_compared : rx_M := (12, ⟨"RingDriveModel", "compared", "(II)Z"⟩, prog_14_method_125_code, 4, (Option.some Jvm.ClassFile.FieldType.boolean), 2, 0, 4, 86, 0, 0)
def mM_push : rx_M := (12, ⟨"RingDriveModel", "push", "(I)V"⟩, prog_14_method_110_code, 2, none, 1, 0, 1, 22, 0, 0)
def mM_pull : rx_M := (12, ⟨"RingDriveModel", "pull", "()I"⟩, prog_14_method_111_code, 1, (Option.some Jvm.ClassFile.FieldType.int), 0, 0, 1, 21, 0, 0)
def mM_jumps : rx_M := (12, ⟨"RingDriveModel", "jumps", "(I)Z"⟩, prog_14_method_131_code, 4, (Option.some Jvm.ClassFile.FieldType.boolean), 1, 0, 3, 63, 0, 0)
def mM_opens : rx_M := (12, ⟨"RingDriveModel", "opens", "(II)I"⟩, prog_14_method_48_code, 4, (Option.some Jvm.ClassFile.FieldType.int), 2, 0, 10, 254, 0, 0)
def mM_shuts : rx_M := (12, ⟨"RingDriveModel", "shuts", "(I)I"⟩, prog_14_method_57_code, 5, (Option.some Jvm.ClassFile.FieldType.int), 1, 0, 5, 123, 0, 0)
def mM_openMany : rx_M := (12, ⟨"RingDriveModel", "openMany", "()I"⟩, prog_14_method_43_code, 3, (Option.some Jvm.ClassFile.FieldType.int), 0, 0, 0, 0, 0, 0)
def mM_opensList : rx_M := (12, ⟨"RingDriveModel", "opensList", "(II)I"⟩, prog_14_method_49_code, 5, (Option.some Jvm.ClassFile.FieldType.int), 2, 0, 1, 23, 0, 0)
def mM_opensFile : rx_M := (12, ⟨"RingDriveModel", "opensFile", "(II)I"⟩, prog_14_method_50_code, 10, (Option.some Jvm.ClassFile.FieldType.int), 2, 0, 9, 225, 0, 0)
def mM_opensNew : rx_M := (12, ⟨"RingDriveModel", "opensNew", "(IIIIZ)I"⟩, prog_14_method_55_code, 9, (Option.some Jvm.ClassFile.FieldType.int), 5, 0, 8, 197, 0, 0)
def mM_makesEntry : rx_M := (12, ⟨"RingDriveModel", "makesEntry", "()I"⟩, prog_14_method_54_code, 6, (Option.some Jvm.ClassFile.FieldType.int), 0, 0, 6, 153, 0, 0)
def mM_lowest : rx_M := (12, ⟨"RingDriveModel", "lowest", "(I)I"⟩, prog_14_method_30_code, 4, (Option.some Jvm.ClassFile.FieldType.int), 1, 0, 1, 22, 0, 0)
def mM_takesOne : rx_M := (12, ⟨"RingDriveModel", "takesOne", "()I"⟩, prog_14_method_32_code, 4, (Option.some Jvm.ClassFile.FieldType.int), 0, 0, 2, 45, 0, 0)
def mM_trackOf : rx_M := (12, ⟨"RingDriveModel", "trackOf", "(I)I"⟩, prog_14_method_31_code, 1, (Option.some Jvm.ClassFile.FieldType.int), 1, 1, 0, 0, 0, 0)
def mM_clears : rx_M := (12, ⟨"RingDriveModel", "clears", "(I)V"⟩, prog_14_method_56_code, 3, none, 1, 0, 0, 0, 0, 0)
def mM_opensOld : rx_M := (12, ⟨"RingDriveModel", "opensOld", "(IIII)I"⟩, prog_14_method_53_code, 9, (Option.some Jvm.ClassFile.FieldType.int), 4, 0, 6, 153, 0, 0)
def mM_begun : rx_M := (12, ⟨"RingDriveModel", "begun", "(I)V"⟩, prog_14_method_52_code, 4, none, 1, 0, 0, 0, 0, 0)
def mM_close : rx_M := (12, ⟨"RingDriveModel", "close", "(I)I"⟩, prog_14_method_58_code, 4, (Option.some Jvm.ClassFile.FieldType.int), 1, 0, 6, 147, 0, 0)
def mM_read : rx_M := (12, ⟨"RingDriveModel", "read", "(II)I"⟩, prog_14_method_61_code, 4, (Option.some Jvm.ClassFile.FieldType.int), 2, 0, 9, 218, 0, 0)
def mM_givesMore : rx_M := (12, ⟨"RingDriveModel", "givesMore", "(I)V"⟩, prog_14_method_62_code, 2, none, 1, 0, 1, 21, 0, 0)
def mM_gives : rx_M := (12, ⟨"RingDriveModel", "gives", "(I)V"⟩, prog_14_method_60_code, 2, none, 1, 0, 0, 0, 0, 0)
def mM_givesStatus : rx_M := (12, ⟨"RingDriveModel", "givesStatus", "(I)V"⟩, prog_14_method_68_code, 2, none, 1, 0, 3, 66, 0, 0)
def mM_saysTwo : rx_M := (12, ⟨"RingDriveModel", "saysTwo", "(I)V"⟩, prog_14_method_66_code, 2, none, 1, 0, 1, 21, 0, 0)
def mM_says : rx_M := (12, ⟨"RingDriveModel", "says", "(I)V"⟩, prog_14_method_63_code, 2, none, 1, 0, 0, 0, 0, 0)
def mM_saysWords : rx_M := (12, ⟨"RingDriveModel", "saysWords", "(I)V"⟩, prog_14_method_67_code, 2, none, 1, 0, 2, 45, 0, 0)
def mM_says8 : rx_M := (12, ⟨"RingDriveModel", "says8", "(J)V"⟩, prog_14_method_64_code, 5, none, 1, 0, 1, 21, 0, 0)
def mM_readsFile : rx_M := (12, ⟨"RingDriveModel", "readsFile", "(II)I"⟩, prog_14_method_69_code, 8, (Option.some Jvm.ClassFile.FieldType.int), 2, 0, 5, 123, 0, 0)
def mM_readsList : rx_M := (12, ⟨"RingDriveModel", "readsList", "(II)I"⟩, prog_14_method_71_code, 6, (Option.some Jvm.ClassFile.FieldType.int), 2, 0, 8, 193, 0, 0)
def mM_title : rx_M := (12, ⟨"RingDriveModel", "title", "(I)I"⟩, prog_14_method_72_code, 4, (Option.some Jvm.ClassFile.FieldType.int), 1, 0, 6, 143, 0, 0)
def mM_next : rx_M := (12, ⟨"RingDriveModel", "next", "(I)I"⟩, prog_14_method_73_code, 7, (Option.some Jvm.ClassFile.FieldType.int), 1, 0, 7, 167, 0, 0)
def mM_entryLine : rx_M := (12, ⟨"RingDriveModel", "entryLine", "(I)V"⟩, prog_14_method_74_code, 4, none, 1, 0, 2, 42, 0, 0)
def mM_saysNumber : rx_M := (12, ⟨"RingDriveModel", "saysNumber", "(I)V"⟩, prog_14_method_65_code, 2, none, 1, 0, 1, 21, 0, 0)
def mM_total : rx_M := (12, ⟨"RingDriveModel", "total", "(I)I"⟩, prog_14_method_75_code, 5, (Option.some Jvm.ClassFile.FieldType.int), 1, 0, 6, 143, 0, 0)
def mM_readsBuffer : rx_M := (12, ⟨"RingDriveModel", "readsBuffer", "(II)I"⟩, prog_14_method_70_code, 4, (Option.some Jvm.ClassFile.FieldType.int), 2, 0, 1, 21, 0, 0)
def mM_out : rx_M := (12, ⟨"RingDriveModel", "out", "(I)I"⟩, prog_14_method_76_code, 2, (Option.some Jvm.ClassFile.FieldType.int), 1, 0, 0, 0, 0, 0)
def mM_write : rx_M := (12, ⟨"RingDriveModel", "write", "(II)I"⟩, prog_14_method_77_code, 5, (Option.some Jvm.ClassFile.FieldType.int), 2, 0, 11, 269, 0, 0)
def mM_writesByte : rx_M := (12, ⟨"RingDriveModel", "writesByte", "(II)I"⟩, prog_14_method_78_code, 4, (Option.some Jvm.ClassFile.FieldType.int), 2, 0, 8, 197, 0, 0)
def mM_goesOn : rx_M := (12, ⟨"RingDriveModel", "goesOn", "(I)I"⟩, prog_14_method_79_code, 5, (Option.some Jvm.ClassFile.FieldType.int), 1, 0, 7, 173, 0, 0)
def mM_takesNext : rx_M := (12, ⟨"RingDriveModel", "takesNext", "(II)I"⟩, prog_14_method_33_code, 6, (Option.some Jvm.ClassFile.FieldType.int), 2, 0, 3, 68, 0, 0)
def mM_isFull : rx_M := (12, ⟨"RingDriveModel", "isFull", "(I)I"⟩, prog_14_method_80_code, 6, (Option.some Jvm.ClassFile.FieldType.int), 1, 0, 6, 148, 0, 0)
def mM_look : rx_M := (12, ⟨"RingDriveModel", "look", "(I)I"⟩, prog_14_method_132_code, 2, (Option.some Jvm.ClassFile.FieldType.int), 1, 0, 1, 22, 0, 0)
def mM_bits : rx_M := (12, ⟨"RingDriveModel", "bits", "(II)I"⟩, prog_14_method_134_code, 6, (Option.some Jvm.ClassFile.FieldType.int), 2, 0, 2, 41, 0, 0)
def mM_isBit : rx_M := (12, ⟨"RingDriveModel", "isBit", "(II)Z"⟩, prog_14_method_133_code, 2, (Option.some Jvm.ClassFile.FieldType.boolean), 2, 1, 1, 20, 0, 0)
def mM_turn : rx_M := (12, ⟨"RingDriveModel", "turn", "(III)Z"⟩, prog_14_method_135_code, 7, (Option.some Jvm.ClassFile.FieldType.boolean), 3, 0, 2, 41, 0, 0)
def mM_protect : rx_M := (12, ⟨"RingDriveModel", "protect", "(Z)V"⟩, prog_14_method_136_code, 2, none, 1, 0, 0, 0, 0, 0)
def mM_memory : rx_M := (12, ⟨"RingDriveModel", "memory", "(I)I"⟩, prog_14_method_137_code, 2, (Option.some Jvm.ClassFile.FieldType.int), 1, 0, 0, 0, 0, 0)
def mM_power : rx_M := (12, ⟨"RingDriveModel", "power", "()V"⟩, prog_14_method_138_code, 2, none, 0, 0, 1, 23, 0, 0)
def mM_init : rx_M := (12, ⟨"RingDriveModel", "<init>", "()V"⟩, prog_14_method_139_code, 1, none, 0, 2, 1, 20, 39, 18895)
theorem f_0_9 : rx_lk rx_FLs 0 9 = some ((0, 0, (.array .int), true), 2010) := by decide +kernel
theorem f_0_15 : rx_lk rx_FLs 0 15 = some ((0, 3, (.object "RingDrive$Disk"), true), 2018) := by decide +kernel
theorem f_0_44 : rx_lk rx_FLs 0 44 = some ((4, 1, .int, false), 1146) := by decide +kernel
theorem f_0_48 : rx_lk rx_FLs 0 48 = some ((4, 2, .int, false), 1149) := by decide +kernel
theorem f_0_72 : rx_lk rx_FLs 0 72 = some ((0, 1, .int, false), 2012) := by decide +kernel
theorem f_0_75 : rx_lk rx_FLs 0 75 = some ((0, 2, .int, false), 2015) := by decide +kernel
theorem f_1_9 : rx_lk rx_FLs 1 9 = some ((1, 0, .int, false), 2075) := by decide +kernel
theorem f_1_15 : rx_lk rx_FLs 1 15 = some ((1, 1, (.array .int), true), 2077) := by decide +kernel
theorem f_1_22 : rx_lk rx_FLs 1 22 = some ((1, 14, (.object "RingDrive$Pattern"), true), 2102) := by decide +kernel
theorem f_1_32 : rx_lk rx_FLs 1 32 = some ((1, 2, .int, false), 2080) := by decide +kernel
theorem f_1_35 : rx_lk rx_FLs 1 35 = some ((1, 3, .int, false), 2083) := by decide +kernel
theorem f_1_38 : rx_lk rx_FLs 1 38 = some ((1, 4, .boolean, false), 2085) := by decide +kernel
theorem f_1_42 : rx_lk rx_FLs 1 42 = some ((1, 15, .boolean, false), 2104) := by decide +kernel
theorem f_1_45 : rx_lk rx_FLs 1 45 = some ((1, 5, .int, false), 2087) := by decide +kernel
theorem f_1_48 : rx_lk rx_FLs 1 48 = some ((1, 6, .int, false), 2089) := by decide +kernel
theorem f_1_51 : rx_lk rx_FLs 1 51 = some ((3, 1, .int, false), 2036) := by decide +kernel
theorem f_1_54 : rx_lk rx_FLs 1 54 = some ((1, 10, .int, false), 2094) := by decide +kernel
theorem f_1_57 : rx_lk rx_FLs 1 57 = some ((3, 2, .int, false), 2038) := by decide +kernel
theorem f_1_58 : rx_lk rx_FLs 1 58 = some ((1, 11, .int, false), 2096) := by decide +kernel
theorem f_1_61 : rx_lk rx_FLs 1 61 = some ((3, 3, .int, false), 2040) := by decide +kernel
theorem f_1_64 : rx_lk rx_FLs 1 64 = some ((1, 12, .int, false), 2098) := by decide +kernel
theorem f_1_67 : rx_lk rx_FLs 1 67 = some ((3, 4, .int, false), 2042) := by decide +kernel
theorem f_1_70 : rx_lk rx_FLs 1 70 = some ((1, 13, .int, false), 2100) := by decide +kernel
theorem f_2_12 : rx_lk rx_FLs 2 12 = some ((2, 7, (.object "RingDrive$Pattern"), true), 2202) := by decide +kernel
theorem f_2_18 : rx_lk rx_FLs 2 18 = some ((2, 8, (.object "RingDrive$Pattern"), true), 2203) := by decide +kernel
theorem f_2_21 : rx_lk rx_FLs 2 21 = some ((2, 9, (.object "RingDrive$Pattern"), true), 2204) := by decide +kernel
theorem f_2_24 : rx_lk rx_FLs 2 24 = some ((2, 0, (.object "RingDrive$Dos"), true), 2195) := by decide +kernel
theorem f_2_28 : rx_lk rx_FLs 2 28 = some ((2, 6, (.object "RingDrive$Processor"), true), 2201) := by decide +kernel
theorem f_2_32 : rx_lk rx_FLs 2 32 = some ((5, 0, (.object "RingDrive$Status"), true), 2140) := by decide +kernel
theorem f_2_38 : rx_lk rx_FLs 2 38 = some ((2, 1, (.object "RingDrive$Status"), true), 2196) := by decide +kernel
theorem f_2_39 : rx_lk rx_FLs 2 39 = some ((5, 1, (.object "RingDrive$Disk"), true), 2142) := by decide +kernel
theorem f_2_43 : rx_lk rx_FLs 2 43 = some ((2, 2, (.object "RingDrive$Disk"), true), 2197) := by decide +kernel
theorem f_2_44 : rx_lk rx_FLs 2 44 = some ((5, 2, (.object "RingDrive$Tape"), true), 2144) := by decide +kernel
theorem f_2_48 : rx_lk rx_FLs 2 48 = some ((2, 3, (.object "RingDrive$Tape"), true), 2198) := by decide +kernel
theorem f_2_49 : rx_lk rx_FLs 2 49 = some ((5, 3, (.object "RingDrive$BlockMap"), true), 2146) := by decide +kernel
theorem f_2_53 : rx_lk rx_FLs 2 53 = some ((2, 4, (.object "RingDrive$BlockMap"), true), 2199) := by decide +kernel
theorem f_2_54 : rx_lk rx_FLs 2 54 = some ((5, 4, (.object "RingDrive$Directory"), true), 2148) := by decide +kernel
theorem f_2_58 : rx_lk rx_FLs 2 58 = some ((2, 5, (.object "RingDrive$Directory"), true), 2200) := by decide +kernel
theorem f_2_62 : rx_lk rx_FLs 2 62 = some ((10, 2, .int, false), 1038) := by decide +kernel
theorem f_2_164 : rx_lk rx_FLs 2 164 = some ((3, 5, .boolean, false), 2044) := by decide +kernel
theorem f_2_205 : rx_lk rx_FLs 2 205 = some ((5, 5, (.array .int), true), 2150) := by decide +kernel
theorem f_2_236 : rx_lk rx_FLs 2 236 = some ((1, 1, (.array .int), true), 2079) := by decide +kernel
theorem f_2_242 : rx_lk rx_FLs 2 242 = some ((1, 2, .int, false), 2082) := by decide +kernel
theorem f_3_9 : rx_lk rx_FLs 3 9 = some ((3, 0, (.array .int), true), 2034) := by decide +kernel
theorem f_3_15 : rx_lk rx_FLs 3 15 = some ((3, 7, (.object "RingDrive$Disk"), true), 2047) := by decide +kernel
theorem f_3_19 : rx_lk rx_FLs 3 19 = some ((3, 8, (.object "RingDrive$Status"), true), 2048) := by decide +kernel
theorem f_3_27 : rx_lk rx_FLs 3 27 = some ((3, 1, .int, false), 2035) := by decide +kernel
theorem f_3_31 : rx_lk rx_FLs 3 31 = some ((3, 2, .int, false), 2037) := by decide +kernel
theorem f_3_34 : rx_lk rx_FLs 3 34 = some ((3, 3, .int, false), 2039) := by decide +kernel
theorem f_3_37 : rx_lk rx_FLs 3 37 = some ((3, 4, .int, false), 2041) := by decide +kernel
theorem f_3_40 : rx_lk rx_FLs 3 40 = some ((3, 6, .boolean, false), 2046) := by decide +kernel
theorem f_3_44 : rx_lk rx_FLs 3 44 = some ((3, 5, .boolean, false), 2043) := by decide +kernel
theorem f_3_92 : rx_lk rx_FLs 3 92 = some ((0, 1, .int, false), 2013) := by decide +kernel
theorem f_3_95 : rx_lk rx_FLs 3 95 = some ((0, 2, .int, false), 2016) := by decide +kernel
theorem f_4_9 : rx_lk rx_FLs 4 9 = some ((4, 1, .int, false), 1145) := by decide +kernel
theorem f_4_15 : rx_lk rx_FLs 4 15 = some ((4, 2, .int, false), 1148) := by decide +kernel
theorem f_4_20 : rx_lk rx_FLs 4 20 = some ((4, 4, (.array (.object "RingDrive$Ring")), true), 1152) := by decide +kernel
theorem f_4_24 : rx_lk rx_FLs 4 24 = some ((4, 5, (.array .int), true), 1153) := by decide +kernel
theorem f_4_28 : rx_lk rx_FLs 4 28 = some ((4, 6, (.array .int), true), 1154) := by decide +kernel
theorem f_4_31 : rx_lk rx_FLs 4 31 = some ((4, 7, (.array .int), true), 1155) := by decide +kernel
theorem f_4_34 : rx_lk rx_FLs 4 34 = some ((4, 8, (.array .int), true), 1156) := by decide +kernel
theorem f_4_37 : rx_lk rx_FLs 4 37 = some ((4, 9, (.array .int), true), 1157) := by decide +kernel
theorem f_4_40 : rx_lk rx_FLs 4 40 = some ((4, 3, (.object "RingDrive$Status"), true), 1151) := by decide +kernel
theorem f_4_101 : rx_lk rx_FLs 4 101 = some ((9, 0, .int, false), 1060) := by decide +kernel
theorem f_4_121 : rx_lk rx_FLs 4 121 = some ((4, 0, .boolean, false), 1144) := by decide +kernel
theorem f_4_137 : rx_lk rx_FLs 4 137 = some ((8, 0, .int, true), 1117) := by decide +kernel
theorem f_4_154 : rx_lk rx_FLs 4 154 = some ((8, 1, .int, true), 1119) := by decide +kernel
theorem f_5_11 : rx_lk rx_FLs 5 11 = some ((5, 5, (.array .int), true), 2149) := by decide +kernel
theorem f_5_19 : rx_lk rx_FLs 5 19 = some ((5, 7, (.array (.object "RingDrive$Channel")), true), 2153) := by decide +kernel
theorem f_5_26 : rx_lk rx_FLs 5 26 = some ((5, 8, (.object "RingDrive$Pattern"), true), 2154) := by decide +kernel
theorem f_5_30 : rx_lk rx_FLs 5 30 = some ((5, 0, (.object "RingDrive$Status"), true), 2139) := by decide +kernel
theorem f_5_34 : rx_lk rx_FLs 5 34 = some ((5, 1, (.object "RingDrive$Disk"), true), 2141) := by decide +kernel
theorem f_5_38 : rx_lk rx_FLs 5 38 = some ((5, 2, (.object "RingDrive$Tape"), true), 2143) := by decide +kernel
theorem f_5_47 : rx_lk rx_FLs 5 47 = some ((5, 3, (.object "RingDrive$BlockMap"), true), 2145) := by decide +kernel
theorem f_5_56 : rx_lk rx_FLs 5 56 = some ((5, 4, (.object "RingDrive$Directory"), true), 2147) := by decide +kernel
theorem f_5_61 : rx_lk rx_FLs 5 61 = some ((1, 0, .int, false), 2076) := by decide +kernel
theorem f_5_72 : rx_lk rx_FLs 5 72 = some ((1, 1, (.array .int), true), 2078) := by decide +kernel
theorem f_5_73 : rx_lk rx_FLs 5 73 = some ((1, 2, .int, false), 2081) := by decide +kernel
theorem f_5_76 : rx_lk rx_FLs 5 76 = some ((1, 5, .int, false), 2088) := by decide +kernel
theorem f_5_79 : rx_lk rx_FLs 5 79 = some ((1, 6, .int, false), 2090) := by decide +kernel
theorem f_5_90 : rx_lk rx_FLs 5 90 = some ((1, 9, .int, false), 2093) := by decide +kernel
theorem f_5_96 : rx_lk rx_FLs 5 96 = some ((1, 10, .int, false), 2095) := by decide +kernel
theorem f_5_99 : rx_lk rx_FLs 5 99 = some ((1, 11, .int, false), 2097) := by decide +kernel
theorem f_5_102 : rx_lk rx_FLs 5 102 = some ((1, 12, .int, false), 2099) := by decide +kernel
theorem f_5_105 : rx_lk rx_FLs 5 105 = some ((1, 13, .int, false), 2101) := by decide +kernel
theorem f_5_137 : rx_lk rx_FLs 5 137 = some ((5, 11, .int, false), 2157) := by decide +kernel
theorem f_5_146 : rx_lk rx_FLs 5 146 = some ((10, 2, .int, false), 1040) := by decide +kernel
theorem f_5_164 : rx_lk rx_FLs 5 164 = some ((1, 14, (.object "RingDrive$Pattern"), true), 2103) := by decide +kernel
theorem f_5_171 : rx_lk rx_FLs 5 171 = some ((5, 9, .boolean, false), 2155) := by decide +kernel
theorem f_5_182 : rx_lk rx_FLs 5 182 = some ((5, 10, .int, false), 2156) := by decide +kernel
theorem f_5_197 : rx_lk rx_FLs 5 197 = some ((3, 5, .boolean, false), 2045) := by decide +kernel
theorem f_5_237 : rx_lk rx_FLs 5 237 = some ((9, 1, .int, false), 1063) := by decide +kernel
theorem f_5_238 : rx_lk rx_FLs 5 238 = some ((9, 2, .int, false), 1066) := by decide +kernel
theorem f_5_255 : rx_lk rx_FLs 5 255 = some ((0, 1, .int, false), 2014) := by decide +kernel
theorem f_5_256 : rx_lk rx_FLs 5 256 = some ((0, 2, .int, false), 2017) := by decide +kernel
theorem f_5_273 : rx_lk rx_FLs 5 273 = some ((1, 7, .int, false), 2091) := by decide +kernel
theorem f_5_275 : rx_lk rx_FLs 5 275 = some ((1, 8, .int, false), 2092) := by decide +kernel
theorem f_5_281 : rx_lk rx_FLs 5 281 = some ((5, 6, .boolean, false), 2152) := by decide +kernel
theorem f_5_287 : rx_lk rx_FLs 5 287 = some ((1, 3, .int, false), 2084) := by decide +kernel
theorem f_5_290 : rx_lk rx_FLs 5 290 = some ((1, 4, .boolean, false), 2086) := by decide +kernel
theorem f_5_302 : rx_lk rx_FLs 5 302 = some ((1, 15, .boolean, false), 2105) := by decide +kernel
theorem f_5_317 : rx_lk rx_FLs 5 317 = some ((0, 0, (.array .int), true), 2011) := by decide +kernel
theorem f_6_9 : rx_lk rx_FLs 6 9 = some ((6, 0, (.array .int), true), 1237) := by decide +kernel
theorem f_6_19 : rx_lk rx_FLs 6 19 = some ((6, 1, .int, false), 1238) := by decide +kernel
theorem f_7_9 : rx_lk rx_FLs 7 9 = some ((7, 7, (.array .int), true), 1199) := by decide +kernel
theorem f_7_23 : rx_lk rx_FLs 7 23 = some ((7, 3, .int, false), 1191) := by decide +kernel
theorem f_7_27 : rx_lk rx_FLs 7 27 = some ((7, 4, .int, false), 1193) := by decide +kernel
theorem f_7_30 : rx_lk rx_FLs 7 30 = some ((7, 0, .int, false), 1185) := by decide +kernel
theorem f_7_33 : rx_lk rx_FLs 7 33 = some ((7, 1, .int, false), 1187) := by decide +kernel
theorem f_7_36 : rx_lk rx_FLs 7 36 = some ((7, 2, .int, false), 1189) := by decide +kernel
theorem f_7_39 : rx_lk rx_FLs 7 39 = some ((7, 5, .int, false), 1195) := by decide +kernel
theorem f_7_42 : rx_lk rx_FLs 7 42 = some ((7, 6, .int, false), 1197) := by decide +kernel
theorem f_7_65 : rx_lk rx_FLs 7 65 = some ((7, 9, .boolean, false), 1201) := by decide +kernel
theorem f_7_69 : rx_lk rx_FLs 7 69 = some ((7, 8, .int, false), 1200) := by decide +kernel
theorem f_8_15 : rx_lk rx_FLs 8 15 = some ((8, 2, (.array .int), true), 1120) := by decide +kernel
theorem f_8_21 : rx_lk rx_FLs 8 21 = some ((8, 1, .int, true), 1118) := by decide +kernel
theorem f_8_25 : rx_lk rx_FLs 8 25 = some ((8, 0, .int, true), 1116) := by decide +kernel
theorem f_8_36 : rx_lk rx_FLs 8 36 = some ((8, 3, .int, false), 1121) := by decide +kernel
theorem f_8_43 : rx_lk rx_FLs 8 43 = some ((8, 4, .int, false), 1122) := by decide +kernel
theorem f_8_46 : rx_lk rx_FLs 8 46 = some ((8, 6, .int, false), 1124) := by decide +kernel
theorem f_8_49 : rx_lk rx_FLs 8 49 = some ((8, 7, .int, false), 1125) := by decide +kernel
theorem f_8_52 : rx_lk rx_FLs 8 52 = some ((8, 5, .boolean, false), 1123) := by decide +kernel
theorem f_9_9 : rx_lk rx_FLs 9 9 = some ((9, 0, .int, false), 1058) := by decide +kernel
theorem f_9_15 : rx_lk rx_FLs 9 15 = some ((9, 4, (.array .int), true), 1069) := by decide +kernel
theorem f_9_19 : rx_lk rx_FLs 9 19 = some ((9, 7, (.array .int), true), 1072) := by decide +kernel
theorem f_9_26 : rx_lk rx_FLs 9 26 = some ((9, 8, .int, false), 1073) := by decide +kernel
theorem f_9_29 : rx_lk rx_FLs 9 29 = some ((9, 9, .int, false), 1074) := by decide +kernel
theorem f_9_32 : rx_lk rx_FLs 9 32 = some ((9, 1, .int, false), 1061) := by decide +kernel
theorem f_9_35 : rx_lk rx_FLs 9 35 = some ((9, 2, .int, false), 1064) := by decide +kernel
theorem f_9_38 : rx_lk rx_FLs 9 38 = some ((9, 5, .int, false), 1070) := by decide +kernel
theorem f_9_41 : rx_lk rx_FLs 9 41 = some ((9, 6, .int, false), 1071) := by decide +kernel
theorem f_9_44 : rx_lk rx_FLs 9 44 = some ((9, 3, .boolean, false), 1067) := by decide +kernel
theorem f_10_11 : rx_lk rx_FLs 10 11 = some ((10, 0, (.array .int), true), 1035) := by decide +kernel
theorem f_10_15 : rx_lk rx_FLs 10 15 = some ((10, 1, .int, false), 1037) := by decide +kernel
theorem f_10_19 : rx_lk rx_FLs 10 19 = some ((10, 2, .int, false), 1039) := by decide +kernel
theorem f_10_31 : rx_lk rx_FLs 10 31 = some ((10, 3, .int, false), 1041) := by decide +kernel
theorem f_11_10 : rx_lk rx_FLs 11 10 = some ((11, 0, (.object "RingDrive$Tape"), true), 2226) := by decide +kernel
theorem f_11_19 : rx_lk rx_FLs 11 19 = some ((11, 1, (.object "RingDrive$Status"), true), 2227) := by decide +kernel
theorem f_11_28 : rx_lk rx_FLs 11 28 = some ((11, 2, (.object "RingDrive$Disk"), true), 2228) := by decide +kernel
theorem f_11_35 : rx_lk rx_FLs 11 35 = some ((11, 3, (.object "RingDrive$Processor"), true), 2229) := by decide +kernel
theorem f_11_44 : rx_lk rx_FLs 11 44 = some ((11, 4, (.object "RingDrive$Dos"), true), 2230) := by decide +kernel
theorem f_11_53 : rx_lk rx_FLs 11 53 = some ((11, 5, (.object "RingDrive$Commands"), true), 2231) := by decide +kernel
theorem f_11_57 : rx_lk rx_FLs 11 57 = some ((11, 6, (.array .int), true), 2232) := by decide +kernel
theorem f_11_61 : rx_lk rx_FLs 11 61 = some ((11, 7, .int, false), 2233) := by decide +kernel
theorem f_11_65 : rx_lk rx_FLs 11 65 = some ((11, 8, .boolean, false), 2234) := by decide +kernel
theorem f_11_69 : rx_lk rx_FLs 11 69 = some ((10, 1, .int, false), 1036) := by decide +kernel
theorem f_11_84 : rx_lk rx_FLs 11 84 = some ((9, 0, .int, false), 1059) := by decide +kernel
theorem f_11_115 : rx_lk rx_FLs 11 115 = some ((9, 3, .boolean, false), 1068) := by decide +kernel
theorem f_11_121 : rx_lk rx_FLs 11 121 = some ((5, 6, .boolean, false), 2151) := by decide +kernel
theorem f_11_122 : rx_lk rx_FLs 11 122 = some ((9, 1, .int, false), 1062) := by decide +kernel
theorem f_11_125 : rx_lk rx_FLs 11 125 = some ((9, 2, .int, false), 1065) := by decide +kernel
theorem f_11_128 : rx_lk rx_FLs 11 128 = some ((4, 1, .int, false), 1147) := by decide +kernel
theorem f_11_131 : rx_lk rx_FLs 11 131 = some ((4, 2, .int, false), 1150) := by decide +kernel
theorem f_11_137 : rx_lk rx_FLs 11 137 = some ((7, 0, .int, false), 1186) := by decide +kernel
theorem f_11_140 : rx_lk rx_FLs 11 140 = some ((7, 1, .int, false), 1188) := by decide +kernel
theorem f_11_143 : rx_lk rx_FLs 11 143 = some ((7, 2, .int, false), 1190) := by decide +kernel
theorem f_11_146 : rx_lk rx_FLs 11 146 = some ((7, 3, .int, false), 1192) := by decide +kernel
theorem f_11_149 : rx_lk rx_FLs 11 149 = some ((7, 4, .int, false), 1194) := by decide +kernel
theorem f_11_152 : rx_lk rx_FLs 11 152 = some ((7, 5, .int, false), 1196) := by decide +kernel
theorem f_11_155 : rx_lk rx_FLs 11 155 = some ((7, 6, .int, false), 1198) := by decide +kernel
theorem f_11_174 : rx_lk rx_FLs 11 174 = some ((4, 0, .boolean, false), 1143) := by decide +kernel
theorem f_12_7 : rx_lk rx_FLs 12 7 = some ((12, 4, .int, false), 9055) := by decide +kernel
theorem f_12_11 : rx_lk rx_FLs 12 11 = some ((12, 5, .int, false), 9056) := by decide +kernel
theorem f_12_14 : rx_lk rx_FLs 12 14 = some ((12, 0, (.array .byte), true), 9051) := by decide +kernel
theorem f_12_18 : rx_lk rx_FLs 12 18 = some ((12, 6, .int, false), 9057) := by decide +kernel
theorem f_12_24 : rx_lk rx_FLs 12 24 = some ((12, 7, .int, false), 9058) := by decide +kernel
theorem f_12_27 : rx_lk rx_FLs 12 27 = some ((12, 8, .int, false), 9059) := by decide +kernel
theorem f_12_30 : rx_lk rx_FLs 12 30 = some ((12, 9, .int, false), 9060) := by decide +kernel
theorem f_12_33 : rx_lk rx_FLs 12 33 = some ((12, 10, .int, false), 9061) := by decide +kernel
theorem f_12_36 : rx_lk rx_FLs 12 36 = some ((12, 11, .int, false), 9062) := by decide +kernel
theorem f_12_39 : rx_lk rx_FLs 12 39 = some ((12, 12, .int, false), 9063) := by decide +kernel
theorem f_12_42 : rx_lk rx_FLs 12 42 = some ((12, 13, .boolean, false), 9064) := by decide +kernel
theorem f_12_50 : rx_lk rx_FLs 12 50 = some ((12, 14, .int, false), 9065) := by decide +kernel
theorem f_12_53 : rx_lk rx_FLs 12 53 = some ((12, 15, .boolean, false), 9066) := by decide +kernel
theorem f_12_64 : rx_lk rx_FLs 12 64 = some ((12, 16, (.array .int), true), 9067) := by decide +kernel
theorem f_12_71 : rx_lk rx_FLs 12 71 = some ((12, 17, (.array .int), true), 9068) := by decide +kernel
theorem f_12_74 : rx_lk rx_FLs 12 74 = some ((12, 18, (.array .int), true), 9069) := by decide +kernel
theorem f_12_90 : rx_lk rx_FLs 12 90 = some ((12, 2, .int, false), 9053) := by decide +kernel
theorem f_12_93 : rx_lk rx_FLs 12 93 = some ((12, 3, .int, false), 9054) := by decide +kernel
theorem f_12_104 : rx_lk rx_FLs 12 104 = some ((12, 19, (.array .int), true), 9070) := by decide +kernel
theorem f_12_125 : rx_lk rx_FLs 12 125 = some ((12, 20, .int, false), 9071) := by decide +kernel
theorem f_12_131 : rx_lk rx_FLs 12 131 = some ((12, 1, .boolean, false), 9052) := by decide +kernel
theorem f_12_142 : rx_lk rx_FLs 12 142 = some ((12, 21, (.array .int), true), 9072) := by decide +kernel
theorem f_12_145 : rx_lk rx_FLs 12 145 = some ((12, 22, (.array .int), true), 9073) := by decide +kernel
theorem f_12_155 : rx_lk rx_FLs 12 155 = some ((12, 25, .int, false), 9076) := by decide +kernel
theorem f_12_158 : rx_lk rx_FLs 12 158 = some ((12, 26, .int, false), 9077) := by decide +kernel
theorem f_12_186 : rx_lk rx_FLs 12 186 = some ((12, 24, (.array .int), true), 9075) := by decide +kernel
theorem f_12_192 : rx_lk rx_FLs 12 192 = some ((12, 32, .int, false), 9083) := by decide +kernel
theorem f_12_195 : rx_lk rx_FLs 12 195 = some ((12, 23, (.array .int), true), 9074) := by decide +kernel
theorem f_12_198 : rx_lk rx_FLs 12 198 = some ((12, 30, .int, false), 9081) := by decide +kernel
theorem f_12_201 : rx_lk rx_FLs 12 201 = some ((12, 31, .int, false), 9082) := by decide +kernel
theorem f_12_211 : rx_lk rx_FLs 12 211 = some ((12, 27, .int, false), 9078) := by decide +kernel
theorem f_12_214 : rx_lk rx_FLs 12 214 = some ((12, 28, .int, false), 9079) := by decide +kernel
theorem f_12_217 : rx_lk rx_FLs 12 217 = some ((12, 29, .int, false), 9080) := by decide +kernel
theorem f_12_227 : rx_lk rx_FLs 12 227 = some ((12, 56, .int, false), 9107) := by decide +kernel
theorem f_12_230 : rx_lk rx_FLs 12 230 = some ((12, 57, .int, false), 9108) := by decide +kernel
theorem f_12_233 : rx_lk rx_FLs 12 233 = some ((12, 58, .int, false), 9109) := by decide +kernel
theorem f_12_236 : rx_lk rx_FLs 12 236 = some ((12, 59, .int, false), 9110) := by decide +kernel
theorem f_12_242 : rx_lk rx_FLs 12 242 = some ((12, 61, .int, false), 9112) := by decide +kernel
theorem f_12_245 : rx_lk rx_FLs 12 245 = some ((12, 62, .int, false), 9113) := by decide +kernel
theorem f_12_248 : rx_lk rx_FLs 12 248 = some ((12, 33, (.array .int), true), 9084) := by decide +kernel
theorem f_12_251 : rx_lk rx_FLs 12 251 = some ((12, 63, (.array .byte), true), 9114) := by decide +kernel
theorem f_12_254 : rx_lk rx_FLs 12 254 = some ((12, 64, .int, false), 9115) := by decide +kernel
theorem f_12_260 : rx_lk rx_FLs 12 260 = some ((12, 65, (.array .int), true), 9116) := by decide +kernel
theorem f_12_284 : rx_lk rx_FLs 12 284 = some ((12, 34, (.array .int), true), 9085) := by decide +kernel
theorem f_12_287 : rx_lk rx_FLs 12 287 = some ((12, 35, (.array .int), true), 9086) := by decide +kernel
theorem f_12_296 : rx_lk rx_FLs 12 296 = some ((12, 54, (.array .int), true), 9105) := by decide +kernel
theorem f_12_299 : rx_lk rx_FLs 12 299 = some ((12, 51, (.array .int), true), 9102) := by decide +kernel
theorem f_12_302 : rx_lk rx_FLs 12 302 = some ((12, 46, (.array .int), true), 9097) := by decide +kernel
theorem f_12_305 : rx_lk rx_FLs 12 305 = some ((12, 52, (.array .int), true), 9103) := by decide +kernel
theorem f_12_308 : rx_lk rx_FLs 12 308 = some ((12, 53, (.array .int), true), 9104) := by decide +kernel
theorem f_12_318 : rx_lk rx_FLs 12 318 = some ((12, 37, (.array .boolean), true), 9088) := by decide +kernel
theorem f_12_322 : rx_lk rx_FLs 12 322 = some ((12, 36, (.array .int), true), 9087) := by decide +kernel
theorem f_12_341 : rx_lk rx_FLs 12 341 = some ((12, 38, (.array .int), true), 9089) := by decide +kernel
theorem f_12_344 : rx_lk rx_FLs 12 344 = some ((12, 39, (.array .int), true), 9090) := by decide +kernel
theorem f_12_347 : rx_lk rx_FLs 12 347 = some ((12, 40, (.array .int), true), 9091) := by decide +kernel
theorem f_12_350 : rx_lk rx_FLs 12 350 = some ((12, 41, (.array .int), true), 9092) := by decide +kernel
theorem f_12_353 : rx_lk rx_FLs 12 353 = some ((12, 42, (.array .int), true), 9093) := by decide +kernel
theorem f_12_356 : rx_lk rx_FLs 12 356 = some ((12, 43, (.array .int), true), 9094) := by decide +kernel
theorem f_12_359 : rx_lk rx_FLs 12 359 = some ((12, 44, (.array .int), true), 9095) := by decide +kernel
theorem f_12_362 : rx_lk rx_FLs 12 362 = some ((12, 45, (.array .int), true), 9096) := by decide +kernel
theorem f_12_368 : rx_lk rx_FLs 12 368 = some ((12, 66, (.array .int), true), 9117) := by decide +kernel
theorem f_12_371 : rx_lk rx_FLs 12 371 = some ((12, 67, .int, false), 9118) := by decide +kernel
theorem f_12_374 : rx_lk rx_FLs 12 374 = some ((12, 68, .int, false), 9119) := by decide +kernel
theorem f_12_392 : rx_lk rx_FLs 12 392 = some ((12, 60, (.array .int), true), 9111) := by decide +kernel
theorem f_12_398 : rx_lk rx_FLs 12 398 = some ((12, 69, (.array .int), true), 9120) := by decide +kernel
theorem f_12_401 : rx_lk rx_FLs 12 401 = some ((12, 70, .int, false), 9121) := by decide +kernel
theorem f_12_493 : rx_lk rx_FLs 12 493 = some ((12, 55, (.array .int), true), 9106) := by decide +kernel
theorem f_12_502 : rx_lk rx_FLs 12 502 = some ((12, 47, (.array .int), true), 9098) := by decide +kernel
theorem f_12_505 : rx_lk rx_FLs 12 505 = some ((12, 48, (.array .int), true), 9099) := by decide +kernel
theorem f_12_508 : rx_lk rx_FLs 12 508 = some ((12, 49, (.array .int), true), 9100) := by decide +kernel
theorem f_12_511 : rx_lk rx_FLs 12 511 = some ((12, 50, (.array .int), true), 9101) := by decide +kernel
theorem f_12_587 : rx_lk rx_FLs 12 587 = some ((12, 71, (.array .int), true), 9122) := by decide +kernel
theorem f_12_599 : rx_lk rx_FLs 12 599 = some ((12, 72, .int, false), 9123) := by decide +kernel
theorem f_12_602 : rx_lk rx_FLs 12 602 = some ((12, 73, .int, false), 9124) := by decide +kernel
theorem f_12_614 : rx_lk rx_FLs 12 614 = some ((12, 74, (.array .byte), true), 9125) := by decide +kernel
theorem f_12_626 : rx_lk rx_FLs 12 626 = some ((12, 75, .int, false), 9126) := by decide +kernel
theorem f_12_629 : rx_lk rx_FLs 12 629 = some ((12, 76, .int, false), 9127) := by decide +kernel
theorem f_12_632 : rx_lk rx_FLs 12 632 = some ((12, 77, .int, false), 9128) := by decide +kernel
theorem f_12_635 : rx_lk rx_FLs 12 635 = some ((12, 78, .int, false), 9129) := by decide +kernel
theorem f_12_638 : rx_lk rx_FLs 12 638 = some ((12, 79, .int, false), 9130) := by decide +kernel
theorem f_12_641 : rx_lk rx_FLs 12 641 = some ((12, 81, .int, false), 9132) := by decide +kernel
theorem f_12_644 : rx_lk rx_FLs 12 644 = some ((12, 80, .int, false), 9131) := by decide +kernel
theorem f_12_647 : rx_lk rx_FLs 12 647 = some ((12, 82, .int, false), 9133) := by decide +kernel
theorem f_12_660 : rx_lk rx_FLs 12 660 = some ((12, 83, .boolean, false), 9134) := by decide +kernel
theorem rx_whoV {co idx j pos : Nat} {Z : rx_M} (hL : rx_lk rx_MLs co idx = some ((j, false), pos)) (hj : rx_MT[j]? = some Z) (hk : rm_kind Z = 0) : rx_who co (.invokevirtual idx) 3 = some Z := by simp [rx_who, hL, hj, hk]
theorem rx_whoS {co idx j pos : Nat} {Z : rx_M} (hL : rx_lk rx_MLs co idx = some ((j, false), pos)) (hj : rx_MT[j]? = some Z) (hk : rm_kind Z = 1) : rx_who co (.invokestatic idx) 3 = some Z := by simp [rx_who, hL, hj, hk]
theorem rx_whoI {co idx j pos : Nat} {n : Bool} {Z : rx_M} (hL : rx_lk rx_MLs co idx = some ((j, n), pos)) (hj : rx_MT[j]? = some Z) (hk : rm_kind Z = 2) : rx_who co (.invokespecial idx) 3 = some Z := by simp [rx_who, hL, hj, hk]
set_option maxRecDepth 10000 in
theorem j_X_init : rx_MT[0]? = some mX_init := rfl
set_option maxRecDepth 10000 in
theorem j_Tape_init : rx_MT[1]? = some mTape_init := rfl
set_option maxRecDepth 10000 in
theorem j_Status_init : rx_MT[2]? = some mStatus_init := rfl
set_option maxRecDepth 10000 in
theorem j_Disk_init : rx_MT[3]? = some mDisk_init := rfl
set_option maxRecDepth 10000 in
theorem j_Ring_init : rx_MT[4]? = some mRing_init := rfl
set_option maxRecDepth 10000 in
theorem j_Processor_init : rx_MT[5]? = some mProcessor_init := rfl
set_option maxRecDepth 10000 in
theorem j_Dos_init : rx_MT[6]? = some mDos_init := rfl
set_option maxRecDepth 10000 in
theorem j_Pattern_init : rx_MT[7]? = some mPattern_init := rfl
set_option maxRecDepth 10000 in
theorem j_BlockMap_init : rx_MT[8]? = some mBlockMap_init := rfl
set_option maxRecDepth 10000 in
theorem j_Directory_init : rx_MT[9]? = some mDirectory_init := rfl
set_option maxRecDepth 10000 in
theorem j_Channel_init : rx_MT[10]? = some mChannel_init := rfl
set_option maxRecDepth 10000 in
theorem j_Commands_init : rx_MT[11]? = some mCommands_init := rfl
set_option maxRecDepth 10000 in
theorem j_Pattern_fitAll : rx_MT[12]? = some mPattern_fitAll := rfl
set_option maxRecDepth 10000 in
theorem j_X_feed : rx_MT[13]? = some mX_feed := rfl
set_option maxRecDepth 10000 in
theorem j_Tape_add : rx_MT[14]? = some mTape_add := rfl
set_option maxRecDepth 10000 in
theorem j_X_open : rx_MT[15]? = some mX_open := rfl
set_option maxRecDepth 10000 in
theorem j_X_sendText : rx_MT[16]? = some mX_sendText := rfl
set_option maxRecDepth 10000 in
theorem j_X_isChannel : rx_MT[17]? = some mX_isChannel := rfl
set_option maxRecDepth 10000 in
theorem j_Tape_has : rx_MT[18]? = some mTape_has := rfl
set_option maxRecDepth 10000 in
theorem j_Tape_send : rx_MT[19]? = some mTape_send := rfl
set_option maxRecDepth 10000 in
theorem j_Commands_run : rx_MT[20]? = some mCommands_run := rfl
set_option maxRecDepth 10000 in
theorem j_Status_begin : rx_MT[21]? = some mStatus_begin := rfl
set_option maxRecDepth 10000 in
theorem j_Status_set : rx_MT[22]? = some mStatus_set := rfl
set_option maxRecDepth 10000 in
theorem j_Tape_byteAt : rx_MT[23]? = some mTape_byteAt := rfl
set_option maxRecDepth 10000 in
theorem j_Commands_newDisk : rx_MT[24]? = some mCommands_newDisk := rfl
set_option maxRecDepth 10000 in
theorem j_Tape_find : rx_MT[25]? = some mTape_find := rfl
set_option maxRecDepth 10000 in
theorem j_Pattern_take : rx_MT[26]? = some mPattern_take := rfl
set_option maxRecDepth 10000 in
theorem j_Pattern_isEmpty : rx_MT[27]? = some mPattern_isEmpty := rfl
set_option maxRecDepth 10000 in
theorem j_Pattern_isWild : rx_MT[28]? = some mPattern_isWild := rfl
set_option maxRecDepth 10000 in
theorem j_Commands_formatAll : rx_MT[29]? = some mCommands_formatAll := rfl
set_option maxRecDepth 10000 in
theorem j_Dos_dropAll : rx_MT[30]? = some mDos_dropAll := rfl
set_option maxRecDepth 10000 in
theorem j_Disk_format : rx_MT[31]? = some mDisk_format := rfl
set_option maxRecDepth 10000 in
theorem j_Disk_ring : rx_MT[32]? = some mDisk_ring := rfl
set_option maxRecDepth 10000 in
theorem j_Ring_goTo : rx_MT[33]? = some mRing_goTo := rfl
set_option maxRecDepth 10000 in
theorem j_Disk_codeData : rx_MT[34]? = some mDisk_codeData := rfl
set_option maxRecDepth 10000 in
theorem j_Disk_encode : rx_MT[35]? = some mDisk_encode := rfl
set_option maxRecDepth 10000 in
theorem j_Disk_fillHeader : rx_MT[36]? = some mDisk_fillHeader := rfl
set_option maxRecDepth 10000 in
theorem j_Ring_putMarked : rx_MT[37]? = some mRing_putMarked := rfl
set_option maxRecDepth 10000 in
theorem j_Ring_put : rx_MT[38]? = some mRing_put := rfl
set_option maxRecDepth 10000 in
theorem j_Ring_putGap : rx_MT[39]? = some mRing_putGap := rfl
set_option maxRecDepth 10000 in
theorem j_Ring_putGapToEnd : rx_MT[40]? = some mRing_putGapToEnd := rfl
set_option maxRecDepth 10000 in
theorem j_Disk_setId : rx_MT[41]? = some mDisk_setId := rfl
set_option maxRecDepth 10000 in
theorem j_Disk_hasId : rx_MT[42]? = some mDisk_hasId := rfl
set_option maxRecDepth 10000 in
theorem j_Disk_takeId : rx_MT[43]? = some mDisk_takeId := rfl
set_option maxRecDepth 10000 in
theorem j_Disk_dropId : rx_MT[44]? = some mDisk_dropId := rfl
set_option maxRecDepth 10000 in
theorem j_Ring_onesAhead : rx_MT[45]? = some mRing_onesAhead := rfl
set_option maxRecDepth 10000 in
theorem j_Ring_startRound : rx_MT[46]? = some mRing_startRound := rfl
set_option maxRecDepth 10000 in
theorem j_Ring_nextFirst : rx_MT[47]? = some mRing_nextFirst := rfl
set_option maxRecDepth 10000 in
theorem j_Ring_next : rx_MT[48]? = some mRing_next := rfl
set_option maxRecDepth 10000 in
theorem j_Disk_decode : rx_MT[49]? = some mDisk_decode := rfl
set_option maxRecDepth 10000 in
theorem j_Disk_isHeader : rx_MT[50]? = some mDisk_isHeader := rfl
set_option maxRecDepth 10000 in
theorem j_BlockMap_begin : rx_MT[51]? = some mBlockMap_begin := rfl
set_option maxRecDepth 10000 in
theorem j_Arr_fill : rx_MT[52]? = some mArr_fill := rfl
set_option maxRecDepth 10000 in
theorem j_BlockMap_freeAll : rx_MT[53]? = some mBlockMap_freeAll := rfl
set_option maxRecDepth 10000 in
theorem j_Disk_sectorsOf : rx_MT[54]? = some mDisk_sectorsOf := rfl
set_option maxRecDepth 10000 in
theorem j_BlockMap_takeBlock : rx_MT[55]? = some mBlockMap_takeBlock := rfl
set_option maxRecDepth 10000 in
theorem j_Disk_isLegal : rx_MT[56]? = some mDisk_isLegal := rfl
set_option maxRecDepth 10000 in
theorem j_Pattern_putInto : rx_MT[57]? = some mPattern_putInto := rfl
set_option maxRecDepth 10000 in
theorem j_BlockMap_store : rx_MT[58]? = some mBlockMap_store := rfl
set_option maxRecDepth 10000 in
theorem j_Disk_writeBlock : rx_MT[59]? = some mDisk_writeBlock := rfl
set_option maxRecDepth 10000 in
theorem j_Disk_seek : rx_MT[60]? = some mDisk_seek := rfl
set_option maxRecDepth 10000 in
theorem j_Ring_holds : rx_MT[61]? = some mRing_holds := rfl
set_option maxRecDepth 10000 in
theorem j_Ring_skip : rx_MT[62]? = some mRing_skip := rfl
set_option maxRecDepth 10000 in
theorem j_Ring_gatherFromFirst : rx_MT[63]? = some mRing_gatherFromFirst := rfl
set_option maxRecDepth 10000 in
theorem j_Disk_areSame : rx_MT[64]? = some mDisk_areSame := rfl
set_option maxRecDepth 10000 in
theorem j_Directory_writeEmpty : rx_MT[65]? = some mDirectory_writeEmpty := rfl
set_option maxRecDepth 10000 in
theorem j_Commands_scratch : rx_MT[66]? = some mCommands_scratch := rfl
set_option maxRecDepth 10000 in
theorem j_Directory_rewind : rx_MT[67]? = some mDirectory_rewind := rfl
set_option maxRecDepth 10000 in
theorem j_Directory_goTo : rx_MT[68]? = some mDirectory_goTo := rfl
set_option maxRecDepth 10000 in
theorem j_Directory_find : rx_MT[69]? = some mDirectory_find := rfl
set_option maxRecDepth 10000 in
theorem j_Disk_readBlock : rx_MT[70]? = some mDisk_readBlock := rfl
set_option maxRecDepth 10000 in
theorem j_Disk_dataFault : rx_MT[71]? = some mDisk_dataFault := rfl
set_option maxRecDepth 10000 in
theorem j_Directory_isWanted : rx_MT[72]? = some mDirectory_isWanted := rfl
set_option maxRecDepth 10000 in
theorem j_Directory_type : rx_MT[73]? = some mDirectory_type := rfl
set_option maxRecDepth 10000 in
theorem j_Directory_base : rx_MT[74]? = some mDirectory_base := rfl
set_option maxRecDepth 10000 in
theorem j_Pattern_fits : rx_MT[75]? = some mPattern_fits := rfl
set_option maxRecDepth 10000 in
theorem j_Directory_isLast : rx_MT[76]? = some mDirectory_isLast := rfl
set_option maxRecDepth 10000 in
theorem j_Directory_isFull : rx_MT[77]? = some mDirectory_isFull := rfl
set_option maxRecDepth 10000 in
theorem j_Dos_scratchFound : rx_MT[78]? = some mDos_scratchFound := rfl
set_option maxRecDepth 10000 in
theorem j_BlockMap_load : rx_MT[79]? = some mBlockMap_load := rfl
set_option maxRecDepth 10000 in
theorem j_Directory_firstTrack : rx_MT[80]? = some mDirectory_firstTrack := rfl
set_option maxRecDepth 10000 in
theorem j_Directory_firstSector : rx_MT[81]? = some mDirectory_firstSector := rfl
set_option maxRecDepth 10000 in
theorem j_Dos_giveBackChain : rx_MT[82]? = some mDos_giveBackChain := rfl
set_option maxRecDepth 10000 in
theorem j_BlockMap_giveBack : rx_MT[83]? = some mBlockMap_giveBack := rfl
set_option maxRecDepth 10000 in
theorem j_Directory_changeType : rx_MT[84]? = some mDirectory_changeType := rfl
set_option maxRecDepth 10000 in
theorem j_Commands_rename : rx_MT[85]? = some mCommands_rename := rfl
set_option maxRecDepth 10000 in
theorem j_Directory_changeName : rx_MT[86]? = some mDirectory_changeName := rfl
set_option maxRecDepth 10000 in
theorem j_Commands_initialise : rx_MT[87]? = some mCommands_initialise := rfl
set_option maxRecDepth 10000 in
theorem j_Commands_unknown : rx_MT[88]? = some mCommands_unknown := rfl
set_option maxRecDepth 10000 in
theorem j_Commands_validate : rx_MT[89]? = some mCommands_validate := rfl
set_option maxRecDepth 10000 in
theorem j_Commands_takeDirectory : rx_MT[90]? = some mCommands_takeDirectory := rfl
set_option maxRecDepth 10000 in
theorem j_Directory_isClosed : rx_MT[91]? = some mDirectory_isClosed := rfl
set_option maxRecDepth 10000 in
theorem j_Commands_takeChain : rx_MT[92]? = some mCommands_takeChain := rfl
set_option maxRecDepth 10000 in
theorem j_BlockMap_isFree : rx_MT[93]? = some mBlockMap_isFree := rfl
set_option maxRecDepth 10000 in
theorem j_Commands_user : rx_MT[94]? = some mCommands_user := rfl
set_option maxRecDepth 10000 in
theorem j_Commands_moveBlock : rx_MT[95]? = some mCommands_moveBlock := rfl
set_option maxRecDepth 10000 in
theorem j_Tape_startNumbers : rx_MT[96]? = some mTape_startNumbers := rfl
set_option maxRecDepth 10000 in
theorem j_Tape_nextNumber : rx_MT[97]? = some mTape_nextNumber := rfl
set_option maxRecDepth 10000 in
theorem j_Tape_isDigit : rx_MT[98]? = some mTape_isDigit := rfl
set_option maxRecDepth 10000 in
theorem j_Dos_buffer : rx_MT[99]? = some mDos_buffer := rfl
set_option maxRecDepth 10000 in
theorem j_Commands_restart : rx_MT[100]? = some mCommands_restart := rfl
set_option maxRecDepth 10000 in
theorem j_Commands_block : rx_MT[101]? = some mCommands_block := rfl
set_option maxRecDepth 10000 in
theorem j_Commands_setPlace : rx_MT[102]? = some mCommands_setPlace := rfl
set_option maxRecDepth 10000 in
theorem j_Commands_allocate : rx_MT[103]? = some mCommands_allocate := rfl
set_option maxRecDepth 10000 in
theorem j_Commands_tellNextFree : rx_MT[104]? = some mCommands_tellNextFree := rfl
set_option maxRecDepth 10000 in
theorem j_Commands_program : rx_MT[105]? = some mCommands_program := rfl
set_option maxRecDepth 10000 in
theorem j_Commands_argument : rx_MT[106]? = some mCommands_argument := rfl
set_option maxRecDepth 10000 in
theorem j_Processor_set : rx_MT[107]? = some mProcessor_set := rfl
set_option maxRecDepth 10000 in
theorem j_Processor_get : rx_MT[108]? = some mProcessor_get := rfl
set_option maxRecDepth 10000 in
theorem j_Status_addReply : rx_MT[109]? = some mStatus_addReply := rfl
set_option maxRecDepth 10000 in
theorem j_Processor_run : rx_MT[110]? = some mProcessor_run := rfl
set_option maxRecDepth 10000 in
theorem j_Processor_begin : rx_MT[111]? = some mProcessor_begin := rfl
set_option maxRecDepth 10000 in
theorem j_Processor_locate : rx_MT[112]? = some mProcessor_locate := rfl
set_option maxRecDepth 10000 in
theorem j_Processor_fetch : rx_MT[113]? = some mProcessor_fetch := rfl
set_option maxRecDepth 10000 in
theorem j_Processor_fetchTwo : rx_MT[114]? = some mProcessor_fetchTwo := rfl
set_option maxRecDepth 10000 in
theorem j_Processor_indexed : rx_MT[115]? = some mProcessor_indexed := rfl
set_option maxRecDepth 10000 in
theorem j_Processor_pair : rx_MT[116]? = some mProcessor_pair := rfl
set_option maxRecDepth 10000 in
theorem j_Processor_perform : rx_MT[117]? = some mProcessor_perform := rfl
set_option maxRecDepth 10000 in
theorem j_Processor_useValue : rx_MT[118]? = some mProcessor_useValue := rfl
set_option maxRecDepth 10000 in
theorem j_Processor_marked : rx_MT[119]? = some mProcessor_marked := rfl
set_option maxRecDepth 10000 in
theorem j_Processor_add : rx_MT[120]? = some mProcessor_add := rfl
set_option maxRecDepth 10000 in
theorem j_Processor_has : rx_MT[121]? = some mProcessor_has := rfl
set_option maxRecDepth 10000 in
theorem j_Processor_addBinary : rx_MT[122]? = some mProcessor_addBinary := rfl
set_option maxRecDepth 10000 in
theorem j_Processor_flag : rx_MT[123]? = some mProcessor_flag := rfl
set_option maxRecDepth 10000 in
theorem j_Processor_subtract : rx_MT[124]? = some mProcessor_subtract := rfl
set_option maxRecDepth 10000 in
theorem j_Processor_compare : rx_MT[125]? = some mProcessor_compare := rfl
set_option maxRecDepth 10000 in
theorem j_Processor_changeValue : rx_MT[126]? = some mProcessor_changeValue := rfl
set_option maxRecDepth 10000 in
theorem j_Processor_branch : rx_MT[127]? = some mProcessor_branch := rfl
set_option maxRecDepth 10000 in
theorem j_Processor_move : rx_MT[128]? = some mProcessor_move := rfl
set_option maxRecDepth 10000 in
theorem j_Processor_changeFlag : rx_MT[129]? = some mProcessor_changeFlag := rfl
set_option maxRecDepth 10000 in
theorem j_Processor_stack : rx_MT[130]? = some mProcessor_stack := rfl
set_option maxRecDepth 10000 in
theorem j_Processor_push : rx_MT[131]? = some mProcessor_push := rfl
set_option maxRecDepth 10000 in
theorem j_Processor_pull : rx_MT[132]? = some mProcessor_pull := rfl
set_option maxRecDepth 10000 in
theorem j_Processor_pullTwo : rx_MT[133]? = some mProcessor_pullTwo := rfl
set_option maxRecDepth 10000 in
theorem j_Dos_openChannel : rx_MT[134]? = some mDos_openChannel := rfl
set_option maxRecDepth 10000 in
theorem j_Dos_closeChannel : rx_MT[135]? = some mDos_closeChannel := rfl
set_option maxRecDepth 10000 in
theorem j_Dos_goToEntryOf : rx_MT[136]? = some mDos_goToEntryOf := rfl
set_option maxRecDepth 10000 in
theorem j_Directory_changeToClosed : rx_MT[137]? = some mDirectory_changeToClosed := rfl
set_option maxRecDepth 10000 in
theorem j_Dos_countOpen : rx_MT[138]? = some mDos_countOpen := rfl
set_option maxRecDepth 10000 in
theorem j_Dos_openBuffer : rx_MT[139]? = some mDos_openBuffer := rfl
set_option maxRecDepth 10000 in
theorem j_Channel_begin : rx_MT[140]? = some mChannel_begin := rfl
set_option maxRecDepth 10000 in
theorem j_Dos_openList : rx_MT[141]? = some mDos_openList := rfl
set_option maxRecDepth 10000 in
theorem j_Pattern_copyFrom : rx_MT[142]? = some mPattern_copyFrom := rfl
set_option maxRecDepth 10000 in
theorem j_Dos_parseFile : rx_MT[143]? = some mDos_parseFile := rfl
set_option maxRecDepth 10000 in
theorem j_Dos_sortTold : rx_MT[144]? = some mDos_sortTold := rfl
set_option maxRecDepth 10000 in
theorem j_Dos_wayTold : rx_MT[145]? = some mDos_wayTold := rfl
set_option maxRecDepth 10000 in
theorem j_Dos_openToRead : rx_MT[146]? = some mDos_openToRead := rfl
set_option maxRecDepth 10000 in
theorem j_Channel_unfold : rx_MT[147]? = some mChannel_unfold := rfl
set_option maxRecDepth 10000 in
theorem j_Dos_openToWrite : rx_MT[148]? = some mDos_openToWrite := rfl
set_option maxRecDepth 10000 in
theorem j_Dos_findRoom : rx_MT[149]? = some mDos_findRoom := rfl
set_option maxRecDepth 10000 in
theorem j_BlockMap_pickForDirectory : rx_MT[150]? = some mBlockMap_pickForDirectory := rfl
set_option maxRecDepth 10000 in
theorem j_BlockMap_pickOf : rx_MT[151]? = some mBlockMap_pickOf := rfl
set_option maxRecDepth 10000 in
theorem j_Directory_lengthen : rx_MT[152]? = some mDirectory_lengthen := rfl
set_option maxRecDepth 10000 in
theorem j_Dos_startFile : rx_MT[153]? = some mDos_startFile := rfl
set_option maxRecDepth 10000 in
theorem j_BlockMap_pick : rx_MT[154]? = some mBlockMap_pick := rfl
set_option maxRecDepth 10000 in
theorem j_Directory_changeToNew : rx_MT[155]? = some mDirectory_changeToNew := rfl
set_option maxRecDepth 10000 in
theorem j_Channel_beginBlock : rx_MT[156]? = some mChannel_beginBlock := rfl
set_option maxRecDepth 10000 in
theorem j_Channel_keepEntry : rx_MT[157]? = some mChannel_keepEntry := rfl
set_option maxRecDepth 10000 in
theorem j_X_write : rx_MT[158]? = some mX_write := rfl
set_option maxRecDepth 10000 in
theorem j_Dos_sendBytes : rx_MT[159]? = some mDos_sendBytes := rfl
set_option maxRecDepth 10000 in
theorem j_Dos_addToFile : rx_MT[160]? = some mDos_addToFile := rfl
set_option maxRecDepth 10000 in
theorem j_BlockMap_pickBehind : rx_MT[161]? = some mBlockMap_pickBehind := rfl
set_option maxRecDepth 10000 in
theorem j_Dos_goToNextBlock : rx_MT[162]? = some mDos_goToNextBlock := rfl
set_option maxRecDepth 10000 in
theorem j_Dos_giveUpFile : rx_MT[163]? = some mDos_giveUpFile := rfl
set_option maxRecDepth 10000 in
theorem j_X_close : rx_MT[164]? = some mX_close := rfl
set_option maxRecDepth 10000 in
theorem j_Dos_closeAll : rx_MT[165]? = some mDos_closeAll := rfl
set_option maxRecDepth 10000 in
theorem j_X_read : rx_MT[166]? = some mX_read := rfl
set_option maxRecDepth 10000 in
theorem j_Status_receive : rx_MT[167]? = some mStatus_receive := rfl
set_option maxRecDepth 10000 in
theorem j_Status_replyByte : rx_MT[168]? = some mStatus_replyByte := rfl
set_option maxRecDepth 10000 in
theorem j_Status_textByte : rx_MT[169]? = some mStatus_textByte := rfl
set_option maxRecDepth 10000 in
theorem j_Status_spell : rx_MT[170]? = some mStatus_spell := rfl
set_option maxRecDepth 10000 in
theorem j_Status_addTwoDigits : rx_MT[171]? = some mStatus_addTwoDigits := rfl
set_option maxRecDepth 10000 in
theorem j_Status_add : rx_MT[172]? = some mStatus_add := rfl
set_option maxRecDepth 10000 in
theorem j_Status_words : rx_MT[173]? = some mStatus_words := rfl
set_option maxRecDepth 10000 in
theorem j_Str_length : rx_MT[174]? = some mStr_length := rfl
set_option maxRecDepth 10000 in
theorem j_Str_coder : rx_MT[175]? = some mStr_coder := rfl
set_option maxRecDepth 10000 in
theorem j_Str_charAt : rx_MT[176]? = some mStr_charAt := rfl
set_option maxRecDepth 10000 in
theorem j_Str_isLatin1 : rx_MT[177]? = some mStr_isLatin1 := rfl
set_option maxRecDepth 10000 in
theorem j_Lat_charAt : rx_MT[178]? = some mLat_charAt := rfl
set_option maxRecDepth 10000 in
theorem j_Str_checkIndex : rx_MT[179]? = some mStr_checkIndex := rfl
set_option maxRecDepth 10000 in
theorem j_Pre_checkIndex : rx_MT[180]? = some mPre_checkIndex := rfl
set_option maxRecDepth 10000 in
theorem j_U16_charAt : rx_MT[181]? = some mU16_charAt := rfl
set_option maxRecDepth 10000 in
theorem j_U16_checkIndex : rx_MT[182]? = some mU16_checkIndex := rfl
set_option maxRecDepth 10000 in
theorem j_U16_length : rx_MT[183]? = some mU16_length := rfl
set_option maxRecDepth 10000 in
theorem j_U16_getChar : rx_MT[184]? = some mU16_getChar := rfl
set_option maxRecDepth 10000 in
theorem j_Dos_receive : rx_MT[185]? = some mDos_receive := rfl
set_option maxRecDepth 10000 in
theorem j_Dos_nextByte : rx_MT[186]? = some mDos_nextByte := rfl
set_option maxRecDepth 10000 in
theorem j_Dos_makeLine : rx_MT[187]? = some mDos_makeLine := rfl
set_option maxRecDepth 10000 in
theorem j_Channel_startLine : rx_MT[188]? = some mChannel_startLine := rfl
set_option maxRecDepth 10000 in
theorem j_Dos_addTitle : rx_MT[189]? = some mDos_addTitle := rfl
set_option maxRecDepth 10000 in
theorem j_Channel_add : rx_MT[190]? = some mChannel_add := rfl
set_option maxRecDepth 10000 in
theorem j_Dos_addEntry : rx_MT[191]? = some mDos_addEntry := rfl
set_option maxRecDepth 10000 in
theorem j_Directory_count : rx_MT[192]? = some mDirectory_count := rfl
set_option maxRecDepth 10000 in
theorem j_Channel_addNumber : rx_MT[193]? = some mChannel_addNumber := rfl
set_option maxRecDepth 10000 in
theorem j_Directory_nameByte : rx_MT[194]? = some mDirectory_nameByte := rfl
set_option maxRecDepth 10000 in
theorem j_Dos_addFree : rx_MT[195]? = some mDos_addFree := rfl
set_option maxRecDepth 10000 in
theorem j_BlockMap_freeSum : rx_MT[196]? = some mBlockMap_freeSum := rfl
set_option maxRecDepth 10000 in
theorem j_Dos_readNext : rx_MT[197]? = some mDos_readNext := rfl
set_option maxRecDepth 10000 in
theorem j_X_out : rx_MT[198]? = some mX_out := rfl
set_option maxRecDepth 10000 in
theorem j_X_look : rx_MT[199]? = some mX_look := rfl
set_option maxRecDepth 10000 in
theorem j_X_bits : rx_MT[200]? = some mX_bits := rfl
set_option maxRecDepth 10000 in
theorem j_Ring_hasBit : rx_MT[201]? = some mRing_hasBit := rfl
set_option maxRecDepth 10000 in
theorem j_Ring_word : rx_MT[202]? = some mRing_word := rfl
set_option maxRecDepth 10000 in
theorem j_Ring_eight : rx_MT[203]? = some mRing_eight := rfl
set_option maxRecDepth 10000 in
theorem j_X_turn : rx_MT[204]? = some mX_turn := rfl
set_option maxRecDepth 10000 in
theorem j_Ring_flip : rx_MT[205]? = some mRing_flip := rfl
set_option maxRecDepth 10000 in
theorem j_X_protect : rx_MT[206]? = some mX_protect := rfl
set_option maxRecDepth 10000 in
theorem j_X_power : rx_MT[207]? = some mX_power := rfl
set_option maxRecDepth 10000 in
theorem j_Processor_reset : rx_MT[208]? = some mProcessor_reset := rfl
set_option maxRecDepth 10000 in
theorem j_X_memory : rx_MT[209]? = some mX_memory := rfl
set_option maxRecDepth 10000 in
theorem j_M_feed : rx_MT[210]? = some mM_feed := rfl
set_option maxRecDepth 10000 in
theorem j_M_types : rx_MT[211]? = some mM_types := rfl
set_option maxRecDepth 10000 in
theorem j_M_open : rx_MT[212]? = some mM_open := rfl
set_option maxRecDepth 10000 in
theorem j_M_sends : rx_MT[213]? = some mM_sends := rfl
set_option maxRecDepth 10000 in
theorem j_M_commands : rx_MT[214]? = some mM_commands := rfl
set_option maxRecDepth 10000 in
theorem j_M_begins : rx_MT[215]? = some mM_begins := rfl
set_option maxRecDepth 10000 in
theorem j_M_sets : rx_MT[216]? = some mM_sets := rfl
set_option maxRecDepth 10000 in
theorem j_M_fault : rx_MT[217]? = some mM_fault := rfl
set_option maxRecDepth 10000 in
theorem j_M_ends : rx_MT[218]? = some mM_ends := rfl
set_option maxRecDepth 10000 in
theorem j_M_does : rx_MT[219]? = some mM_does := rfl
set_option maxRecDepth 10000 in
theorem j_M_again : rx_MT[220]? = some mM_again := rfl
set_option maxRecDepth 10000 in
theorem j_M_takeId : rx_MT[221]? = some mM_takeId := rfl
set_option maxRecDepth 10000 in
theorem j_M_round : rx_MT[222]? = some mM_round := rfl
set_option maxRecDepth 10000 in
theorem j_M_bytesOf : rx_MT[223]? = some mM_bytesOf := rfl
set_option maxRecDepth 10000 in
theorem j_M_bitAt : rx_MT[224]? = some mM_bitAt := rfl
set_option maxRecDepth 10000 in
theorem j_M_along : rx_MT[225]? = some mM_along := rfl
set_option maxRecDepth 10000 in
theorem j_M_goes : rx_MT[226]? = some mM_goes := rfl
set_option maxRecDepth 10000 in
theorem j_M_comes : rx_MT[227]? = some mM_comes := rfl
set_option maxRecDepth 10000 in
theorem j_M_reads : rx_MT[228]? = some mM_reads := rfl
set_option maxRecDepth 10000 in
theorem j_M_group : rx_MT[229]? = some mM_group := rfl
set_option maxRecDepth 10000 in
theorem j_M_valueOf : rx_MT[230]? = some mM_valueOf := rfl
set_option maxRecDepth 10000 in
theorem j_M_groupOf : rx_MT[231]? = some mM_groupOf := rfl
set_option maxRecDepth 10000 in
theorem j_M_loads : rx_MT[232]? = some mM_loads := rfl
set_option maxRecDepth 10000 in
theorem j_M_readBlock : rx_MT[233]? = some mM_readBlock := rfl
set_option maxRecDepth 10000 in
theorem j_M_seek : rx_MT[234]? = some mM_seek := rfl
set_option maxRecDepth 10000 in
theorem j_M_header : rx_MT[235]? = some mM_header := rfl
set_option maxRecDepth 10000 in
theorem j_M_codes : rx_MT[236]? = some mM_codes := rfl
set_option maxRecDepth 10000 in
theorem j_M_gets : rx_MT[237]? = some mM_gets := rfl
set_option maxRecDepth 10000 in
theorem j_M_validates : rx_MT[238]? = some mM_validates := rfl
set_option maxRecDepth 10000 in
theorem j_M_freesAll : rx_MT[239]? = some mM_freesAll := rfl
set_option maxRecDepth 10000 in
theorem j_M_sectorsOf : rx_MT[240]? = some mM_sectorsOf := rfl
set_option maxRecDepth 10000 in
theorem j_M_takes : rx_MT[241]? = some mM_takes := rfl
set_option maxRecDepth 10000 in
theorem j_M_isLegal : rx_MT[242]? = some mM_isLegal := rfl
set_option maxRecDepth 10000 in
theorem j_M_isFree : rx_MT[243]? = some mM_isFree := rfl
set_option maxRecDepth 10000 in
theorem j_M_entries : rx_MT[244]? = some mM_entries := rfl
set_option maxRecDepth 10000 in
theorem j_M_used : rx_MT[245]? = some mM_used := rfl
set_option maxRecDepth 10000 in
theorem j_M_changesType : rx_MT[246]? = some mM_changesType := rfl
set_option maxRecDepth 10000 in
theorem j_M_writeBlock : rx_MT[247]? = some mM_writeBlock := rfl
set_option maxRecDepth 10000 in
theorem j_M_lays : rx_MT[248]? = some mM_lays := rfl
set_option maxRecDepth 10000 in
theorem j_M_setBit : rx_MT[249]? = some mM_setBit := rfl
set_option maxRecDepth 10000 in
theorem j_M_data : rx_MT[250]? = some mM_data := rfl
set_option maxRecDepth 10000 in
theorem j_M_uses : rx_MT[251]? = some mM_uses := rfl
set_option maxRecDepth 10000 in
theorem j_M_stores : rx_MT[252]? = some mM_stores := rfl
set_option maxRecDepth 10000 in
theorem j_M_shutsAll : rx_MT[253]? = some mM_shutsAll := rfl
set_option maxRecDepth 10000 in
theorem j_M_news : rx_MT[254]? = some mM_news := rfl
set_option maxRecDepth 10000 in
theorem j_M_isWild : rx_MT[255]? = some mM_isWild := rfl
set_option maxRecDepth 10000 in
theorem j_M_format : rx_MT[256]? = some mM_format := rfl
set_option maxRecDepth 10000 in
theorem j_M_maps : rx_MT[257]? = some mM_maps := rfl
set_option maxRecDepth 10000 in
theorem j_M_scratch : rx_MT[258]? = some mM_scratch := rfl
set_option maxRecDepth 10000 in
theorem j_M_finds : rx_MT[259]? = some mM_finds := rfl
set_option maxRecDepth 10000 in
theorem j_M_fits : rx_MT[260]? = some mM_fits := rfl
set_option maxRecDepth 10000 in
theorem j_M_same : rx_MT[261]? = some mM_same := rfl
set_option maxRecDepth 10000 in
theorem j_M_scratches : rx_MT[262]? = some mM_scratches := rfl
set_option maxRecDepth 10000 in
theorem j_M_freesChain : rx_MT[263]? = some mM_freesChain := rfl
set_option maxRecDepth 10000 in
theorem j_M_givesBack : rx_MT[264]? = some mM_givesBack := rfl
set_option maxRecDepth 10000 in
theorem j_M_renames : rx_MT[265]? = some mM_renames := rfl
set_option maxRecDepth 10000 in
theorem j_M_blockOf : rx_MT[266]? = some mM_blockOf := rfl
set_option maxRecDepth 10000 in
theorem j_M_numbers : rx_MT[267]? = some mM_numbers := rfl
set_option maxRecDepth 10000 in
theorem j_M_numberNext : rx_MT[268]? = some mM_numberNext := rfl
set_option maxRecDepth 10000 in
theorem j_M_isDigit : rx_MT[269]? = some mM_isDigit := rfl
set_option maxRecDepth 10000 in
theorem j_M_begins3 : rx_MT[270]? = some mM_begins3 := rfl
set_option maxRecDepth 10000 in
theorem j_M_pointer : rx_MT[271]? = some mM_pointer := rfl
set_option maxRecDepth 10000 in
theorem j_M_allocates : rx_MT[272]? = some mM_allocates := rfl
set_option maxRecDepth 10000 in
theorem j_M_frees : rx_MT[273]? = some mM_frees := rfl
set_option maxRecDepth 10000 in
theorem j_M_memories : rx_MT[274]? = some mM_memories := rfl
set_option maxRecDepth 10000 in
theorem j_M_put : rx_MT[275]? = some mM_put := rfl
set_option maxRecDepth 10000 in
theorem j_M_get : rx_MT[276]? = some mM_get := rfl
set_option maxRecDepth 10000 in
theorem j_M_runs : rx_MT[277]? = some mM_runs := rfl
set_option maxRecDepth 10000 in
theorem j_M_step : rx_MT[278]? = some mM_step := rfl
set_option maxRecDepth 10000 in
theorem j_M_works : rx_MT[279]? = some mM_works := rfl
set_option maxRecDepth 10000 in
theorem j_M_howOf : rx_MT[280]? = some mM_howOf := rfl
set_option maxRecDepth 10000 in
theorem j_M_address : rx_MT[281]? = some mM_address := rfl
set_option maxRecDepth 10000 in
theorem j_M_byteNext : rx_MT[282]? = some mM_byteNext := rfl
set_option maxRecDepth 10000 in
theorem j_M_wordNext : rx_MT[283]? = some mM_wordNext := rfl
set_option maxRecDepth 10000 in
theorem j_M_storeTime : rx_MT[284]? = some mM_storeTime := rfl
set_option maxRecDepth 10000 in
theorem j_M_readTime : rx_MT[285]? = some mM_readTime := rfl
set_option maxRecDepth 10000 in
theorem j_M_marks : rx_MT[286]? = some mM_marks := rfl
set_option maxRecDepth 10000 in
theorem j_M_flag : rx_MT[287]? = some mM_flag := rfl
set_option maxRecDepth 10000 in
theorem j_M_adds : rx_MT[288]? = some mM_adds := rfl
set_option maxRecDepth 10000 in
theorem j_M_is : rx_MT[289]? = some mM_is := rfl
set_option maxRecDepth 10000 in
theorem j_M_compares : rx_MT[290]? = some mM_compares := rfl
set_option maxRecDepth 10000 in
theorem j_M_takesOff : rx_MT[291]? = some mM_takesOff := rfl
set_option maxRecDepth 10000 in
theorem j_M_twos : rx_MT[292]? = some mM_twos := rfl
set_option maxRecDepth 10000 in
theorem j_M_shifted : rx_MT[293]? = some mM_shifted := rfl
set_option maxRecDepth 10000 in
theorem j_M_takes2 : rx_MT[294]? = some mM_takes2 := rfl
set_option maxRecDepth 10000 in
theorem j_M_changes : rx_MT[295]? = some mM_changes := rfl
set_option maxRecDepth 10000 in
theorem j_M_keeps : rx_MT[296]? = some mM_keeps := rfl
set_option maxRecDepth 10000 in
theorem j_M_fetches : rx_MT[297]? = some mM_fetches := rfl
set_option maxRecDepth 10000 in
theorem j_M_zeros : rx_MT[298]? = some mM_zeros := rfl
set_option maxRecDepth 10000 in
theorem j_M_branch : rx_MT[299]? = some mM_branch := rfl
set_option maxRecDepth 10000 in
theorem j_M_tests : rx_MT[300]? = some mM_tests := rfl
set_option maxRecDepth 10000 in
theorem j_M_compared : rx_MT[301]? = some mM_compared := rfl
set_option maxRecDepth 10000 in
theorem j_M_push : rx_MT[302]? = some mM_push := rfl
set_option maxRecDepth 10000 in
theorem j_M_pull : rx_MT[303]? = some mM_pull := rfl
set_option maxRecDepth 10000 in
theorem j_M_jumps : rx_MT[304]? = some mM_jumps := rfl
set_option maxRecDepth 10000 in
theorem j_M_opens : rx_MT[305]? = some mM_opens := rfl
set_option maxRecDepth 10000 in
theorem j_M_shuts : rx_MT[306]? = some mM_shuts := rfl
set_option maxRecDepth 10000 in
theorem j_M_openMany : rx_MT[307]? = some mM_openMany := rfl
set_option maxRecDepth 10000 in
theorem j_M_opensList : rx_MT[308]? = some mM_opensList := rfl
set_option maxRecDepth 10000 in
theorem j_M_opensFile : rx_MT[309]? = some mM_opensFile := rfl
set_option maxRecDepth 10000 in
theorem j_M_opensNew : rx_MT[310]? = some mM_opensNew := rfl
set_option maxRecDepth 10000 in
theorem j_M_makesEntry : rx_MT[311]? = some mM_makesEntry := rfl
set_option maxRecDepth 10000 in
theorem j_M_lowest : rx_MT[312]? = some mM_lowest := rfl
set_option maxRecDepth 10000 in
theorem j_M_takesOne : rx_MT[313]? = some mM_takesOne := rfl
set_option maxRecDepth 10000 in
theorem j_M_trackOf : rx_MT[314]? = some mM_trackOf := rfl
set_option maxRecDepth 10000 in
theorem j_M_clears : rx_MT[315]? = some mM_clears := rfl
set_option maxRecDepth 10000 in
theorem j_M_opensOld : rx_MT[316]? = some mM_opensOld := rfl
set_option maxRecDepth 10000 in
theorem j_M_begun : rx_MT[317]? = some mM_begun := rfl
set_option maxRecDepth 10000 in
theorem j_M_close : rx_MT[318]? = some mM_close := rfl
set_option maxRecDepth 10000 in
theorem j_M_read : rx_MT[319]? = some mM_read := rfl
set_option maxRecDepth 10000 in
theorem j_M_givesMore : rx_MT[320]? = some mM_givesMore := rfl
set_option maxRecDepth 10000 in
theorem j_M_gives : rx_MT[321]? = some mM_gives := rfl
set_option maxRecDepth 10000 in
theorem j_M_givesStatus : rx_MT[322]? = some mM_givesStatus := rfl
set_option maxRecDepth 10000 in
theorem j_M_saysTwo : rx_MT[323]? = some mM_saysTwo := rfl
set_option maxRecDepth 10000 in
theorem j_M_says : rx_MT[324]? = some mM_says := rfl
set_option maxRecDepth 10000 in
theorem j_M_saysWords : rx_MT[325]? = some mM_saysWords := rfl
set_option maxRecDepth 10000 in
theorem j_M_says8 : rx_MT[326]? = some mM_says8 := rfl
set_option maxRecDepth 10000 in
theorem j_M_readsFile : rx_MT[327]? = some mM_readsFile := rfl
set_option maxRecDepth 10000 in
theorem j_M_readsList : rx_MT[328]? = some mM_readsList := rfl
set_option maxRecDepth 10000 in
theorem j_M_title : rx_MT[329]? = some mM_title := rfl
set_option maxRecDepth 10000 in
theorem j_M_next : rx_MT[330]? = some mM_next := rfl
set_option maxRecDepth 10000 in
theorem j_M_entryLine : rx_MT[331]? = some mM_entryLine := rfl
set_option maxRecDepth 10000 in
theorem j_M_saysNumber : rx_MT[332]? = some mM_saysNumber := rfl
set_option maxRecDepth 10000 in
theorem j_M_total : rx_MT[333]? = some mM_total := rfl
set_option maxRecDepth 10000 in
theorem j_M_readsBuffer : rx_MT[334]? = some mM_readsBuffer := rfl
set_option maxRecDepth 10000 in
theorem j_M_out : rx_MT[335]? = some mM_out := rfl
set_option maxRecDepth 10000 in
theorem j_M_write : rx_MT[336]? = some mM_write := rfl
set_option maxRecDepth 10000 in
theorem j_M_writesByte : rx_MT[337]? = some mM_writesByte := rfl
set_option maxRecDepth 10000 in
theorem j_M_goesOn : rx_MT[338]? = some mM_goesOn := rfl
set_option maxRecDepth 10000 in
theorem j_M_takesNext : rx_MT[339]? = some mM_takesNext := rfl
set_option maxRecDepth 10000 in
theorem j_M_isFull : rx_MT[340]? = some mM_isFull := rfl
set_option maxRecDepth 10000 in
theorem j_M_look : rx_MT[341]? = some mM_look := rfl
set_option maxRecDepth 10000 in
theorem j_M_bits : rx_MT[342]? = some mM_bits := rfl
set_option maxRecDepth 10000 in
theorem j_M_isBit : rx_MT[343]? = some mM_isBit := rfl
set_option maxRecDepth 10000 in
theorem j_M_turn : rx_MT[344]? = some mM_turn := rfl
set_option maxRecDepth 10000 in
theorem j_M_protect : rx_MT[345]? = some mM_protect := rfl
set_option maxRecDepth 10000 in
theorem j_M_memory : rx_MT[346]? = some mM_memory := rfl
set_option maxRecDepth 10000 in
theorem j_M_power : rx_MT[347]? = some mM_power := rfl
set_option maxRecDepth 10000 in
theorem j_M_init : rx_MT[348]? = some mM_init := rfl
theorem w_0_19 : rx_who 0 (.invokevirtual 19) 3 = some mDisk_readBlock := rx_whoV (j := 70) (pos := 4056) (by decide +kernel) j_Disk_readBlock rfl
theorem w_0_23 : rx_who 0 (.invokevirtual 23) 3 = some mDisk_writeBlock := rx_whoV (j := 59) (pos := 3204) (by decide +kernel) j_Disk_writeBlock rfl
theorem w_0_26 : rx_who 0 (.invokestatic 26) 3 = some mArr_fill := rx_whoS (j := 52) (pos := 3179) (by decide +kernel) j_Arr_fill rfl
theorem w_0_32 : rx_who 0 (.invokevirtual 32) 3 = some mBlockMap_freeAll := rx_whoV (j := 53) (pos := 3182) (by decide +kernel) j_BlockMap_freeAll rfl
theorem w_0_35 : rx_who 0 (.invokevirtual 35) 3 = some mBlockMap_takeBlock := rx_whoV (j := 55) (pos := 3189) (by decide +kernel) j_BlockMap_takeBlock rfl
theorem w_0_39 : rx_who 0 (.invokevirtual 39) 3 = some mPattern_putInto := rx_whoV (j := 57) (pos := 3196) (by decide +kernel) j_Pattern_putInto rfl
theorem w_0_51 : rx_who 0 (.invokestatic 51) 3 = some mDisk_sectorsOf := rx_whoS (j := 54) (pos := 3186) (by decide +kernel) j_Disk_sectorsOf rfl
theorem w_0_58 : rx_who 0 (.invokestatic 58) 3 = some mDisk_isLegal := rx_whoS (j := 56) (pos := 3193) (by decide +kernel) j_Disk_isLegal rfl
theorem w_0_62 : rx_who 0 (.invokevirtual 62) 3 = some mBlockMap_pickOf := rx_whoV (j := 151) (pos := 5150) (by decide +kernel) j_BlockMap_pickOf rfl
theorem w_0_65 : rx_who 0 (.invokevirtual 65) 3 = some mBlockMap_pick := rx_whoV (j := 154) (pos := 5198) (by decide +kernel) j_BlockMap_pick rfl
theorem w_0_69 : rx_who 0 (.invokevirtual 69) 3 = some mBlockMap_isFree := rx_whoV (j := 93) (pos := 5154) (by decide +kernel) j_BlockMap_isFree rfl
theorem w_1_21 : rx_who 1 (.invokespecial 21) 3 = some mPattern_init := rx_whoI (j := 7) (pos := 2074) (n := true) (by decide +kernel) j_Pattern_init rfl
theorem w_1_26 : rx_who 1 (.invokestatic 26) 3 = some mArr_fill := rx_whoS (j := 52) (pos := 5094) (by decide +kernel) j_Arr_fill rfl
theorem w_1_77 : rx_who 1 (.invokevirtual 77) 3 = some mChannel_add := rx_whoV (j := 190) (pos := 6112) (by decide +kernel) j_Channel_add rfl
theorem w_2_11 : rx_who 2 (.invokespecial 11) 3 = some mPattern_init := rx_whoI (j := 7) (pos := 2190) (n := true) (by decide +kernel) j_Pattern_init rfl
theorem w_2_59 : rx_who 2 (.invokevirtual 59) 3 = some mPattern_fitAll := rx_whoV (j := 12) (pos := 2191) (by decide +kernel) j_Pattern_fitAll rfl
theorem w_2_68 : rx_who 2 (.invokevirtual 68) 3 = some mStatus_begin := rx_whoV (j := 21) (pos := 3045) (by decide +kernel) j_Status_begin rfl
theorem w_2_73 : rx_who 2 (.invokevirtual 73) 3 = some mStatus_set := rx_whoV (j := 22) (pos := 3053) (by decide +kernel) j_Status_set rfl
theorem w_2_77 : rx_who 2 (.invokevirtual 77) 3 = some mTape_byteAt := rx_whoV (j := 23) (pos := 3054) (by decide +kernel) j_Tape_byteAt rfl
theorem w_2_81 : rx_who 2 (.invokevirtual 81) 3 = some mCommands_newDisk := rx_whoV (j := 24) (pos := 3058) (by decide +kernel) j_Commands_newDisk rfl
theorem w_2_85 : rx_who 2 (.invokevirtual 85) 3 = some mCommands_scratch := rx_whoV (j := 66) (pos := 3235) (by decide +kernel) j_Commands_scratch rfl
theorem w_2_88 : rx_who 2 (.invokevirtual 88) 3 = some mCommands_rename := rx_whoV (j := 85) (pos := 4081) (by decide +kernel) j_Commands_rename rfl
theorem w_2_91 : rx_who 2 (.invokevirtual 91) 3 = some mCommands_initialise := rx_whoV (j := 87) (pos := 4090) (by decide +kernel) j_Commands_initialise rfl
theorem w_2_94 : rx_who 2 (.invokevirtual 94) 3 = some mCommands_unknown := rx_whoV (j := 88) (pos := 4095) (by decide +kernel) j_Commands_unknown rfl
theorem w_2_97 : rx_who 2 (.invokevirtual 97) 3 = some mCommands_validate := rx_whoV (j := 89) (pos := 4099) (by decide +kernel) j_Commands_validate rfl
theorem w_2_100 : rx_who 2 (.invokevirtual 100) 3 = some mCommands_user := rx_whoV (j := 94) (pos := 4126) (by decide +kernel) j_Commands_user rfl
theorem w_2_103 : rx_who 2 (.invokevirtual 103) 3 = some mCommands_block := rx_whoV (j := 101) (pos := 4157) (by decide +kernel) j_Commands_block rfl
theorem w_2_106 : rx_who 2 (.invokevirtual 106) 3 = some mCommands_program := rx_whoV (j := 105) (pos := 4175) (by decide +kernel) j_Commands_program rfl
theorem w_2_109 : rx_who 2 (.invokevirtual 109) 3 = some mTape_find := rx_whoV (j := 25) (pos := 3062) (by decide +kernel) j_Tape_find rfl
theorem w_2_113 : rx_who 2 (.invokevirtual 113) 3 = some mPattern_take := rx_whoV (j := 26) (pos := 3067) (by decide +kernel) j_Pattern_take rfl
theorem w_2_117 : rx_who 2 (.invokevirtual 117) 3 = some mPattern_isEmpty := rx_whoV (j := 27) (pos := 3073) (by decide +kernel) j_Pattern_isEmpty rfl
theorem w_2_121 : rx_who 2 (.invokevirtual 121) 3 = some mPattern_isWild := rx_whoV (j := 28) (pos := 3077) (by decide +kernel) j_Pattern_isWild rfl
theorem w_2_124 : rx_who 2 (.invokevirtual 124) 3 = some mCommands_formatAll := rx_whoV (j := 29) (pos := 3081) (by decide +kernel) j_Commands_formatAll rfl
theorem w_2_127 : rx_who 2 (.invokevirtual 127) 3 = some mDisk_hasId := rx_whoV (j := 42) (pos := 3136) (by decide +kernel) j_Disk_hasId rfl
theorem w_2_132 : rx_who 2 (.invokevirtual 132) 3 = some mDisk_takeId := rx_whoV (j := 43) (pos := 3140) (by decide +kernel) j_Disk_takeId rfl
theorem w_2_135 : rx_who 2 (.invokevirtual 135) 3 = some mBlockMap_begin := rx_whoV (j := 51) (pos := 3175) (by decide +kernel) j_BlockMap_begin rfl
theorem w_2_140 : rx_who 2 (.invokevirtual 140) 3 = some mBlockMap_store := rx_whoV (j := 58) (pos := 3200) (by decide +kernel) j_BlockMap_store rfl
theorem w_2_143 : rx_who 2 (.invokevirtual 143) 3 = some mDirectory_writeEmpty := rx_whoV (j := 65) (pos := 3229) (by decide +kernel) j_Directory_writeEmpty rfl
theorem w_2_148 : rx_who 2 (.invokevirtual 148) 3 = some mDos_dropAll := rx_whoV (j := 30) (pos := 3085) (by decide +kernel) j_Dos_dropAll rfl
theorem w_2_151 : rx_who 2 (.invokevirtual 151) 3 = some mDisk_format := rx_whoV (j := 31) (pos := 3089) (by decide +kernel) j_Disk_format rfl
theorem w_2_154 : rx_who 2 (.invokevirtual 154) 3 = some mDisk_setId := rx_whoV (j := 41) (pos := 3132) (by decide +kernel) j_Disk_setId rfl
theorem w_2_158 : rx_who 2 (.invokevirtual 158) 3 = some mDirectory_rewind := rx_whoV (j := 67) (pos := 3239) (by decide +kernel) j_Directory_rewind rfl
theorem w_2_161 : rx_who 2 (.invokevirtual 161) 3 = some mDirectory_find := rx_whoV (j := 69) (pos := 4007) (by decide +kernel) j_Directory_find rfl
theorem w_2_168 : rx_who 2 (.invokevirtual 168) 3 = some mDos_scratchFound := rx_whoV (j := 78) (pos := 4048) (by decide +kernel) j_Dos_scratchFound rfl
theorem w_2_171 : rx_who 2 (.invokevirtual 171) 3 = some mDirectory_changeName := rx_whoV (j := 86) (pos := 4085) (by decide +kernel) j_Directory_changeName rfl
theorem w_2_174 : rx_who 2 (.invokevirtual 174) 3 = some mBlockMap_load := rx_whoV (j := 79) (pos := 4094) (by decide +kernel) j_BlockMap_load rfl
theorem w_2_177 : rx_who 2 (.invokevirtual 177) 3 = some mBlockMap_freeAll := rx_whoV (j := 53) (pos := 4103) (by decide +kernel) j_BlockMap_freeAll rfl
theorem w_2_180 : rx_who 2 (.invokevirtual 180) 3 = some mBlockMap_takeBlock := rx_whoV (j := 55) (pos := 4104) (by decide +kernel) j_BlockMap_takeBlock rfl
theorem w_2_183 : rx_who 2 (.invokevirtual 183) 3 = some mCommands_takeDirectory := rx_whoV (j := 90) (pos := 4105) (by decide +kernel) j_Commands_takeDirectory rfl
theorem w_2_186 : rx_who 2 (.invokevirtual 186) 3 = some mDirectory_isClosed := rx_whoV (j := 91) (pos := 4111) (by decide +kernel) j_Directory_isClosed rfl
theorem w_2_189 : rx_who 2 (.invokevirtual 189) 3 = some mDirectory_firstTrack := rx_whoV (j := 80) (pos := 4115) (by decide +kernel) j_Directory_firstTrack rfl
theorem w_2_192 : rx_who 2 (.invokevirtual 192) 3 = some mDirectory_firstSector := rx_whoV (j := 81) (pos := 4116) (by decide +kernel) j_Directory_firstSector rfl
theorem w_2_195 : rx_who 2 (.invokevirtual 195) 3 = some mCommands_takeChain := rx_whoV (j := 92) (pos := 4117) (by decide +kernel) j_Commands_takeChain rfl
theorem w_2_198 : rx_who 2 (.invokevirtual 198) 3 = some mDirectory_changeType := rx_whoV (j := 84) (pos := 4125) (by decide +kernel) j_Directory_changeType rfl
theorem w_2_201 : rx_who 2 (.invokestatic 201) 3 = some mDisk_isLegal := rx_whoS (j := 56) (pos := 4109) (by decide +kernel) j_Disk_isLegal rfl
theorem w_2_209 : rx_who 2 (.invokevirtual 209) 3 = some mDisk_readBlock := rx_whoV (j := 70) (pos := 4110) (by decide +kernel) j_Disk_readBlock rfl
theorem w_2_213 : rx_who 2 (.invokevirtual 213) 3 = some mBlockMap_isFree := rx_whoV (j := 93) (pos := 4121) (by decide +kernel) j_BlockMap_isFree rfl
theorem w_2_216 : rx_who 2 (.invokevirtual 216) 3 = some mCommands_moveBlock := rx_whoV (j := 95) (pos := 4130) (by decide +kernel) j_Commands_moveBlock rfl
theorem w_2_220 : rx_who 2 (.invokevirtual 220) 3 = some mCommands_restart := rx_whoV (j := 100) (pos := 4152) (by decide +kernel) j_Commands_restart rfl
theorem w_2_223 : rx_who 2 (.invokevirtual 223) 3 = some mDisk_dropId := rx_whoV (j := 44) (pos := 4156) (by decide +kernel) j_Disk_dropId rfl
theorem w_2_226 : rx_who 2 (.invokevirtual 226) 3 = some mTape_startNumbers := rx_whoV (j := 96) (pos := 4134) (by decide +kernel) j_Tape_startNumbers rfl
theorem w_2_229 : rx_who 2 (.invokevirtual 229) 3 = some mTape_nextNumber := rx_whoV (j := 97) (pos := 4139) (by decide +kernel) j_Tape_nextNumber rfl
theorem w_2_232 : rx_who 2 (.invokevirtual 232) 3 = some mDos_buffer := rx_whoV (j := 99) (pos := 4147) (by decide +kernel) j_Dos_buffer rfl
theorem w_2_239 : rx_who 2 (.invokevirtual 239) 3 = some mDisk_writeBlock := rx_whoV (j := 59) (pos := 4151) (by decide +kernel) j_Disk_writeBlock rfl
theorem w_2_245 : rx_who 2 (.invokevirtual 245) 3 = some mCommands_setPlace := rx_whoV (j := 102) (pos := 4161) (by decide +kernel) j_Commands_setPlace rfl
theorem w_2_248 : rx_who 2 (.invokevirtual 248) 3 = some mCommands_allocate := rx_whoV (j := 103) (pos := 4165) (by decide +kernel) j_Commands_allocate rfl
theorem w_2_251 : rx_who 2 (.invokevirtual 251) 3 = some mCommands_tellNextFree := rx_whoV (j := 104) (pos := 4169) (by decide +kernel) j_Commands_tellNextFree rfl
theorem w_2_254 : rx_who 2 (.invokevirtual 254) 3 = some mBlockMap_giveBack := rx_whoV (j := 83) (pos := 4174) (by decide +kernel) j_BlockMap_giveBack rfl
theorem w_2_257 : rx_who 2 (.invokestatic 257) 3 = some mDisk_sectorsOf := rx_whoS (j := 54) (pos := 4173) (by decide +kernel) j_Disk_sectorsOf rfl
theorem w_2_260 : rx_who 2 (.invokevirtual 260) 3 = some mCommands_argument := rx_whoV (j := 106) (pos := 4179) (by decide +kernel) j_Commands_argument rfl
theorem w_2_263 : rx_who 2 (.invokevirtual 263) 3 = some mProcessor_set := rx_whoV (j := 107) (pos := 4184) (by decide +kernel) j_Processor_set rfl
theorem w_2_267 : rx_who 2 (.invokevirtual 267) 3 = some mProcessor_get := rx_whoV (j := 108) (pos := 4188) (by decide +kernel) j_Processor_get rfl
theorem w_2_270 : rx_who 2 (.invokevirtual 270) 3 = some mStatus_addReply := rx_whoV (j := 109) (pos := 4192) (by decide +kernel) j_Status_addReply rfl
theorem w_2_274 : rx_who 2 (.invokevirtual 274) 3 = some mProcessor_run := rx_whoV (j := 110) (pos := 4196) (by decide +kernel) j_Processor_run rfl
theorem w_3_23 : rx_who 3 (.invokevirtual 23) 3 = some mDirectory_goTo := rx_whoV (j := 68) (pos := 4003) (by decide +kernel) j_Directory_goTo rfl
theorem w_3_47 : rx_who 3 (.invokevirtual 47) 3 = some mDisk_readBlock := rx_whoV (j := 70) (pos := 4011) (by decide +kernel) j_Disk_readBlock rfl
theorem w_3_51 : rx_who 3 (.invokevirtual 51) 3 = some mDirectory_isWanted := rx_whoV (j := 72) (pos := 4022) (by decide +kernel) j_Directory_isWanted rfl
theorem w_3_55 : rx_who 3 (.invokevirtual 55) 3 = some mDirectory_isLast := rx_whoV (j := 76) (pos := 4038) (by decide +kernel) j_Directory_isLast rfl
theorem w_3_59 : rx_who 3 (.invokestatic 59) 3 = some mDisk_isLegal := rx_whoS (j := 56) (pos := 4046) (by decide +kernel) j_Disk_isLegal rfl
theorem w_3_63 : rx_who 3 (.invokevirtual 63) 3 = some mStatus_set := rx_whoV (j := 22) (pos := 4047) (by decide +kernel) j_Status_set rfl
theorem w_3_69 : rx_who 3 (.invokevirtual 69) 3 = some mDirectory_isFull := rx_whoV (j := 77) (pos := 4042) (by decide +kernel) j_Directory_isFull rfl
theorem w_3_72 : rx_who 3 (.invokevirtual 72) 3 = some mDirectory_type := rx_whoV (j := 73) (pos := 4026) (by decide +kernel) j_Directory_type rfl
theorem w_3_76 : rx_who 3 (.invokevirtual 76) 3 = some mDirectory_base := rx_whoV (j := 74) (pos := 4030) (by decide +kernel) j_Directory_base rfl
theorem w_3_79 : rx_who 3 (.invokevirtual 79) 3 = some mPattern_fits := rx_whoV (j := 75) (pos := 4034) (by decide +kernel) j_Pattern_fits rfl
theorem w_3_85 : rx_who 3 (.invokevirtual 85) 3 = some mDisk_writeBlock := rx_whoV (j := 59) (pos := 3234) (by decide +kernel) j_Disk_writeBlock rfl
theorem w_3_88 : rx_who 3 (.invokevirtual 88) 3 = some mPattern_putInto := rx_whoV (j := 57) (pos := 4089) (by decide +kernel) j_Pattern_putInto rfl
theorem w_3_96 : rx_who 3 (.invokestatic 96) 3 = some mArr_fill := rx_whoS (j := 52) (pos := 3233) (by decide +kernel) j_Arr_fill rfl
theorem w_4_50 : rx_who 4 (.invokespecial 50) 3 = some mRing_init := rx_whoI (j := 4) (pos := 1109) (n := false) (by decide +kernel) j_Ring_init rfl
theorem w_4_53 : rx_who 4 (.invokevirtual 53) 3 = some mDisk_dropId := rx_whoV (j := 44) (pos := 3144) (by decide +kernel) j_Disk_dropId rfl
theorem w_4_56 : rx_who 4 (.invokevirtual 56) 3 = some mRing_onesAhead := rx_whoV (j := 45) (pos := 3148) (by decide +kernel) j_Ring_onesAhead rfl
theorem w_4_60 : rx_who 4 (.invokevirtual 60) 3 = some mRing_startRound := rx_whoV (j := 46) (pos := 3152) (by decide +kernel) j_Ring_startRound rfl
theorem w_4_64 : rx_who 4 (.invokevirtual 64) 3 = some mRing_nextFirst := rx_whoV (j := 47) (pos := 3156) (by decide +kernel) j_Ring_nextFirst rfl
theorem w_4_68 : rx_who 4 (.invokevirtual 68) 3 = some mDisk_hasId := rx_whoV (j := 42) (pos := 3160) (by decide +kernel) j_Disk_hasId rfl
theorem w_4_72 : rx_who 4 (.invokevirtual 72) 3 = some mRing_goTo := rx_whoV (j := 33) (pos := 3098) (by decide +kernel) j_Ring_goTo rfl
theorem w_4_75 : rx_who 4 (.invokevirtual 75) 3 = some mRing_next := rx_whoV (j := 48) (pos := 3161) (by decide +kernel) j_Ring_next rfl
theorem w_4_78 : rx_who 4 (.invokestatic 78) 3 = some mDisk_decode := rx_whoS (j := 49) (pos := 3165) (by decide +kernel) j_Disk_decode rfl
theorem w_4_82 : rx_who 4 (.invokevirtual 82) 3 = some mDisk_isHeader := rx_whoV (j := 50) (pos := 3170) (by decide +kernel) j_Disk_isHeader rfl
theorem w_4_85 : rx_who 4 (.invokevirtual 85) 3 = some mDisk_setId := rx_whoV (j := 41) (pos := 3174) (by decide +kernel) j_Disk_setId rfl
theorem w_4_88 : rx_who 4 (.invokevirtual 88) 3 = some mStatus_set := rx_whoV (j := 22) (pos := 3097) (by decide +kernel) j_Status_set rfl
theorem w_4_94 : rx_who 4 (.invokevirtual 94) 3 = some mDisk_ring := rx_whoV (j := 32) (pos := 3093) (by decide +kernel) j_Disk_ring rfl
theorem w_4_98 : rx_who 4 (.invokevirtual 98) 3 = some mDisk_takeId := rx_whoV (j := 43) (pos := 3208) (by decide +kernel) j_Disk_takeId rfl
theorem w_4_104 : rx_who 4 (.invokevirtual 104) 3 = some mDisk_seek := rx_whoV (j := 60) (pos := 3209) (by decide +kernel) j_Disk_seek rfl
theorem w_4_108 : rx_who 4 (.invokevirtual 108) 3 = some mRing_gatherFromFirst := rx_whoV (j := 63) (pos := 3222) (by decide +kernel) j_Ring_gatherFromFirst rfl
theorem w_4_112 : rx_who 4 (.invokevirtual 112) 3 = some mDisk_dataFault := rx_whoV (j := 71) (pos := 4015) (by decide +kernel) j_Disk_dataFault rfl
theorem w_4_125 : rx_who 4 (.invokevirtual 125) 3 = some mDisk_codeData := rx_whoV (j := 34) (pos := 3102) (by decide +kernel) j_Disk_codeData rfl
theorem w_4_128 : rx_who 4 (.invokevirtual 128) 3 = some mRing_skip := rx_whoV (j := 62) (pos := 3217) (by decide +kernel) j_Ring_skip rfl
theorem w_4_131 : rx_who 4 (.invokevirtual 131) 3 = some mRing_putMarked := rx_whoV (j := 37) (pos := 3115) (by decide +kernel) j_Ring_putMarked rfl
theorem w_4_134 : rx_who 4 (.invokestatic 134) 3 = some mDisk_areSame := rx_whoS (j := 64) (pos := 3226) (by decide +kernel) j_Disk_areSame rfl
theorem w_4_140 : rx_who 4 (.invokevirtual 140) 3 = some mDisk_fillHeader := rx_whoV (j := 36) (pos := 3111) (by decide +kernel) j_Disk_fillHeader rfl
theorem w_4_144 : rx_who 4 (.invokestatic 144) 3 = some mDisk_encode := rx_whoS (j := 35) (pos := 3106) (by decide +kernel) j_Disk_encode rfl
theorem w_4_148 : rx_who 4 (.invokevirtual 148) 3 = some mRing_putGap := rx_whoV (j := 39) (pos := 3123) (by decide +kernel) j_Ring_putGap rfl
theorem w_4_151 : rx_who 4 (.invokevirtual 151) 3 = some mRing_putGapToEnd := rx_whoV (j := 40) (pos := 3127) (by decide +kernel) j_Ring_putGapToEnd rfl
theorem w_4_157 : rx_who 4 (.invokevirtual 157) 3 = some mRing_holds := rx_whoV (j := 61) (pos := 3213) (by decide +kernel) j_Ring_holds rfl
theorem w_5_25 : rx_who 5 (.invokespecial 25) 3 = some mPattern_init := rx_whoI (j := 7) (pos := 1233) (n := true) (by decide +kernel) j_Pattern_init rfl
theorem w_5_44 : rx_who 5 (.invokespecial 44) 3 = some mBlockMap_init := rx_whoI (j := 8) (pos := 2006) (n := false) (by decide +kernel) j_BlockMap_init rfl
theorem w_5_53 : rx_who 5 (.invokespecial 53) 3 = some mDirectory_init := rx_whoI (j := 9) (pos := 2030) (n := false) (by decide +kernel) j_Directory_init rfl
theorem w_5_60 : rx_who 5 (.invokespecial 60) 3 = some mChannel_init := rx_whoI (j := 10) (pos := 2069) (n := true) (by decide +kernel) j_Channel_init rfl
theorem w_5_65 : rx_who 5 (.invokevirtual 65) 3 = some mDos_closeChannel := rx_whoV (j := 135) (pos := 5067) (by decide +kernel) j_Dos_closeChannel rfl
theorem w_5_69 : rx_who 5 (.invokevirtual 69) 3 = some mDos_dropAll := rx_whoV (j := 30) (pos := 5215) (by decide +kernel) j_Dos_dropAll rfl
theorem w_5_82 : rx_who 5 (.invokevirtual 82) 3 = some mDisk_writeBlock := rx_whoV (j := 59) (pos := 5071) (by decide +kernel) j_Disk_writeBlock rfl
theorem w_5_86 : rx_who 5 (.invokevirtual 86) 3 = some mDos_goToEntryOf := rx_whoV (j := 136) (pos := 5072) (by decide +kernel) j_Dos_goToEntryOf rfl
theorem w_5_93 : rx_who 5 (.invokevirtual 93) 3 = some mDirectory_changeToClosed := rx_whoV (j := 137) (pos := 5077) (by decide +kernel) j_Directory_changeToClosed rfl
theorem w_5_108 : rx_who 5 (.invokevirtual 108) 3 = some mDirectory_goTo := rx_whoV (j := 68) (pos := 5076) (by decide +kernel) j_Directory_goTo rfl
theorem w_5_112 : rx_who 5 (.invokevirtual 112) 3 = some mDos_countOpen := rx_whoV (j := 138) (pos := 5081) (by decide +kernel) j_Dos_countOpen rfl
theorem w_5_116 : rx_who 5 (.invokevirtual 116) 3 = some mStatus_set := rx_whoV (j := 22) (pos := 4070) (by decide +kernel) j_Status_set rfl
theorem w_5_122 : rx_who 5 (.invokevirtual 122) 3 = some mTape_byteAt := rx_whoV (j := 23) (pos := 5085) (by decide +kernel) j_Tape_byteAt rfl
theorem w_5_127 : rx_who 5 (.invokevirtual 127) 3 = some mDos_openBuffer := rx_whoV (j := 139) (pos := 5086) (by decide +kernel) j_Dos_openBuffer rfl
theorem w_5_131 : rx_who 5 (.invokevirtual 131) 3 = some mDos_openList := rx_whoV (j := 141) (pos := 5095) (by decide +kernel) j_Dos_openList rfl
theorem w_5_134 : rx_who 5 (.invokevirtual 134) 3 = some mDos_parseFile := rx_whoV (j := 143) (pos := 5107) (by decide +kernel) j_Dos_parseFile rfl
theorem w_5_140 : rx_who 5 (.invokevirtual 140) 3 = some mDos_openToRead := rx_whoV (j := 146) (pos := 5121) (by decide +kernel) j_Dos_openToRead rfl
theorem w_5_143 : rx_who 5 (.invokevirtual 143) 3 = some mDos_openToWrite := rx_whoV (j := 148) (pos := 5136) (by decide +kernel) j_Dos_openToWrite rfl
theorem w_5_149 : rx_who 5 (.invokevirtual 149) 3 = some mChannel_begin := rx_whoV (j := 140) (pos := 5090) (by decide +kernel) j_Channel_begin rfl
theorem w_5_153 : rx_who 5 (.invokevirtual 153) 3 = some mPattern_take := rx_whoV (j := 26) (pos := 5099) (by decide +kernel) j_Pattern_take rfl
theorem w_5_157 : rx_who 5 (.invokevirtual 157) 3 = some mPattern_isEmpty := rx_whoV (j := 27) (pos := 5100) (by decide +kernel) j_Pattern_isEmpty rfl
theorem w_5_161 : rx_who 5 (.invokevirtual 161) 3 = some mPattern_fitAll := rx_whoV (j := 12) (pos := 5101) (by decide +kernel) j_Pattern_fitAll rfl
theorem w_5_167 : rx_who 5 (.invokevirtual 167) 3 = some mPattern_copyFrom := rx_whoV (j := 142) (pos := 5102) (by decide +kernel) j_Pattern_copyFrom rfl
theorem w_5_175 : rx_who 5 (.invokevirtual 175) 3 = some mTape_find := rx_whoV (j := 25) (pos := 5111) (by decide +kernel) j_Tape_find rfl
theorem w_5_179 : rx_who 5 (.invokevirtual 179) 3 = some mDos_sortTold := rx_whoV (j := 144) (pos := 5112) (by decide +kernel) j_Dos_sortTold rfl
theorem w_5_185 : rx_who 5 (.invokevirtual 185) 3 = some mDos_wayTold := rx_whoV (j := 145) (pos := 5116) (by decide +kernel) j_Dos_wayTold rfl
theorem w_5_188 : rx_who 5 (.invokevirtual 188) 3 = some mPattern_isWild := rx_whoV (j := 28) (pos := 5120) (by decide +kernel) j_Pattern_isWild rfl
theorem w_5_191 : rx_who 5 (.invokevirtual 191) 3 = some mDirectory_rewind := rx_whoV (j := 67) (pos := 5125) (by decide +kernel) j_Directory_rewind rfl
theorem w_5_194 : rx_who 5 (.invokevirtual 194) 3 = some mDirectory_find := rx_whoV (j := 69) (pos := 5126) (by decide +kernel) j_Directory_find rfl
theorem w_5_200 : rx_who 5 (.invokevirtual 200) 3 = some mDirectory_isClosed := rx_whoV (j := 91) (pos := 5127) (by decide +kernel) j_Directory_isClosed rfl
theorem w_5_203 : rx_who 5 (.invokevirtual 203) 3 = some mDirectory_type := rx_whoV (j := 73) (pos := 5128) (by decide +kernel) j_Directory_type rfl
theorem w_5_206 : rx_who 5 (.invokevirtual 206) 3 = some mDirectory_firstTrack := rx_whoV (j := 80) (pos := 4057) (by decide +kernel) j_Directory_firstTrack rfl
theorem w_5_209 : rx_who 5 (.invokevirtual 209) 3 = some mDirectory_firstSector := rx_whoV (j := 81) (pos := 4061) (by decide +kernel) j_Directory_firstSector rfl
theorem w_5_212 : rx_who 5 (.invokestatic 212) 3 = some mDisk_isLegal := rx_whoS (j := 56) (pos := 4069) (by decide +kernel) j_Disk_isLegal rfl
theorem w_5_216 : rx_who 5 (.invokevirtual 216) 3 = some mDisk_readBlock := rx_whoV (j := 70) (pos := 4075) (by decide +kernel) j_Disk_readBlock rfl
theorem w_5_219 : rx_who 5 (.invokevirtual 219) 3 = some mChannel_unfold := rx_whoV (j := 147) (pos := 5129) (by decide +kernel) j_Channel_unfold rfl
theorem w_5_222 : rx_who 5 (.invokevirtual 222) 3 = some mDos_scratchFound := rx_whoV (j := 78) (pos := 5140) (by decide +kernel) j_Dos_scratchFound rfl
theorem w_5_225 : rx_who 5 (.invokevirtual 225) 3 = some mDos_findRoom := rx_whoV (j := 149) (pos := 5141) (by decide +kernel) j_Dos_findRoom rfl
theorem w_5_228 : rx_who 5 (.invokevirtual 228) 3 = some mDos_startFile := rx_whoV (j := 153) (pos := 5160) (by decide +kernel) j_Dos_startFile rfl
theorem w_5_231 : rx_who 5 (.invokevirtual 231) 3 = some mBlockMap_load := rx_whoV (j := 79) (pos := 4052) (by decide +kernel) j_BlockMap_load rfl
theorem w_5_234 : rx_who 5 (.invokevirtual 234) 3 = some mDos_giveBackChain := rx_whoV (j := 82) (pos := 4065) (by decide +kernel) j_Dos_giveBackChain rfl
theorem w_5_239 : rx_who 5 (.invokevirtual 239) 3 = some mBlockMap_store := rx_whoV (j := 58) (pos := 4076) (by decide +kernel) j_BlockMap_store rfl
theorem w_5_242 : rx_who 5 (.invokevirtual 242) 3 = some mDirectory_changeType := rx_whoV (j := 84) (pos := 4077) (by decide +kernel) j_Directory_changeType rfl
theorem w_5_245 : rx_who 5 (.invokevirtual 245) 3 = some mBlockMap_giveBack := rx_whoV (j := 83) (pos := 4071) (by decide +kernel) j_BlockMap_giveBack rfl
theorem w_5_249 : rx_who 5 (.invokevirtual 249) 3 = some mDirectory_isFull := rx_whoV (j := 77) (pos := 5145) (by decide +kernel) j_Directory_isFull rfl
theorem w_5_252 : rx_who 5 (.invokevirtual 252) 3 = some mBlockMap_pickForDirectory := rx_whoV (j := 150) (pos := 5146) (by decide +kernel) j_BlockMap_pickForDirectory rfl
theorem w_5_257 : rx_who 5 (.invokevirtual 257) 3 = some mDirectory_writeEmpty := rx_whoV (j := 65) (pos := 5155) (by decide +kernel) j_Directory_writeEmpty rfl
theorem w_5_260 : rx_who 5 (.invokevirtual 260) 3 = some mDirectory_lengthen := rx_whoV (j := 152) (pos := 5156) (by decide +kernel) j_Directory_lengthen rfl
theorem w_5_263 : rx_who 5 (.invokevirtual 263) 3 = some mBlockMap_pick := rx_whoV (j := 154) (pos := 5164) (by decide +kernel) j_BlockMap_pick rfl
theorem w_5_266 : rx_who 5 (.invokevirtual 266) 3 = some mDirectory_changeToNew := rx_whoV (j := 155) (pos := 5170) (by decide +kernel) j_Directory_changeToNew rfl
theorem w_5_270 : rx_who 5 (.invokevirtual 270) 3 = some mChannel_beginBlock := rx_whoV (j := 156) (pos := 5174) (by decide +kernel) j_Channel_beginBlock rfl
theorem w_5_277 : rx_who 5 (.invokevirtual 277) 3 = some mChannel_keepEntry := rx_whoV (j := 157) (pos := 5178) (by decide +kernel) j_Channel_keepEntry rfl
theorem w_5_284 : rx_who 5 (.invokevirtual 284) 3 = some mDos_nextByte := rx_whoV (j := 186) (pos := 6080) (by decide +kernel) j_Dos_nextByte rfl
theorem w_5_293 : rx_who 5 (.invokevirtual 293) 3 = some mDos_makeLine := rx_whoV (j := 187) (pos := 6084) (by decide +kernel) j_Dos_makeLine rfl
theorem w_5_296 : rx_who 5 (.invokevirtual 296) 3 = some mDos_readNext := rx_whoV (j := 197) (pos := 6127) (by decide +kernel) j_Dos_readNext rfl
theorem w_5_299 : rx_who 5 (.invokevirtual 299) 3 = some mChannel_startLine := rx_whoV (j := 188) (pos := 6088) (by decide +kernel) j_Channel_startLine rfl
theorem w_5_305 : rx_who 5 (.invokevirtual 305) 3 = some mDos_addTitle := rx_whoV (j := 189) (pos := 6092) (by decide +kernel) j_Dos_addTitle rfl
theorem w_5_308 : rx_who 5 (.invokevirtual 308) 3 = some mDos_addEntry := rx_whoV (j := 191) (pos := 6100) (by decide +kernel) j_Dos_addEntry rfl
theorem w_5_311 : rx_who 5 (.invokevirtual 311) 3 = some mDos_addFree := rx_whoV (j := 195) (pos := 6119) (by decide +kernel) j_Dos_addFree rfl
theorem w_5_314 : rx_who 5 (.invokevirtual 314) 3 = some mChannel_add := rx_whoV (j := 190) (pos := 6096) (by decide +kernel) j_Channel_add rfl
theorem w_5_318 : rx_who 5 (.invokevirtual 318) 3 = some mDirectory_count := rx_whoV (j := 192) (pos := 6104) (by decide +kernel) j_Directory_count rfl
theorem w_5_320 : rx_who 5 (.invokevirtual 320) 3 = some mChannel_addNumber := rx_whoV (j := 193) (pos := 6108) (by decide +kernel) j_Channel_addNumber rfl
theorem w_5_323 : rx_who 5 (.invokevirtual 323) 3 = some mDirectory_nameByte := rx_whoV (j := 194) (pos := 6113) (by decide +kernel) j_Directory_nameByte rfl
theorem w_5_328 : rx_who 5 (.invokevirtual 328) 3 = some mStr_charAt := rx_whoV (j := 176) (pos := 6118) (by decide +kernel) j_Str_charAt rfl
theorem w_5_334 : rx_who 5 (.invokevirtual 334) 3 = some mBlockMap_freeSum := rx_whoV (j := 196) (pos := 6123) (by decide +kernel) j_BlockMap_freeSum rfl
theorem w_5_337 : rx_who 5 (.invokevirtual 337) 3 = some mDos_addToFile := rx_whoV (j := 160) (pos := 5190) (by decide +kernel) j_Dos_addToFile rfl
theorem w_5_341 : rx_who 5 (.invokevirtual 341) 3 = some mBlockMap_pickBehind := rx_whoV (j := 161) (pos := 5194) (by decide +kernel) j_BlockMap_pickBehind rfl
theorem w_5_344 : rx_who 5 (.invokevirtual 344) 3 = some mDos_goToNextBlock := rx_whoV (j := 162) (pos := 5199) (by decide +kernel) j_Dos_goToNextBlock rfl
theorem w_5_347 : rx_who 5 (.invokevirtual 347) 3 = some mDos_giveUpFile := rx_whoV (j := 163) (pos := 5203) (by decide +kernel) j_Dos_giveUpFile rfl
theorem w_6_23 : rx_who 6 (.invokevirtual 23) 3 = some mTape_byteAt := rx_whoV (j := 23) (pos := 3072) (by decide +kernel) j_Tape_byteAt rfl
theorem w_7_13 : rx_who 7 (.invokestatic 13) 3 = some mArr_fill := rx_whoS (j := 52) (pos := 6180) (by decide +kernel) j_Arr_fill rfl
theorem w_7_19 : rx_who 7 (.invokevirtual 19) 3 = some mProcessor_begin := rx_whoV (j := 111) (pos := 4200) (by decide +kernel) j_Processor_begin rfl
theorem w_7_45 : rx_who 7 (.invokevirtual 45) 3 = some mProcessor_get := rx_whoV (j := 108) (pos := 4204) (by decide +kernel) j_Processor_get rfl
theorem w_7_58 : rx_who 7 (.invokevirtual 58) 3 = some mProcessor_locate := rx_whoV (j := 112) (pos := 4211) (by decide +kernel) j_Processor_locate rfl
theorem w_7_61 : rx_who 7 (.invokevirtual 61) 3 = some mProcessor_perform := rx_whoV (j := 117) (pos := 4232) (by decide +kernel) j_Processor_perform rfl
theorem w_7_72 : rx_who 7 (.invokevirtual 72) 3 = some mProcessor_useValue := rx_whoV (j := 118) (pos := 4236) (by decide +kernel) j_Processor_useValue rfl
theorem w_7_75 : rx_who 7 (.invokevirtual 75) 3 = some mProcessor_set := rx_whoV (j := 107) (pos := 5028) (by decide +kernel) j_Processor_set rfl
theorem w_7_78 : rx_who 7 (.invokevirtual 78) 3 = some mProcessor_changeValue := rx_whoV (j := 126) (pos := 5029) (by decide +kernel) j_Processor_changeValue rfl
theorem w_7_82 : rx_who 7 (.invokevirtual 82) 3 = some mProcessor_branch := rx_whoV (j := 127) (pos := 5033) (by decide +kernel) j_Processor_branch rfl
theorem w_7_85 : rx_who 7 (.invokevirtual 85) 3 = some mProcessor_move := rx_whoV (j := 128) (pos := 5037) (by decide +kernel) j_Processor_move rfl
theorem w_7_88 : rx_who 7 (.invokevirtual 88) 3 = some mProcessor_changeFlag := rx_whoV (j := 129) (pos := 5041) (by decide +kernel) j_Processor_changeFlag rfl
theorem w_7_91 : rx_who 7 (.invokevirtual 91) 3 = some mProcessor_stack := rx_whoV (j := 130) (pos := 5045) (by decide +kernel) j_Processor_stack rfl
theorem w_7_94 : rx_who 7 (.invokevirtual 94) 3 = some mProcessor_fetch := rx_whoV (j := 113) (pos := 4215) (by decide +kernel) j_Processor_fetch rfl
theorem w_7_98 : rx_who 7 (.invokevirtual 98) 3 = some mProcessor_fetchTwo := rx_whoV (j := 114) (pos := 4219) (by decide +kernel) j_Processor_fetchTwo rfl
theorem w_7_101 : rx_who 7 (.invokevirtual 101) 3 = some mProcessor_indexed := rx_whoV (j := 115) (pos := 4223) (by decide +kernel) j_Processor_indexed rfl
theorem w_7_104 : rx_who 7 (.invokevirtual 104) 3 = some mProcessor_pair := rx_whoV (j := 116) (pos := 4227) (by decide +kernel) j_Processor_pair rfl
theorem w_7_108 : rx_who 7 (.invokevirtual 108) 3 = some mProcessor_marked := rx_whoV (j := 119) (pos := 5000) (by decide +kernel) j_Processor_marked rfl
theorem w_7_111 : rx_who 7 (.invokevirtual 111) 3 = some mProcessor_add := rx_whoV (j := 120) (pos := 5004) (by decide +kernel) j_Processor_add rfl
theorem w_7_114 : rx_who 7 (.invokevirtual 114) 3 = some mProcessor_subtract := rx_whoV (j := 124) (pos := 5020) (by decide +kernel) j_Processor_subtract rfl
theorem w_7_117 : rx_who 7 (.invokevirtual 117) 3 = some mProcessor_flag := rx_whoV (j := 123) (pos := 5016) (by decide +kernel) j_Processor_flag rfl
theorem w_7_120 : rx_who 7 (.invokevirtual 120) 3 = some mProcessor_compare := rx_whoV (j := 125) (pos := 5024) (by decide +kernel) j_Processor_compare rfl
theorem w_7_123 : rx_who 7 (.invokevirtual 123) 3 = some mProcessor_has := rx_whoV (j := 121) (pos := 5008) (by decide +kernel) j_Processor_has rfl
theorem w_7_127 : rx_who 7 (.invokevirtual 127) 3 = some mProcessor_addBinary := rx_whoV (j := 122) (pos := 5012) (by decide +kernel) j_Processor_addBinary rfl
theorem w_7_130 : rx_who 7 (.invokevirtual 130) 3 = some mProcessor_pull := rx_whoV (j := 132) (pos := 5053) (by decide +kernel) j_Processor_pull rfl
theorem w_7_133 : rx_who 7 (.invokevirtual 133) 3 = some mProcessor_push := rx_whoV (j := 131) (pos := 5049) (by decide +kernel) j_Processor_push rfl
theorem w_7_136 : rx_who 7 (.invokevirtual 136) 3 = some mProcessor_pullTwo := rx_whoV (j := 133) (pos := 5057) (by decide +kernel) j_Processor_pullTwo rfl
theorem w_8_28 : rx_who 8 (.invokevirtual 28) 3 = some mRing_eight := rx_whoV (j := 203) (pos := 6154) (by decide +kernel) j_Ring_eight rfl
theorem w_8_32 : rx_who 8 (.invokevirtual 32) 3 = some mRing_put := rx_whoV (j := 38) (pos := 3119) (by decide +kernel) j_Ring_put rfl
theorem w_8_39 : rx_who 8 (.invokevirtual 39) 3 = some mRing_putGap := rx_whoV (j := 39) (pos := 3131) (by decide +kernel) j_Ring_putGap rfl
theorem w_8_56 : rx_who 8 (.invokevirtual 56) 3 = some mRing_next := rx_whoV (j := 48) (pos := 3221) (by decide +kernel) j_Ring_next rfl
theorem w_9_22 : rx_who 9 (.invokevirtual 22) 3 = some mStatus_set := rx_whoV (j := 22) (pos := 3049) (by decide +kernel) j_Status_set rfl
theorem w_9_48 : rx_who 9 (.invokevirtual 48) 3 = some mStatus_replyByte := rx_whoV (j := 168) (pos := 5225) (by decide +kernel) j_Status_replyByte rfl
theorem w_9_52 : rx_who 9 (.invokevirtual 52) 3 = some mStatus_textByte := rx_whoV (j := 169) (pos := 5229) (by decide +kernel) j_Status_textByte rfl
theorem w_9_55 : rx_who 9 (.invokevirtual 55) 3 = some mStatus_spell := rx_whoV (j := 170) (pos := 5233) (by decide +kernel) j_Status_spell rfl
theorem w_9_58 : rx_who 9 (.invokevirtual 58) 3 = some mStatus_addTwoDigits := rx_whoV (j := 171) (pos := 5237) (by decide +kernel) j_Status_addTwoDigits rfl
theorem w_9_62 : rx_who 9 (.invokevirtual 62) 3 = some mStatus_add := rx_whoV (j := 172) (pos := 6001) (by decide +kernel) j_Status_add rfl
theorem w_9_65 : rx_who 9 (.invokevirtual 65) 3 = some mStatus_words := rx_whoV (j := 173) (pos := 6005) (by decide +kernel) j_Status_words rfl
theorem w_9_69 : rx_who 9 (.invokevirtual 69) 3 = some mStr_length := rx_whoV (j := 174) (pos := 6028) (by decide +kernel) j_Str_length rfl
theorem w_9_73 : rx_who 9 (.invokevirtual 73) 3 = some mStr_charAt := rx_whoV (j := 176) (pos := 6038) (by decide +kernel) j_Str_charAt rfl
theorem w_10_28 : rx_who 10 (.invokevirtual 28) 3 = some mTape_find := rx_whoV (j := 25) (pos := 4138) (by decide +kernel) j_Tape_find rfl
theorem w_10_34 : rx_who 10 (.invokevirtual 34) 3 = some mTape_byteAt := rx_whoV (j := 23) (pos := 4143) (by decide +kernel) j_Tape_byteAt rfl
theorem w_10_38 : rx_who 10 (.invokestatic 38) 3 = some mTape_isDigit := rx_whoS (j := 98) (pos := 4144) (by decide +kernel) j_Tape_isDigit rfl
theorem w_11_9 : rx_who 11 (.invokespecial 9) 3 = some mTape_init := rx_whoI (j := 1) (pos := 1031) (n := true) (by decide +kernel) j_Tape_init rfl
theorem w_11_18 : rx_who 11 (.invokespecial 18) 3 = some mStatus_init := rx_whoI (j := 2) (pos := 1054) (n := true) (by decide +kernel) j_Status_init rfl
theorem w_11_25 : rx_who 11 (.invokespecial 25) 3 = some mDisk_init := rx_whoI (j := 3) (pos := 1098) (n := false) (by decide +kernel) j_Disk_init rfl
theorem w_11_34 : rx_who 11 (.invokespecial 34) 3 = some mProcessor_init := rx_whoI (j := 5) (pos := 1181) (n := true) (by decide +kernel) j_Processor_init rfl
theorem w_11_41 : rx_who 11 (.invokespecial 41) 3 = some mDos_init := rx_whoI (j := 6) (pos := 1225) (n := false) (by decide +kernel) j_Dos_init rfl
theorem w_11_50 : rx_who 11 (.invokespecial 50) 3 = some mCommands_init := rx_whoI (j := 11) (pos := 2185) (n := false) (by decide +kernel) j_Commands_init rfl
theorem w_11_72 : rx_who 11 (.invokevirtual 72) 3 = some mTape_add := rx_whoV (j := 14) (pos := 3018) (by decide +kernel) j_Tape_add rfl
theorem w_11_76 : rx_who 11 (.invokevirtual 76) 3 = some mX_sendText := rx_whoV (j := 16) (pos := 3026) (by decide +kernel) j_X_sendText rfl
theorem w_11_80 : rx_who 11 (.invokevirtual 80) 3 = some mCommands_run := rx_whoV (j := 20) (pos := 3041) (by decide +kernel) j_Commands_run rfl
theorem w_11_87 : rx_who 11 (.invokevirtual 87) 3 = some mStatus_begin := rx_whoV (j := 21) (pos := 5061) (by decide +kernel) j_Status_begin rfl
theorem w_11_90 : rx_who 11 (.invokevirtual 90) 3 = some mStatus_set := rx_whoV (j := 22) (pos := 5062) (by decide +kernel) j_Status_set rfl
theorem w_11_94 : rx_who 11 (.invokevirtual 94) 3 = some mDos_openChannel := rx_whoV (j := 134) (pos := 5063) (by decide +kernel) j_Dos_openChannel rfl
theorem w_11_98 : rx_who 11 (.invokevirtual 98) 3 = some mDos_sendBytes := rx_whoV (j := 159) (pos := 5186) (by decide +kernel) j_Dos_sendBytes rfl
theorem w_11_101 : rx_who 11 (.invokestatic 101) 3 = some mX_isChannel := rx_whoS (j := 17) (pos := 3030) (by decide +kernel) j_X_isChannel rfl
theorem w_11_105 : rx_who 11 (.invokevirtual 105) 3 = some mDos_closeAll := rx_whoV (j := 165) (pos := 5211) (by decide +kernel) j_Dos_closeAll rfl
theorem w_11_108 : rx_who 11 (.invokevirtual 108) 3 = some mDos_closeChannel := rx_whoV (j := 135) (pos := 5216) (by decide +kernel) j_Dos_closeChannel rfl
theorem w_11_111 : rx_who 11 (.invokevirtual 111) 3 = some mStatus_receive := rx_whoV (j := 167) (pos := 5221) (by decide +kernel) j_Status_receive rfl
theorem w_11_118 : rx_who 11 (.invokevirtual 118) 3 = some mDos_receive := rx_whoV (j := 185) (pos := 6076) (by decide +kernel) j_Dos_receive rfl
theorem w_11_134 : rx_who 11 (.invokevirtual 134) 3 = some mDos_countOpen := rx_whoV (j := 138) (pos := 6140) (by decide +kernel) j_Dos_countOpen rfl
theorem w_11_158 : rx_who 11 (.invokevirtual 158) 3 = some mDisk_ring := rx_whoV (j := 32) (pos := 6145) (by decide +kernel) j_Disk_ring rfl
theorem w_11_162 : rx_who 11 (.invokevirtual 162) 3 = some mRing_hasBit := rx_whoV (j := 201) (pos := 6146) (by decide +kernel) j_Ring_hasBit rfl
theorem w_11_167 : rx_who 11 (.invokevirtual 167) 3 = some mRing_word := rx_whoV (j := 202) (pos := 6150) (by decide +kernel) j_Ring_word rfl
theorem w_11_170 : rx_who 11 (.invokevirtual 170) 3 = some mRing_flip := rx_whoV (j := 205) (pos := 6162) (by decide +kernel) j_Ring_flip rfl
theorem w_11_177 : rx_who 11 (.invokevirtual 177) 3 = some mDos_dropAll := rx_whoV (j := 30) (pos := 6174) (by decide +kernel) j_Dos_dropAll rfl
theorem w_11_180 : rx_who 11 (.invokevirtual 180) 3 = some mDisk_dropId := rx_whoV (j := 44) (pos := 6175) (by decide +kernel) j_Disk_dropId rfl
theorem w_11_183 : rx_who 11 (.invokevirtual 183) 3 = some mProcessor_reset := rx_whoV (j := 208) (pos := 6176) (by decide +kernel) j_Processor_reset rfl
theorem w_11_186 : rx_who 11 (.invokevirtual 186) 3 = some mProcessor_get := rx_whoV (j := 108) (pos := 6185) (by decide +kernel) j_Processor_get rfl
theorem w_11_189 : rx_who 11 (.invokevirtual 189) 3 = some mTape_has := rx_whoV (j := 18) (pos := 3033) (by decide +kernel) j_Tape_has rfl
theorem w_11_192 : rx_who 11 (.invokevirtual 192) 3 = some mTape_send := rx_whoV (j := 19) (pos := 3037) (by decide +kernel) j_Tape_send rfl
theorem w_12_1 : rx_who 12 (.invokestatic 1) 3 = some mM_sectorsOf := rx_whoS (j := 240) (pos := 7064) (by decide +kernel) j_M_sectorsOf rfl
theorem w_12_21 : rx_who 12 (.invokestatic 21) 3 = some mM_bytesOf := rx_whoS (j := 223) (pos := 6239) (by decide +kernel) j_M_bytesOf rfl
theorem w_12_46 : rx_who 12 (.invokevirtual 46) 3 = some mM_bitAt := rx_whoV (j := 224) (pos := 7002) (by decide +kernel) j_M_bitAt rfl
theorem w_12_56 : rx_who 12 (.invokevirtual 56) 3 = some mM_goes := rx_whoV (j := 226) (pos := 7010) (by decide +kernel) j_M_goes rfl
theorem w_12_60 : rx_who 12 (.invokevirtual 60) 3 = some mM_along := rx_whoV (j := 225) (pos := 7006) (by decide +kernel) j_M_along rfl
theorem w_12_68 : rx_who 12 (.invokestatic 68) 3 = some mM_groupOf := rx_whoS (j := 231) (pos := 7029) (by decide +kernel) j_M_groupOf rfl
theorem w_12_77 : rx_who 12 (.invokevirtual 77) 3 = some mM_group := rx_whoV (j := 229) (pos := 7022) (by decide +kernel) j_M_group rfl
theorem w_12_80 : rx_who 12 (.invokestatic 80) 3 = some mM_valueOf := rx_whoS (j := 230) (pos := 7026) (by decide +kernel) j_M_valueOf rfl
theorem w_12_83 : rx_who 12 (.invokevirtual 83) 3 = some mM_codes := rx_whoV (j := 236) (pos := 7048) (by decide +kernel) j_M_codes rfl
theorem w_12_87 : rx_who 12 (.invokevirtual 87) 3 = some mM_round := rx_whoV (j := 222) (pos := 6235) (by decide +kernel) j_M_round rfl
theorem w_12_96 : rx_who 12 (.invokevirtual 96) 3 = some mM_header := rx_whoV (j := 235) (pos := 7044) (by decide +kernel) j_M_header rfl
theorem w_12_100 : rx_who 12 (.invokevirtual 100) 3 = some mM_comes := rx_whoV (j := 227) (pos := 7014) (by decide +kernel) j_M_comes rfl
theorem w_12_107 : rx_who 12 (.invokevirtual 107) 3 = some mM_takeId := rx_whoV (j := 221) (pos := 6231) (by decide +kernel) j_M_takeId rfl
theorem w_12_110 : rx_who 12 (.invokevirtual 110) 3 = some mM_seek := rx_whoV (j := 234) (pos := 7040) (by decide +kernel) j_M_seek rfl
theorem w_12_113 : rx_who 12 (.invokevirtual 113) 3 = some mM_fault := rx_whoV (j := 217) (pos := 6215) (by decide +kernel) j_M_fault rfl
theorem w_12_117 : rx_who 12 (.invokevirtual 117) 3 = some mM_gets := rx_whoV (j := 237) (pos := 7052) (by decide +kernel) j_M_gets rfl
theorem w_12_121 : rx_who 12 (.invokevirtual 121) 3 = some mM_reads := rx_whoV (j := 228) (pos := 7018) (by decide +kernel) j_M_reads rfl
theorem w_12_128 : rx_who 12 (.invokevirtual 128) 3 = some mM_setBit := rx_whoV (j := 249) (pos := 7098) (by decide +kernel) j_M_setBit rfl
theorem w_12_134 : rx_who 12 (.invokevirtual 134) 3 = some mM_lays := rx_whoV (j := 248) (pos := 7094) (by decide +kernel) j_M_lays rfl
theorem w_12_138 : rx_who 12 (.invokevirtual 138) 3 = some mM_data := rx_whoV (j := 250) (pos := 7102) (by decide +kernel) j_M_data rfl
theorem w_12_148 : rx_who 12 (.invokevirtual 148) 3 = some mM_readBlock := rx_whoV (j := 233) (pos := 7036) (by decide +kernel) j_M_readBlock rfl
theorem w_12_152 : rx_who 12 (.invokevirtual 152) 3 = some mM_writeBlock := rx_whoV (j := 247) (pos := 7090) (by decide +kernel) j_M_writeBlock rfl
theorem w_12_161 : rx_who 12 (.invokestatic 161) 3 = some mM_isLegal := rx_whoS (j := 242) (pos := 7071) (by decide +kernel) j_M_isLegal rfl
theorem w_12_165 : rx_who 12 (.invokevirtual 165) 3 = some mM_isFree := rx_whoV (j := 243) (pos := 7074) (by decide +kernel) j_M_isFree rfl
theorem w_12_168 : rx_who 12 (.invokestatic 168) 3 = some mM_trackOf := rx_whoS (j := 314) (pos := 8113) (by decide +kernel) j_M_trackOf rfl
theorem w_12_171 : rx_who 12 (.invokevirtual 171) 3 = some mM_lowest := rx_whoV (j := 312) (pos := 8105) (by decide +kernel) j_M_lowest rfl
theorem w_12_174 : rx_who 12 (.invokevirtual 174) 3 = some mM_takes := rx_whoV (j := 241) (pos := 7067) (by decide +kernel) j_M_takes rfl
theorem w_12_177 : rx_who 12 (.invokevirtual 177) 3 = some mM_takesOne := rx_whoV (j := 313) (pos := 8109) (by decide +kernel) j_M_takesOne rfl
theorem w_12_180 : rx_who 12 (.invokevirtual 180) 3 = some mM_loads := rx_whoV (j := 232) (pos := 7032) (by decide +kernel) j_M_loads rfl
theorem w_12_183 : rx_who 12 (.invokevirtual 183) 3 = some mM_givesBack := rx_whoV (j := 264) (pos := 7156) (by decide +kernel) j_M_givesBack rfl
theorem w_12_189 : rx_who 12 (.invokevirtual 189) 3 = some mM_stores := rx_whoV (j := 252) (pos := 7110) (by decide +kernel) j_M_stores rfl
theorem w_12_204 : rx_who 12 (.invokestatic 204) 3 = some mM_fits := rx_whoS (j := 260) (pos := 7142) (by decide +kernel) j_M_fits rfl
theorem w_12_208 : rx_who 12 (.invokestatic 208) 3 = some mM_same := rx_whoS (j := 261) (pos := 7145) (by decide +kernel) j_M_same rfl
theorem w_12_220 : rx_who 12 (.invokevirtual 220) 3 = some mM_freesChain := rx_whoV (j := 263) (pos := 7152) (by decide +kernel) j_M_freesChain rfl
theorem w_12_223 : rx_who 12 (.invokevirtual 223) 3 = some mM_changesType := rx_whoV (j := 246) (pos := 7086) (by decide +kernel) j_M_changesType rfl
theorem w_12_239 : rx_who 12 (.invokevirtual 239) 3 = some mM_sets := rx_whoV (j := 216) (pos := 6211) (by decide +kernel) j_M_sets rfl
theorem w_12_257 : rx_who 12 (.invokevirtual 257) 3 = some mM_types := rx_whoV (j := 211) (pos := 6190) (by decide +kernel) j_M_types rfl
theorem w_12_263 : rx_who 12 (.invokevirtual 263) 3 = some mM_sends := rx_whoV (j := 213) (pos := 6199) (by decide +kernel) j_M_sends rfl
theorem w_12_266 : rx_who 12 (.invokevirtual 266) 3 = some mM_commands := rx_whoV (j := 214) (pos := 6203) (by decide +kernel) j_M_commands rfl
theorem w_12_269 : rx_who 12 (.invokevirtual 269) 3 = some mM_begins := rx_whoV (j := 215) (pos := 6207) (by decide +kernel) j_M_begins rfl
theorem w_12_272 : rx_who 12 (.invokevirtual 272) 3 = some mM_ends := rx_whoV (j := 218) (pos := 6219) (by decide +kernel) j_M_ends rfl
theorem w_12_275 : rx_who 12 (.invokevirtual 275) 3 = some mM_opens := rx_whoV (j := 305) (pos := 8077) (by decide +kernel) j_M_opens rfl
theorem w_12_278 : rx_who 12 (.invokevirtual 278) 3 = some mM_shuts := rx_whoV (j := 306) (pos := 8081) (by decide +kernel) j_M_shuts rfl
theorem w_12_281 : rx_who 12 (.invokevirtual 281) 3 = some mM_openMany := rx_whoV (j := 307) (pos := 8085) (by decide +kernel) j_M_openMany rfl
theorem w_12_290 : rx_who 12 (.invokevirtual 290) 3 = some mM_opensList := rx_whoV (j := 308) (pos := 8089) (by decide +kernel) j_M_opensList rfl
theorem w_12_293 : rx_who 12 (.invokevirtual 293) 3 = some mM_opensFile := rx_whoV (j := 309) (pos := 8093) (by decide +kernel) j_M_opensFile rfl
theorem w_12_311 : rx_who 12 (.invokevirtual 311) 3 = some mM_opensNew := rx_whoV (j := 310) (pos := 8097) (by decide +kernel) j_M_opensNew rfl
theorem w_12_315 : rx_who 12 (.invokevirtual 315) 3 = some mM_opensOld := rx_whoV (j := 316) (pos := 8120) (by decide +kernel) j_M_opensOld rfl
theorem w_12_325 : rx_who 12 (.invokevirtual 325) 3 = some mM_finds := rx_whoV (j := 259) (pos := 7138) (by decide +kernel) j_M_finds rfl
theorem w_12_329 : rx_who 12 (.invokevirtual 329) 3 = some mM_begun := rx_whoV (j := 317) (pos := 8124) (by decide +kernel) j_M_begun rfl
theorem w_12_332 : rx_who 12 (.invokevirtual 332) 3 = some mM_isWild := rx_whoV (j := 255) (pos := 7122) (by decide +kernel) j_M_isWild rfl
theorem w_12_335 : rx_who 12 (.invokevirtual 335) 3 = some mM_scratches := rx_whoV (j := 262) (pos := 7148) (by decide +kernel) j_M_scratches rfl
theorem w_12_338 : rx_who 12 (.invokevirtual 338) 3 = some mM_makesEntry := rx_whoV (j := 311) (pos := 8101) (by decide +kernel) j_M_makesEntry rfl
theorem w_12_365 : rx_who 12 (.invokevirtual 365) 3 = some mM_clears := rx_whoV (j := 315) (pos := 8116) (by decide +kernel) j_M_clears rfl
theorem w_12_377 : rx_who 12 (.invokevirtual 377) 3 = some mM_givesMore := rx_whoV (j := 320) (pos := 8136) (by decide +kernel) j_M_givesMore rfl
theorem w_12_380 : rx_who 12 (.invokevirtual 380) 3 = some mM_givesStatus := rx_whoV (j := 322) (pos := 8144) (by decide +kernel) j_M_givesStatus rfl
theorem w_12_383 : rx_who 12 (.invokevirtual 383) 3 = some mM_readsFile := rx_whoV (j := 327) (pos := 8202) (by decide +kernel) j_M_readsFile rfl
theorem w_12_386 : rx_who 12 (.invokevirtual 386) 3 = some mM_readsList := rx_whoV (j := 328) (pos := 8206) (by decide +kernel) j_M_readsList rfl
theorem w_12_389 : rx_who 12 (.invokevirtual 389) 3 = some mM_readsBuffer := rx_whoV (j := 334) (pos := 8231) (by decide +kernel) j_M_readsBuffer rfl
theorem w_12_395 : rx_who 12 (.invokevirtual 395) 3 = some mM_gives := rx_whoV (j := 321) (pos := 8140) (by decide +kernel) j_M_gives rfl
theorem w_12_406 : rx_who 12 (.invokevirtual 406) 3 = some mM_says := rx_whoV (j := 324) (pos := 8152) (by decide +kernel) j_M_says rfl
theorem w_12_411 : rx_who 12 (.invokevirtual 411) 3 = some mM_says8 := rx_whoV (j := 326) (pos := 8161) (by decide +kernel) j_M_says8 rfl
theorem w_12_487 : rx_who 12 (.invokevirtual 487) 3 = some mM_saysTwo := rx_whoV (j := 323) (pos := 8148) (by decide +kernel) j_M_saysTwo rfl
theorem w_12_490 : rx_who 12 (.invokevirtual 490) 3 = some mM_saysWords := rx_whoV (j := 325) (pos := 8156) (by decide +kernel) j_M_saysWords rfl
theorem w_12_496 : rx_who 12 (.invokevirtual 496) 3 = some mM_title := rx_whoV (j := 329) (pos := 8210) (by decide +kernel) j_M_title rfl
theorem w_12_499 : rx_who 12 (.invokevirtual 499) 3 = some mM_next := rx_whoV (j := 330) (pos := 8214) (by decide +kernel) j_M_next rfl
theorem w_12_514 : rx_who 12 (.invokevirtual 514) 3 = some mM_entryLine := rx_whoV (j := 331) (pos := 8218) (by decide +kernel) j_M_entryLine rfl
theorem w_12_517 : rx_who 12 (.invokevirtual 517) 3 = some mM_total := rx_whoV (j := 333) (pos := 8226) (by decide +kernel) j_M_total rfl
theorem w_12_520 : rx_who 12 (.invokevirtual 520) 3 = some mM_saysNumber := rx_whoV (j := 332) (pos := 8222) (by decide +kernel) j_M_saysNumber rfl
theorem w_12_525 : rx_who 12 (.invokevirtual 525) 3 = some mM_writesByte := rx_whoV (j := 337) (pos := 9003) (by decide +kernel) j_M_writesByte rfl
theorem w_12_528 : rx_who 12 (.invokevirtual 528) 3 = some mM_goesOn := rx_whoV (j := 338) (pos := 9007) (by decide +kernel) j_M_goesOn rfl
theorem w_12_531 : rx_who 12 (.invokevirtual 531) 3 = some mM_takesNext := rx_whoV (j := 339) (pos := 9011) (by decide +kernel) j_M_takesNext rfl
theorem w_12_534 : rx_who 12 (.invokevirtual 534) 3 = some mM_isFull := rx_whoV (j := 340) (pos := 9015) (by decide +kernel) j_M_isFull rfl
theorem w_12_537 : rx_who 12 (.invokevirtual 537) 3 = some mM_does := rx_whoV (j := 219) (pos := 6223) (by decide +kernel) j_M_does rfl
theorem w_12_540 : rx_who 12 (.invokevirtual 540) 3 = some mM_again := rx_whoV (j := 220) (pos := 6227) (by decide +kernel) j_M_again rfl
theorem w_12_543 : rx_who 12 (.invokevirtual 543) 3 = some mM_validates := rx_whoV (j := 238) (pos := 7056) (by decide +kernel) j_M_validates rfl
theorem w_12_546 : rx_who 12 (.invokevirtual 546) 3 = some mM_shutsAll := rx_whoV (j := 253) (pos := 7114) (by decide +kernel) j_M_shutsAll rfl
theorem w_12_549 : rx_who 12 (.invokevirtual 549) 3 = some mM_news := rx_whoV (j := 254) (pos := 7118) (by decide +kernel) j_M_news rfl
theorem w_12_552 : rx_who 12 (.invokevirtual 552) 3 = some mM_scratch := rx_whoV (j := 258) (pos := 7134) (by decide +kernel) j_M_scratch rfl
theorem w_12_555 : rx_who 12 (.invokevirtual 555) 3 = some mM_renames := rx_whoV (j := 265) (pos := 7160) (by decide +kernel) j_M_renames rfl
theorem w_12_558 : rx_who 12 (.invokevirtual 558) 3 = some mM_blockOf := rx_whoV (j := 266) (pos := 7164) (by decide +kernel) j_M_blockOf rfl
theorem w_12_562 : rx_who 12 (.invokevirtual 562) 3 = some mM_begins3 := rx_whoV (j := 270) (pos := 7179) (by decide +kernel) j_M_begins3 rfl
theorem w_12_566 : rx_who 12 (.invokevirtual 566) 3 = some mM_pointer := rx_whoV (j := 271) (pos := 7183) (by decide +kernel) j_M_pointer rfl
theorem w_12_569 : rx_who 12 (.invokevirtual 569) 3 = some mM_allocates := rx_whoV (j := 272) (pos := 7187) (by decide +kernel) j_M_allocates rfl
theorem w_12_572 : rx_who 12 (.invokevirtual 572) 3 = some mM_frees := rx_whoV (j := 273) (pos := 7191) (by decide +kernel) j_M_frees rfl
theorem w_12_575 : rx_who 12 (.invokevirtual 575) 3 = some mM_memories := rx_whoV (j := 274) (pos := 7195) (by decide +kernel) j_M_memories rfl
theorem w_12_578 : rx_who 12 (.invokevirtual 578) 3 = some mM_format := rx_whoV (j := 256) (pos := 7126) (by decide +kernel) j_M_format rfl
theorem w_12_581 : rx_who 12 (.invokevirtual 581) 3 = some mM_maps := rx_whoV (j := 257) (pos := 7130) (by decide +kernel) j_M_maps rfl
theorem w_12_584 : rx_who 12 (.invokevirtual 584) 3 = some mM_freesAll := rx_whoV (j := 239) (pos := 7060) (by decide +kernel) j_M_freesAll rfl
theorem w_12_590 : rx_who 12 (.invokevirtual 590) 3 = some mM_entries := rx_whoV (j := 244) (pos := 7078) (by decide +kernel) j_M_entries rfl
theorem w_12_593 : rx_who 12 (.invokevirtual 593) 3 = some mM_used := rx_whoV (j := 245) (pos := 7082) (by decide +kernel) j_M_used rfl
theorem w_12_596 : rx_who 12 (.invokevirtual 596) 3 = some mM_uses := rx_whoV (j := 251) (pos := 7106) (by decide +kernel) j_M_uses rfl
theorem w_12_605 : rx_who 12 (.invokestatic 605) 3 = some mM_isDigit := rx_whoS (j := 269) (pos := 7176) (by decide +kernel) j_M_isDigit rfl
theorem w_12_608 : rx_who 12 (.invokevirtual 608) 3 = some mM_numbers := rx_whoV (j := 267) (pos := 7168) (by decide +kernel) j_M_numbers rfl
theorem w_12_611 : rx_who 12 (.invokevirtual 611) 3 = some mM_numberNext := rx_whoV (j := 268) (pos := 7172) (by decide +kernel) j_M_numberNext rfl
theorem w_12_617 : rx_who 12 (.invokevirtual 617) 3 = some mM_put := rx_whoV (j := 275) (pos := 7199) (by decide +kernel) j_M_put rfl
theorem w_12_620 : rx_who 12 (.invokevirtual 620) 3 = some mM_get := rx_whoV (j := 276) (pos := 7203) (by decide +kernel) j_M_get rfl
theorem w_12_623 : rx_who 12 (.invokevirtual 623) 3 = some mM_runs := rx_whoV (j := 277) (pos := 7207) (by decide +kernel) j_M_runs rfl
theorem w_12_650 : rx_who 12 (.invokevirtual 650) 3 = some mM_step := rx_whoV (j := 278) (pos := 7211) (by decide +kernel) j_M_step rfl
theorem w_12_653 : rx_who 12 (.invokevirtual 653) 3 = some mM_byteNext := rx_whoV (j := 282) (pos := 7226) (by decide +kernel) j_M_byteNext rfl
theorem w_12_656 : rx_who 12 (.invokevirtual 656) 3 = some mM_flag := rx_whoV (j := 287) (pos := 8005) (by decide +kernel) j_M_flag rfl
theorem w_12_663 : rx_who 12 (.invokevirtual 663) 3 = some mM_wordNext := rx_whoV (j := 283) (pos := 7230) (by decide +kernel) j_M_wordNext rfl
theorem w_12_666 : rx_who 12 (.invokevirtual 666) 3 = some mM_is := rx_whoV (j := 289) (pos := 8013) (by decide +kernel) j_M_is rfl
theorem w_12_669 : rx_who 12 (.invokevirtual 669) 3 = some mM_marks := rx_whoV (j := 286) (pos := 8001) (by decide +kernel) j_M_marks rfl
theorem w_12_672 : rx_who 12 (.invokestatic 672) 3 = some mM_howOf := rx_whoS (j := 280) (pos := 7219) (by decide +kernel) j_M_howOf rfl
theorem w_12_675 : rx_who 12 (.invokevirtual 675) 3 = some mM_address := rx_whoV (j := 281) (pos := 7222) (by decide +kernel) j_M_address rfl
theorem w_12_678 : rx_who 12 (.invokestatic 678) 3 = some mM_storeTime := rx_whoS (j := 284) (pos := 7234) (by decide +kernel) j_M_storeTime rfl
theorem w_12_681 : rx_who 12 (.invokevirtual 681) 3 = some mM_readTime := rx_whoV (j := 285) (pos := 7237) (by decide +kernel) j_M_readTime rfl
theorem w_12_684 : rx_who 12 (.invokevirtual 684) 3 = some mM_adds := rx_whoV (j := 288) (pos := 8009) (by decide +kernel) j_M_adds rfl
theorem w_12_687 : rx_who 12 (.invokevirtual 687) 3 = some mM_compares := rx_whoV (j := 290) (pos := 8017) (by decide +kernel) j_M_compares rfl
theorem w_12_690 : rx_who 12 (.invokevirtual 690) 3 = some mM_takesOff := rx_whoV (j := 291) (pos := 8021) (by decide +kernel) j_M_takesOff rfl
theorem w_12_693 : rx_who 12 (.invokevirtual 693) 3 = some mM_shifted := rx_whoV (j := 293) (pos := 8029) (by decide +kernel) j_M_shifted rfl
theorem w_12_696 : rx_who 12 (.invokevirtual 696) 3 = some mM_works := rx_whoV (j := 279) (pos := 7215) (by decide +kernel) j_M_works rfl
theorem w_12_699 : rx_who 12 (.invokevirtual 699) 3 = some mM_twos := rx_whoV (j := 292) (pos := 8025) (by decide +kernel) j_M_twos rfl
theorem w_12_702 : rx_who 12 (.invokevirtual 702) 3 = some mM_zeros := rx_whoV (j := 298) (pos := 8049) (by decide +kernel) j_M_zeros rfl
theorem w_12_704 : rx_who 12 (.invokevirtual 704) 3 = some mM_takes2 := rx_whoV (j := 294) (pos := 8033) (by decide +kernel) j_M_takes2 rfl
theorem w_12_707 : rx_who 12 (.invokevirtual 707) 3 = some mM_changes := rx_whoV (j := 295) (pos := 8037) (by decide +kernel) j_M_changes rfl
theorem w_12_710 : rx_who 12 (.invokevirtual 710) 3 = some mM_keeps := rx_whoV (j := 296) (pos := 8041) (by decide +kernel) j_M_keeps rfl
theorem w_12_713 : rx_who 12 (.invokevirtual 713) 3 = some mM_fetches := rx_whoV (j := 297) (pos := 8045) (by decide +kernel) j_M_fetches rfl
theorem w_12_716 : rx_who 12 (.invokevirtual 716) 3 = some mM_branch := rx_whoV (j := 299) (pos := 8053) (by decide +kernel) j_M_branch rfl
theorem w_12_720 : rx_who 12 (.invokevirtual 720) 3 = some mM_tests := rx_whoV (j := 300) (pos := 8057) (by decide +kernel) j_M_tests rfl
theorem w_12_723 : rx_who 12 (.invokevirtual 723) 3 = some mM_compared := rx_whoV (j := 301) (pos := 8061) (by decide +kernel) j_M_compared rfl
theorem w_12_726 : rx_who 12 (.invokevirtual 726) 3 = some mM_push := rx_whoV (j := 302) (pos := 8065) (by decide +kernel) j_M_push rfl
theorem w_12_729 : rx_who 12 (.invokevirtual 729) 3 = some mM_pull := rx_whoV (j := 303) (pos := 8069) (by decide +kernel) j_M_pull rfl
theorem w_12_732 : rx_who 12 (.invokevirtual 732) 3 = some mM_jumps := rx_whoV (j := 304) (pos := 8073) (by decide +kernel) j_M_jumps rfl
theorem w_12_735 : rx_who 12 (.invokestatic 735) 3 = some mM_isBit := rx_whoS (j := 343) (pos := 9027) (by decide +kernel) j_M_isBit rfl
theorem w_16_335 : rx_who 16 (.invokevirtual 335) 3 = some mStr_coder := rx_whoV (j := 175) (pos := 6032) (by decide +kernel) j_Str_coder rfl
theorem w_16_492 : rx_who 16 (.invokevirtual 492) 3 = some mStr_isLatin1 := rx_whoV (j := 177) (pos := 6042) (by decide +kernel) j_Str_isLatin1 rfl
theorem w_16_495 : rx_who 16 (.invokestatic 495) 3 = some mLat_charAt := rx_whoS (j := 178) (pos := 6046) (by decide +kernel) j_Lat_charAt rfl
theorem w_16_498 : rx_who 16 (.invokestatic 498) 3 = some mU16_charAt := rx_whoS (j := 181) (pos := 6057) (by decide +kernel) j_U16_charAt rfl
theorem w_16_1059 : rx_who 16 (.invokestatic 1059) 3 = some mPre_checkIndex := rx_whoS (j := 180) (pos := 6054) (by decide +kernel) j_Pre_checkIndex rfl
theorem w_17_9 : rx_who 17 (.invokestatic 9) 3 = some mStr_checkIndex := rx_whoS (j := 179) (pos := 6049) (by decide +kernel) j_Str_checkIndex rfl
theorem w_18_48 : rx_who 18 (.invokestatic 48) 3 = some mU16_length := rx_whoS (j := 183) (pos := 6063) (by decide +kernel) j_U16_length rfl
theorem w_18_67 : rx_who 18 (.invokestatic 67) 3 = some mU16_checkIndex := rx_whoS (j := 182) (pos := 6060) (by decide +kernel) j_U16_checkIndex rfl
theorem w_18_71 : rx_who 18 (.invokestatic 71) 3 = some mU16_getChar := rx_whoS (j := 184) (pos := 6067) (by decide +kernel) j_U16_getChar rfl
theorem w_18_414 : rx_who 18 (.invokestatic 414) 3 = some mStr_checkIndex := rx_whoS (j := 179) (pos := 6066) (by decide +kernel) j_Str_checkIndex rfl
end
section
theorem d_M_bytesOf_0 : decode (rm_code mM_bytesOf) 0 = .ok (.sipush (1000), 3) := by decide +kernel
theorem d_M_bytesOf_3 : decode (rm_code mM_bytesOf) 3 = .ok (.bipush (120), 2) := by decide +kernel
theorem d_M_bytesOf_5 : decode (rm_code mM_bytesOf) 5 = .ok (.iload_n 0, 1) := by decide +kernel
theorem d_M_bytesOf_6 : decode (rm_code mM_bytesOf) 6 = .ok (.iconst 1, 1) := by decide +kernel
theorem d_M_bytesOf_7 : decode (rm_code mM_bytesOf) 7 = .ok (.isub, 1) := by decide +kernel
theorem d_M_bytesOf_8 : decode (rm_code mM_bytesOf) 8 = .ok (.iconst 3, 1) := by decide +kernel
theorem d_M_bytesOf_9 : decode (rm_code mM_bytesOf) 9 = .ok (.idiv, 1) := by decide +kernel
theorem d_M_bytesOf_10 : decode (rm_code mM_bytesOf) 10 = .ok (.imul, 1) := by decide +kernel
theorem d_M_bytesOf_11 : decode (rm_code mM_bytesOf) 11 = .ok (.isub, 1) := by decide +kernel
theorem d_M_bytesOf_12 : decode (rm_code mM_bytesOf) 12 = .ok (.ireturn, 1) := by decide +kernel
theorem c_M_bytesOf {S : rz_S} (t : Int32) : rz_ev mM_bytesOf [.int t] S (rz_i (fun x S1 => x = (1000 - 120 * ((t - 1) / 3)) ∧ S1 = S)) := by
  show rz _ 0 [(0, .int t)] [] _ _
  refine rz_sipush (v := 1000) d_M_bytesOf_0 (by decide) ?_
  refine rz_bipush (v := 120) d_M_bytesOf_3 (by decide) ?_
  refine rz_pure (pc' := 6) d_M_bytesOf_5 rfl ?_
  refine rz_iconst (v := 1) d_M_bytesOf_6 (by decide) ?_
  refine rz_pure (pc' := 8) d_M_bytesOf_7 rfl ?_
  refine rz_iconst (v := 3) d_M_bytesOf_8 (by decide) ?_
  refine rz_idiv d_M_bytesOf_9 (by decide) ?_
  refine rz_pure (pc' := 11) d_M_bytesOf_10 rfl ?_
  refine rz_pure (pc' := 12) d_M_bytesOf_11 rfl ?_
  exact rz_ireti d_M_bytesOf_12 rfl (by rfl) (by exact ⟨rfl, rfl⟩)
theorem d_M_sectorsOf_0 : decode (rm_code mM_sectorsOf) 0 = .ok (.bipush (8), 2) := by decide +kernel
theorem d_M_sectorsOf_2 : decode (rm_code mM_sectorsOf) 2 = .ok (.iload_n 0, 1) := by decide +kernel
theorem d_M_sectorsOf_3 : decode (rm_code mM_sectorsOf) 3 = .ok (.iconst 1, 1) := by decide +kernel
theorem d_M_sectorsOf_4 : decode (rm_code mM_sectorsOf) 4 = .ok (.isub, 1) := by decide +kernel
theorem d_M_sectorsOf_5 : decode (rm_code mM_sectorsOf) 5 = .ok (.iconst 3, 1) := by decide +kernel
theorem d_M_sectorsOf_6 : decode (rm_code mM_sectorsOf) 6 = .ok (.idiv, 1) := by decide +kernel
theorem d_M_sectorsOf_7 : decode (rm_code mM_sectorsOf) 7 = .ok (.isub, 1) := by decide +kernel
theorem d_M_sectorsOf_8 : decode (rm_code mM_sectorsOf) 8 = .ok (.ireturn, 1) := by decide +kernel
theorem c_M_sectorsOf {S : rz_S} (t : Int32) : rz_ev mM_sectorsOf [.int t] S (rz_i (fun x S1 => x = (8 - (t - 1) / 3) ∧ S1 = S)) := by
  show rz _ 0 [(0, .int t)] [] _ _
  refine rz_bipush (v := 8) d_M_sectorsOf_0 (by decide) ?_
  refine rz_pure (pc' := 3) d_M_sectorsOf_2 rfl ?_
  refine rz_iconst (v := 1) d_M_sectorsOf_3 (by decide) ?_
  refine rz_pure (pc' := 5) d_M_sectorsOf_4 rfl ?_
  refine rz_iconst (v := 3) d_M_sectorsOf_5 (by decide) ?_
  refine rz_idiv d_M_sectorsOf_6 (by decide) ?_
  refine rz_pure (pc' := 8) d_M_sectorsOf_7 rfl ?_
  exact rz_ireti d_M_sectorsOf_8 rfl (by rfl) (by exact ⟨rfl, rfl⟩)
theorem d_M_isLegal_0 : decode (rm_code mM_isLegal) 0 = .ok (.iload_n 0, 1) := by decide +kernel
theorem d_M_isLegal_1 : decode (rm_code mM_isLegal) 1 = .ok (.iconst 1, 1) := by decide +kernel
theorem d_M_isLegal_2 : decode (rm_code mM_isLegal) 2 = .ok (.if_icmp .lt (25), 3) := by decide +kernel
theorem d_M_isLegal_5 : decode (rm_code mM_isLegal) 5 = .ok (.iload_n 0, 1) := by decide +kernel
theorem d_M_isLegal_6 : decode (rm_code mM_isLegal) 6 = .ok (.bipush (12), 2) := by decide +kernel
theorem d_M_isLegal_8 : decode (rm_code mM_isLegal) 8 = .ok (.if_icmp .gt (19), 3) := by decide +kernel
theorem d_M_isLegal_11 : decode (rm_code mM_isLegal) 11 = .ok (.iload_n 1, 1) := by decide +kernel
theorem d_M_isLegal_12 : decode (rm_code mM_isLegal) 12 = .ok (.ifCond .lt (15), 3) := by decide +kernel
theorem d_M_isLegal_15 : decode (rm_code mM_isLegal) 15 = .ok (.iload_n 1, 1) := by decide +kernel
theorem d_M_isLegal_16 : decode (rm_code mM_isLegal) 16 = .ok (.iload_n 0, 1) := by decide +kernel
theorem d_M_isLegal_17 : decode (rm_code mM_isLegal) 17 = .ok (.invokestatic 1, 3) := by decide +kernel
theorem d_M_isLegal_20 : decode (rm_code mM_isLegal) 20 = .ok (.if_icmp .ge (7), 3) := by decide +kernel
theorem d_M_isLegal_23 : decode (rm_code mM_isLegal) 23 = .ok (.iconst 1, 1) := by decide +kernel
theorem d_M_isLegal_24 : decode (rm_code mM_isLegal) 24 = .ok (.goto (4), 3) := by decide +kernel
theorem d_M_isLegal_27 : decode (rm_code mM_isLegal) 27 = .ok (.iconst 0, 1) := by decide +kernel
theorem d_M_isLegal_28 : decode (rm_code mM_isLegal) 28 = .ok (.ireturn, 1) := by decide +kernel
theorem c_M_isLegal {S : rz_S} (t s : Int32) : rz_ev mM_isLegal [.int t, .int s] S (rz_i (fun x S1 => x = (if t < 1 then 0 else if 12 < t then 0 else if s < 0 then 0 else if 8 - (t - 1) / 3 ≤ s then 0 else 1) ∧ S1 = S)) := by
  show rz _ 0 [(0, .int t), (1, .int s)] [] _ _
  refine rz_pure (pc' := 1) d_M_isLegal_0 rfl ?_
  refine rz_iconst (v := 1) d_M_isLegal_1 (by decide) ?_
  refine rz_icmplt (tgt := 27) d_M_isLegal_2 rfl (fun b1 => ?_) (fun b1 => ?_)
  · skip
    refine rz_iconst (v := 0) d_M_isLegal_27 (by decide) ?_
    exact rz_ireti d_M_isLegal_28 rfl (by rfl) (by simp only [*, if_true, if_false, and_self])
  · skip
    refine rz_pure (pc' := 6) d_M_isLegal_5 rfl ?_
    refine rz_bipush (v := 12) d_M_isLegal_6 (by decide) ?_
    refine rz_icmpgt (tgt := 27) d_M_isLegal_8 rfl (fun b2 => ?_) (fun b2 => ?_)
    · skip
      refine rz_iconst (v := 0) d_M_isLegal_27 (by decide) ?_
      exact rz_ireti d_M_isLegal_28 rfl (by rfl) (by simp only [*, if_true, if_false, and_self])
    · skip
      refine rz_pure (pc' := 12) d_M_isLegal_11 rfl ?_
      refine rz_iflt (tgt := 27) d_M_isLegal_12 rfl (fun b3 => ?_) (fun b3 => ?_)
      · skip
        refine rz_iconst (v := 0) d_M_isLegal_27 (by decide) ?_
        exact rz_ireti d_M_isLegal_28 rfl (by rfl) (by simp only [*, if_true, if_false, and_self])
      · skip
        refine rz_pure (pc' := 16) d_M_isLegal_15 rfl ?_
        refine rz_pure (pc' := 17) d_M_isLegal_16 rfl ?_
        refine rz_callSi (t := [_]) d_M_isLegal_17 rfl w_12_1 rfl rfl (c_M_sectorsOf _) (fun x4 S4 q4 => ?_)
        obtain ⟨rfl, rfl⟩ := q4
        refine rz_icmpge (tgt := 27) d_M_isLegal_20 rfl (fun b5 => ?_) (fun b5 => ?_)
        · skip
          refine rz_iconst (v := 0) d_M_isLegal_27 (by decide) ?_
          exact rz_ireti d_M_isLegal_28 rfl (by rfl) (by simp only [*, if_true, if_false, and_self])
        · skip
          refine rz_iconst (v := 1) d_M_isLegal_23 (by decide) ?_
          refine rz_pure (pc' := 28) d_M_isLegal_24 rfl ?_
          exact rz_ireti d_M_isLegal_28 rfl (by rfl) (by simp only [*, if_true, if_false, and_self])
theorem d_M_fault_0 : decode (rm_code mM_fault) 0 = .ok (.aload_n 0, 1) := by decide +kernel
theorem d_M_fault_1 : decode (rm_code mM_fault) 1 = .ok (.iload_n 2, 1) := by decide +kernel
theorem d_M_fault_2 : decode (rm_code mM_fault) 2 = .ok (.putfield 7, 3) := by decide +kernel
theorem d_M_fault_5 : decode (rm_code mM_fault) 5 = .ok (.aload_n 0, 1) := by decide +kernel
theorem d_M_fault_6 : decode (rm_code mM_fault) 6 = .ok (.iload_n 3, 1) := by decide +kernel
theorem d_M_fault_7 : decode (rm_code mM_fault) 7 = .ok (.putfield 11, 3) := by decide +kernel
theorem d_M_fault_10 : decode (rm_code mM_fault) 10 = .ok (.iload_n 1, 1) := by decide +kernel
theorem d_M_fault_11 : decode (rm_code mM_fault) 11 = .ok (.ireturn, 1) := by decide +kernel
theorem c_M_fault {S : rz_S} (n t s : Int32) : rz_ev mM_fault [.ref 116, .int n, .int t, .int s] S (rz_i (fun x S1 => x = n ∧ S1 = (rz_uI (rz_uI S 116 4 t) 116 5 s))) := by
  show rz _ 0 [(0, .ref 116), (1, .int n), (2, .int t), (3, .int s)] [] _ _
  refine rz_pure (pc' := 1) d_M_fault_0 rfl ?_
  refine rz_pure (pc' := 2) d_M_fault_1 rfl ?_
  refine rz_puti d_M_fault_2 f_12_7 rfl rfl rfl ?_
  refine rz_pure (pc' := 6) d_M_fault_5 rfl ?_
  refine rz_pure (pc' := 7) d_M_fault_6 rfl ?_
  refine rz_puti d_M_fault_7 f_12_11 rfl rfl rfl ?_
  refine rz_pure (pc' := 11) d_M_fault_10 rfl ?_
  exact rz_ireti d_M_fault_11 rfl (by rfl) (by exact ⟨rfl, rfl⟩)
theorem d_M_bitAt_0 : decode (rm_code mM_bitAt) 0 = .ok (.aload_n 0, 1) := by decide +kernel
theorem d_M_bitAt_1 : decode (rm_code mM_bitAt) 1 = .ok (.getfield 14, 3) := by decide +kernel
theorem d_M_bitAt_4 : decode (rm_code mM_bitAt) 4 = .ok (.sipush (1000), 3) := by decide +kernel
theorem d_M_bitAt_7 : decode (rm_code mM_bitAt) 7 = .ok (.iload_n 1, 1) := by decide +kernel
theorem d_M_bitAt_8 : decode (rm_code mM_bitAt) 8 = .ok (.iconst 1, 1) := by decide +kernel
theorem d_M_bitAt_9 : decode (rm_code mM_bitAt) 9 = .ok (.isub, 1) := by decide +kernel
theorem d_M_bitAt_10 : decode (rm_code mM_bitAt) 10 = .ok (.imul, 1) := by decide +kernel
theorem d_M_bitAt_11 : decode (rm_code mM_bitAt) 11 = .ok (.iload_n 2, 1) := by decide +kernel
theorem d_M_bitAt_12 : decode (rm_code mM_bitAt) 12 = .ok (.iconst 3, 1) := by decide +kernel
theorem d_M_bitAt_13 : decode (rm_code mM_bitAt) 13 = .ok (.ishr, 1) := by decide +kernel
theorem d_M_bitAt_14 : decode (rm_code mM_bitAt) 14 = .ok (.iadd, 1) := by decide +kernel
theorem d_M_bitAt_15 : decode (rm_code mM_bitAt) 15 = .ok (.baload, 1) := by decide +kernel
theorem d_M_bitAt_16 : decode (rm_code mM_bitAt) 16 = .ok (.bipush (7), 2) := by decide +kernel
theorem d_M_bitAt_18 : decode (rm_code mM_bitAt) 18 = .ok (.iload_n 2, 1) := by decide +kernel
theorem d_M_bitAt_19 : decode (rm_code mM_bitAt) 19 = .ok (.bipush (7), 2) := by decide +kernel
theorem d_M_bitAt_21 : decode (rm_code mM_bitAt) 21 = .ok (.iand, 1) := by decide +kernel
theorem d_M_bitAt_22 : decode (rm_code mM_bitAt) 22 = .ok (.isub, 1) := by decide +kernel
theorem d_M_bitAt_23 : decode (rm_code mM_bitAt) 23 = .ok (.ishr, 1) := by decide +kernel
theorem d_M_bitAt_24 : decode (rm_code mM_bitAt) 24 = .ok (.iconst 1, 1) := by decide +kernel
theorem d_M_bitAt_25 : decode (rm_code mM_bitAt) 25 = .ok (.iand, 1) := by decide +kernel
theorem d_M_bitAt_26 : decode (rm_code mM_bitAt) 26 = .ok (.ireturn, 1) := by decide +kernel
theorem c_M_bitAt {S : rz_S} (t p : Int32) (h : rx_in (1000 * (t - 1) + p >>> ((3 : Int32) &&& 31)) 12000 = true) : rz_ev mM_bitAt [.ref 116, .int t, .int p] S (rz_i (fun x S1 => x = ((S.1 117 (1000 * (t - 1) + p >>> ((3 : Int32) &&& 31)).toNatClampNeg >>> ((7 - (p &&& 7)) &&& 31)) &&& 1) ∧ S1 = S)) := by
  show rz _ 0 [(0, .ref 116), (1, .int t), (2, .int p)] [] _ _
  refine rz_pure (pc' := 1) d_M_bitAt_0 rfl ?_
  refine rz_getr d_M_bitAt_1 f_12_14 rfl rfl ?_
  refine rz_sipush (v := 1000) d_M_bitAt_4 (by decide) ?_
  refine rz_pure (pc' := 8) d_M_bitAt_7 rfl ?_
  refine rz_iconst (v := 1) d_M_bitAt_8 (by decide) ?_
  refine rz_pure (pc' := 10) d_M_bitAt_9 rfl ?_
  refine rz_pure (pc' := 11) d_M_bitAt_10 rfl ?_
  refine rz_pure (pc' := 12) d_M_bitAt_11 rfl ?_
  refine rz_iconst (v := 3) d_M_bitAt_12 (by decide) ?_
  refine rz_pure (pc' := 14) d_M_bitAt_13 rfl ?_
  refine rz_pure (pc' := 15) d_M_bitAt_14 rfl ?_
  refine rz_bald d_M_bitAt_15 rfl (by decide) (by exact h) ?_
  refine rz_bipush (v := 7) d_M_bitAt_16 (by decide) ?_
  refine rz_pure (pc' := 19) d_M_bitAt_18 rfl ?_
  refine rz_bipush (v := 7) d_M_bitAt_19 (by decide) ?_
  refine rz_pure (pc' := 22) d_M_bitAt_21 rfl ?_
  refine rz_pure (pc' := 23) d_M_bitAt_22 rfl ?_
  refine rz_pure (pc' := 24) d_M_bitAt_23 rfl ?_
  refine rz_iconst (v := 1) d_M_bitAt_24 (by decide) ?_
  refine rz_pure (pc' := 26) d_M_bitAt_25 rfl ?_
  exact rz_ireti d_M_bitAt_26 rfl (by rfl) (by exact ⟨rfl, rfl⟩)
end
