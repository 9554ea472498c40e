section
-- ===== PART A: goes FIRST, ahead of the names: the tables' words, and 'selects' of the private methods out of them =====
/-- a private method of a class that the tables say can be made, by its rows of tables_1 -/
def lw_okq (q : MethodName × Nat) : Prop := (q.1.cls ≠ "java/lang/invoke/MethodHandle" ∧ q.1.cls ≠ "java/lang/invoke/VarHandle") ∧ Cond.instantiable q.1.cls q.2 ∈ tables_1 ∧ Cond.privateMethod q.1 ∈ tables_1 ∧ Cond.instanceMethod q.1 ∈ tables_1
theorem lw_p0 : lw_okq (⟨"RingDrive", "sendText", "(II)Z"⟩, 9) := ⟨⟨by decide +kernel, by decide +kernel⟩, List.mem_of_getElem? (i := 22) (by decide +kernel), List.mem_of_getElem? (i := 507) (by decide +kernel), List.mem_of_getElem? (i := 508) (by decide +kernel)⟩
theorem lw_p1 : lw_okq (⟨"RingDrive$Commands", "newDisk", "()I"⟩, 10) := ⟨⟨by decide +kernel, by decide +kernel⟩, List.mem_of_getElem? (i := 424) (by decide +kernel), List.mem_of_getElem? (i := 539) (by decide +kernel), List.mem_of_getElem? (i := 540) (by decide +kernel)⟩
theorem lw_p2 : lw_okq (⟨"RingDrive$Commands", "formatAll", "(II)I"⟩, 10) := ⟨⟨by decide +kernel, by decide +kernel⟩, List.mem_of_getElem? (i := 424) (by decide +kernel), List.mem_of_getElem? (i := 562) (by decide +kernel), List.mem_of_getElem? (i := 563) (by decide +kernel)⟩
theorem lw_p3 : lw_okq (⟨"RingDrive$Disk", "codeData", "([I)V"⟩, 10) := ⟨⟨by decide +kernel, by decide +kernel⟩, List.mem_of_getElem? (i := 97) (by decide +kernel), List.mem_of_getElem? (i := 583) (by decide +kernel), List.mem_of_getElem? (i := 584) (by decide +kernel)⟩
theorem lw_p4 : lw_okq (⟨"RingDrive$Disk", "fillHeader", "(IIII)V"⟩, 10) := ⟨⟨by decide +kernel, by decide +kernel⟩, List.mem_of_getElem? (i := 97) (by decide +kernel), List.mem_of_getElem? (i := 592) (by decide +kernel), List.mem_of_getElem? (i := 593) (by decide +kernel)⟩
theorem lw_p5 : lw_okq (⟨"RingDrive$Disk", "isHeader", "()Z"⟩, 10) := ⟨⟨by decide +kernel, by decide +kernel⟩, List.mem_of_getElem? (i := 97) (by decide +kernel), List.mem_of_getElem? (i := 651) (by decide +kernel), List.mem_of_getElem? (i := 652) (by decide +kernel)⟩
theorem lw_p6 : lw_okq (⟨"RingDrive$Disk", "seek", "(LRingDrive$Ring;II)I"⟩, 10) := ⟨⟨by decide +kernel, by decide +kernel⟩, List.mem_of_getElem? (i := 97) (by decide +kernel), List.mem_of_getElem? (i := 690) (by decide +kernel), List.mem_of_getElem? (i := 691) (by decide +kernel)⟩
theorem lw_p7 : lw_okq (⟨"RingDrive$Commands", "scratch", "()I"⟩, 10) := ⟨⟨by decide +kernel, by decide +kernel⟩, List.mem_of_getElem? (i := 424) (by decide +kernel), List.mem_of_getElem? (i := 716) (by decide +kernel), List.mem_of_getElem? (i := 717) (by decide +kernel)⟩
theorem lw_p8 : lw_okq (⟨"RingDrive$Disk", "dataFault", "()I"⟩, 10) := ⟨⟨by decide +kernel, by decide +kernel⟩, List.mem_of_getElem? (i := 97) (by decide +kernel), List.mem_of_getElem? (i := 736) (by decide +kernel), List.mem_of_getElem? (i := 737) (by decide +kernel)⟩
theorem lw_p9 : lw_okq (⟨"RingDrive$Directory", "isWanted", "(LRingDrive$Pattern;)Z"⟩, 9) := ⟨⟨by decide +kernel, by decide +kernel⟩, List.mem_of_getElem? (i := 269) (by decide +kernel), List.mem_of_getElem? (i := 743) (by decide +kernel), List.mem_of_getElem? (i := 744) (by decide +kernel)⟩
theorem lw_p10 : lw_okq (⟨"RingDrive$Directory", "base", "()I"⟩, 9) := ⟨⟨by decide +kernel, by decide +kernel⟩, List.mem_of_getElem? (i := 269) (by decide +kernel), List.mem_of_getElem? (i := 751) (by decide +kernel), List.mem_of_getElem? (i := 752) (by decide +kernel)⟩
theorem lw_p11 : lw_okq (⟨"RingDrive$Dos", "giveBackChain", "(II)I"⟩, 12) := ⟨⟨by decide +kernel, by decide +kernel⟩, List.mem_of_getElem? (i := 224) (by decide +kernel), List.mem_of_getElem? (i := 786) (by decide +kernel), List.mem_of_getElem? (i := 787) (by decide +kernel)⟩
theorem lw_p12 : lw_okq (⟨"RingDrive$Commands", "rename", "()I"⟩, 10) := ⟨⟨by decide +kernel, by decide +kernel⟩, List.mem_of_getElem? (i := 424) (by decide +kernel), List.mem_of_getElem? (i := 802) (by decide +kernel), List.mem_of_getElem? (i := 803) (by decide +kernel)⟩
theorem lw_p13 : lw_okq (⟨"RingDrive$Commands", "initialise", "()I"⟩, 10) := ⟨⟨by decide +kernel, by decide +kernel⟩, List.mem_of_getElem? (i := 424) (by decide +kernel), List.mem_of_getElem? (i := 811) (by decide +kernel), List.mem_of_getElem? (i := 812) (by decide +kernel)⟩
theorem lw_p14 : lw_okq (⟨"RingDrive$Commands", "unknown", "()I"⟩, 10) := ⟨⟨by decide +kernel, by decide +kernel⟩, List.mem_of_getElem? (i := 424) (by decide +kernel), List.mem_of_getElem? (i := 816) (by decide +kernel), List.mem_of_getElem? (i := 817) (by decide +kernel)⟩
theorem lw_p15 : lw_okq (⟨"RingDrive$Commands", "validate", "()I"⟩, 10) := ⟨⟨by decide +kernel, by decide +kernel⟩, List.mem_of_getElem? (i := 424) (by decide +kernel), List.mem_of_getElem? (i := 820) (by decide +kernel), List.mem_of_getElem? (i := 821) (by decide +kernel)⟩
def lw_privs_1 : List (MethodName × Nat) := [(⟨"RingDrive", "sendText", "(II)Z"⟩, 9), (⟨"RingDrive$Commands", "newDisk", "()I"⟩, 10), (⟨"RingDrive$Commands", "formatAll", "(II)I"⟩, 10), (⟨"RingDrive$Disk", "codeData", "([I)V"⟩, 10), (⟨"RingDrive$Disk", "fillHeader", "(IIII)V"⟩, 10), (⟨"RingDrive$Disk", "isHeader", "()Z"⟩, 10), (⟨"RingDrive$Disk", "seek", "(LRingDrive$Ring;II)I"⟩, 10), (⟨"RingDrive$Commands", "scratch", "()I"⟩, 10), (⟨"RingDrive$Disk", "dataFault", "()I"⟩, 10), (⟨"RingDrive$Directory", "isWanted", "(LRingDrive$Pattern;)Z"⟩, 9), (⟨"RingDrive$Directory", "base", "()I"⟩, 9), (⟨"RingDrive$Dos", "giveBackChain", "(II)I"⟩, 12), (⟨"RingDrive$Commands", "rename", "()I"⟩, 10), (⟨"RingDrive$Commands", "initialise", "()I"⟩, 10), (⟨"RingDrive$Commands", "unknown", "()I"⟩, 10), (⟨"RingDrive$Commands", "validate", "()I"⟩, 10)]
theorem lw_r1 : ∀ q ∈ lw_privs_1, lw_okq q := List.forall_mem_cons.mpr ⟨lw_p0, List.forall_mem_cons.mpr ⟨lw_p1, List.forall_mem_cons.mpr ⟨lw_p2, List.forall_mem_cons.mpr ⟨lw_p3, List.forall_mem_cons.mpr ⟨lw_p4, List.forall_mem_cons.mpr ⟨lw_p5, List.forall_mem_cons.mpr ⟨lw_p6, List.forall_mem_cons.mpr ⟨lw_p7, List.forall_mem_cons.mpr ⟨lw_p8, List.forall_mem_cons.mpr ⟨lw_p9, List.forall_mem_cons.mpr ⟨lw_p10, List.forall_mem_cons.mpr ⟨lw_p11, List.forall_mem_cons.mpr ⟨lw_p12, List.forall_mem_cons.mpr ⟨lw_p13, List.forall_mem_cons.mpr ⟨lw_p14, List.forall_mem_cons.mpr ⟨lw_p15, fun _ h => absurd h List.not_mem_nil⟩⟩⟩⟩⟩⟩⟩⟩⟩⟩⟩⟩⟩⟩⟩⟩
theorem lw_p16 : lw_okq (⟨"RingDrive$Commands", "takeDirectory", "()I"⟩, 10) := ⟨⟨by decide +kernel, by decide +kernel⟩, List.mem_of_getElem? (i := 424) (by decide +kernel), List.mem_of_getElem? (i := 826) (by decide +kernel), List.mem_of_getElem? (i := 827) (by decide +kernel)⟩
theorem lw_p17 : lw_okq (⟨"RingDrive$Commands", "takeChain", "(II)I"⟩, 10) := ⟨⟨by decide +kernel, by decide +kernel⟩, List.mem_of_getElem? (i := 424) (by decide +kernel), List.mem_of_getElem? (i := 838) (by decide +kernel), List.mem_of_getElem? (i := 839) (by decide +kernel)⟩
theorem lw_p18 : lw_okq (⟨"RingDrive$Commands", "user", "()I"⟩, 10) := ⟨⟨by decide +kernel, by decide +kernel⟩, List.mem_of_getElem? (i := 424) (by decide +kernel), List.mem_of_getElem? (i := 847) (by decide +kernel), List.mem_of_getElem? (i := 848) (by decide +kernel)⟩
theorem lw_p19 : lw_okq (⟨"RingDrive$Commands", "moveBlock", "(Z)I"⟩, 10) := ⟨⟨by decide +kernel, by decide +kernel⟩, List.mem_of_getElem? (i := 424) (by decide +kernel), List.mem_of_getElem? (i := 851) (by decide +kernel), List.mem_of_getElem? (i := 852) (by decide +kernel)⟩
theorem lw_p20 : lw_okq (⟨"RingDrive$Commands", "restart", "()I"⟩, 10) := ⟨⟨by decide +kernel, by decide +kernel⟩, List.mem_of_getElem? (i := 424) (by decide +kernel), List.mem_of_getElem? (i := 873) (by decide +kernel), List.mem_of_getElem? (i := 874) (by decide +kernel)⟩
theorem lw_p21 : lw_okq (⟨"RingDrive$Commands", "block", "()I"⟩, 10) := ⟨⟨by decide +kernel, by decide +kernel⟩, List.mem_of_getElem? (i := 424) (by decide +kernel), List.mem_of_getElem? (i := 878) (by decide +kernel), List.mem_of_getElem? (i := 879) (by decide +kernel)⟩
theorem lw_p22 : lw_okq (⟨"RingDrive$Commands", "setPlace", "()I"⟩, 10) := ⟨⟨by decide +kernel, by decide +kernel⟩, List.mem_of_getElem? (i := 424) (by decide +kernel), List.mem_of_getElem? (i := 882) (by decide +kernel), List.mem_of_getElem? (i := 883) (by decide +kernel)⟩
theorem lw_p23 : lw_okq (⟨"RingDrive$Commands", "allocate", "(Z)I"⟩, 10) := ⟨⟨by decide +kernel, by decide +kernel⟩, List.mem_of_getElem? (i := 424) (by decide +kernel), List.mem_of_getElem? (i := 886) (by decide +kernel), List.mem_of_getElem? (i := 887) (by decide +kernel)⟩
theorem lw_p24 : lw_okq (⟨"RingDrive$Commands", "tellNextFree", "(II)I"⟩, 10) := ⟨⟨by decide +kernel, by decide +kernel⟩, List.mem_of_getElem? (i := 424) (by decide +kernel), List.mem_of_getElem? (i := 890) (by decide +kernel), List.mem_of_getElem? (i := 891) (by decide +kernel)⟩
theorem lw_p25 : lw_okq (⟨"RingDrive$Commands", "program", "()I"⟩, 10) := ⟨⟨by decide +kernel, by decide +kernel⟩, List.mem_of_getElem? (i := 424) (by decide +kernel), List.mem_of_getElem? (i := 896) (by decide +kernel), List.mem_of_getElem? (i := 897) (by decide +kernel)⟩
theorem lw_p26 : lw_okq (⟨"RingDrive$Commands", "argument", "(I)I"⟩, 10) := ⟨⟨by decide +kernel, by decide +kernel⟩, List.mem_of_getElem? (i := 424) (by decide +kernel), List.mem_of_getElem? (i := 900) (by decide +kernel), List.mem_of_getElem? (i := 901) (by decide +kernel)⟩
theorem lw_p27 : lw_okq (⟨"RingDrive$Processor", "begin", "(I)V"⟩, 10) := ⟨⟨by decide +kernel, by decide +kernel⟩, List.mem_of_getElem? (i := 180) (by decide +kernel), List.mem_of_getElem? (i := 921) (by decide +kernel), List.mem_of_getElem? (i := 922) (by decide +kernel)⟩
theorem lw_p28 : lw_okq (⟨"RingDrive$Processor", "locate", "(I)V"⟩, 10) := ⟨⟨by decide +kernel, by decide +kernel⟩, List.mem_of_getElem? (i := 180) (by decide +kernel), List.mem_of_getElem? (i := 932) (by decide +kernel), List.mem_of_getElem? (i := 933) (by decide +kernel)⟩
theorem lw_p29 : lw_okq (⟨"RingDrive$Processor", "fetch", "()I"⟩, 10) := ⟨⟨by decide +kernel, by decide +kernel⟩, List.mem_of_getElem? (i := 180) (by decide +kernel), List.mem_of_getElem? (i := 936) (by decide +kernel), List.mem_of_getElem? (i := 937) (by decide +kernel)⟩
theorem lw_p30 : lw_okq (⟨"RingDrive$Processor", "fetchTwo", "()I"⟩, 10) := ⟨⟨by decide +kernel, by decide +kernel⟩, List.mem_of_getElem? (i := 180) (by decide +kernel), List.mem_of_getElem? (i := 940) (by decide +kernel), List.mem_of_getElem? (i := 941) (by decide +kernel)⟩
theorem lw_p31 : lw_okq (⟨"RingDrive$Processor", "indexed", "(II)V"⟩, 10) := ⟨⟨by decide +kernel, by decide +kernel⟩, List.mem_of_getElem? (i := 180) (by decide +kernel), List.mem_of_getElem? (i := 944) (by decide +kernel), List.mem_of_getElem? (i := 945) (by decide +kernel)⟩
def lw_privs_2 : List (MethodName × Nat) := [(⟨"RingDrive$Commands", "takeDirectory", "()I"⟩, 10), (⟨"RingDrive$Commands", "takeChain", "(II)I"⟩, 10), (⟨"RingDrive$Commands", "user", "()I"⟩, 10), (⟨"RingDrive$Commands", "moveBlock", "(Z)I"⟩, 10), (⟨"RingDrive$Commands", "restart", "()I"⟩, 10), (⟨"RingDrive$Commands", "block", "()I"⟩, 10), (⟨"RingDrive$Commands", "setPlace", "()I"⟩, 10), (⟨"RingDrive$Commands", "allocate", "(Z)I"⟩, 10), (⟨"RingDrive$Commands", "tellNextFree", "(II)I"⟩, 10), (⟨"RingDrive$Commands", "program", "()I"⟩, 10), (⟨"RingDrive$Commands", "argument", "(I)I"⟩, 10), (⟨"RingDrive$Processor", "begin", "(I)V"⟩, 10), (⟨"RingDrive$Processor", "locate", "(I)V"⟩, 10), (⟨"RingDrive$Processor", "fetch", "()I"⟩, 10), (⟨"RingDrive$Processor", "fetchTwo", "()I"⟩, 10), (⟨"RingDrive$Processor", "indexed", "(II)V"⟩, 10)]
theorem lw_r2 : ∀ q ∈ lw_privs_2, lw_okq q := List.forall_mem_cons.mpr ⟨lw_p16, List.forall_mem_cons.mpr ⟨lw_p17, List.forall_mem_cons.mpr ⟨lw_p18, List.forall_mem_cons.mpr ⟨lw_p19, List.forall_mem_cons.mpr ⟨lw_p20, List.forall_mem_cons.mpr ⟨lw_p21, List.forall_mem_cons.mpr ⟨lw_p22, List.forall_mem_cons.mpr ⟨lw_p23, List.forall_mem_cons.mpr ⟨lw_p24, List.forall_mem_cons.mpr ⟨lw_p25, List.forall_mem_cons.mpr ⟨lw_p26, List.forall_mem_cons.mpr ⟨lw_p27, List.forall_mem_cons.mpr ⟨lw_p28, List.forall_mem_cons.mpr ⟨lw_p29, List.forall_mem_cons.mpr ⟨lw_p30, List.forall_mem_cons.mpr ⟨lw_p31, fun _ h => absurd h List.not_mem_nil⟩⟩⟩⟩⟩⟩⟩⟩⟩⟩⟩⟩⟩⟩⟩⟩
theorem lw_p32 : lw_okq (⟨"RingDrive$Processor", "pair", "(I)I"⟩, 10) := ⟨⟨by decide +kernel, by decide +kernel⟩, List.mem_of_getElem? (i := 180) (by decide +kernel), List.mem_of_getElem? (i := 948) (by decide +kernel), List.mem_of_getElem? (i := 949) (by decide +kernel)⟩
theorem lw_p33 : lw_okq (⟨"RingDrive$Processor", "perform", "(II)V"⟩, 10) := ⟨⟨by decide +kernel, by decide +kernel⟩, List.mem_of_getElem? (i := 180) (by decide +kernel), List.mem_of_getElem? (i := 953) (by decide +kernel), List.mem_of_getElem? (i := 954) (by decide +kernel)⟩
theorem lw_p34 : lw_okq (⟨"RingDrive$Processor", "useValue", "(II)V"⟩, 10) := ⟨⟨by decide +kernel, by decide +kernel⟩, List.mem_of_getElem? (i := 180) (by decide +kernel), List.mem_of_getElem? (i := 957) (by decide +kernel), List.mem_of_getElem? (i := 958) (by decide +kernel)⟩
theorem lw_p35 : lw_okq (⟨"RingDrive$Processor", "marked", "(I)I"⟩, 10) := ⟨⟨by decide +kernel, by decide +kernel⟩, List.mem_of_getElem? (i := 180) (by decide +kernel), List.mem_of_getElem? (i := 961) (by decide +kernel), List.mem_of_getElem? (i := 962) (by decide +kernel)⟩
theorem lw_p36 : lw_okq (⟨"RingDrive$Processor", "add", "(I)V"⟩, 10) := ⟨⟨by decide +kernel, by decide +kernel⟩, List.mem_of_getElem? (i := 180) (by decide +kernel), List.mem_of_getElem? (i := 965) (by decide +kernel), List.mem_of_getElem? (i := 966) (by decide +kernel)⟩
theorem lw_p37 : lw_okq (⟨"RingDrive$Processor", "has", "(I)Z"⟩, 10) := ⟨⟨by decide +kernel, by decide +kernel⟩, List.mem_of_getElem? (i := 180) (by decide +kernel), List.mem_of_getElem? (i := 969) (by decide +kernel), List.mem_of_getElem? (i := 970) (by decide +kernel)⟩
theorem lw_p38 : lw_okq (⟨"RingDrive$Processor", "addBinary", "(I)V"⟩, 10) := ⟨⟨by decide +kernel, by decide +kernel⟩, List.mem_of_getElem? (i := 180) (by decide +kernel), List.mem_of_getElem? (i := 973) (by decide +kernel), List.mem_of_getElem? (i := 974) (by decide +kernel)⟩
theorem lw_p39 : lw_okq (⟨"RingDrive$Processor", "flag", "(IZ)V"⟩, 10) := ⟨⟨by decide +kernel, by decide +kernel⟩, List.mem_of_getElem? (i := 180) (by decide +kernel), List.mem_of_getElem? (i := 977) (by decide +kernel), List.mem_of_getElem? (i := 978) (by decide +kernel)⟩
theorem lw_p40 : lw_okq (⟨"RingDrive$Processor", "subtract", "(I)V"⟩, 10) := ⟨⟨by decide +kernel, by decide +kernel⟩, List.mem_of_getElem? (i := 180) (by decide +kernel), List.mem_of_getElem? (i := 981) (by decide +kernel), List.mem_of_getElem? (i := 982) (by decide +kernel)⟩
theorem lw_p41 : lw_okq (⟨"RingDrive$Processor", "compare", "(II)V"⟩, 10) := ⟨⟨by decide +kernel, by decide +kernel⟩, List.mem_of_getElem? (i := 180) (by decide +kernel), List.mem_of_getElem? (i := 985) (by decide +kernel), List.mem_of_getElem? (i := 986) (by decide +kernel)⟩
theorem lw_p42 : lw_okq (⟨"RingDrive$Processor", "changeValue", "(IZ)V"⟩, 10) := ⟨⟨by decide +kernel, by decide +kernel⟩, List.mem_of_getElem? (i := 180) (by decide +kernel), List.mem_of_getElem? (i := 990) (by decide +kernel), List.mem_of_getElem? (i := 991) (by decide +kernel)⟩
theorem lw_p43 : lw_okq (⟨"RingDrive$Processor", "branch", "(I)V"⟩, 10) := ⟨⟨by decide +kernel, by decide +kernel⟩, List.mem_of_getElem? (i := 180) (by decide +kernel), List.mem_of_getElem? (i := 994) (by decide +kernel), List.mem_of_getElem? (i := 995) (by decide +kernel)⟩
theorem lw_p44 : lw_okq (⟨"RingDrive$Processor", "move", "(I)V"⟩, 10) := ⟨⟨by decide +kernel, by decide +kernel⟩, List.mem_of_getElem? (i := 180) (by decide +kernel), List.mem_of_getElem? (i := 998) (by decide +kernel), List.mem_of_getElem? (i := 999) (by decide +kernel)⟩
theorem lw_p45 : lw_okq (⟨"RingDrive$Processor", "changeFlag", "(I)V"⟩, 10) := ⟨⟨by decide +kernel, by decide +kernel⟩, List.mem_of_getElem? (i := 180) (by decide +kernel), List.mem_of_getElem? (i := 1002) (by decide +kernel), List.mem_of_getElem? (i := 1003) (by decide +kernel)⟩
theorem lw_p46 : lw_okq (⟨"RingDrive$Processor", "stack", "(I)V"⟩, 10) := ⟨⟨by decide +kernel, by decide +kernel⟩, List.mem_of_getElem? (i := 180) (by decide +kernel), List.mem_of_getElem? (i := 1006) (by decide +kernel), List.mem_of_getElem? (i := 1007) (by decide +kernel)⟩
theorem lw_p47 : lw_okq (⟨"RingDrive$Processor", "push", "(I)V"⟩, 10) := ⟨⟨by decide +kernel, by decide +kernel⟩, List.mem_of_getElem? (i := 180) (by decide +kernel), List.mem_of_getElem? (i := 1010) (by decide +kernel), List.mem_of_getElem? (i := 1011) (by decide +kernel)⟩
def lw_privs_3 : List (MethodName × Nat) := [(⟨"RingDrive$Processor", "pair", "(I)I"⟩, 10), (⟨"RingDrive$Processor", "perform", "(II)V"⟩, 10), (⟨"RingDrive$Processor", "useValue", "(II)V"⟩, 10), (⟨"RingDrive$Processor", "marked", "(I)I"⟩, 10), (⟨"RingDrive$Processor", "add", "(I)V"⟩, 10), (⟨"RingDrive$Processor", "has", "(I)Z"⟩, 10), (⟨"RingDrive$Processor", "addBinary", "(I)V"⟩, 10), (⟨"RingDrive$Processor", "flag", "(IZ)V"⟩, 10), (⟨"RingDrive$Processor", "subtract", "(I)V"⟩, 10), (⟨"RingDrive$Processor", "compare", "(II)V"⟩, 10), (⟨"RingDrive$Processor", "changeValue", "(IZ)V"⟩, 10), (⟨"RingDrive$Processor", "branch", "(I)V"⟩, 10), (⟨"RingDrive$Processor", "move", "(I)V"⟩, 10), (⟨"RingDrive$Processor", "changeFlag", "(I)V"⟩, 10), (⟨"RingDrive$Processor", "stack", "(I)V"⟩, 10), (⟨"RingDrive$Processor", "push", "(I)V"⟩, 10)]
theorem lw_r3 : ∀ q ∈ lw_privs_3, lw_okq q := List.forall_mem_cons.mpr ⟨lw_p32, List.forall_mem_cons.mpr ⟨lw_p33, List.forall_mem_cons.mpr ⟨lw_p34, List.forall_mem_cons.mpr ⟨lw_p35, List.forall_mem_cons.mpr ⟨lw_p36, List.forall_mem_cons.mpr ⟨lw_p37, List.forall_mem_cons.mpr ⟨lw_p38, List.forall_mem_cons.mpr ⟨lw_p39, List.forall_mem_cons.mpr ⟨lw_p40, List.forall_mem_cons.mpr ⟨lw_p41, List.forall_mem_cons.mpr ⟨lw_p42, List.forall_mem_cons.mpr ⟨lw_p43, List.forall_mem_cons.mpr ⟨lw_p44, List.forall_mem_cons.mpr ⟨lw_p45, List.forall_mem_cons.mpr ⟨lw_p46, List.forall_mem_cons.mpr ⟨lw_p47, fun _ h => absurd h List.not_mem_nil⟩⟩⟩⟩⟩⟩⟩⟩⟩⟩⟩⟩⟩⟩⟩⟩
theorem lw_p48 : lw_okq (⟨"RingDrive$Processor", "pull", "()I"⟩, 10) := ⟨⟨by decide +kernel, by decide +kernel⟩, List.mem_of_getElem? (i := 180) (by decide +kernel), List.mem_of_getElem? (i := 1014) (by decide +kernel), List.mem_of_getElem? (i := 1015) (by decide +kernel)⟩
theorem lw_p49 : lw_okq (⟨"RingDrive$Processor", "pullTwo", "()I"⟩, 10) := ⟨⟨by decide +kernel, by decide +kernel⟩, List.mem_of_getElem? (i := 180) (by decide +kernel), List.mem_of_getElem? (i := 1018) (by decide +kernel), List.mem_of_getElem? (i := 1019) (by decide +kernel)⟩
theorem lw_p50 : lw_okq (⟨"RingDrive$Dos", "goToEntryOf", "(LRingDrive$Channel;)V"⟩, 12) := ⟨⟨by decide +kernel, by decide +kernel⟩, List.mem_of_getElem? (i := 224) (by decide +kernel), List.mem_of_getElem? (i := 1033) (by decide +kernel), List.mem_of_getElem? (i := 1034) (by decide +kernel)⟩
theorem lw_p51 : lw_okq (⟨"RingDrive$Dos", "openBuffer", "(LRingDrive$Channel;)I"⟩, 12) := ⟨⟨by decide +kernel, by decide +kernel⟩, List.mem_of_getElem? (i := 224) (by decide +kernel), List.mem_of_getElem? (i := 1047) (by decide +kernel), List.mem_of_getElem? (i := 1048) (by decide +kernel)⟩
theorem lw_p52 : lw_okq (⟨"RingDrive$Dos", "openList", "(LRingDrive$Channel;)I"⟩, 12) := ⟨⟨by decide +kernel, by decide +kernel⟩, List.mem_of_getElem? (i := 224) (by decide +kernel), List.mem_of_getElem? (i := 1056) (by decide +kernel), List.mem_of_getElem? (i := 1057) (by decide +kernel)⟩
theorem lw_p53 : lw_okq (⟨"RingDrive$Dos", "parseFile", "(I)I"⟩, 12) := ⟨⟨by decide +kernel, by decide +kernel⟩, List.mem_of_getElem? (i := 224) (by decide +kernel), List.mem_of_getElem? (i := 1068) (by decide +kernel), List.mem_of_getElem? (i := 1069) (by decide +kernel)⟩
theorem lw_p54 : lw_okq (⟨"RingDrive$Dos", "sortTold", "(I)I"⟩, 12) := ⟨⟨by decide +kernel, by decide +kernel⟩, List.mem_of_getElem? (i := 224) (by decide +kernel), List.mem_of_getElem? (i := 1073) (by decide +kernel), List.mem_of_getElem? (i := 1074) (by decide +kernel)⟩
theorem lw_p55 : lw_okq (⟨"RingDrive$Dos", "wayTold", "(I)I"⟩, 12) := ⟨⟨by decide +kernel, by decide +kernel⟩, List.mem_of_getElem? (i := 224) (by decide +kernel), List.mem_of_getElem? (i := 1077) (by decide +kernel), List.mem_of_getElem? (i := 1078) (by decide +kernel)⟩
theorem lw_p56 : lw_okq (⟨"RingDrive$Dos", "openToRead", "(LRingDrive$Channel;)I"⟩, 12) := ⟨⟨by decide +kernel, by decide +kernel⟩, List.mem_of_getElem? (i := 224) (by decide +kernel), List.mem_of_getElem? (i := 1082) (by decide +kernel), List.mem_of_getElem? (i := 1083) (by decide +kernel)⟩
theorem lw_p57 : lw_okq (⟨"RingDrive$Dos", "openToWrite", "(LRingDrive$Channel;)I"⟩, 12) := ⟨⟨by decide +kernel, by decide +kernel⟩, List.mem_of_getElem? (i := 224) (by decide +kernel), List.mem_of_getElem? (i := 1097) (by decide +kernel), List.mem_of_getElem? (i := 1098) (by decide +kernel)⟩
theorem lw_p58 : lw_okq (⟨"RingDrive$Dos", "findRoom", "()I"⟩, 12) := ⟨⟨by decide +kernel, by decide +kernel⟩, List.mem_of_getElem? (i := 224) (by decide +kernel), List.mem_of_getElem? (i := 1102) (by decide +kernel), List.mem_of_getElem? (i := 1103) (by decide +kernel)⟩
theorem lw_p59 : lw_okq (⟨"RingDrive$BlockMap", "pickOf", "(II)Z"⟩, 4) := ⟨⟨by decide +kernel, by decide +kernel⟩, List.mem_of_getElem? (i := 245) (by decide +kernel), List.mem_of_getElem? (i := 1111) (by decide +kernel), List.mem_of_getElem? (i := 1112) (by decide +kernel)⟩
theorem lw_p60 : lw_okq (⟨"RingDrive$Dos", "startFile", "(LRingDrive$Channel;)I"⟩, 12) := ⟨⟨by decide +kernel, by decide +kernel⟩, List.mem_of_getElem? (i := 224) (by decide +kernel), List.mem_of_getElem? (i := 1121) (by decide +kernel), List.mem_of_getElem? (i := 1122) (by decide +kernel)⟩
theorem lw_p61 : lw_okq (⟨"RingDrive$Dos", "addToFile", "(LRingDrive$Channel;I)I"⟩, 12) := ⟨⟨by decide +kernel, by decide +kernel⟩, List.mem_of_getElem? (i := 224) (by decide +kernel), List.mem_of_getElem? (i := 1151) (by decide +kernel), List.mem_of_getElem? (i := 1152) (by decide +kernel)⟩
theorem lw_p62 : lw_okq (⟨"RingDrive$Dos", "goToNextBlock", "(LRingDrive$Channel;)I"⟩, 12) := ⟨⟨by decide +kernel, by decide +kernel⟩, List.mem_of_getElem? (i := 224) (by decide +kernel), List.mem_of_getElem? (i := 1160) (by decide +kernel), List.mem_of_getElem? (i := 1161) (by decide +kernel)⟩
theorem lw_p63 : lw_okq (⟨"RingDrive$Dos", "giveUpFile", "(LRingDrive$Channel;)I"⟩, 12) := ⟨⟨by decide +kernel, by decide +kernel⟩, List.mem_of_getElem? (i := 224) (by decide +kernel), List.mem_of_getElem? (i := 1164) (by decide +kernel), List.mem_of_getElem? (i := 1165) (by decide +kernel)⟩
def lw_privs_4 : List (MethodName × Nat) := [(⟨"RingDrive$Processor", "pull", "()I"⟩, 10), (⟨"RingDrive$Processor", "pullTwo", "()I"⟩, 10), (⟨"RingDrive$Dos", "goToEntryOf", "(LRingDrive$Channel;)V"⟩, 12), (⟨"RingDrive$Dos", "openBuffer", "(LRingDrive$Channel;)I"⟩, 12), (⟨"RingDrive$Dos", "openList", "(LRingDrive$Channel;)I"⟩, 12), (⟨"RingDrive$Dos", "parseFile", "(I)I"⟩, 12), (⟨"RingDrive$Dos", "sortTold", "(I)I"⟩, 12), (⟨"RingDrive$Dos", "wayTold", "(I)I"⟩, 12), (⟨"RingDrive$Dos", "openToRead", "(LRingDrive$Channel;)I"⟩, 12), (⟨"RingDrive$Dos", "openToWrite", "(LRingDrive$Channel;)I"⟩, 12), (⟨"RingDrive$Dos", "findRoom", "()I"⟩, 12), (⟨"RingDrive$BlockMap", "pickOf", "(II)Z"⟩, 4), (⟨"RingDrive$Dos", "startFile", "(LRingDrive$Channel;)I"⟩, 12), (⟨"RingDrive$Dos", "addToFile", "(LRingDrive$Channel;I)I"⟩, 12), (⟨"RingDrive$Dos", "goToNextBlock", "(LRingDrive$Channel;)I"⟩, 12), (⟨"RingDrive$Dos", "giveUpFile", "(LRingDrive$Channel;)I"⟩, 12)]
theorem lw_r4 : ∀ q ∈ lw_privs_4, lw_okq q := List.forall_mem_cons.mpr ⟨lw_p48, List.forall_mem_cons.mpr ⟨lw_p49, List.forall_mem_cons.mpr ⟨lw_p50, List.forall_mem_cons.mpr ⟨lw_p51, List.forall_mem_cons.mpr ⟨lw_p52, List.forall_mem_cons.mpr ⟨lw_p53, List.forall_mem_cons.mpr ⟨lw_p54, List.forall_mem_cons.mpr ⟨lw_p55, List.forall_mem_cons.mpr ⟨lw_p56, List.forall_mem_cons.mpr ⟨lw_p57, List.forall_mem_cons.mpr ⟨lw_p58, List.forall_mem_cons.mpr ⟨lw_p59, List.forall_mem_cons.mpr ⟨lw_p60, List.forall_mem_cons.mpr ⟨lw_p61, List.forall_mem_cons.mpr ⟨lw_p62, List.forall_mem_cons.mpr ⟨lw_p63, fun _ h => absurd h List.not_mem_nil⟩⟩⟩⟩⟩⟩⟩⟩⟩⟩⟩⟩⟩⟩⟩⟩
theorem lw_p64 : lw_okq (⟨"RingDrive$Status", "replyByte", "()I"⟩, 10) := ⟨⟨by decide +kernel, by decide +kernel⟩, List.mem_of_getElem? (i := 53) (by decide +kernel), List.mem_of_getElem? (i := 1186) (by decide +kernel), List.mem_of_getElem? (i := 1187) (by decide +kernel)⟩
theorem lw_p65 : lw_okq (⟨"RingDrive$Status", "textByte", "()I"⟩, 10) := ⟨⟨by decide +kernel, by decide +kernel⟩, List.mem_of_getElem? (i := 53) (by decide +kernel), List.mem_of_getElem? (i := 1190) (by decide +kernel), List.mem_of_getElem? (i := 1191) (by decide +kernel)⟩
theorem lw_p66 : lw_okq (⟨"RingDrive$Status", "spell", "()V"⟩, 10) := ⟨⟨by decide +kernel, by decide +kernel⟩, List.mem_of_getElem? (i := 53) (by decide +kernel), List.mem_of_getElem? (i := 1194) (by decide +kernel), List.mem_of_getElem? (i := 1195) (by decide +kernel)⟩
theorem lw_p67 : lw_okq (⟨"RingDrive$Status", "addTwoDigits", "(I)V"⟩, 10) := ⟨⟨by decide +kernel, by decide +kernel⟩, List.mem_of_getElem? (i := 53) (by decide +kernel), List.mem_of_getElem? (i := 1198) (by decide +kernel), List.mem_of_getElem? (i := 1199) (by decide +kernel)⟩
theorem lw_p68 : lw_okq (⟨"RingDrive$Status", "add", "(I)V"⟩, 10) := ⟨⟨by decide +kernel, by decide +kernel⟩, List.mem_of_getElem? (i := 53) (by decide +kernel), List.mem_of_getElem? (i := 1202) (by decide +kernel), List.mem_of_getElem? (i := 1203) (by decide +kernel)⟩
theorem lw_p69 : lw_okq (⟨"RingDrive$Status", "words", "()Ljava/lang/String;"⟩, 10) := ⟨⟨by decide +kernel, by decide +kernel⟩, List.mem_of_getElem? (i := 53) (by decide +kernel), List.mem_of_getElem? (i := 1206) (by decide +kernel), List.mem_of_getElem? (i := 1207) (by decide +kernel)⟩
theorem lw_p70 : lw_okq (⟨"RingDrive$Dos", "nextByte", "(LRingDrive$Channel;)I"⟩, 12) := ⟨⟨by decide +kernel, by decide +kernel⟩, List.mem_of_getElem? (i := 224) (by decide +kernel), List.mem_of_getElem? (i := 1281) (by decide +kernel), List.mem_of_getElem? (i := 1282) (by decide +kernel)⟩
theorem lw_p71 : lw_okq (⟨"RingDrive$Dos", "makeLine", "(LRingDrive$Channel;)I"⟩, 12) := ⟨⟨by decide +kernel, by decide +kernel⟩, List.mem_of_getElem? (i := 224) (by decide +kernel), List.mem_of_getElem? (i := 1285) (by decide +kernel), List.mem_of_getElem? (i := 1286) (by decide +kernel)⟩
theorem lw_p72 : lw_okq (⟨"RingDrive$Dos", "addTitle", "(LRingDrive$Channel;)V"⟩, 12) := ⟨⟨by decide +kernel, by decide +kernel⟩, List.mem_of_getElem? (i := 224) (by decide +kernel), List.mem_of_getElem? (i := 1293) (by decide +kernel), List.mem_of_getElem? (i := 1294) (by decide +kernel)⟩
theorem lw_p73 : lw_okq (⟨"RingDrive$Dos", "addEntry", "(LRingDrive$Channel;)V"⟩, 12) := ⟨⟨by decide +kernel, by decide +kernel⟩, List.mem_of_getElem? (i := 224) (by decide +kernel), List.mem_of_getElem? (i := 1301) (by decide +kernel), List.mem_of_getElem? (i := 1302) (by decide +kernel)⟩
theorem lw_p74 : lw_okq (⟨"RingDrive$Dos", "addFree", "(LRingDrive$Channel;)V"⟩, 12) := ⟨⟨by decide +kernel, by decide +kernel⟩, List.mem_of_getElem? (i := 224) (by decide +kernel), List.mem_of_getElem? (i := 1320) (by decide +kernel), List.mem_of_getElem? (i := 1321) (by decide +kernel)⟩
theorem lw_p75 : lw_okq (⟨"RingDrive$Dos", "readNext", "(LRingDrive$Channel;)I"⟩, 12) := ⟨⟨by decide +kernel, by decide +kernel⟩, List.mem_of_getElem? (i := 224) (by decide +kernel), List.mem_of_getElem? (i := 1328) (by decide +kernel), List.mem_of_getElem? (i := 1329) (by decide +kernel)⟩
theorem lw_p76 : lw_okq (⟨"RingDrive$Ring", "eight", "(I)I"⟩, 8) := ⟨⟨by decide +kernel, by decide +kernel⟩, List.mem_of_getElem? (i := 104) (by decide +kernel), List.mem_of_getElem? (i := 1355) (by decide +kernel), List.mem_of_getElem? (i := 1356) (by decide +kernel)⟩
theorem lw_p77 : lw_okq (⟨"RingDriveModel", "types", "(I)V"⟩, 84) := ⟨⟨by decide +kernel, by decide +kernel⟩, List.mem_of_getElem? (i := 1393) (by decide +kernel), List.mem_of_getElem? (i := 1391) (by decide +kernel), List.mem_of_getElem? (i := 1392) (by decide +kernel)⟩
theorem lw_p78 : lw_okq (⟨"RingDriveModel", "sends", "(I)V"⟩, 84) := ⟨⟨by decide +kernel, by decide +kernel⟩, List.mem_of_getElem? (i := 1393) (by decide +kernel), List.mem_of_getElem? (i := 1400) (by decide +kernel), List.mem_of_getElem? (i := 1401) (by decide +kernel)⟩
theorem lw_p79 : lw_okq (⟨"RingDriveModel", "commands", "(I)I"⟩, 84) := ⟨⟨by decide +kernel, by decide +kernel⟩, List.mem_of_getElem? (i := 1393) (by decide +kernel), List.mem_of_getElem? (i := 1404) (by decide +kernel), List.mem_of_getElem? (i := 1405) (by decide +kernel)⟩
def lw_privs_5 : List (MethodName × Nat) := [(⟨"RingDrive$Status", "replyByte", "()I"⟩, 10), (⟨"RingDrive$Status", "textByte", "()I"⟩, 10), (⟨"RingDrive$Status", "spell", "()V"⟩, 10), (⟨"RingDrive$Status", "addTwoDigits", "(I)V"⟩, 10), (⟨"RingDrive$Status", "add", "(I)V"⟩, 10), (⟨"RingDrive$Status", "words", "()Ljava/lang/String;"⟩, 10), (⟨"RingDrive$Dos", "nextByte", "(LRingDrive$Channel;)I"⟩, 12), (⟨"RingDrive$Dos", "makeLine", "(LRingDrive$Channel;)I"⟩, 12), (⟨"RingDrive$Dos", "addTitle", "(LRingDrive$Channel;)V"⟩, 12), (⟨"RingDrive$Dos", "addEntry", "(LRingDrive$Channel;)V"⟩, 12), (⟨"RingDrive$Dos", "addFree", "(LRingDrive$Channel;)V"⟩, 12), (⟨"RingDrive$Dos", "readNext", "(LRingDrive$Channel;)I"⟩, 12), (⟨"RingDrive$Ring", "eight", "(I)I"⟩, 8), (⟨"RingDriveModel", "types", "(I)V"⟩, 84), (⟨"RingDriveModel", "sends", "(I)V"⟩, 84), (⟨"RingDriveModel", "commands", "(I)I"⟩, 84)]
theorem lw_r5 : ∀ q ∈ lw_privs_5, lw_okq q := List.forall_mem_cons.mpr ⟨lw_p64, List.forall_mem_cons.mpr ⟨lw_p65, List.forall_mem_cons.mpr ⟨lw_p66, List.forall_mem_cons.mpr ⟨lw_p67, List.forall_mem_cons.mpr ⟨lw_p68, List.forall_mem_cons.mpr ⟨lw_p69, List.forall_mem_cons.mpr ⟨lw_p70, List.forall_mem_cons.mpr ⟨lw_p71, List.forall_mem_cons.mpr ⟨lw_p72, List.forall_mem_cons.mpr ⟨lw_p73, List.forall_mem_cons.mpr ⟨lw_p74, List.forall_mem_cons.mpr ⟨lw_p75, List.forall_mem_cons.mpr ⟨lw_p76, List.forall_mem_cons.mpr ⟨lw_p77, List.forall_mem_cons.mpr ⟨lw_p78, List.forall_mem_cons.mpr ⟨lw_p79, fun _ h => absurd h List.not_mem_nil⟩⟩⟩⟩⟩⟩⟩⟩⟩⟩⟩⟩⟩⟩⟩⟩
theorem lw_p80 : lw_okq (⟨"RingDriveModel", "begins", "()V"⟩, 84) := ⟨⟨by decide +kernel, by decide +kernel⟩, List.mem_of_getElem? (i := 1393) (by decide +kernel), List.mem_of_getElem? (i := 1408) (by decide +kernel), List.mem_of_getElem? (i := 1409) (by decide +kernel)⟩
theorem lw_p81 : lw_okq (⟨"RingDriveModel", "sets", "(III)V"⟩, 84) := ⟨⟨by decide +kernel, by decide +kernel⟩, List.mem_of_getElem? (i := 1393) (by decide +kernel), List.mem_of_getElem? (i := 1412) (by decide +kernel), List.mem_of_getElem? (i := 1413) (by decide +kernel)⟩
theorem lw_p82 : lw_okq (⟨"RingDriveModel", "fault", "(III)I"⟩, 84) := ⟨⟨by decide +kernel, by decide +kernel⟩, List.mem_of_getElem? (i := 1393) (by decide +kernel), List.mem_of_getElem? (i := 1416) (by decide +kernel), List.mem_of_getElem? (i := 1417) (by decide +kernel)⟩
theorem lw_p83 : lw_okq (⟨"RingDriveModel", "ends", "(I)I"⟩, 84) := ⟨⟨by decide +kernel, by decide +kernel⟩, List.mem_of_getElem? (i := 1393) (by decide +kernel), List.mem_of_getElem? (i := 1420) (by decide +kernel), List.mem_of_getElem? (i := 1421) (by decide +kernel)⟩
theorem lw_p84 : lw_okq (⟨"RingDriveModel", "does", "(I)I"⟩, 84) := ⟨⟨by decide +kernel, by decide +kernel⟩, List.mem_of_getElem? (i := 1393) (by decide +kernel), List.mem_of_getElem? (i := 1424) (by decide +kernel), List.mem_of_getElem? (i := 1425) (by decide +kernel)⟩
theorem lw_p85 : lw_okq (⟨"RingDriveModel", "again", "()I"⟩, 84) := ⟨⟨by decide +kernel, by decide +kernel⟩, List.mem_of_getElem? (i := 1393) (by decide +kernel), List.mem_of_getElem? (i := 1428) (by decide +kernel), List.mem_of_getElem? (i := 1429) (by decide +kernel)⟩
theorem lw_p86 : lw_okq (⟨"RingDriveModel", "takeId", "()I"⟩, 84) := ⟨⟨by decide +kernel, by decide +kernel⟩, List.mem_of_getElem? (i := 1393) (by decide +kernel), List.mem_of_getElem? (i := 1432) (by decide +kernel), List.mem_of_getElem? (i := 1433) (by decide +kernel)⟩
theorem lw_p87 : lw_okq (⟨"RingDriveModel", "round", "(I)I"⟩, 84) := ⟨⟨by decide +kernel, by decide +kernel⟩, List.mem_of_getElem? (i := 1393) (by decide +kernel), List.mem_of_getElem? (i := 1436) (by decide +kernel), List.mem_of_getElem? (i := 1437) (by decide +kernel)⟩
theorem lw_p88 : lw_okq (⟨"RingDriveModel", "bitAt", "(II)I"⟩, 84) := ⟨⟨by decide +kernel, by decide +kernel⟩, List.mem_of_getElem? (i := 1393) (by decide +kernel), List.mem_of_getElem? (i := 1443) (by decide +kernel), List.mem_of_getElem? (i := 1444) (by decide +kernel)⟩
theorem lw_p89 : lw_okq (⟨"RingDriveModel", "along", "(III)V"⟩, 84) := ⟨⟨by decide +kernel, by decide +kernel⟩, List.mem_of_getElem? (i := 1393) (by decide +kernel), List.mem_of_getElem? (i := 1447) (by decide +kernel), List.mem_of_getElem? (i := 1448) (by decide +kernel)⟩
theorem lw_p90 : lw_okq (⟨"RingDriveModel", "goes", "()Z"⟩, 84) := ⟨⟨by decide +kernel, by decide +kernel⟩, List.mem_of_getElem? (i := 1393) (by decide +kernel), List.mem_of_getElem? (i := 1451) (by decide +kernel), List.mem_of_getElem? (i := 1452) (by decide +kernel)⟩
theorem lw_p91 : lw_okq (⟨"RingDriveModel", "comes", "()I"⟩, 84) := ⟨⟨by decide +kernel, by decide +kernel⟩, List.mem_of_getElem? (i := 1393) (by decide +kernel), List.mem_of_getElem? (i := 1455) (by decide +kernel), List.mem_of_getElem? (i := 1456) (by decide +kernel)⟩
theorem lw_p92 : lw_okq (⟨"RingDriveModel", "reads", "(I)Z"⟩, 84) := ⟨⟨by decide +kernel, by decide +kernel⟩, List.mem_of_getElem? (i := 1393) (by decide +kernel), List.mem_of_getElem? (i := 1459) (by decide +kernel), List.mem_of_getElem? (i := 1460) (by decide +kernel)⟩
theorem lw_p93 : lw_okq (⟨"RingDriveModel", "group", "(I)I"⟩, 84) := ⟨⟨by decide +kernel, by decide +kernel⟩, List.mem_of_getElem? (i := 1393) (by decide +kernel), List.mem_of_getElem? (i := 1463) (by decide +kernel), List.mem_of_getElem? (i := 1464) (by decide +kernel)⟩
theorem lw_p94 : lw_okq (⟨"RingDriveModel", "loads", "()I"⟩, 84) := ⟨⟨by decide +kernel, by decide +kernel⟩, List.mem_of_getElem? (i := 1393) (by decide +kernel), List.mem_of_getElem? (i := 1473) (by decide +kernel), List.mem_of_getElem? (i := 1474) (by decide +kernel)⟩
theorem lw_p95 : lw_okq (⟨"RingDriveModel", "readBlock", "(II[II)I"⟩, 84) := ⟨⟨by decide +kernel, by decide +kernel⟩, List.mem_of_getElem? (i := 1393) (by decide +kernel), List.mem_of_getElem? (i := 1477) (by decide +kernel), List.mem_of_getElem? (i := 1478) (by decide +kernel)⟩
def lw_privs_6 : List (MethodName × Nat) := [(⟨"RingDriveModel", "begins", "()V"⟩, 84), (⟨"RingDriveModel", "sets", "(III)V"⟩, 84), (⟨"RingDriveModel", "fault", "(III)I"⟩, 84), (⟨"RingDriveModel", "ends", "(I)I"⟩, 84), (⟨"RingDriveModel", "does", "(I)I"⟩, 84), (⟨"RingDriveModel", "again", "()I"⟩, 84), (⟨"RingDriveModel", "takeId", "()I"⟩, 84), (⟨"RingDriveModel", "round", "(I)I"⟩, 84), (⟨"RingDriveModel", "bitAt", "(II)I"⟩, 84), (⟨"RingDriveModel", "along", "(III)V"⟩, 84), (⟨"RingDriveModel", "goes", "()Z"⟩, 84), (⟨"RingDriveModel", "comes", "()I"⟩, 84), (⟨"RingDriveModel", "reads", "(I)Z"⟩, 84), (⟨"RingDriveModel", "group", "(I)I"⟩, 84), (⟨"RingDriveModel", "loads", "()I"⟩, 84), (⟨"RingDriveModel", "readBlock", "(II[II)I"⟩, 84)]
theorem lw_r6 : ∀ q ∈ lw_privs_6, lw_okq q := List.forall_mem_cons.mpr ⟨lw_p80, List.forall_mem_cons.mpr ⟨lw_p81, List.forall_mem_cons.mpr ⟨lw_p82, List.forall_mem_cons.mpr ⟨lw_p83, List.forall_mem_cons.mpr ⟨lw_p84, List.forall_mem_cons.mpr ⟨lw_p85, List.forall_mem_cons.mpr ⟨lw_p86, List.forall_mem_cons.mpr ⟨lw_p87, List.forall_mem_cons.mpr ⟨lw_p88, List.forall_mem_cons.mpr ⟨lw_p89, List.forall_mem_cons.mpr ⟨lw_p90, List.forall_mem_cons.mpr ⟨lw_p91, List.forall_mem_cons.mpr ⟨lw_p92, List.forall_mem_cons.mpr ⟨lw_p93, List.forall_mem_cons.mpr ⟨lw_p94, List.forall_mem_cons.mpr ⟨lw_p95, fun _ h => absurd h List.not_mem_nil⟩⟩⟩⟩⟩⟩⟩⟩⟩⟩⟩⟩⟩⟩⟩⟩
theorem lw_p96 : lw_okq (⟨"RingDriveModel", "seek", "(II)I"⟩, 84) := ⟨⟨by decide +kernel, by decide +kernel⟩, List.mem_of_getElem? (i := 1393) (by decide +kernel), List.mem_of_getElem? (i := 1481) (by decide +kernel), List.mem_of_getElem? (i := 1482) (by decide +kernel)⟩
theorem lw_p97 : lw_okq (⟨"RingDriveModel", "header", "(IIII)V"⟩, 84) := ⟨⟨by decide +kernel, by decide +kernel⟩, List.mem_of_getElem? (i := 1393) (by decide +kernel), List.mem_of_getElem? (i := 1485) (by decide +kernel), List.mem_of_getElem? (i := 1486) (by decide +kernel)⟩
theorem lw_p98 : lw_okq (⟨"RingDriveModel", "codes", "(I)V"⟩, 84) := ⟨⟨by decide +kernel, by decide +kernel⟩, List.mem_of_getElem? (i := 1393) (by decide +kernel), List.mem_of_getElem? (i := 1489) (by decide +kernel), List.mem_of_getElem? (i := 1490) (by decide +kernel)⟩
theorem lw_p99 : lw_okq (⟨"RingDriveModel", "gets", "()V"⟩, 84) := ⟨⟨by decide +kernel, by decide +kernel⟩, List.mem_of_getElem? (i := 1393) (by decide +kernel), List.mem_of_getElem? (i := 1493) (by decide +kernel), List.mem_of_getElem? (i := 1494) (by decide +kernel)⟩
theorem lw_p100 : lw_okq (⟨"RingDriveModel", "validates", "()I"⟩, 84) := ⟨⟨by decide +kernel, by decide +kernel⟩, List.mem_of_getElem? (i := 1393) (by decide +kernel), List.mem_of_getElem? (i := 1497) (by decide +kernel), List.mem_of_getElem? (i := 1498) (by decide +kernel)⟩
theorem lw_p101 : lw_okq (⟨"RingDriveModel", "freesAll", "()V"⟩, 84) := ⟨⟨by decide +kernel, by decide +kernel⟩, List.mem_of_getElem? (i := 1393) (by decide +kernel), List.mem_of_getElem? (i := 1501) (by decide +kernel), List.mem_of_getElem? (i := 1502) (by decide +kernel)⟩
theorem lw_p102 : lw_okq (⟨"RingDriveModel", "takes", "(II)V"⟩, 84) := ⟨⟨by decide +kernel, by decide +kernel⟩, List.mem_of_getElem? (i := 1393) (by decide +kernel), List.mem_of_getElem? (i := 1508) (by decide +kernel), List.mem_of_getElem? (i := 1509) (by decide +kernel)⟩
theorem lw_p103 : lw_okq (⟨"RingDriveModel", "isFree", "(II)Z"⟩, 84) := ⟨⟨by decide +kernel, by decide +kernel⟩, List.mem_of_getElem? (i := 1393) (by decide +kernel), List.mem_of_getElem? (i := 1515) (by decide +kernel), List.mem_of_getElem? (i := 1516) (by decide +kernel)⟩
theorem lw_p104 : lw_okq (⟨"RingDriveModel", "entries", "()I"⟩, 84) := ⟨⟨by decide +kernel, by decide +kernel⟩, List.mem_of_getElem? (i := 1393) (by decide +kernel), List.mem_of_getElem? (i := 1519) (by decide +kernel), List.mem_of_getElem? (i := 1520) (by decide +kernel)⟩
theorem lw_p105 : lw_okq (⟨"RingDriveModel", "used", "(III)I"⟩, 84) := ⟨⟨by decide +kernel, by decide +kernel⟩, List.mem_of_getElem? (i := 1393) (by decide +kernel), List.mem_of_getElem? (i := 1523) (by decide +kernel), List.mem_of_getElem? (i := 1524) (by decide +kernel)⟩
theorem lw_p106 : lw_okq (⟨"RingDriveModel", "changesType", "(IIII)I"⟩, 84) := ⟨⟨by decide +kernel, by decide +kernel⟩, List.mem_of_getElem? (i := 1393) (by decide +kernel), List.mem_of_getElem? (i := 1527) (by decide +kernel), List.mem_of_getElem? (i := 1528) (by decide +kernel)⟩
theorem lw_p107 : lw_okq (⟨"RingDriveModel", "writeBlock", "(II[II)I"⟩, 84) := ⟨⟨by decide +kernel, by decide +kernel⟩, List.mem_of_getElem? (i := 1393) (by decide +kernel), List.mem_of_getElem? (i := 1531) (by decide +kernel), List.mem_of_getElem? (i := 1532) (by decide +kernel)⟩
theorem lw_p108 : lw_okq (⟨"RingDriveModel", "lays", "(II)V"⟩, 84) := ⟨⟨by decide +kernel, by decide +kernel⟩, List.mem_of_getElem? (i := 1393) (by decide +kernel), List.mem_of_getElem? (i := 1535) (by decide +kernel), List.mem_of_getElem? (i := 1536) (by decide +kernel)⟩
theorem lw_p109 : lw_okq (⟨"RingDriveModel", "setBit", "(III)V"⟩, 84) := ⟨⟨by decide +kernel, by decide +kernel⟩, List.mem_of_getElem? (i := 1393) (by decide +kernel), List.mem_of_getElem? (i := 1539) (by decide +kernel), List.mem_of_getElem? (i := 1540) (by decide +kernel)⟩
theorem lw_p110 : lw_okq (⟨"RingDriveModel", "data", "([II)V"⟩, 84) := ⟨⟨by decide +kernel, by decide +kernel⟩, List.mem_of_getElem? (i := 1393) (by decide +kernel), List.mem_of_getElem? (i := 1543) (by decide +kernel), List.mem_of_getElem? (i := 1544) (by decide +kernel)⟩
theorem lw_p111 : lw_okq (⟨"RingDriveModel", "uses", "(II)I"⟩, 84) := ⟨⟨by decide +kernel, by decide +kernel⟩, List.mem_of_getElem? (i := 1393) (by decide +kernel), List.mem_of_getElem? (i := 1547) (by decide +kernel), List.mem_of_getElem? (i := 1548) (by decide +kernel)⟩
def lw_privs_7 : List (MethodName × Nat) := [(⟨"RingDriveModel", "seek", "(II)I"⟩, 84), (⟨"RingDriveModel", "header", "(IIII)V"⟩, 84), (⟨"RingDriveModel", "codes", "(I)V"⟩, 84), (⟨"RingDriveModel", "gets", "()V"⟩, 84), (⟨"RingDriveModel", "validates", "()I"⟩, 84), (⟨"RingDriveModel", "freesAll", "()V"⟩, 84), (⟨"RingDriveModel", "takes", "(II)V"⟩, 84), (⟨"RingDriveModel", "isFree", "(II)Z"⟩, 84), (⟨"RingDriveModel", "entries", "()I"⟩, 84), (⟨"RingDriveModel", "used", "(III)I"⟩, 84), (⟨"RingDriveModel", "changesType", "(IIII)I"⟩, 84), (⟨"RingDriveModel", "writeBlock", "(II[II)I"⟩, 84), (⟨"RingDriveModel", "lays", "(II)V"⟩, 84), (⟨"RingDriveModel", "setBit", "(III)V"⟩, 84), (⟨"RingDriveModel", "data", "([II)V"⟩, 84), (⟨"RingDriveModel", "uses", "(II)I"⟩, 84)]
theorem lw_r7 : ∀ q ∈ lw_privs_7, lw_okq q := List.forall_mem_cons.mpr ⟨lw_p96, List.forall_mem_cons.mpr ⟨lw_p97, List.forall_mem_cons.mpr ⟨lw_p98, List.forall_mem_cons.mpr ⟨lw_p99, List.forall_mem_cons.mpr ⟨lw_p100, List.forall_mem_cons.mpr ⟨lw_p101, List.forall_mem_cons.mpr ⟨lw_p102, List.forall_mem_cons.mpr ⟨lw_p103, List.forall_mem_cons.mpr ⟨lw_p104, List.forall_mem_cons.mpr ⟨lw_p105, List.forall_mem_cons.mpr ⟨lw_p106, List.forall_mem_cons.mpr ⟨lw_p107, List.forall_mem_cons.mpr ⟨lw_p108, List.forall_mem_cons.mpr ⟨lw_p109, List.forall_mem_cons.mpr ⟨lw_p110, List.forall_mem_cons.mpr ⟨lw_p111, fun _ h => absurd h List.not_mem_nil⟩⟩⟩⟩⟩⟩⟩⟩⟩⟩⟩⟩⟩⟩⟩⟩
theorem lw_p112 : lw_okq (⟨"RingDriveModel", "stores", "()I"⟩, 84) := ⟨⟨by decide +kernel, by decide +kernel⟩, List.mem_of_getElem? (i := 1393) (by decide +kernel), List.mem_of_getElem? (i := 1551) (by decide +kernel), List.mem_of_getElem? (i := 1552) (by decide +kernel)⟩
theorem lw_p113 : lw_okq (⟨"RingDriveModel", "shutsAll", "()V"⟩, 84) := ⟨⟨by decide +kernel, by decide +kernel⟩, List.mem_of_getElem? (i := 1393) (by decide +kernel), List.mem_of_getElem? (i := 1555) (by decide +kernel), List.mem_of_getElem? (i := 1556) (by decide +kernel)⟩
theorem lw_p114 : lw_okq (⟨"RingDriveModel", "news", "(I)I"⟩, 84) := ⟨⟨by decide +kernel, by decide +kernel⟩, List.mem_of_getElem? (i := 1393) (by decide +kernel), List.mem_of_getElem? (i := 1559) (by decide +kernel), List.mem_of_getElem? (i := 1560) (by decide +kernel)⟩
theorem lw_p115 : lw_okq (⟨"RingDriveModel", "isWild", "(II)Z"⟩, 84) := ⟨⟨by decide +kernel, by decide +kernel⟩, List.mem_of_getElem? (i := 1393) (by decide +kernel), List.mem_of_getElem? (i := 1563) (by decide +kernel), List.mem_of_getElem? (i := 1564) (by decide +kernel)⟩
theorem lw_p116 : lw_okq (⟨"RingDriveModel", "format", "(III)I"⟩, 84) := ⟨⟨by decide +kernel, by decide +kernel⟩, List.mem_of_getElem? (i := 1393) (by decide +kernel), List.mem_of_getElem? (i := 1567) (by decide +kernel), List.mem_of_getElem? (i := 1568) (by decide +kernel)⟩
theorem lw_p117 : lw_okq (⟨"RingDriveModel", "maps", "(I)I"⟩, 84) := ⟨⟨by decide +kernel, by decide +kernel⟩, List.mem_of_getElem? (i := 1393) (by decide +kernel), List.mem_of_getElem? (i := 1571) (by decide +kernel), List.mem_of_getElem? (i := 1572) (by decide +kernel)⟩
theorem lw_p118 : lw_okq (⟨"RingDriveModel", "scratch", "(I)I"⟩, 84) := ⟨⟨by decide +kernel, by decide +kernel⟩, List.mem_of_getElem? (i := 1393) (by decide +kernel), List.mem_of_getElem? (i := 1575) (by decide +kernel), List.mem_of_getElem? (i := 1576) (by decide +kernel)⟩
theorem lw_p119 : lw_okq (⟨"RingDriveModel", "finds", "(I[III)I"⟩, 84) := ⟨⟨by decide +kernel, by decide +kernel⟩, List.mem_of_getElem? (i := 1393) (by decide +kernel), List.mem_of_getElem? (i := 1579) (by decide +kernel), List.mem_of_getElem? (i := 1580) (by decide +kernel)⟩
theorem lw_p120 : lw_okq (⟨"RingDriveModel", "scratches", "()I"⟩, 84) := ⟨⟨by decide +kernel, by decide +kernel⟩, List.mem_of_getElem? (i := 1393) (by decide +kernel), List.mem_of_getElem? (i := 1589) (by decide +kernel), List.mem_of_getElem? (i := 1590) (by decide +kernel)⟩
theorem lw_p121 : lw_okq (⟨"RingDriveModel", "freesChain", "(II)I"⟩, 84) := ⟨⟨by decide +kernel, by decide +kernel⟩, List.mem_of_getElem? (i := 1393) (by decide +kernel), List.mem_of_getElem? (i := 1593) (by decide +kernel), List.mem_of_getElem? (i := 1594) (by decide +kernel)⟩
theorem lw_p122 : lw_okq (⟨"RingDriveModel", "givesBack", "(II)V"⟩, 84) := ⟨⟨by decide +kernel, by decide +kernel⟩, List.mem_of_getElem? (i := 1393) (by decide +kernel), List.mem_of_getElem? (i := 1597) (by decide +kernel), List.mem_of_getElem? (i := 1598) (by decide +kernel)⟩
theorem lw_p123 : lw_okq (⟨"RingDriveModel", "renames", "(I)I"⟩, 84) := ⟨⟨by decide +kernel, by decide +kernel⟩, List.mem_of_getElem? (i := 1393) (by decide +kernel), List.mem_of_getElem? (i := 1601) (by decide +kernel), List.mem_of_getElem? (i := 1602) (by decide +kernel)⟩
theorem lw_p124 : lw_okq (⟨"RingDriveModel", "blockOf", "(IZ)I"⟩, 84) := ⟨⟨by decide +kernel, by decide +kernel⟩, List.mem_of_getElem? (i := 1393) (by decide +kernel), List.mem_of_getElem? (i := 1605) (by decide +kernel), List.mem_of_getElem? (i := 1606) (by decide +kernel)⟩
theorem lw_p125 : lw_okq (⟨"RingDriveModel", "numbers", "(I)Z"⟩, 84) := ⟨⟨by decide +kernel, by decide +kernel⟩, List.mem_of_getElem? (i := 1393) (by decide +kernel), List.mem_of_getElem? (i := 1609) (by decide +kernel), List.mem_of_getElem? (i := 1610) (by decide +kernel)⟩
theorem lw_p126 : lw_okq (⟨"RingDriveModel", "numberNext", "(I)I"⟩, 84) := ⟨⟨by decide +kernel, by decide +kernel⟩, List.mem_of_getElem? (i := 1393) (by decide +kernel), List.mem_of_getElem? (i := 1613) (by decide +kernel), List.mem_of_getElem? (i := 1614) (by decide +kernel)⟩
theorem lw_p127 : lw_okq (⟨"RingDriveModel", "begins3", "(III)Z"⟩, 84) := ⟨⟨by decide +kernel, by decide +kernel⟩, List.mem_of_getElem? (i := 1393) (by decide +kernel), List.mem_of_getElem? (i := 1620) (by decide +kernel), List.mem_of_getElem? (i := 1621) (by decide +kernel)⟩
def lw_privs_8 : List (MethodName × Nat) := [(⟨"RingDriveModel", "stores", "()I"⟩, 84), (⟨"RingDriveModel", "shutsAll", "()V"⟩, 84), (⟨"RingDriveModel", "news", "(I)I"⟩, 84), (⟨"RingDriveModel", "isWild", "(II)Z"⟩, 84), (⟨"RingDriveModel", "format", "(III)I"⟩, 84), (⟨"RingDriveModel", "maps", "(I)I"⟩, 84), (⟨"RingDriveModel", "scratch", "(I)I"⟩, 84), (⟨"RingDriveModel", "finds", "(I[III)I"⟩, 84), (⟨"RingDriveModel", "scratches", "()I"⟩, 84), (⟨"RingDriveModel", "freesChain", "(II)I"⟩, 84), (⟨"RingDriveModel", "givesBack", "(II)V"⟩, 84), (⟨"RingDriveModel", "renames", "(I)I"⟩, 84), (⟨"RingDriveModel", "blockOf", "(IZ)I"⟩, 84), (⟨"RingDriveModel", "numbers", "(I)Z"⟩, 84), (⟨"RingDriveModel", "numberNext", "(I)I"⟩, 84), (⟨"RingDriveModel", "begins3", "(III)Z"⟩, 84)]
theorem lw_r8 : ∀ q ∈ lw_privs_8, lw_okq q := List.forall_mem_cons.mpr ⟨lw_p112, List.forall_mem_cons.mpr ⟨lw_p113, List.forall_mem_cons.mpr ⟨lw_p114, List.forall_mem_cons.mpr ⟨lw_p115, List.forall_mem_cons.mpr ⟨lw_p116, List.forall_mem_cons.mpr ⟨lw_p117, List.forall_mem_cons.mpr ⟨lw_p118, List.forall_mem_cons.mpr ⟨lw_p119, List.forall_mem_cons.mpr ⟨lw_p120, List.forall_mem_cons.mpr ⟨lw_p121, List.forall_mem_cons.mpr ⟨lw_p122, List.forall_mem_cons.mpr ⟨lw_p123, List.forall_mem_cons.mpr ⟨lw_p124, List.forall_mem_cons.mpr ⟨lw_p125, List.forall_mem_cons.mpr ⟨lw_p126, List.forall_mem_cons.mpr ⟨lw_p127, fun _ h => absurd h List.not_mem_nil⟩⟩⟩⟩⟩⟩⟩⟩⟩⟩⟩⟩⟩⟩⟩⟩
theorem lw_p128 : lw_okq (⟨"RingDriveModel", "pointer", "(I)I"⟩, 84) := ⟨⟨by decide +kernel, by decide +kernel⟩, List.mem_of_getElem? (i := 1393) (by decide +kernel), List.mem_of_getElem? (i := 1624) (by decide +kernel), List.mem_of_getElem? (i := 1625) (by decide +kernel)⟩
theorem lw_p129 : lw_okq (⟨"RingDriveModel", "allocates", "(I)I"⟩, 84) := ⟨⟨by decide +kernel, by decide +kernel⟩, List.mem_of_getElem? (i := 1393) (by decide +kernel), List.mem_of_getElem? (i := 1628) (by decide +kernel), List.mem_of_getElem? (i := 1629) (by decide +kernel)⟩
theorem lw_p130 : lw_okq (⟨"RingDriveModel", "frees", "(I)I"⟩, 84) := ⟨⟨by decide +kernel, by decide +kernel⟩, List.mem_of_getElem? (i := 1393) (by decide +kernel), List.mem_of_getElem? (i := 1632) (by decide +kernel), List.mem_of_getElem? (i := 1633) (by decide +kernel)⟩
theorem lw_p131 : lw_okq (⟨"RingDriveModel", "memories", "(I)I"⟩, 84) := ⟨⟨by decide +kernel, by decide +kernel⟩, List.mem_of_getElem? (i := 1393) (by decide +kernel), List.mem_of_getElem? (i := 1636) (by decide +kernel), List.mem_of_getElem? (i := 1637) (by decide +kernel)⟩
theorem lw_p132 : lw_okq (⟨"RingDriveModel", "put", "(II)V"⟩, 84) := ⟨⟨by decide +kernel, by decide +kernel⟩, List.mem_of_getElem? (i := 1393) (by decide +kernel), List.mem_of_getElem? (i := 1640) (by decide +kernel), List.mem_of_getElem? (i := 1641) (by decide +kernel)⟩
theorem lw_p133 : lw_okq (⟨"RingDriveModel", "get", "(I)I"⟩, 84) := ⟨⟨by decide +kernel, by decide +kernel⟩, List.mem_of_getElem? (i := 1393) (by decide +kernel), List.mem_of_getElem? (i := 1644) (by decide +kernel), List.mem_of_getElem? (i := 1645) (by decide +kernel)⟩
theorem lw_p134 : lw_okq (⟨"RingDriveModel", "runs", "(I)I"⟩, 84) := ⟨⟨by decide +kernel, by decide +kernel⟩, List.mem_of_getElem? (i := 1393) (by decide +kernel), List.mem_of_getElem? (i := 1648) (by decide +kernel), List.mem_of_getElem? (i := 1649) (by decide +kernel)⟩
theorem lw_p135 : lw_okq (⟨"RingDriveModel", "step", "(I)Z"⟩, 84) := ⟨⟨by decide +kernel, by decide +kernel⟩, List.mem_of_getElem? (i := 1393) (by decide +kernel), List.mem_of_getElem? (i := 1652) (by decide +kernel), List.mem_of_getElem? (i := 1653) (by decide +kernel)⟩
theorem lw_p136 : lw_okq (⟨"RingDriveModel", "works", "(I)Z"⟩, 84) := ⟨⟨by decide +kernel, by decide +kernel⟩, List.mem_of_getElem? (i := 1393) (by decide +kernel), List.mem_of_getElem? (i := 1656) (by decide +kernel), List.mem_of_getElem? (i := 1657) (by decide +kernel)⟩
theorem lw_p137 : lw_okq (⟨"RingDriveModel", "address", "(I)I"⟩, 84) := ⟨⟨by decide +kernel, by decide +kernel⟩, List.mem_of_getElem? (i := 1393) (by decide +kernel), List.mem_of_getElem? (i := 1663) (by decide +kernel), List.mem_of_getElem? (i := 1664) (by decide +kernel)⟩
theorem lw_p138 : lw_okq (⟨"RingDriveModel", "byteNext", "()I"⟩, 84) := ⟨⟨by decide +kernel, by decide +kernel⟩, List.mem_of_getElem? (i := 1393) (by decide +kernel), List.mem_of_getElem? (i := 1667) (by decide +kernel), List.mem_of_getElem? (i := 1668) (by decide +kernel)⟩
theorem lw_p139 : lw_okq (⟨"RingDriveModel", "wordNext", "()I"⟩, 84) := ⟨⟨by decide +kernel, by decide +kernel⟩, List.mem_of_getElem? (i := 1393) (by decide +kernel), List.mem_of_getElem? (i := 1671) (by decide +kernel), List.mem_of_getElem? (i := 1672) (by decide +kernel)⟩
theorem lw_p140 : lw_okq (⟨"RingDriveModel", "readTime", "(I)I"⟩, 84) := ⟨⟨by decide +kernel, by decide +kernel⟩, List.mem_of_getElem? (i := 1393) (by decide +kernel), List.mem_of_getElem? (i := 1678) (by decide +kernel), List.mem_of_getElem? (i := 1679) (by decide +kernel)⟩
theorem lw_p141 : lw_okq (⟨"RingDriveModel", "marks", "(I)I"⟩, 84) := ⟨⟨by decide +kernel, by decide +kernel⟩, List.mem_of_getElem? (i := 1393) (by decide +kernel), List.mem_of_getElem? (i := 1682) (by decide +kernel), List.mem_of_getElem? (i := 1683) (by decide +kernel)⟩
theorem lw_p142 : lw_okq (⟨"RingDriveModel", "flag", "(IZ)V"⟩, 84) := ⟨⟨by decide +kernel, by decide +kernel⟩, List.mem_of_getElem? (i := 1393) (by decide +kernel), List.mem_of_getElem? (i := 1686) (by decide +kernel), List.mem_of_getElem? (i := 1687) (by decide +kernel)⟩
theorem lw_p143 : lw_okq (⟨"RingDriveModel", "adds", "(I)V"⟩, 84) := ⟨⟨by decide +kernel, by decide +kernel⟩, List.mem_of_getElem? (i := 1393) (by decide +kernel), List.mem_of_getElem? (i := 1690) (by decide +kernel), List.mem_of_getElem? (i := 1691) (by decide +kernel)⟩
def lw_privs_9 : List (MethodName × Nat) := [(⟨"RingDriveModel", "pointer", "(I)I"⟩, 84), (⟨"RingDriveModel", "allocates", "(I)I"⟩, 84), (⟨"RingDriveModel", "frees", "(I)I"⟩, 84), (⟨"RingDriveModel", "memories", "(I)I"⟩, 84), (⟨"RingDriveModel", "put", "(II)V"⟩, 84), (⟨"RingDriveModel", "get", "(I)I"⟩, 84), (⟨"RingDriveModel", "runs", "(I)I"⟩, 84), (⟨"RingDriveModel", "step", "(I)Z"⟩, 84), (⟨"RingDriveModel", "works", "(I)Z"⟩, 84), (⟨"RingDriveModel", "address", "(I)I"⟩, 84), (⟨"RingDriveModel", "byteNext", "()I"⟩, 84), (⟨"RingDriveModel", "wordNext", "()I"⟩, 84), (⟨"RingDriveModel", "readTime", "(I)I"⟩, 84), (⟨"RingDriveModel", "marks", "(I)I"⟩, 84), (⟨"RingDriveModel", "flag", "(IZ)V"⟩, 84), (⟨"RingDriveModel", "adds", "(I)V"⟩, 84)]
theorem lw_r9 : ∀ q ∈ lw_privs_9, lw_okq q := List.forall_mem_cons.mpr ⟨lw_p128, List.forall_mem_cons.mpr ⟨lw_p129, List.forall_mem_cons.mpr ⟨lw_p130, List.forall_mem_cons.mpr ⟨lw_p131, List.forall_mem_cons.mpr ⟨lw_p132, List.forall_mem_cons.mpr ⟨lw_p133, List.forall_mem_cons.mpr ⟨lw_p134, List.forall_mem_cons.mpr ⟨lw_p135, List.forall_mem_cons.mpr ⟨lw_p136, List.forall_mem_cons.mpr ⟨lw_p137, List.forall_mem_cons.mpr ⟨lw_p138, List.forall_mem_cons.mpr ⟨lw_p139, List.forall_mem_cons.mpr ⟨lw_p140, List.forall_mem_cons.mpr ⟨lw_p141, List.forall_mem_cons.mpr ⟨lw_p142, List.forall_mem_cons.mpr ⟨lw_p143, fun _ h => absurd h List.not_mem_nil⟩⟩⟩⟩⟩⟩⟩⟩⟩⟩⟩⟩⟩⟩⟩⟩
theorem lw_p144 : lw_okq (⟨"RingDriveModel", "is", "(I)Z"⟩, 84) := ⟨⟨by decide +kernel, by decide +kernel⟩, List.mem_of_getElem? (i := 1393) (by decide +kernel), List.mem_of_getElem? (i := 1694) (by decide +kernel), List.mem_of_getElem? (i := 1695) (by decide +kernel)⟩
theorem lw_p145 : lw_okq (⟨"RingDriveModel", "compares", "(II)V"⟩, 84) := ⟨⟨by decide +kernel, by decide +kernel⟩, List.mem_of_getElem? (i := 1393) (by decide +kernel), List.mem_of_getElem? (i := 1698) (by decide +kernel), List.mem_of_getElem? (i := 1699) (by decide +kernel)⟩
theorem lw_p146 : lw_okq (⟨"RingDriveModel", "takesOff", "(I)V"⟩, 84) := ⟨⟨by decide +kernel, by decide +kernel⟩, List.mem_of_getElem? (i := 1393) (by decide +kernel), List.mem_of_getElem? (i := 1702) (by decide +kernel), List.mem_of_getElem? (i := 1703) (by decide +kernel)⟩
theorem lw_p147 : lw_okq (⟨"RingDriveModel", "twos", "(I)Z"⟩, 84) := ⟨⟨by decide +kernel, by decide +kernel⟩, List.mem_of_getElem? (i := 1393) (by decide +kernel), List.mem_of_getElem? (i := 1706) (by decide +kernel), List.mem_of_getElem? (i := 1707) (by decide +kernel)⟩
theorem lw_p148 : lw_okq (⟨"RingDriveModel", "shifted", "(II)I"⟩, 84) := ⟨⟨by decide +kernel, by decide +kernel⟩, List.mem_of_getElem? (i := 1393) (by decide +kernel), List.mem_of_getElem? (i := 1710) (by decide +kernel), List.mem_of_getElem? (i := 1711) (by decide +kernel)⟩
theorem lw_p149 : lw_okq (⟨"RingDriveModel", "takes2", "(I)Z"⟩, 84) := ⟨⟨by decide +kernel, by decide +kernel⟩, List.mem_of_getElem? (i := 1393) (by decide +kernel), List.mem_of_getElem? (i := 1714) (by decide +kernel), List.mem_of_getElem? (i := 1715) (by decide +kernel)⟩
theorem lw_p150 : lw_okq (⟨"RingDriveModel", "changes", "(II)V"⟩, 84) := ⟨⟨by decide +kernel, by decide +kernel⟩, List.mem_of_getElem? (i := 1393) (by decide +kernel), List.mem_of_getElem? (i := 1718) (by decide +kernel), List.mem_of_getElem? (i := 1719) (by decide +kernel)⟩
theorem lw_p151 : lw_okq (⟨"RingDriveModel", "keeps", "(II)Z"⟩, 84) := ⟨⟨by decide +kernel, by decide +kernel⟩, List.mem_of_getElem? (i := 1393) (by decide +kernel), List.mem_of_getElem? (i := 1722) (by decide +kernel), List.mem_of_getElem? (i := 1723) (by decide +kernel)⟩
theorem lw_p152 : lw_okq (⟨"RingDriveModel", "fetches", "(II)Z"⟩, 84) := ⟨⟨by decide +kernel, by decide +kernel⟩, List.mem_of_getElem? (i := 1393) (by decide +kernel), List.mem_of_getElem? (i := 1726) (by decide +kernel), List.mem_of_getElem? (i := 1727) (by decide +kernel)⟩
theorem lw_p153 : lw_okq (⟨"RingDriveModel", "zeros", "(I)Z"⟩, 84) := ⟨⟨by decide +kernel, by decide +kernel⟩, List.mem_of_getElem? (i := 1393) (by decide +kernel), List.mem_of_getElem? (i := 1730) (by decide +kernel), List.mem_of_getElem? (i := 1731) (by decide +kernel)⟩
theorem lw_p154 : lw_okq (⟨"RingDriveModel", "branch", "(Z)V"⟩, 84) := ⟨⟨by decide +kernel, by decide +kernel⟩, List.mem_of_getElem? (i := 1393) (by decide +kernel), List.mem_of_getElem? (i := 1734) (by decide +kernel), List.mem_of_getElem? (i := 1735) (by decide +kernel)⟩
theorem lw_p155 : lw_okq (⟨"RingDriveModel", "tests", "(I)Z"⟩, 84) := ⟨⟨by decide +kernel, by decide +kernel⟩, List.mem_of_getElem? (i := 1393) (by decide +kernel), List.mem_of_getElem? (i := 1738) (by decide +kernel), List.mem_of_getElem? (i := 1739) (by decide +kernel)⟩
theorem lw_p156 : lw_okq (⟨"RingDriveModel", "compared", "(II)Z"⟩, 84) := ⟨⟨by decide +kernel, by decide +kernel⟩, List.mem_of_getElem? (i := 1393) (by decide +kernel), List.mem_of_getElem? (i := 1742) (by decide +kernel), List.mem_of_getElem? (i := 1743) (by decide +kernel)⟩
theorem lw_p157 : lw_okq (⟨"RingDriveModel", "push", "(I)V"⟩, 84) := ⟨⟨by decide +kernel, by decide +kernel⟩, List.mem_of_getElem? (i := 1393) (by decide +kernel), List.mem_of_getElem? (i := 1746) (by decide +kernel), List.mem_of_getElem? (i := 1747) (by decide +kernel)⟩
theorem lw_p158 : lw_okq (⟨"RingDriveModel", "pull", "()I"⟩, 84) := ⟨⟨by decide +kernel, by decide +kernel⟩, List.mem_of_getElem? (i := 1393) (by decide +kernel), List.mem_of_getElem? (i := 1750) (by decide +kernel), List.mem_of_getElem? (i := 1751) (by decide +kernel)⟩
theorem lw_p159 : lw_okq (⟨"RingDriveModel", "jumps", "(I)Z"⟩, 84) := ⟨⟨by decide +kernel, by decide +kernel⟩, List.mem_of_getElem? (i := 1393) (by decide +kernel), List.mem_of_getElem? (i := 1754) (by decide +kernel), List.mem_of_getElem? (i := 1755) (by decide +kernel)⟩
def lw_privs_10 : List (MethodName × Nat) := [(⟨"RingDriveModel", "is", "(I)Z"⟩, 84), (⟨"RingDriveModel", "compares", "(II)V"⟩, 84), (⟨"RingDriveModel", "takesOff", "(I)V"⟩, 84), (⟨"RingDriveModel", "twos", "(I)Z"⟩, 84), (⟨"RingDriveModel", "shifted", "(II)I"⟩, 84), (⟨"RingDriveModel", "takes2", "(I)Z"⟩, 84), (⟨"RingDriveModel", "changes", "(II)V"⟩, 84), (⟨"RingDriveModel", "keeps", "(II)Z"⟩, 84), (⟨"RingDriveModel", "fetches", "(II)Z"⟩, 84), (⟨"RingDriveModel", "zeros", "(I)Z"⟩, 84), (⟨"RingDriveModel", "branch", "(Z)V"⟩, 84), (⟨"RingDriveModel", "tests", "(I)Z"⟩, 84), (⟨"RingDriveModel", "compared", "(II)Z"⟩, 84), (⟨"RingDriveModel", "push", "(I)V"⟩, 84), (⟨"RingDriveModel", "pull", "()I"⟩, 84), (⟨"RingDriveModel", "jumps", "(I)Z"⟩, 84)]
theorem lw_r10 : ∀ q ∈ lw_privs_10, lw_okq q := List.forall_mem_cons.mpr ⟨lw_p144, List.forall_mem_cons.mpr ⟨lw_p145, List.forall_mem_cons.mpr ⟨lw_p146, List.forall_mem_cons.mpr ⟨lw_p147, List.forall_mem_cons.mpr ⟨lw_p148, List.forall_mem_cons.mpr ⟨lw_p149, List.forall_mem_cons.mpr ⟨lw_p150, List.forall_mem_cons.mpr ⟨lw_p151, List.forall_mem_cons.mpr ⟨lw_p152, List.forall_mem_cons.mpr ⟨lw_p153, List.forall_mem_cons.mpr ⟨lw_p154, List.forall_mem_cons.mpr ⟨lw_p155, List.forall_mem_cons.mpr ⟨lw_p156, List.forall_mem_cons.mpr ⟨lw_p157, List.forall_mem_cons.mpr ⟨lw_p158, List.forall_mem_cons.mpr ⟨lw_p159, fun _ h => absurd h List.not_mem_nil⟩⟩⟩⟩⟩⟩⟩⟩⟩⟩⟩⟩⟩⟩⟩⟩
theorem lw_p160 : lw_okq (⟨"RingDriveModel", "opens", "(II)I"⟩, 84) := ⟨⟨by decide +kernel, by decide +kernel⟩, List.mem_of_getElem? (i := 1393) (by decide +kernel), List.mem_of_getElem? (i := 1758) (by decide +kernel), List.mem_of_getElem? (i := 1759) (by decide +kernel)⟩
theorem lw_p161 : lw_okq (⟨"RingDriveModel", "shuts", "(I)I"⟩, 84) := ⟨⟨by decide +kernel, by decide +kernel⟩, List.mem_of_getElem? (i := 1393) (by decide +kernel), List.mem_of_getElem? (i := 1762) (by decide +kernel), List.mem_of_getElem? (i := 1763) (by decide +kernel)⟩
theorem lw_p162 : lw_okq (⟨"RingDriveModel", "openMany", "()I"⟩, 84) := ⟨⟨by decide +kernel, by decide +kernel⟩, List.mem_of_getElem? (i := 1393) (by decide +kernel), List.mem_of_getElem? (i := 1766) (by decide +kernel), List.mem_of_getElem? (i := 1767) (by decide +kernel)⟩
theorem lw_p163 : lw_okq (⟨"RingDriveModel", "opensList", "(II)I"⟩, 84) := ⟨⟨by decide +kernel, by decide +kernel⟩, List.mem_of_getElem? (i := 1393) (by decide +kernel), List.mem_of_getElem? (i := 1770) (by decide +kernel), List.mem_of_getElem? (i := 1771) (by decide +kernel)⟩
theorem lw_p164 : lw_okq (⟨"RingDriveModel", "opensFile", "(II)I"⟩, 84) := ⟨⟨by decide +kernel, by decide +kernel⟩, List.mem_of_getElem? (i := 1393) (by decide +kernel), List.mem_of_getElem? (i := 1774) (by decide +kernel), List.mem_of_getElem? (i := 1775) (by decide +kernel)⟩
theorem lw_p165 : lw_okq (⟨"RingDriveModel", "opensNew", "(IIIIZ)I"⟩, 84) := ⟨⟨by decide +kernel, by decide +kernel⟩, List.mem_of_getElem? (i := 1393) (by decide +kernel), List.mem_of_getElem? (i := 1778) (by decide +kernel), List.mem_of_getElem? (i := 1779) (by decide +kernel)⟩
theorem lw_p166 : lw_okq (⟨"RingDriveModel", "makesEntry", "()I"⟩, 84) := ⟨⟨by decide +kernel, by decide +kernel⟩, List.mem_of_getElem? (i := 1393) (by decide +kernel), List.mem_of_getElem? (i := 1782) (by decide +kernel), List.mem_of_getElem? (i := 1783) (by decide +kernel)⟩
theorem lw_p167 : lw_okq (⟨"RingDriveModel", "lowest", "(I)I"⟩, 84) := ⟨⟨by decide +kernel, by decide +kernel⟩, List.mem_of_getElem? (i := 1393) (by decide +kernel), List.mem_of_getElem? (i := 1786) (by decide +kernel), List.mem_of_getElem? (i := 1787) (by decide +kernel)⟩
theorem lw_p168 : lw_okq (⟨"RingDriveModel", "takesOne", "()I"⟩, 84) := ⟨⟨by decide +kernel, by decide +kernel⟩, List.mem_of_getElem? (i := 1393) (by decide +kernel), List.mem_of_getElem? (i := 1790) (by decide +kernel), List.mem_of_getElem? (i := 1791) (by decide +kernel)⟩
theorem lw_p169 : lw_okq (⟨"RingDriveModel", "clears", "(I)V"⟩, 84) := ⟨⟨by decide +kernel, by decide +kernel⟩, List.mem_of_getElem? (i := 1393) (by decide +kernel), List.mem_of_getElem? (i := 1797) (by decide +kernel), List.mem_of_getElem? (i := 1798) (by decide +kernel)⟩
theorem lw_p170 : lw_okq (⟨"RingDriveModel", "opensOld", "(IIII)I"⟩, 84) := ⟨⟨by decide +kernel, by decide +kernel⟩, List.mem_of_getElem? (i := 1393) (by decide +kernel), List.mem_of_getElem? (i := 1801) (by decide +kernel), List.mem_of_getElem? (i := 1802) (by decide +kernel)⟩
theorem lw_p171 : lw_okq (⟨"RingDriveModel", "begun", "(I)V"⟩, 84) := ⟨⟨by decide +kernel, by decide +kernel⟩, List.mem_of_getElem? (i := 1393) (by decide +kernel), List.mem_of_getElem? (i := 1805) (by decide +kernel), List.mem_of_getElem? (i := 1806) (by decide +kernel)⟩
theorem lw_p172 : lw_okq (⟨"RingDriveModel", "givesMore", "(I)V"⟩, 84) := ⟨⟨by decide +kernel, by decide +kernel⟩, List.mem_of_getElem? (i := 1393) (by decide +kernel), List.mem_of_getElem? (i := 1817) (by decide +kernel), List.mem_of_getElem? (i := 1818) (by decide +kernel)⟩
theorem lw_p173 : lw_okq (⟨"RingDriveModel", "gives", "(I)V"⟩, 84) := ⟨⟨by decide +kernel, by decide +kernel⟩, List.mem_of_getElem? (i := 1393) (by decide +kernel), List.mem_of_getElem? (i := 1821) (by decide +kernel), List.mem_of_getElem? (i := 1822) (by decide +kernel)⟩
theorem lw_p174 : lw_okq (⟨"RingDriveModel", "givesStatus", "(I)V"⟩, 84) := ⟨⟨by decide +kernel, by decide +kernel⟩, List.mem_of_getElem? (i := 1393) (by decide +kernel), List.mem_of_getElem? (i := 1825) (by decide +kernel), List.mem_of_getElem? (i := 1826) (by decide +kernel)⟩
theorem lw_p175 : lw_okq (⟨"RingDriveModel", "saysTwo", "(I)V"⟩, 84) := ⟨⟨by decide +kernel, by decide +kernel⟩, List.mem_of_getElem? (i := 1393) (by decide +kernel), List.mem_of_getElem? (i := 1829) (by decide +kernel), List.mem_of_getElem? (i := 1830) (by decide +kernel)⟩
def lw_privs_11 : List (MethodName × Nat) := [(⟨"RingDriveModel", "opens", "(II)I"⟩, 84), (⟨"RingDriveModel", "shuts", "(I)I"⟩, 84), (⟨"RingDriveModel", "openMany", "()I"⟩, 84), (⟨"RingDriveModel", "opensList", "(II)I"⟩, 84), (⟨"RingDriveModel", "opensFile", "(II)I"⟩, 84), (⟨"RingDriveModel", "opensNew", "(IIIIZ)I"⟩, 84), (⟨"RingDriveModel", "makesEntry", "()I"⟩, 84), (⟨"RingDriveModel", "lowest", "(I)I"⟩, 84), (⟨"RingDriveModel", "takesOne", "()I"⟩, 84), (⟨"RingDriveModel", "clears", "(I)V"⟩, 84), (⟨"RingDriveModel", "opensOld", "(IIII)I"⟩, 84), (⟨"RingDriveModel", "begun", "(I)V"⟩, 84), (⟨"RingDriveModel", "givesMore", "(I)V"⟩, 84), (⟨"RingDriveModel", "gives", "(I)V"⟩, 84), (⟨"RingDriveModel", "givesStatus", "(I)V"⟩, 84), (⟨"RingDriveModel", "saysTwo", "(I)V"⟩, 84)]
theorem lw_r11 : ∀ q ∈ lw_privs_11, lw_okq q := List.forall_mem_cons.mpr ⟨lw_p160, List.forall_mem_cons.mpr ⟨lw_p161, List.forall_mem_cons.mpr ⟨lw_p162, List.forall_mem_cons.mpr ⟨lw_p163, List.forall_mem_cons.mpr ⟨lw_p164, List.forall_mem_cons.mpr ⟨lw_p165, List.forall_mem_cons.mpr ⟨lw_p166, List.forall_mem_cons.mpr ⟨lw_p167, List.forall_mem_cons.mpr ⟨lw_p168, List.forall_mem_cons.mpr ⟨lw_p169, List.forall_mem_cons.mpr ⟨lw_p170, List.forall_mem_cons.mpr ⟨lw_p171, List.forall_mem_cons.mpr ⟨lw_p172, List.forall_mem_cons.mpr ⟨lw_p173, List.forall_mem_cons.mpr ⟨lw_p174, List.forall_mem_cons.mpr ⟨lw_p175, fun _ h => absurd h List.not_mem_nil⟩⟩⟩⟩⟩⟩⟩⟩⟩⟩⟩⟩⟩⟩⟩⟩
theorem lw_p176 : lw_okq (⟨"RingDriveModel", "says", "(I)V"⟩, 84) := ⟨⟨by decide +kernel, by decide +kernel⟩, List.mem_of_getElem? (i := 1393) (by decide +kernel), List.mem_of_getElem? (i := 1833) (by decide +kernel), List.mem_of_getElem? (i := 1834) (by decide +kernel)⟩
theorem lw_p177 : lw_okq (⟨"RingDriveModel", "saysWords", "(I)V"⟩, 84) := ⟨⟨by decide +kernel, by decide +kernel⟩, List.mem_of_getElem? (i := 1393) (by decide +kernel), List.mem_of_getElem? (i := 1837) (by decide +kernel), List.mem_of_getElem? (i := 1838) (by decide +kernel)⟩
theorem lw_p178 : lw_okq (⟨"RingDriveModel", "says8", "(J)V"⟩, 84) := ⟨⟨by decide +kernel, by decide +kernel⟩, List.mem_of_getElem? (i := 1393) (by decide +kernel), List.mem_of_getElem? (i := 1842) (by decide +kernel), List.mem_of_getElem? (i := 1843) (by decide +kernel)⟩
theorem lw_p179 : lw_okq (⟨"RingDriveModel", "readsFile", "(II)I"⟩, 84) := ⟨⟨by decide +kernel, by decide +kernel⟩, List.mem_of_getElem? (i := 1393) (by decide +kernel), List.mem_of_getElem? (i := 1883) (by decide +kernel), List.mem_of_getElem? (i := 1884) (by decide +kernel)⟩
theorem lw_p180 : lw_okq (⟨"RingDriveModel", "readsList", "(II)I"⟩, 84) := ⟨⟨by decide +kernel, by decide +kernel⟩, List.mem_of_getElem? (i := 1393) (by decide +kernel), List.mem_of_getElem? (i := 1887) (by decide +kernel), List.mem_of_getElem? (i := 1888) (by decide +kernel)⟩
theorem lw_p181 : lw_okq (⟨"RingDriveModel", "title", "(I)I"⟩, 84) := ⟨⟨by decide +kernel, by decide +kernel⟩, List.mem_of_getElem? (i := 1393) (by decide +kernel), List.mem_of_getElem? (i := 1891) (by decide +kernel), List.mem_of_getElem? (i := 1892) (by decide +kernel)⟩
theorem lw_p182 : lw_okq (⟨"RingDriveModel", "next", "(I)I"⟩, 84) := ⟨⟨by decide +kernel, by decide +kernel⟩, List.mem_of_getElem? (i := 1393) (by decide +kernel), List.mem_of_getElem? (i := 1895) (by decide +kernel), List.mem_of_getElem? (i := 1896) (by decide +kernel)⟩
theorem lw_p183 : lw_okq (⟨"RingDriveModel", "entryLine", "(I)V"⟩, 84) := ⟨⟨by decide +kernel, by decide +kernel⟩, List.mem_of_getElem? (i := 1393) (by decide +kernel), List.mem_of_getElem? (i := 1899) (by decide +kernel), List.mem_of_getElem? (i := 1900) (by decide +kernel)⟩
theorem lw_p184 : lw_okq (⟨"RingDriveModel", "saysNumber", "(I)V"⟩, 84) := ⟨⟨by decide +kernel, by decide +kernel⟩, List.mem_of_getElem? (i := 1393) (by decide +kernel), List.mem_of_getElem? (i := 1903) (by decide +kernel), List.mem_of_getElem? (i := 1904) (by decide +kernel)⟩
theorem lw_p185 : lw_okq (⟨"RingDriveModel", "total", "(I)I"⟩, 84) := ⟨⟨by decide +kernel, by decide +kernel⟩, List.mem_of_getElem? (i := 1393) (by decide +kernel), List.mem_of_getElem? (i := 1907) (by decide +kernel), List.mem_of_getElem? (i := 1908) (by decide +kernel)⟩
theorem lw_p186 : lw_okq (⟨"RingDriveModel", "readsBuffer", "(II)I"⟩, 84) := ⟨⟨by decide +kernel, by decide +kernel⟩, List.mem_of_getElem? (i := 1393) (by decide +kernel), List.mem_of_getElem? (i := 1912) (by decide +kernel), List.mem_of_getElem? (i := 1913) (by decide +kernel)⟩
theorem lw_p187 : lw_okq (⟨"RingDriveModel", "writesByte", "(II)I"⟩, 84) := ⟨⟨by decide +kernel, by decide +kernel⟩, List.mem_of_getElem? (i := 1393) (by decide +kernel), List.mem_of_getElem? (i := 1924) (by decide +kernel), List.mem_of_getElem? (i := 1925) (by decide +kernel)⟩
theorem lw_p188 : lw_okq (⟨"RingDriveModel", "goesOn", "(I)I"⟩, 84) := ⟨⟨by decide +kernel, by decide +kernel⟩, List.mem_of_getElem? (i := 1393) (by decide +kernel), List.mem_of_getElem? (i := 1928) (by decide +kernel), List.mem_of_getElem? (i := 1929) (by decide +kernel)⟩
theorem lw_p189 : lw_okq (⟨"RingDriveModel", "takesNext", "(II)I"⟩, 84) := ⟨⟨by decide +kernel, by decide +kernel⟩, List.mem_of_getElem? (i := 1393) (by decide +kernel), List.mem_of_getElem? (i := 1932) (by decide +kernel), List.mem_of_getElem? (i := 1933) (by decide +kernel)⟩
theorem lw_p190 : lw_okq (⟨"RingDriveModel", "isFull", "(I)I"⟩, 84) := ⟨⟨by decide +kernel, by decide +kernel⟩, List.mem_of_getElem? (i := 1393) (by decide +kernel), List.mem_of_getElem? (i := 1936) (by decide +kernel), List.mem_of_getElem? (i := 1937) (by decide +kernel)⟩
def lw_privs_12 : List (MethodName × Nat) := [(⟨"RingDriveModel", "says", "(I)V"⟩, 84), (⟨"RingDriveModel", "saysWords", "(I)V"⟩, 84), (⟨"RingDriveModel", "says8", "(J)V"⟩, 84), (⟨"RingDriveModel", "readsFile", "(II)I"⟩, 84), (⟨"RingDriveModel", "readsList", "(II)I"⟩, 84), (⟨"RingDriveModel", "title", "(I)I"⟩, 84), (⟨"RingDriveModel", "next", "(I)I"⟩, 84), (⟨"RingDriveModel", "entryLine", "(I)V"⟩, 84), (⟨"RingDriveModel", "saysNumber", "(I)V"⟩, 84), (⟨"RingDriveModel", "total", "(I)I"⟩, 84), (⟨"RingDriveModel", "readsBuffer", "(II)I"⟩, 84), (⟨"RingDriveModel", "writesByte", "(II)I"⟩, 84), (⟨"RingDriveModel", "goesOn", "(I)I"⟩, 84), (⟨"RingDriveModel", "takesNext", "(II)I"⟩, 84), (⟨"RingDriveModel", "isFull", "(I)I"⟩, 84)]
theorem lw_r12 : ∀ q ∈ lw_privs_12, lw_okq q := List.forall_mem_cons.mpr ⟨lw_p176, List.forall_mem_cons.mpr ⟨lw_p177, List.forall_mem_cons.mpr ⟨lw_p178, List.forall_mem_cons.mpr ⟨lw_p179, List.forall_mem_cons.mpr ⟨lw_p180, List.forall_mem_cons.mpr ⟨lw_p181, List.forall_mem_cons.mpr ⟨lw_p182, List.forall_mem_cons.mpr ⟨lw_p183, List.forall_mem_cons.mpr ⟨lw_p184, List.forall_mem_cons.mpr ⟨lw_p185, List.forall_mem_cons.mpr ⟨lw_p186, List.forall_mem_cons.mpr ⟨lw_p187, List.forall_mem_cons.mpr ⟨lw_p188, List.forall_mem_cons.mpr ⟨lw_p189, List.forall_mem_cons.mpr ⟨lw_p190, fun _ h => absurd h List.not_mem_nil⟩⟩⟩⟩⟩⟩⟩⟩⟩⟩⟩⟩⟩⟩⟩
def lw_privs : List (MethodName × Nat) := lw_privs_1 ++ (lw_privs_2 ++ (lw_privs_3 ++ (lw_privs_4 ++ (lw_privs_5 ++ (lw_privs_6 ++ (lw_privs_7 ++ (lw_privs_8 ++ (lw_privs_9 ++ (lw_privs_10 ++ (lw_privs_11 ++ (lw_privs_12)))))))))))
def lw_tbl : List Cond := k2_sels lw_privs ++ tables_1
theorem lw_privs_ok : ∀ q ∈ lw_privs, lw_okq q := by
  show ∀ q ∈ lw_privs_1 ++ (lw_privs_2 ++ (lw_privs_3 ++ (lw_privs_4 ++ (lw_privs_5 ++ (lw_privs_6 ++ (lw_privs_7 ++ (lw_privs_8 ++ (lw_privs_9 ++ (lw_privs_10 ++ (lw_privs_11 ++ (lw_privs_12))))))))))), lw_okq q
  exact List.forall_mem_append.mpr ⟨lw_r1, List.forall_mem_append.mpr ⟨lw_r2, List.forall_mem_append.mpr ⟨lw_r3, List.forall_mem_append.mpr ⟨lw_r4, List.forall_mem_append.mpr ⟨lw_r5, List.forall_mem_append.mpr ⟨lw_r6, List.forall_mem_append.mpr ⟨lw_r7, List.forall_mem_append.mpr ⟨lw_r8, List.forall_mem_append.mpr ⟨lw_r9, List.forall_mem_append.mpr ⟨lw_r10, List.forall_mem_append.mpr ⟨lw_r11, lw_r12⟩⟩⟩⟩⟩⟩⟩⟩⟩⟩⟩
def RX0 : String := "RingDrive$BlockMap"
def TX0 : u_T := fun k => match k with
  | 0 => ("RingDrive$BlockMap", "row", "[I", true)
  | 1 => ("RingDrive$BlockMap", "track", "I", false)
  | 2 => ("RingDrive$BlockMap", "sector", "I", false)
  | _ => ("RingDrive$BlockMap", "disk", "LRingDrive$Disk;", true)
def tyX0 : Nat → FieldType := fun k => match k with
  | 0 => .array .int
  | 1 => .int
  | 2 => .int
  | _ => .object "RingDrive$Disk"
def RX1 : String := "RingDrive$Channel"
def TX1 : u_T := fun k => match k with
  | 0 => ("RingDrive$Channel", "mode", "I", false)
  | 1 => ("RingDrive$Channel", "row", "[I", true)
  | 2 => ("RingDrive$Channel", "place", "I", false)
  | 3 => ("RingDrive$Channel", "end", "I", false)
  | 4 => ("RingDrive$Channel", "isLast", "Z", false)
  | 5 => ("RingDrive$Channel", "track", "I", false)
  | 6 => ("RingDrive$Channel", "sector", "I", false)
  | 7 => ("RingDrive$Channel", "firstTrack", "I", false)
  | 8 => ("RingDrive$Channel", "firstSector", "I", false)
  | 9 => ("RingDrive$Channel", "count", "I", false)
  | 10 => ("RingDrive$Channel", "entryTrack", "I", false)
  | 11 => ("RingDrive$Channel", "entrySector", "I", false)
  | 12 => ("RingDrive$Channel", "entryBlocks", "I", false)
  | 13 => ("RingDrive$Channel", "entry", "I", false)
  | 14 => ("RingDrive$Channel", "pattern", "LRingDrive$Pattern;", true)
  | _ => ("RingDrive$Channel", "titled", "Z", false)
def tyX1 : Nat → FieldType := fun k => match k with
  | 0 => .int
  | 1 => .array .int
  | 2 => .int
  | 3 => .int
  | 4 => .boolean
  | 5 => .int
  | 6 => .int
  | 7 => .int
  | 8 => .int
  | 9 => .int
  | 10 => .int
  | 11 => .int
  | 12 => .int
  | 13 => .int
  | 14 => .object "RingDrive$Pattern"
  | _ => .boolean
def RX2 : String := "RingDrive$Commands"
def TX2 : u_T := fun k => match k with
  | 0 => ("RingDrive$Commands", "dos", "LRingDrive$Dos;", true)
  | 1 => ("RingDrive$Commands", "status", "LRingDrive$Status;", true)
  | 2 => ("RingDrive$Commands", "disk", "LRingDrive$Disk;", true)
  | 3 => ("RingDrive$Commands", "tape", "LRingDrive$Tape;", true)
  | 4 => ("RingDrive$Commands", "map", "LRingDrive$BlockMap;", true)
  | 5 => ("RingDrive$Commands", "directory", "LRingDrive$Directory;", true)
  | 6 => ("RingDrive$Commands", "processor", "LRingDrive$Processor;", true)
  | 7 => ("RingDrive$Commands", "name", "LRingDrive$Pattern;", true)
  | 8 => ("RingDrive$Commands", "old", "LRingDrive$Pattern;", true)
  | _ => ("RingDrive$Commands", "all", "LRingDrive$Pattern;", true)
def tyX2 : Nat → FieldType := fun k => match k with
  | 0 => .object "RingDrive$Dos"
  | 1 => .object "RingDrive$Status"
  | 2 => .object "RingDrive$Disk"
  | 3 => .object "RingDrive$Tape"
  | 4 => .object "RingDrive$BlockMap"
  | 5 => .object "RingDrive$Directory"
  | 6 => .object "RingDrive$Processor"
  | 7 => .object "RingDrive$Pattern"
  | 8 => .object "RingDrive$Pattern"
  | _ => .object "RingDrive$Pattern"
def RX3 : String := "RingDrive$Directory"
def TX3 : u_T := fun k => match k with
  | 0 => ("RingDrive$Directory", "row", "[I", true)
  | 1 => ("RingDrive$Directory", "track", "I", false)
  | 2 => ("RingDrive$Directory", "sector", "I", false)
  | 3 => ("RingDrive$Directory", "blocks", "I", false)
  | 4 => ("RingDrive$Directory", "entry", "I", false)
  | 5 => ("RingDrive$Directory", "found", "Z", false)
  | 6 => ("RingDrive$Directory", "held", "Z", false)
  | 7 => ("RingDrive$Directory", "disk", "LRingDrive$Disk;", true)
  | _ => ("RingDrive$Directory", "status", "LRingDrive$Status;", true)
def tyX3 : Nat → FieldType := fun k => match k with
  | 0 => .array .int
  | 1 => .int
  | 2 => .int
  | 3 => .int
  | 4 => .int
  | 5 => .boolean
  | 6 => .boolean
  | 7 => .object "RingDrive$Disk"
  | _ => .object "RingDrive$Status"
def RX4 : String := "RingDrive$Disk"
def TX4 : u_T := fun k => match k with
  | 0 => ("RingDrive$Disk", "guarded", "Z", false)
  | 1 => ("RingDrive$Disk", "idFirst", "I", false)
  | 2 => ("RingDrive$Disk", "idSecond", "I", false)
  | 3 => ("RingDrive$Disk", "status", "LRingDrive$Status;", true)
  | 4 => ("RingDrive$Disk", "rings", "[LRingDrive$Ring;", true)
  | 5 => ("RingDrive$Disk", "header", "[I", true)
  | 6 => ("RingDrive$Disk", "codedHeader", "[I", true)
  | 7 => ("RingDrive$Disk", "data", "[I", true)
  | 8 => ("RingDrive$Disk", "codedData", "[I", true)
  | _ => ("RingDrive$Disk", "came", "[I", true)
def tyX4 : Nat → FieldType := fun k => match k with
  | 0 => .boolean
  | 1 => .int
  | 2 => .int
  | 3 => .object "RingDrive$Status"
  | 4 => .array (.object "RingDrive$Ring")
  | 5 => .array .int
  | 6 => .array .int
  | 7 => .array .int
  | 8 => .array .int
  | _ => .array .int
def RX5 : String := "RingDrive$Dos"
def TX5 : u_T := fun k => match k with
  | 0 => ("RingDrive$Dos", "status", "LRingDrive$Status;", true)
  | 1 => ("RingDrive$Dos", "disk", "LRingDrive$Disk;", true)
  | 2 => ("RingDrive$Dos", "tape", "LRingDrive$Tape;", true)
  | 3 => ("RingDrive$Dos", "map", "LRingDrive$BlockMap;", true)
  | 4 => ("RingDrive$Dos", "directory", "LRingDrive$Directory;", true)
  | 5 => ("RingDrive$Dos", "row", "[I", true)
  | 6 => ("RingDrive$Dos", "ended", "Z", false)
  | 7 => ("RingDrive$Dos", "channels", "[LRingDrive$Channel;", true)
  | 8 => ("RingDrive$Dos", "name", "LRingDrive$Pattern;", true)
  | 9 => ("RingDrive$Dos", "replaces", "Z", false)
  | 10 => ("RingDrive$Dos", "sort", "I", false)
  | _ => ("RingDrive$Dos", "way", "I", false)
def tyX5 : Nat → FieldType := fun k => match k with
  | 0 => .object "RingDrive$Status"
  | 1 => .object "RingDrive$Disk"
  | 2 => .object "RingDrive$Tape"
  | 3 => .object "RingDrive$BlockMap"
  | 4 => .object "RingDrive$Directory"
  | 5 => .array .int
  | 6 => .boolean
  | 7 => .array (.object "RingDrive$Channel")
  | 8 => .object "RingDrive$Pattern"
  | 9 => .boolean
  | 10 => .int
  | _ => .int
def RX6 : String := "RingDrive$Pattern"
def TX6 : u_T := fun k => match k with
  | 0 => ("RingDrive$Pattern", "row", "[I", true)
  | _ => ("RingDrive$Pattern", "length", "I", false)
def tyX6 : Nat → FieldType := fun k => match k with
  | 0 => .array .int
  | _ => .int
def RX7 : String := "RingDrive$Processor"
def TX7 : u_T := fun k => match k with
  | 0 => ("RingDrive$Processor", "a", "I", false)
  | 1 => ("RingDrive$Processor", "x", "I", false)
  | 2 => ("RingDrive$Processor", "y", "I", false)
  | 3 => ("RingDrive$Processor", "s", "I", false)
  | 4 => ("RingDrive$Processor", "p", "I", false)
  | 5 => ("RingDrive$Processor", "pc", "I", false)
  | 6 => ("RingDrive$Processor", "cycles", "I", false)
  | 7 => ("RingDrive$Processor", "cells", "[I", true)
  | 8 => ("RingDrive$Processor", "address", "I", false)
  | _ => ("RingDrive$Processor", "left", "Z", false)
def tyX7 : Nat → FieldType := fun k => match k with
  | 0 => .int
  | 1 => .int
  | 2 => .int
  | 3 => .int
  | 4 => .int
  | 5 => .int
  | 6 => .int
  | 7 => .array .int
  | 8 => .int
  | _ => .boolean
def RX8 : String := "RingDrive$Ring"
def TX8 : u_T := fun k => match k with
  | 0 => ("RingDrive$Ring", "sectors", "I", true)
  | 1 => ("RingDrive$Ring", "size", "I", true)
  | 2 => ("RingDrive$Ring", "cells", "[I", true)
  | 3 => ("RingDrive$Ring", "at", "I", false)
  | 4 => ("RingDrive$Ring", "ones", "I", false)
  | 5 => ("RingDrive$Ring", "first", "Z", false)
  | 6 => ("RingDrive$Ring", "roundCell", "I", false)
  | _ => ("RingDrive$Ring", "roundOnes", "I", false)
def tyX8 : Nat → FieldType := fun k => match k with
  | 0 => .int
  | 1 => .int
  | 2 => .array .int
  | 3 => .int
  | 4 => .int
  | 5 => .boolean
  | 6 => .int
  | _ => .int
def RX9 : String := "RingDrive$Status"
def TX9 : u_T := fun k => match k with
  | 0 => ("RingDrive$Status", "number", "I", false)
  | 1 => ("RingDrive$Status", "track", "I", false)
  | 2 => ("RingDrive$Status", "sector", "I", false)
  | 3 => ("RingDrive$Status", "ended", "Z", false)
  | 4 => ("RingDrive$Status", "text", "[I", true)
  | 5 => ("RingDrive$Status", "length", "I", false)
  | 6 => ("RingDrive$Status", "place", "I", false)
  | 7 => ("RingDrive$Status", "reply", "[I", true)
  | 8 => ("RingDrive$Status", "replyLength", "I", false)
  | _ => ("RingDrive$Status", "replyPlace", "I", false)
def tyX9 : Nat → FieldType := fun k => match k with
  | 0 => .int
  | 1 => .int
  | 2 => .int
  | 3 => .boolean
  | 4 => .array .int
  | 5 => .int
  | 6 => .int
  | 7 => .array .int
  | 8 => .int
  | _ => .int
def RX10 : String := "RingDrive$Tape"
def TX10 : u_T := fun k => match k with
  | 0 => ("RingDrive$Tape", "row", "[I", true)
  | 1 => ("RingDrive$Tape", "count", "I", false)
  | 2 => ("RingDrive$Tape", "length", "I", false)
  | _ => ("RingDrive$Tape", "taken", "I", false)
def tyX10 : Nat → FieldType := fun k => match k with
  | 0 => .array .int
  | 1 => .int
  | 2 => .int
  | _ => .int
def RX11 : String := "RingDrive"
def TX11 : u_T := fun k => match k with
  | 0 => ("RingDrive", "tape", "LRingDrive$Tape;", true)
  | 1 => ("RingDrive", "status", "LRingDrive$Status;", true)
  | 2 => ("RingDrive", "disk", "LRingDrive$Disk;", true)
  | 3 => ("RingDrive", "processor", "LRingDrive$Processor;", true)
  | 4 => ("RingDrive", "dos", "LRingDrive$Dos;", true)
  | 5 => ("RingDrive", "commands", "LRingDrive$Commands;", true)
  | 6 => ("RingDrive", "outRow", "[I", true)
  | 7 => ("RingDrive", "outCount", "I", false)
  | _ => ("RingDrive", "outEnded", "Z", false)
def tyX11 : Nat → FieldType := fun k => match k with
  | 0 => .object "RingDrive$Tape"
  | 1 => .object "RingDrive$Status"
  | 2 => .object "RingDrive$Disk"
  | 3 => .object "RingDrive$Processor"
  | 4 => .object "RingDrive$Dos"
  | 5 => .object "RingDrive$Commands"
  | 6 => .array .int
  | 7 => .int
  | _ => .boolean
def RX12 : String := "RingDriveModel"
def TX12 : u_T := fun k => match k with
  | 0 => ("RingDriveModel", "rings", "[B", true)
  | 1 => ("RingDriveModel", "isProtected", "Z", false)
  | 2 => ("RingDriveModel", "idOne", "I", false)
  | 3 => ("RingDriveModel", "idTwo", "I", false)
  | 4 => ("RingDriveModel", "faultTrack", "I", false)
  | 5 => ("RingDriveModel", "faultSector", "I", false)
  | 6 => ("RingDriveModel", "jobTrack", "I", false)
  | 7 => ("RingDriveModel", "jobBits", "I", false)
  | 8 => ("RingDriveModel", "jobAt", "I", false)
  | 9 => ("RingDriveModel", "jobRun", "I", false)
  | 10 => ("RingDriveModel", "jobMode", "I", false)
  | 11 => ("RingDriveModel", "jobMany", "I", false)
  | 12 => ("RingDriveModel", "jobValue", "I", false)
  | 13 => ("RingDriveModel", "jobFirst", "Z", false)
  | 14 => ("RingDriveModel", "came", "I", false)
  | 15 => ("RingDriveModel", "cameFirst", "Z", false)
  | 16 => ("RingDriveModel", "firsts", "[I", true)
  | 17 => ("RingDriveModel", "plain", "[I", true)
  | 18 => ("RingDriveModel", "coded", "[I", true)
  | 19 => ("RingDriveModel", "got", "[I", true)
  | 20 => ("RingDriveModel", "place", "I", false)
  | 21 => ("RingDriveModel", "zeros", "[I", true)
  | 22 => ("RingDriveModel", "map", "[I", true)
  | 23 => ("RingDriveModel", "dir", "[I", true)
  | 24 => ("RingDriveModel", "work", "[I", true)
  | 25 => ("RingDriveModel", "takenTrack", "I", false)
  | 26 => ("RingDriveModel", "takenSector", "I", false)
  | 27 => ("RingDriveModel", "entryTrack", "I", false)
  | 28 => ("RingDriveModel", "entrySector", "I", false)
  | 29 => ("RingDriveModel", "entry", "I", false)
  | 30 => ("RingDriveModel", "lastTrack", "I", false)
  | 31 => ("RingDriveModel", "lastSector", "I", false)
  | 32 => ("RingDriveModel", "looked", "I", false)
  | 33 => ("RingDriveModel", "kind", "[I", true)
  | 34 => ("RingDriveModel", "hold", "[I", true)
  | 35 => ("RingDriveModel", "at", "[I", true)
  | 36 => ("RingDriveModel", "last", "[I", true)
  | 37 => ("RingDriveModel", "isFinal", "[Z", true)
  | 38 => ("RingDriveModel", "firstTrack", "[I", true)
  | 39 => ("RingDriveModel", "firstSector", "[I", true)
  | 40 => ("RingDriveModel", "nowTrack", "[I", true)
  | 41 => ("RingDriveModel", "nowSector", "[I", true)
  | 42 => ("RingDriveModel", "blocks", "[I", true)
  | 43 => ("RingDriveModel", "itsTrack", "[I", true)
  | 44 => ("RingDriveModel", "itsSector", "[I", true)
  | 45 => ("RingDriveModel", "itsEntry", "[I", true)
  | 46 => ("RingDriveModel", "stage", "[I", true)
  | 47 => ("RingDriveModel", "listTrack", "[I", true)
  | 48 => ("RingDriveModel", "listSector", "[I", true)
  | 49 => ("RingDriveModel", "listBlock", "[I", true)
  | 50 => ("RingDriveModel", "listEntry", "[I", true)
  | 51 => ("RingDriveModel", "patternMany", "[I", true)
  | 52 => ("RingDriveModel", "lineMany", "[I", true)
  | 53 => ("RingDriveModel", "lineAt", "[I", true)
  | 54 => ("RingDriveModel", "pattern", "[I", true)
  | 55 => ("RingDriveModel", "line", "[I", true)
  | 56 => ("RingDriveModel", "number", "I", false)
  | 57 => ("RingDriveModel", "track", "I", false)
  | 58 => ("RingDriveModel", "sector", "I", false)
  | 59 => ("RingDriveModel", "statusAt", "I", false)
  | 60 => ("RingDriveModel", "more", "[I", true)
  | 61 => ("RingDriveModel", "moreMany", "I", false)
  | 62 => ("RingDriveModel", "moreAt", "I", false)
  | 63 => ("RingDriveModel", "tape", "[B", true)
  | 64 => ("RingDriveModel", "taped", "I", false)
  | 65 => ("RingDriveModel", "text", "[I", true)
  | 66 => ("RingDriveModel", "out", "[I", true)
  | 67 => ("RingDriveModel", "outMany", "I", false)
  | 68 => ("RingDriveModel", "ended", "I", false)
  | 69 => ("RingDriveModel", "words", "[I", true)
  | 70 => ("RingDriveModel", "wordMany", "I", false)
  | 71 => ("RingDriveModel", "wanted", "[I", true)
  | 72 => ("RingDriveModel", "numberAt", "I", false)
  | 73 => ("RingDriveModel", "numberFault", "I", false)
  | 74 => ("RingDriveModel", "memory", "[B", true)
  | 75 => ("RingDriveModel", "ra", "I", false)
  | 76 => ("RingDriveModel", "rx", "I", false)
  | 77 => ("RingDriveModel", "ry", "I", false)
  | 78 => ("RingDriveModel", "rs", "I", false)
  | 79 => ("RingDriveModel", "rp", "I", false)
  | 80 => ("RingDriveModel", "pc", "I", false)
  | 81 => ("RingDriveModel", "cycles", "I", false)
  | 82 => ("RingDriveModel", "endedAt", "I", false)
  | _ => ("RingDriveModel", "isCrossed", "Z", false)
def tyX12 : Nat → FieldType := fun k => match k with
  | 0 => .array .byte
  | 1 => .boolean
  | 2 => .int
  | 3 => .int
  | 4 => .int
  | 5 => .int
  | 6 => .int
  | 7 => .int
  | 8 => .int
  | 9 => .int
  | 10 => .int
  | 11 => .int
  | 12 => .int
  | 13 => .boolean
  | 14 => .int
  | 15 => .boolean
  | 16 => .array .int
  | 17 => .array .int
  | 18 => .array .int
  | 19 => .array .int
  | 20 => .int
  | 21 => .array .int
  | 22 => .array .int
  | 23 => .array .int
  | 24 => .array .int
  | 25 => .int
  | 26 => .int
  | 27 => .int
  | 28 => .int
  | 29 => .int
  | 30 => .int
  | 31 => .int
  | 32 => .int
  | 33 => .array .int
  | 34 => .array .int
  | 35 => .array .int
  | 36 => .array .int
  | 37 => .array .boolean
  | 38 => .array .int
  | 39 => .array .int
  | 40 => .array .int
  | 41 => .array .int
  | 42 => .array .int
  | 43 => .array .int
  | 44 => .array .int
  | 45 => .array .int
  | 46 => .array .int
  | 47 => .array .int
  | 48 => .array .int
  | 49 => .array .int
  | 50 => .array .int
  | 51 => .array .int
  | 52 => .array .int
  | 53 => .array .int
  | 54 => .array .int
  | 55 => .array .int
  | 56 => .int
  | 57 => .int
  | 58 => .int
  | 59 => .int
  | 60 => .array .int
  | 61 => .int
  | 62 => .int
  | 63 => .array .byte
  | 64 => .int
  | 65 => .array .int
  | 66 => .array .int
  | 67 => .int
  | 68 => .int
  | 69 => .array .int
  | 70 => .int
  | 71 => .array .int
  | 72 => .int
  | 73 => .int
  | 74 => .array .byte
  | 75 => .int
  | 76 => .int
  | 77 => .int
  | 78 => .int
  | 79 => .int
  | 80 => .int
  | 81 => .int
  | 82 => .int
  | _ => .boolean
abbrev wsX00 : List Cond := u_ws RX0 TX0 4
theorem nmX0 : ∀ a, a < 4 → ∀ b, b < 4 → a ≠ b → (TX0 a).2.1 ≠ (TX0 b).2.1 := by decide +kernel
theorem tyX0_ok : ∀ k, k < 4 → parseFieldDescriptor (TX0 k).2.2.1 = some (tyX0 k) := by decide +kernel
abbrev wsX10 : List Cond := u_ws RX1 TX1 16
theorem nmX1 : ∀ a, a < 16 → ∀ b, b < 16 → a ≠ b → (TX1 a).2.1 ≠ (TX1 b).2.1 := by decide +kernel
theorem tyX1_ok : ∀ k, k < 16 → parseFieldDescriptor (TX1 k).2.2.1 = some (tyX1 k) := by decide +kernel
abbrev wsX20 : List Cond := u_ws RX2 TX2 10
theorem nmX2 : ∀ a, a < 10 → ∀ b, b < 10 → a ≠ b → (TX2 a).2.1 ≠ (TX2 b).2.1 := by decide +kernel
theorem tyX2_ok : ∀ k, k < 10 → parseFieldDescriptor (TX2 k).2.2.1 = some (tyX2 k) := by decide +kernel
abbrev wsX30 : List Cond := u_ws RX3 TX3 9
theorem nmX3 : ∀ a, a < 9 → ∀ b, b < 9 → a ≠ b → (TX3 a).2.1 ≠ (TX3 b).2.1 := by decide +kernel
theorem tyX3_ok : ∀ k, k < 9 → parseFieldDescriptor (TX3 k).2.2.1 = some (tyX3 k) := by decide +kernel
abbrev wsX40 : List Cond := u_ws RX4 TX4 10
theorem nmX4 : ∀ a, a < 10 → ∀ b, b < 10 → a ≠ b → (TX4 a).2.1 ≠ (TX4 b).2.1 := by decide +kernel
theorem tyX4_ok : ∀ k, k < 10 → parseFieldDescriptor (TX4 k).2.2.1 = some (tyX4 k) := by decide +kernel
abbrev wsX50 : List Cond := u_ws RX5 TX5 12
theorem nmX5 : ∀ a, a < 12 → ∀ b, b < 12 → a ≠ b → (TX5 a).2.1 ≠ (TX5 b).2.1 := by decide +kernel
theorem tyX5_ok : ∀ k, k < 12 → parseFieldDescriptor (TX5 k).2.2.1 = some (tyX5 k) := by decide +kernel
abbrev wsX60 : List Cond := u_ws RX6 TX6 2
theorem nmX6 : ∀ a, a < 2 → ∀ b, b < 2 → a ≠ b → (TX6 a).2.1 ≠ (TX6 b).2.1 := by decide +kernel
theorem tyX6_ok : ∀ k, k < 2 → parseFieldDescriptor (TX6 k).2.2.1 = some (tyX6 k) := by decide +kernel
abbrev wsX70 : List Cond := u_ws RX7 TX7 10
theorem nmX7 : ∀ a, a < 10 → ∀ b, b < 10 → a ≠ b → (TX7 a).2.1 ≠ (TX7 b).2.1 := by decide +kernel
theorem tyX7_ok : ∀ k, k < 10 → parseFieldDescriptor (TX7 k).2.2.1 = some (tyX7 k) := by decide +kernel
abbrev wsX80 : List Cond := u_ws RX8 TX8 8
theorem nmX8 : ∀ a, a < 8 → ∀ b, b < 8 → a ≠ b → (TX8 a).2.1 ≠ (TX8 b).2.1 := by decide +kernel
theorem tyX8_ok : ∀ k, k < 8 → parseFieldDescriptor (TX8 k).2.2.1 = some (tyX8 k) := by decide +kernel
abbrev wsX90 : List Cond := u_ws RX9 TX9 10
theorem nmX9 : ∀ a, a < 10 → ∀ b, b < 10 → a ≠ b → (TX9 a).2.1 ≠ (TX9 b).2.1 := by decide +kernel
theorem tyX9_ok : ∀ k, k < 10 → parseFieldDescriptor (TX9 k).2.2.1 = some (tyX9 k) := by decide +kernel
abbrev wsX100 : List Cond := u_ws RX10 TX10 4
theorem nmX10 : ∀ a, a < 4 → ∀ b, b < 4 → a ≠ b → (TX10 a).2.1 ≠ (TX10 b).2.1 := by decide +kernel
theorem tyX10_ok : ∀ k, k < 4 → parseFieldDescriptor (TX10 k).2.2.1 = some (tyX10 k) := by decide +kernel
abbrev wsX110 : List Cond := u_ws RX11 TX11 9
theorem nmX11 : ∀ a, a < 9 → ∀ b, b < 9 → a ≠ b → (TX11 a).2.1 ≠ (TX11 b).2.1 := by decide +kernel
theorem tyX11_ok : ∀ k, k < 9 → parseFieldDescriptor (TX11 k).2.2.1 = some (tyX11 k) := by decide +kernel
abbrev wsX120 : List Cond := u_ws RX12 TX12 84
theorem nmX12 : ∀ a, a < 84 → ∀ b, b < 84 → a ≠ b → (TX12 a).2.1 ≠ (TX12 b).2.1 := by decide +kernel
theorem tyX12_ok : ∀ k, k < 84 → parseFieldDescriptor (TX12 k).2.2.1 = some (tyX12 k) := by decide +kernel
abbrev vwCl : List vw_C := [(RX0, TX0, 4), (RX1, TX1, 16), (RX2, TX2, 10), (RX3, TX3, 9), (RX4, TX4, 10), (RX5, TX5, 12), (RX6, TX6, 2), (RX7, TX7, 10), (RX8, TX8, 8), (RX9, TX9, 10), (RX10, TX10, 4), (RX11, TX11, 9), (RX12, TX12, 84)]
def rx_Ts : List Cond := lw_tbl.filter goodWord
def rx_has (i : Nat) (w : Cond) : Bool := decide (lw_tbl[i]? = some w) && goodWord w
def rx_cns : List String := ["RingDrive$BlockMap", "RingDrive$Channel", "RingDrive$Commands", "RingDrive$Directory", "RingDrive$Disk", "RingDrive$Dos", "RingDrive$Pattern", "RingDrive$Processor", "RingDrive$Ring", "RingDrive$Status", "RingDrive$Tape", "RingDrive", "RingDriveModel", "RingDriveLaw", "java/lang/Math", "java/lang/Object", "java/lang/String", "java/lang/StringLatin1", "java/lang/StringUTF16", "java/util/Arrays", "jdk/internal/util/Preconditions"]
def rx_cn (c : Nat) : String := rx_cns.getD c ""
/-- the kinds of arrays -/
def rx_ty : List FieldType := [.int, .byte, .boolean, (.object "RingDrive$Channel"), (.object "RingDrive$Ring")]
/-- the class of the elements of a kind of arrays of references -/
def rx_el : List (Nat × Nat) := [(3, 1), (4, 8)]
/-- links to fields of objects: class, entry; class, place, type, final; the place of its word -/
def rx_FLs : List ((Nat × Nat) × (Nat × Nat × FieldType × Bool) × Nat) := [((10, 11), (10, 0, (.array .int), true), 226), ((11, 69), (10, 1, .int, false), 227), ((10, 15), (10, 1, .int, false), 228), ((2, 62), (10, 2, .int, false), 229), ((10, 19), (10, 2, .int, false), 230), ((5, 146), (10, 2, .int, false), 231), ((10, 31), (10, 3, .int, false), 232), ((9, 9), (9, 0, .int, false), 249), ((11, 84), (9, 0, .int, false), 250), ((4, 101), (9, 0, .int, false), 251), ((9, 32), (9, 1, .int, false), 252), ((11, 122), (9, 1, .int, false), 253), ((5, 237), (9, 1, .int, false), 254), ((9, 35), (9, 2, .int, false), 255), ((11, 125), (9, 2, .int, false), 256), ((5, 238), (9, 2, .int, false), 257), ((9, 44), (9, 3, .boolean, false), 258), ((11, 115), (9, 3, .boolean, false), 259), ((9, 15), (9, 4, (.array .int), true), 260), ((9, 38), (9, 5, .int, false), 261), ((9, 41), (9, 6, .int, false), 262), ((9, 19), (9, 7, (.array .int), true), 263), ((9, 26), (9, 8, .int, false), 264), ((9, 29), (9, 9, .int, false), 265), ((8, 25), (8, 0, .int, true), 307), ((4, 137), (8, 0, .int, true), 308), ((8, 21), (8, 1, .int, true), 309), ((4, 154), (8, 1, .int, true), 310), ((8, 15), (8, 2, (.array .int), true), 311), ((8, 36), (8, 3, .int, false), 312), ((8, 43), (8, 4, .int, false), 313), ((8, 52), (8, 5, .boolean, false), 314), ((8, 46), (8, 6, .int, false), 315), ((8, 49), (8, 7, .int, false), 316), ((11, 174), (4, 0, .boolean, false), 334), ((4, 121), (4, 0, .boolean, false), 335), ((4, 9), (4, 1, .int, false), 336), ((0, 44), (4, 1, .int, false), 337), ((11, 128), (4, 1, .int, false), 338), ((4, 15), (4, 2, .int, false), 339), ((0, 48), (4, 2, .int, false), 340), ((11, 131), (4, 2, .int, false), 341), ((4, 40), (4, 3, (.object "RingDrive$Status"), true), 342), ((4, 20), (4, 4, (.array (.object "RingDrive$Ring")), true), 343), ((4, 24), (4, 5, (.array .int), true), 344), ((4, 28), (4, 6, (.array .int), true), 345), ((4, 31), (4, 7, (.array .int), true), 346), ((4, 34), (4, 8, (.array .int), true), 347), ((4, 37), (4, 9, (.array .int), true), 348), ((7, 30), (7, 0, .int, false), 376), ((11, 137), (7, 0, .int, false), 377), ((7, 33), (7, 1, .int, false), 378), ((11, 140), (7, 1, .int, false), 379), ((7, 36), (7, 2, .int, false), 380), ((11, 143), (7, 2, .int, false), 381), ((7, 23), (7, 3, .int, false), 382), ((11, 146), (7, 3, .int, false), 383), ((7, 27), (7, 4, .int, false), 384), ((11, 149), (7, 4, .int, false), 385), ((7, 39), (7, 5, .int, false), 386), ((11, 152), (7, 5, .int, false), 387), ((7, 42), (7, 6, .int, false), 388), ((11, 155), (7, 6, .int, false), 389), ((7, 9), (7, 7, (.array .int), true), 390), ((7, 69), (7, 8, .int, false), 391), ((7, 65), (7, 9, .boolean, false), 392), ((6, 9), (6, 0, (.array .int), true), 428), ((6, 19), (6, 1, .int, false), 429), ((0, 9), (0, 0, (.array .int), true), 441), ((5, 317), (0, 0, (.array .int), true), 442), ((0, 72), (0, 1, .int, false), 443), ((3, 92), (0, 1, .int, false), 444), ((5, 255), (0, 1, .int, false), 445), ((0, 75), (0, 2, .int, false), 446), ((3, 95), (0, 2, .int, false), 447), ((5, 256), (0, 2, .int, false), 448), ((0, 15), (0, 3, (.object "RingDrive$Disk"), true), 449), ((3, 9), (3, 0, (.array .int), true), 465), ((3, 27), (3, 1, .int, false), 466), ((1, 51), (3, 1, .int, false), 467), ((3, 31), (3, 2, .int, false), 468), ((1, 57), (3, 2, .int, false), 469), ((3, 34), (3, 3, .int, false), 470), ((1, 61), (3, 3, .int, false), 471), ((3, 37), (3, 4, .int, false), 472), ((1, 67), (3, 4, .int, false), 473), ((3, 44), (3, 5, .boolean, false), 474), ((2, 164), (3, 5, .boolean, false), 475), ((5, 197), (3, 5, .boolean, false), 476), ((3, 40), (3, 6, .boolean, false), 477), ((3, 15), (3, 7, (.object "RingDrive$Disk"), true), 478), ((3, 19), (3, 8, (.object "RingDrive$Status"), true), 479), ((1, 9), (1, 0, .int, false), 506), ((5, 61), (1, 0, .int, false), 507), ((1, 15), (1, 1, (.array .int), true), 508), ((5, 72), (1, 1, (.array .int), true), 509), ((2, 236), (1, 1, (.array .int), true), 510), ((1, 32), (1, 2, .int, false), 511), ((5, 73), (1, 2, .int, false), 512), ((2, 242), (1, 2, .int, false), 513), ((1, 35), (1, 3, .int, false), 514), ((5, 287), (1, 3, .int, false), 515), ((1, 38), (1, 4, .boolean, false), 516), ((5, 290), (1, 4, .boolean, false), 517), ((1, 45), (1, 5, .int, false), 518), ((5, 76), (1, 5, .int, false), 519), ((1, 48), (1, 6, .int, false), 520), ((5, 79), (1, 6, .int, false), 521), ((5, 273), (1, 7, .int, false), 522), ((5, 275), (1, 8, .int, false), 523), ((5, 90), (1, 9, .int, false), 524), ((1, 54), (1, 10, .int, false), 525), ((5, 96), (1, 10, .int, false), 526), ((1, 58), (1, 11, .int, false), 527), ((5, 99), (1, 11, .int, false), 528), ((1, 64), (1, 12, .int, false), 529), ((5, 102), (1, 12, .int, false), 530), ((1, 70), (1, 13, .int, false), 531), ((5, 105), (1, 13, .int, false), 532), ((1, 22), (1, 14, (.object "RingDrive$Pattern"), true), 533), ((5, 164), (1, 14, (.object "RingDrive$Pattern"), true), 534), ((1, 42), (1, 15, .boolean, false), 535), ((5, 302), (1, 15, .boolean, false), 536), ((5, 30), (5, 0, (.object "RingDrive$Status"), true), 570), ((2, 32), (5, 0, (.object "RingDrive$Status"), true), 571), ((5, 34), (5, 1, (.object "RingDrive$Disk"), true), 572), ((2, 39), (5, 1, (.object "RingDrive$Disk"), true), 573), ((5, 38), (5, 2, (.object "RingDrive$Tape"), true), 574), ((2, 44), (5, 2, (.object "RingDrive$Tape"), true), 575), ((5, 47), (5, 3, (.object "RingDrive$BlockMap"), true), 576), ((2, 49), (5, 3, (.object "RingDrive$BlockMap"), true), 577), ((5, 56), (5, 4, (.object "RingDrive$Directory"), true), 578), ((2, 54), (5, 4, (.object "RingDrive$Directory"), true), 579), ((5, 11), (5, 5, (.array .int), true), 580), ((2, 205), (5, 5, (.array .int), true), 581), ((11, 121), (5, 6, .boolean, false), 582), ((5, 281), (5, 6, .boolean, false), 583), ((5, 19), (5, 7, (.array (.object "RingDrive$Channel")), true), 584), ((5, 26), (5, 8, (.object "RingDrive$Pattern"), true), 585), ((5, 171), (5, 9, .boolean, false), 586), ((5, 182), (5, 10, .int, false), 587), ((5, 137), (5, 11, .int, false), 588), ((2, 24), (2, 0, (.object "RingDrive$Dos"), true), 626), ((2, 38), (2, 1, (.object "RingDrive$Status"), true), 627), ((2, 43), (2, 2, (.object "RingDrive$Disk"), true), 628), ((2, 48), (2, 3, (.object "RingDrive$Tape"), true), 629), ((2, 53), (2, 4, (.object "RingDrive$BlockMap"), true), 630), ((2, 58), (2, 5, (.object "RingDrive$Directory"), true), 631), ((2, 28), (2, 6, (.object "RingDrive$Processor"), true), 632), ((2, 12), (2, 7, (.object "RingDrive$Pattern"), true), 633), ((2, 18), (2, 8, (.object "RingDrive$Pattern"), true), 634), ((2, 21), (2, 9, (.object "RingDrive$Pattern"), true), 635), ((11, 10), (11, 0, (.object "RingDrive$Tape"), true), 657), ((11, 19), (11, 1, (.object "RingDrive$Status"), true), 658), ((11, 28), (11, 2, (.object "RingDrive$Disk"), true), 659), ((11, 35), (11, 3, (.object "RingDrive$Processor"), true), 660), ((11, 44), (11, 4, (.object "RingDrive$Dos"), true), 661), ((11, 53), (11, 5, (.object "RingDrive$Commands"), true), 662), ((11, 57), (11, 6, (.array .int), true), 663), ((11, 61), (11, 7, .int, false), 664), ((11, 65), (11, 8, .boolean, false), 665), ((12, 14), (12, 0, (.array .byte), true), 2162), ((12, 131), (12, 1, .boolean, false), 2163), ((12, 90), (12, 2, .int, false), 2164), ((12, 93), (12, 3, .int, false), 2165), ((12, 7), (12, 4, .int, false), 2166), ((12, 11), (12, 5, .int, false), 2167), ((12, 18), (12, 6, .int, false), 2168), ((12, 24), (12, 7, .int, false), 2169), ((12, 27), (12, 8, .int, false), 2170), ((12, 30), (12, 9, .int, false), 2171), ((12, 33), (12, 10, .int, false), 2172), ((12, 36), (12, 11, .int, false), 2173), ((12, 39), (12, 12, .int, false), 2174), ((12, 42), (12, 13, .boolean, false), 2175), ((12, 50), (12, 14, .int, false), 2176), ((12, 53), (12, 15, .boolean, false), 2177), ((12, 64), (12, 16, (.array .int), true), 2178), ((12, 71), (12, 17, (.array .int), true), 2179), ((12, 74), (12, 18, (.array .int), true), 2180), ((12, 104), (12, 19, (.array .int), true), 2181), ((12, 125), (12, 20, .int, false), 2182), ((12, 142), (12, 21, (.array .int), true), 2183), ((12, 145), (12, 22, (.array .int), true), 2184), ((12, 195), (12, 23, (.array .int), true), 2185), ((12, 186), (12, 24, (.array .int), true), 2186), ((12, 155), (12, 25, .int, false), 2187), ((12, 158), (12, 26, .int, false), 2188), ((12, 211), (12, 27, .int, false), 2189), ((12, 214), (12, 28, .int, false), 2190), ((12, 217), (12, 29, .int, false), 2191), ((12, 198), (12, 30, .int, false), 2192), ((12, 201), (12, 31, .int, false), 2193), ((12, 192), (12, 32, .int, false), 2194), ((12, 248), (12, 33, (.array .int), true), 2195), ((12, 284), (12, 34, (.array .int), true), 2196), ((12, 287), (12, 35, (.array .int), true), 2197), ((12, 322), (12, 36, (.array .int), true), 2198), ((12, 318), (12, 37, (.array .boolean), true), 2199), ((12, 341), (12, 38, (.array .int), true), 2200), ((12, 344), (12, 39, (.array .int), true), 2201), ((12, 347), (12, 40, (.array .int), true), 2202), ((12, 350), (12, 41, (.array .int), true), 2203), ((12, 353), (12, 42, (.array .int), true), 2204), ((12, 356), (12, 43, (.array .int), true), 2205), ((12, 359), (12, 44, (.array .int), true), 2206), ((12, 362), (12, 45, (.array .int), true), 2207), ((12, 302), (12, 46, (.array .int), true), 2208), ((12, 502), (12, 47, (.array .int), true), 2209), ((12, 505), (12, 48, (.array .int), true), 2210), ((12, 508), (12, 49, (.array .int), true), 2211), ((12, 511), (12, 50, (.array .int), true), 2212), ((12, 299), (12, 51, (.array .int), true), 2213), ((12, 305), (12, 52, (.array .int), true), 2214), ((12, 308), (12, 53, (.array .int), true), 2215), ((12, 296), (12, 54, (.array .int), true), 2216), ((12, 493), (12, 55, (.array .int), true), 2217), ((12, 227), (12, 56, .int, false), 2218), ((12, 230), (12, 57, .int, false), 2219), ((12, 233), (12, 58, .int, false), 2220), ((12, 236), (12, 59, .int, false), 2221), ((12, 392), (12, 60, (.array .int), true), 2222), ((12, 242), (12, 61, .int, false), 2223), ((12, 245), (12, 62, .int, false), 2224), ((12, 251), (12, 63, (.array .byte), true), 2225), ((12, 254), (12, 64, .int, false), 2226), ((12, 260), (12, 65, (.array .int), true), 2227), ((12, 368), (12, 66, (.array .int), true), 2228), ((12, 371), (12, 67, .int, false), 2229), ((12, 374), (12, 68, .int, false), 2230), ((12, 398), (12, 69, (.array .int), true), 2231), ((12, 401), (12, 70, .int, false), 2232), ((12, 587), (12, 71, (.array .int), true), 2233), ((12, 599), (12, 72, .int, false), 2234), ((12, 602), (12, 73, .int, false), 2235), ((12, 614), (12, 74, (.array .byte), true), 2236), ((12, 626), (12, 75, .int, false), 2237), ((12, 629), (12, 76, .int, false), 2238), ((12, 632), (12, 77, .int, false), 2239), ((12, 635), (12, 78, .int, false), 2240), ((12, 638), (12, 79, .int, false), 2241), ((12, 644), (12, 80, .int, false), 2242), ((12, 641), (12, 81, .int, false), 2243), ((12, 647), (12, 82, .int, false), 2244), ((12, 660), (12, 83, .boolean, false), 2245)]
def rx_sn : List (String × String × String × (Int32 ⊕ (Nat × List Int32))) := [("RingDrive$Disk", "LENGTHS", "[I", .inr (12, [1000, 1000, 1000, 880, 880, 880, 760, 760, 760, 640, 640, 640])), ("RingDrive$Disk", "SECTORS", "[I", .inr (12, [8, 8, 8, 7, 7, 7, 6, 6, 6, 5, 5, 5])), ("RingDrive$Disk", "GROUPS", "[I", .inr (16, [10, 11, 18, 19, 14, 15, 22, 23, 9, 25, 26, 27, 13, 29, 30, 21])), ("RingDrive$Disk", "VALUES", "[I", .inr (32, [-1, -1, -1, -1, -1, -1, -1, -1, -1, 8, 0, 1, -1, 12, 4, 5, -1, -1, 2, 3, -1, 15, 6, 7, -1, 9, 10, 11, -1, 13, 14, -1])), ("RingDrive$Processor", "CODES", "[I", .inr (256, [56, 7, 0, 0, 0, 7, 16, 0, 49, 7, 16, 0, 0, 7, 16, 0, 22, 7, 0, 0, 0, 7, 16, 0, 40, 7, 0, 0, 0, 7, 16, 0, 53, 6, 0, 0, 12, 6, 18, 0, 51, 6, 18, 0, 12, 6, 18, 0, 23, 6, 0, 0, 0, 6, 18, 0, 41, 6, 0, 0, 0, 6, 18, 0, 55, 8, 0, 0, 0, 8, 17, 0, 48, 8, 17, 0, 52, 8, 17, 0, 24, 8, 0, 0, 0, 8, 17, 0, 42, 8, 0, 0, 0, 8, 17, 0, 54, 4, 0, 0, 0, 4, 19, 0, 50, 4, 19, 0, 52, 4, 19, 0, 25, 4, 0, 0, 0, 4, 19, 0, 43, 4, 0, 0, 0, 4, 19, 0, 0, 13, 0, 0, 15, 13, 14, 0, 39, 0, 32, 0, 15, 13, 14, 0, 26, 13, 0, 0, 15, 13, 14, 0, 33, 13, 35, 0, 0, 13, 0, 0, 3, 1, 2, 0, 3, 1, 2, 0, 31, 1, 30, 0, 3, 1, 2, 0, 27, 1, 0, 0, 3, 1, 2, 0, 44, 1, 34, 0, 3, 1, 2, 0, 11, 9, 0, 0, 11, 9, 21, 0, 37, 9, 38, 0, 11, 9, 21, 0, 28, 9, 0, 0, 0, 9, 21, 0, 45, 9, 0, 0, 0, 9, 21, 0, 10, 5, 0, 0, 10, 5, 20, 0, 36, 5, 47, 0, 10, 5, 20, 0, 29, 5, 0, 0, 0, 5, 20, 0, 46, 5, 0, 0, 0, 5, 20, 0])), ("RingDrive$Processor", "TAKES", "[I", .inr (256, [7, 6, 0, 0, 0, 3, 5, 0, 3, 2, 2, 0, 0, 4, 6, 0, 2, 5, 0, 0, 0, 4, 6, 0, 2, 4, 0, 0, 0, 4, 7, 0, 6, 6, 0, 0, 3, 3, 5, 0, 4, 2, 2, 0, 4, 4, 6, 0, 2, 5, 0, 0, 0, 4, 6, 0, 2, 4, 0, 0, 0, 4, 7, 0, 6, 6, 0, 0, 0, 3, 5, 0, 3, 2, 2, 0, 3, 4, 6, 0, 2, 5, 0, 0, 0, 4, 6, 0, 2, 4, 0, 0, 0, 4, 7, 0, 6, 6, 0, 0, 0, 3, 5, 0, 4, 2, 2, 0, 5, 4, 6, 0, 2, 5, 0, 0, 0, 4, 6, 0, 2, 4, 0, 0, 0, 4, 7, 0, 0, 6, 0, 0, 3, 3, 3, 0, 2, 0, 2, 0, 4, 4, 4, 0, 2, 6, 0, 0, 4, 4, 4, 0, 2, 5, 2, 0, 0, 5, 0, 0, 2, 6, 2, 0, 3, 3, 3, 0, 2, 2, 2, 0, 4, 4, 4, 0, 2, 5, 0, 0, 4, 4, 4, 0, 2, 4, 2, 0, 4, 4, 4, 0, 2, 6, 0, 0, 3, 3, 5, 0, 2, 2, 2, 0, 4, 4, 6, 0, 2, 5, 0, 0, 0, 4, 6, 0, 2, 4, 0, 0, 0, 4, 7, 0, 2, 6, 0, 0, 3, 3, 5, 0, 2, 2, 2, 0, 4, 4, 6, 0, 2, 5, 0, 0, 0, 4, 6, 0, 2, 4, 0, 0, 0, 4, 7, 0])), ("RingDrive$Processor", "WAYS", "[I", .inr (256, [0, 9, 0, 0, 0, 3, 3, 0, 0, 2, 1, 0, 0, 6, 6, 0, 11, 10, 0, 0, 0, 4, 4, 0, 0, 8, 0, 0, 0, 7, 7, 0, 6, 9, 0, 0, 3, 3, 3, 0, 0, 2, 1, 0, 6, 6, 6, 0, 11, 10, 0, 0, 0, 4, 4, 0, 0, 8, 0, 0, 0, 7, 7, 0, 0, 9, 0, 0, 0, 3, 3, 0, 0, 2, 1, 0, 6, 6, 6, 0, 11, 10, 0, 0, 0, 4, 4, 0, 0, 8, 0, 0, 0, 7, 7, 0, 0, 9, 0, 0, 0, 3, 3, 0, 0, 2, 1, 0, 12, 6, 6, 0, 11, 10, 0, 0, 0, 4, 4, 0, 0, 8, 0, 0, 0, 7, 7, 0, 0, 9, 0, 0, 3, 3, 3, 0, 0, 0, 0, 0, 6, 6, 6, 0, 11, 10, 0, 0, 4, 4, 5, 0, 0, 8, 0, 0, 0, 7, 0, 0, 2, 9, 2, 0, 3, 3, 3, 0, 0, 2, 0, 0, 6, 6, 6, 0, 11, 10, 0, 0, 4, 4, 5, 0, 0, 8, 0, 0, 7, 7, 8, 0, 2, 9, 0, 0, 3, 3, 3, 0, 0, 2, 0, 0, 6, 6, 6, 0, 11, 10, 0, 0, 0, 4, 4, 0, 0, 8, 0, 0, 0, 7, 7, 0, 2, 9, 0, 0, 3, 3, 3, 0, 0, 2, 0, 0, 6, 6, 6, 0, 11, 10, 0, 0, 0, 4, 4, 0, 0, 8, 0, 0, 0, 7, 7, 0])), ("RingDrive$BlockMap", "ORDER", "[I", .inr (11, [6, 8, 5, 9, 4, 10, 3, 11, 2, 12, 1])), ("java/lang/String", "COMPACT_STRINGS", "Z", .inl 1), ("java/lang/StringUTF16", "$assertionsDisabled", "Z", .inl 1), ("java/lang/StringUTF16", "HI_BYTE_SHIFT", "I", .inl 0), ("java/lang/StringUTF16", "LO_BYTE_SHIFT", "I", .inl 8)]
/-- links to statics: class, entry; which of rx_sn; the place of its word -/
def rx_SLs : List ((Nat × Nat) × Nat × Nat) := [((4, 44), 0, 296), ((4, 47), 1, 298), ((4, 161), 2, 780), ((4, 164), 3, 839), ((7, 49), 4, 1116), ((7, 52), 5, 1118), ((7, 55), 6, 1120), ((0, 55), 7, 1319), ((16, 38), 8, 1427), ((18, 44), 9, 1461), ((18, 59), 10, 1463), ((18, 63), 11, 1465)]
/-- links to a String's fields: 0 coder, 1 value -/
def rx_KLs : List ((Nat × Nat) × Nat × Nat) := [((16, 9), 1, 2416), ((16, 15), 0, 2417)]
/-- texts -/
def rx_tx : List String := ["OK", "FILES SCRATCHED", "WRITE ERROR", "WRITE PROTECT ON", "PROGRAM ERROR", "FILE OPEN", "FILE NOT OPEN", "FILE NOT FOUND", "FILE EXISTS", "FILE TYPE MISMATCH", "NO BLOCK", "ILLEGAL BLOCK", "NO CHANNEL", "DIR ERROR", "DISK FULL", "RING DOS 1", "DRIVE NOT READY", "READ ERROR", "SYNTAX ERROR", "?SPU"]
def rx_tb : List (List Int32) := [[79, 75], [70, 73, 76, 69, 83, 32, 83, 67, 82, 65, 84, 67, 72, 69, 68], [87, 82, 73, 84, 69, 32, 69, 82, 82, 79, 82], [87, 82, 73, 84, 69, 32, 80, 82, 79, 84, 69, 67, 84, 32, 79, 78], [80, 82, 79, 71, 82, 65, 77, 32, 69, 82, 82, 79, 82], [70, 73, 76, 69, 32, 79, 80, 69, 78], [70, 73, 76, 69, 32, 78, 79, 84, 32, 79, 80, 69, 78], [70, 73, 76, 69, 32, 78, 79, 84, 32, 70, 79, 85, 78, 68], [70, 73, 76, 69, 32, 69, 88, 73, 83, 84, 83], [70, 73, 76, 69, 32, 84, 89, 80, 69, 32, 77, 73, 83, 77, 65, 84, 67, 72], [78, 79, 32, 66, 76, 79, 67, 75], [73, 76, 76, 69, 71, 65, 76, 32, 66, 76, 79, 67, 75], [78, 79, 32, 67, 72, 65, 78, 78, 69, 76], [68, 73, 82, 32, 69, 82, 82, 79, 82], [68, 73, 83, 75, 32, 70, 85, 76, 76], [82, 73, 78, 71, 32, 68, 79, 83, 32, 49], [68, 82, 73, 86, 69, 32, 78, 79, 84, 32, 82, 69, 65, 68, 89], [82, 69, 65, 68, 32, 69, 82, 82, 79, 82], [83, 89, 78, 84, 65, 88, 32, 69, 82, 82, 79, 82], [63, 83, 80, 85]]
def rx_STs : List ((Nat × Nat) × Nat) := [((9, 77), 0), ((9, 79), 1), ((9, 81), 2), ((9, 83), 3), ((9, 85), 4), ((9, 87), 5), ((9, 89), 6), ((9, 91), 7), ((9, 93), 8), ((9, 95), 9), ((9, 97), 10), ((9, 99), 11), ((9, 101), 12), ((9, 103), 13), ((9, 105), 14), ((9, 107), 15), ((9, 109), 16), ((9, 111), 17), ((9, 113), 18), ((5, 326), 19)]
def rx_CIs : List ((Nat × Nat) × Int32 × Nat) := [((7, 107), 65280, 1142)]
def rx_CJs : List ((Nat × Nat) × Int64 × Nat) := [((12, 409), 5928216245358121554, 2031), ((12, 404), 255, 2036), ((12, 415), 20306, 2037), ((12, 417), 6005917701855780933, 2038), ((12, 419), 1381125970, 2039), ((12, 421), 20299, 2040), ((12, 423), 5064663116585915203, 2041), ((12, 425), 23152778252141892, 2042), ((12, 427), 6292172255675827538, 2043), ((12, 429), 5394258, 2044), ((12, 431), 96010929194272, 2045), ((12, 433), 22608498806571860, 2046), ((12, 435), 2117454, 2047), ((12, 437), 5787775638865792288, 2048), ((12, 439), 297733869394, 2049), ((12, 441), 5064663115733356613, 2050), ((12, 443), 78, 2051), ((12, 445), 5064663115733290836, 2052), ((12, 447), 138769614158, 2053), ((12, 449), 35486350790212, 2054), ((12, 451), 5064663115732703305, 2055), ((12, 453), 5461075, 2056), ((12, 455), 5064663115733686608, 2057), ((12, 457), 4981066165197291860, 2058), ((12, 459), 17224, 2059), ((12, 461), 5642764327238714187, 2060), ((12, 463), 5281680323430665248, 2061), ((12, 465), 284748104523, 2062), ((12, 467), 5642764331465657934, 2063), ((12, 469), 17740, 2064), ((12, 471), 4920554366434431567, 2065), ((12, 473), 82, 2066), ((12, 475), 4920555650008110412, 2067), ((12, 477), 76, 2068), ((12, 479), 5929356451800960851, 2069), ((12, 481), 8241, 2070), ((12, 483), 4923077977545133647, 2071), ((12, 485), 23679435765007449, 2072), ((12, 523), 1179796805, 2101)]
def rx_NLs : List ((Nat × Nat) × Nat × Nat) := [((13, 7), 11, 212), ((11, 7), 10, 220), ((11, 16), 9, 243), ((11, 23), 4, 287), ((4, 18), 8, 293), ((11, 32), 7, 370), ((11, 39), 5, 414), ((5, 17), 1, 420), ((5, 23), 6, 422), ((5, 42), 0, 435), ((5, 51), 3, 459), ((1, 19), 6, 504), ((11, 48), 2, 614), ((2, 9), 6, 620), ((13, 10), 12, 2157)]
def rx_ALs : List ((Nat × Nat) × Nat × Nat) := [((4, 18), 4, 293), ((5, 17), 3, 420)]
abbrev rx_M : Type := Nat × MethodName × ByteArray × Nat × Option FieldType × Nat × Nat × Nat × Nat × Nat × Nat
def rx_MT_0 : List rx_M := [(11, ⟨"RingDrive", "<init>", "()V"⟩, prog_1_method_1_code, 1, none, 0, 2, 4, 84, 115, 16888),
  (10, ⟨"RingDrive$Tape", "<init>", "()V"⟩, prog_12_method_1_code, 1, none, 0, 2, 1, 20, 1, 400),
  (9, ⟨"RingDrive$Status", "<init>", "()V"⟩, prog_11_method_1_code, 1, none, 0, 2, 1, 20, 2, 72),
  (4, ⟨"RingDrive$Disk", "<init>", "(LRingDrive$Status;)V"⟩, prog_6_method_1_code, 3, none, 1, 2, 2, 43, 30, 12364),
  (8, ⟨"RingDrive$Ring", "<init>", "(II)V"⟩, prog_10_method_1_code, 3, none, 2, 2, 1, 21, 1, 1000),
  (14, ⟨"java/lang/Math", "max", "(II)I"⟩, prog_15_method_65_code, 2, (Option.some Jvm.ClassFile.FieldType.int), 2, 1, 0, 0, 0, 0),
  (7, ⟨"RingDrive$Processor", "<init>", "()V"⟩, prog_9_method_1_code, 1, none, 0, 2, 1, 20, 1, 2048),
  (5, ⟨"RingDrive$Dos", "<init>", "(LRingDrive$Status;LRingDrive$Disk;LRingDrive$Tape;)V"⟩, prog_7_method_1_code, 5, none, 3, 2, 3, 60, 68, 1612),
  (6, ⟨"RingDrive$Pattern", "<init>", "()V"⟩, prog_8_method_1_code, 1, none, 0, 2, 1, 20, 1, 10),
  (0, ⟨"RingDrive$BlockMap", "<init>", "(LRingDrive$Disk;)V"⟩, prog_2_method_1_code, 2, none, 1, 2, 1, 20, 1, 64),
  (3, ⟨"RingDrive$Directory", "<init>", "(LRingDrive$Disk;LRingDrive$Status;)V"⟩, prog_5_method_1_code, 3, none, 2, 2, 1, 20, 1, 64),
  (1, ⟨"RingDrive$Channel", "<init>", "()V"⟩, prog_3_method_1_code, 1, none, 0, 2, 2, 40, 3, 76),
  (2, ⟨"RingDrive$Commands", "<init>", "(LRingDrive$Dos;LRingDrive$Processor;)V"⟩, prog_4_method_1_code, 3, none, 2, 2, 2, 40, 6, 36),
  (6, ⟨"RingDrive$Pattern", "fitAll", "()V"⟩, prog_8_method_4_code, 1, none, 0, 0, 0, 0, 0, 0),
  (11, ⟨"RingDrive", "feed", "(IIIII)I"⟩, prog_1_method_2_code, 6, (Option.some Jvm.ClassFile.FieldType.int), 5, 0, 1, 22, 0, 0),
  (10, ⟨"RingDrive$Tape", "add", "(I)V"⟩, prog_12_method_3_code, 3, none, 1, 0, 0, 0, 0, 0),
  (11, ⟨"RingDrive", "open", "(II)I"⟩, prog_1_method_3_code, 3, (Option.some Jvm.ClassFile.FieldType.int), 2, 0, 7, 184, 0, 0),
  (11, ⟨"RingDrive", "sendText", "(II)Z"⟩, prog_1_method_15_code, 3, (Option.some Jvm.ClassFile.FieldType.boolean), 2, 0, 1, 21, 0, 0),
  (11, ⟨"RingDrive", "isChannel", "(I)Z"⟩, prog_1_method_14_code, 1, (Option.some Jvm.ClassFile.FieldType.boolean), 1, 1, 0, 0, 0, 0),
  (10, ⟨"RingDrive$Tape", "has", "(I)Z"⟩, prog_12_method_2_code, 2, (Option.some Jvm.ClassFile.FieldType.boolean), 1, 0, 0, 0, 0, 0),
  (10, ⟨"RingDrive$Tape", "send", "(I)V"⟩, prog_12_method_4_code, 2, none, 1, 0, 0, 0, 0, 0),
  (2, ⟨"RingDrive$Commands", "run", "()I"⟩, prog_4_method_2_code, 1, (Option.some Jvm.ClassFile.FieldType.int), 0, 0, 6, 163, 0, 0),
  (9, ⟨"RingDrive$Status", "begin", "()V"⟩, prog_11_method_2_code, 1, none, 0, 0, 1, 23, 0, 0),
  (9, ⟨"RingDrive$Status", "set", "(III)I"⟩, prog_11_method_3_code, 4, (Option.some Jvm.ClassFile.FieldType.int), 3, 0, 0, 0, 0, 0),
  (10, ⟨"RingDrive$Tape", "byteAt", "(I)I"⟩, prog_12_method_5_code, 2, (Option.some Jvm.ClassFile.FieldType.int), 1, 0, 0, 0, 0, 0),
  (2, ⟨"RingDrive$Commands", "newDisk", "()I"⟩, prog_4_method_4_code, 5, (Option.some Jvm.ClassFile.FieldType.int), 0, 0, 5, 118, 0, 0),
  (10, ⟨"RingDrive$Tape", "find", "(II)I"⟩, prog_12_method_6_code, 4, (Option.some Jvm.ClassFile.FieldType.int), 2, 0, 1, 21, 0, 0),
  (6, ⟨"RingDrive$Pattern", "take", "(LRingDrive$Tape;II)Z"⟩, prog_8_method_2_code, 5, (Option.some Jvm.ClassFile.FieldType.boolean), 3, 0, 1, 21, 0, 0),
  (6, ⟨"RingDrive$Pattern", "isEmpty", "()Z"⟩, prog_8_method_3_code, 1, (Option.some Jvm.ClassFile.FieldType.boolean), 0, 0, 0, 0, 0, 0),
  (6, ⟨"RingDrive$Pattern", "isWild", "()Z"⟩, prog_8_method_6_code, 2, (Option.some Jvm.ClassFile.FieldType.boolean), 0, 0, 0, 0, 0, 0),
  (2, ⟨"RingDrive$Commands", "formatAll", "(II)I"⟩, prog_4_method_5_code, 5, (Option.some Jvm.ClassFile.FieldType.int), 2, 0, 4, 94, 0, 0),
  (5, ⟨"RingDrive$Dos", "dropAll", "()V"⟩, prog_7_method_4_code, 2, none, 0, 0, 0, 0, 0, 0),
  (4, ⟨"RingDrive$Disk", "format", "(III)I"⟩, prog_6_method_12_code, 6, (Option.some Jvm.ClassFile.FieldType.int), 3, 0, 3, 69, 0, 0),
  (4, ⟨"RingDrive$Disk", "ring", "(I)LRingDrive$Ring;"⟩, prog_6_method_2_code, 2, (Option.some (Jvm.ClassFile.FieldType.object "RingDrive$Ring")), 1, 0, 0, 0, 0, 0),
  (8, ⟨"RingDrive$Ring", "goTo", "(II)V"⟩, prog_10_method_11_code, 3, none, 2, 0, 0, 0, 0, 0),
  (4, ⟨"RingDrive$Disk", "codeData", "([I)V"⟩, prog_6_method_16_code, 4, none, 1, 0, 1, 26, 0, 0),
  (4, ⟨"RingDrive$Disk", "encode", "([I[I)V"⟩, prog_6_method_17_code, 7, none, 2, 1, 0, 0, 0, 0),
  (4, ⟨"RingDrive$Disk", "fillHeader", "(IIII)V"⟩, prog_6_method_15_code, 5, none, 4, 0, 0, 0, 0, 0),
  (8, ⟨"RingDrive$Ring", "putMarked", "([I)V"⟩, prog_10_method_7_code, 4, none, 1, 0, 1, 27, 0, 0),
  (8, ⟨"RingDrive$Ring", "put", "(II)V"⟩, prog_10_method_6_code, 8, none, 2, 0, 0, 0, 0, 0)]
def rx_MT_1 : List rx_M := [(8, ⟨"RingDrive$Ring", "putGap", "(I)V"⟩, prog_10_method_8_code, 3, none, 1, 0, 1, 27, 0, 0),
  (8, ⟨"RingDrive$Ring", "putGapToEnd", "()V"⟩, prog_10_method_9_code, 1, none, 0, 0, 2, 49, 0, 0),
  (4, ⟨"RingDrive$Disk", "setId", "(II)V"⟩, prog_6_method_7_code, 3, none, 2, 0, 0, 0, 0, 0),
  (4, ⟨"RingDrive$Disk", "hasId", "()Z"⟩, prog_6_method_5_code, 1, (Option.some Jvm.ClassFile.FieldType.boolean), 0, 0, 0, 0, 0, 0),
  (4, ⟨"RingDrive$Disk", "takeId", "()I"⟩, prog_6_method_8_code, 5, (Option.some Jvm.ClassFile.FieldType.int), 0, 0, 1, 26, 0, 0),
  (4, ⟨"RingDrive$Disk", "dropId", "()V"⟩, prog_6_method_6_code, 1, none, 0, 0, 0, 0, 0, 0),
  (8, ⟨"RingDrive$Ring", "onesAhead", "(I)I"⟩, prog_10_method_10_code, 5, (Option.some Jvm.ClassFile.FieldType.int), 1, 0, 0, 0, 0, 0),
  (8, ⟨"RingDrive$Ring", "startRound", "(I)V"⟩, prog_10_method_12_code, 2, none, 1, 0, 0, 0, 0, 0),
  (8, ⟨"RingDrive$Ring", "nextFirst", "()I"⟩, prog_10_method_13_code, 5, (Option.some Jvm.ClassFile.FieldType.int), 0, 0, 0, 0, 0, 0),
  (8, ⟨"RingDrive$Ring", "next", "()I"⟩, prog_10_method_15_code, 5, (Option.some Jvm.ClassFile.FieldType.int), 0, 0, 0, 0, 0, 0),
  (4, ⟨"RingDrive$Disk", "decode", "([I[I)Z"⟩, prog_6_method_18_code, 7, (Option.some Jvm.ClassFile.FieldType.boolean), 2, 1, 0, 0, 0, 0),
  (4, ⟨"RingDrive$Disk", "isHeader", "()Z"⟩, prog_6_method_9_code, 1, (Option.some Jvm.ClassFile.FieldType.boolean), 0, 0, 0, 0, 0, 0),
  (0, ⟨"RingDrive$BlockMap", "begin", "(LRingDrive$Pattern;)V"⟩, prog_2_method_4_code, 2, none, 1, 0, 2, 43, 0, 0),
  (19, ⟨"java/util/Arrays", "fill", "([II)V"⟩, prog_20_method_103_code, 4, none, 2, 1, 0, 0, 0, 0),
  (0, ⟨"RingDrive$BlockMap", "freeAll", "()V"⟩, prog_2_method_5_code, 2, none, 0, 0, 1, 20, 0, 0),
  (4, ⟨"RingDrive$Disk", "sectorsOf", "(I)I"⟩, prog_6_method_3_code, 1, (Option.some Jvm.ClassFile.FieldType.int), 1, 1, 0, 0, 0, 0),
  (0, ⟨"RingDrive$BlockMap", "takeBlock", "(II)V"⟩, prog_2_method_8_code, 3, none, 2, 0, 1, 21, 0, 0),
  (4, ⟨"RingDrive$Disk", "isLegal", "(II)Z"⟩, prog_6_method_4_code, 2, (Option.some Jvm.ClassFile.FieldType.boolean), 2, 1, 0, 0, 0, 0),
  (6, ⟨"RingDrive$Pattern", "putInto", "([II)V"⟩, prog_8_method_8_code, 4, none, 2, 0, 0, 0, 0, 0),
  (0, ⟨"RingDrive$BlockMap", "store", "()I"⟩, prog_2_method_3_code, 1, (Option.some Jvm.ClassFile.FieldType.int), 0, 0, 3, 78, 0, 0),
  (4, ⟨"RingDrive$Disk", "writeBlock", "(II[I)I"⟩, prog_6_method_11_code, 7, (Option.some Jvm.ClassFile.FieldType.int), 3, 0, 2, 52, 0, 0),
  (4, ⟨"RingDrive$Disk", "seek", "(LRingDrive$Ring;II)I"⟩, prog_6_method_13_code, 7, (Option.some Jvm.ClassFile.FieldType.int), 3, 0, 1, 26, 0, 0),
  (8, ⟨"RingDrive$Ring", "holds", "(I[I)Z"⟩, prog_10_method_14_code, 7, (Option.some Jvm.ClassFile.FieldType.boolean), 2, 0, 0, 0, 0, 0),
  (8, ⟨"RingDrive$Ring", "skip", "(I)V"⟩, prog_10_method_16_code, 3, none, 1, 0, 1, 24, 0, 0),
  (8, ⟨"RingDrive$Ring", "gatherFromFirst", "([I)V"⟩, prog_10_method_17_code, 4, none, 1, 0, 1, 24, 0, 0),
  (4, ⟨"RingDrive$Disk", "areSame", "([I[I)Z"⟩, prog_6_method_19_code, 3, (Option.some Jvm.ClassFile.FieldType.boolean), 2, 1, 0, 0, 0, 0),
  (3, ⟨"RingDrive$Directory", "writeEmpty", "(II)I"⟩, prog_5_method_19_code, 3, (Option.some Jvm.ClassFile.FieldType.int), 2, 0, 3, 78, 0, 0),
  (2, ⟨"RingDrive$Commands", "scratch", "()I"⟩, prog_4_method_6_code, 5, (Option.some Jvm.ClassFile.FieldType.int), 0, 0, 5, 139, 0, 0),
  (3, ⟨"RingDrive$Directory", "rewind", "()V"⟩, prog_5_method_2_code, 1, none, 0, 0, 1, 24, 0, 0),
  (3, ⟨"RingDrive$Directory", "goTo", "(IIII)V"⟩, prog_5_method_3_code, 5, none, 4, 0, 0, 0, 0, 0),
  (3, ⟨"RingDrive$Directory", "find", "(LRingDrive$Pattern;)I"⟩, prog_5_method_4_code, 4, (Option.some Jvm.ClassFile.FieldType.int), 1, 0, 3, 89, 0, 0),
  (4, ⟨"RingDrive$Disk", "readBlock", "(II[I)I"⟩, prog_6_method_10_code, 6, (Option.some Jvm.ClassFile.FieldType.int), 3, 0, 2, 64, 0, 0),
  (4, ⟨"RingDrive$Disk", "dataFault", "()I"⟩, prog_6_method_14_code, 3, (Option.some Jvm.ClassFile.FieldType.int), 0, 0, 1, 26, 0, 0),
  (3, ⟨"RingDrive$Directory", "isWanted", "(LRingDrive$Pattern;)Z"⟩, prog_5_method_7_code, 2, (Option.some Jvm.ClassFile.FieldType.boolean), 1, 0, 2, 40, 0, 0),
  (3, ⟨"RingDrive$Directory", "type", "()I"⟩, prog_5_method_9_code, 1, (Option.some Jvm.ClassFile.FieldType.int), 0, 0, 1, 20, 0, 0),
  (3, ⟨"RingDrive$Directory", "base", "()I"⟩, prog_5_method_8_code, 1, (Option.some Jvm.ClassFile.FieldType.int), 0, 0, 0, 0, 0, 0),
  (6, ⟨"RingDrive$Pattern", "fits", "([II)Z"⟩, prog_8_method_7_code, 5, (Option.some Jvm.ClassFile.FieldType.boolean), 2, 0, 0, 0, 0, 0),
  (3, ⟨"RingDrive$Directory", "isLast", "()Z"⟩, prog_5_method_5_code, 1, (Option.some Jvm.ClassFile.FieldType.boolean), 0, 0, 1, 20, 0, 0),
  (3, ⟨"RingDrive$Directory", "isFull", "()Z"⟩, prog_5_method_6_code, 1, (Option.some Jvm.ClassFile.FieldType.boolean), 0, 0, 0, 0, 0, 0),
  (5, ⟨"RingDrive$Dos", "scratchFound", "()I"⟩, prog_7_method_16_code, 5, (Option.some Jvm.ClassFile.FieldType.int), 0, 0, 4, 115, 0, 0)]
def rx_MT_2 : List rx_M := [(0, ⟨"RingDrive$BlockMap", "load", "()I"⟩, prog_2_method_2_code, 1, (Option.some Jvm.ClassFile.FieldType.int), 0, 0, 3, 89, 0, 0),
  (3, ⟨"RingDrive$Directory", "firstTrack", "()I"⟩, prog_5_method_11_code, 1, (Option.some Jvm.ClassFile.FieldType.int), 0, 0, 1, 20, 0, 0),
  (3, ⟨"RingDrive$Directory", "firstSector", "()I"⟩, prog_5_method_12_code, 1, (Option.some Jvm.ClassFile.FieldType.int), 0, 0, 1, 20, 0, 0),
  (5, ⟨"RingDrive$Dos", "giveBackChain", "(II)I"⟩, prog_7_method_17_code, 7, (Option.some Jvm.ClassFile.FieldType.int), 2, 0, 3, 89, 0, 0),
  (0, ⟨"RingDrive$BlockMap", "giveBack", "(II)V"⟩, prog_2_method_9_code, 3, none, 2, 0, 1, 21, 0, 0),
  (3, ⟨"RingDrive$Directory", "changeType", "(I)I"⟩, prog_5_method_15_code, 3, (Option.some Jvm.ClassFile.FieldType.int), 1, 0, 3, 89, 0, 0),
  (2, ⟨"RingDrive$Commands", "rename", "()I"⟩, prog_4_method_7_code, 4, (Option.some Jvm.ClassFile.FieldType.int), 0, 0, 4, 112, 0, 0),
  (3, ⟨"RingDrive$Directory", "changeName", "(LRingDrive$Pattern;)I"⟩, prog_5_method_16_code, 3, (Option.some Jvm.ClassFile.FieldType.int), 1, 0, 3, 89, 0, 0),
  (2, ⟨"RingDrive$Commands", "initialise", "()I"⟩, prog_4_method_8_code, 2, (Option.some Jvm.ClassFile.FieldType.int), 0, 0, 4, 109, 0, 0),
  (2, ⟨"RingDrive$Commands", "unknown", "()I"⟩, prog_4_method_3_code, 1, (Option.some Jvm.ClassFile.FieldType.int), 0, 0, 1, 23, 0, 0),
  (2, ⟨"RingDrive$Commands", "validate", "()I"⟩, prog_4_method_9_code, 3, (Option.some Jvm.ClassFile.FieldType.int), 0, 0, 4, 115, 0, 0),
  (2, ⟨"RingDrive$Commands", "takeDirectory", "()I"⟩, prog_4_method_10_code, 5, (Option.some Jvm.ClassFile.FieldType.int), 0, 0, 3, 89, 0, 0),
  (3, ⟨"RingDrive$Directory", "isClosed", "()Z"⟩, prog_5_method_10_code, 1, (Option.some Jvm.ClassFile.FieldType.boolean), 0, 0, 2, 40, 0, 0),
  (2, ⟨"RingDrive$Commands", "takeChain", "(II)I"⟩, prog_4_method_11_code, 7, (Option.some Jvm.ClassFile.FieldType.int), 2, 0, 3, 89, 0, 0),
  (0, ⟨"RingDrive$BlockMap", "isFree", "(II)Z"⟩, prog_2_method_7_code, 3, (Option.some Jvm.ClassFile.FieldType.boolean), 2, 0, 1, 21, 0, 0),
  (2, ⟨"RingDrive$Commands", "user", "()I"⟩, prog_4_method_12_code, 1, (Option.some Jvm.ClassFile.FieldType.int), 0, 0, 4, 115, 0, 0),
  (2, ⟨"RingDrive$Commands", "moveBlock", "(Z)I"⟩, prog_4_method_14_code, 7, (Option.some Jvm.ClassFile.FieldType.int), 1, 0, 3, 89, 0, 0),
  (10, ⟨"RingDrive$Tape", "startNumbers", "()V"⟩, prog_12_method_7_code, 1, none, 0, 0, 2, 44, 0, 0),
  (10, ⟨"RingDrive$Tape", "nextNumber", "()I"⟩, prog_12_method_8_code, 4, (Option.some Jvm.ClassFile.FieldType.int), 0, 0, 1, 21, 0, 0),
  (10, ⟨"RingDrive$Tape", "isDigit", "(I)Z"⟩, prog_12_method_9_code, 1, (Option.some Jvm.ClassFile.FieldType.boolean), 1, 1, 0, 0, 0, 0),
  (5, ⟨"RingDrive$Dos", "buffer", "(I)LRingDrive$Channel;"⟩, prog_7_method_2_code, 3, (Option.some (Jvm.ClassFile.FieldType.object "RingDrive$Channel")), 1, 0, 0, 0, 0, 0),
  (2, ⟨"RingDrive$Commands", "restart", "()I"⟩, prog_4_method_13_code, 1, (Option.some Jvm.ClassFile.FieldType.int), 0, 0, 1, 23, 0, 0),
  (2, ⟨"RingDrive$Commands", "block", "()I"⟩, prog_4_method_15_code, 1, (Option.some Jvm.ClassFile.FieldType.int), 0, 0, 5, 133, 0, 0),
  (2, ⟨"RingDrive$Commands", "setPlace", "()I"⟩, prog_4_method_16_code, 4, (Option.some Jvm.ClassFile.FieldType.int), 0, 0, 3, 64, 0, 0),
  (2, ⟨"RingDrive$Commands", "allocate", "(Z)I"⟩, prog_4_method_17_code, 5, (Option.some Jvm.ClassFile.FieldType.int), 1, 0, 4, 109, 0, 0),
  (2, ⟨"RingDrive$Commands", "tellNextFree", "(II)I"⟩, prog_4_method_18_code, 6, (Option.some Jvm.ClassFile.FieldType.int), 2, 0, 2, 43, 0, 0),
  (2, ⟨"RingDrive$Commands", "program", "()I"⟩, prog_4_method_19_code, 4, (Option.some Jvm.ClassFile.FieldType.int), 0, 0, 5, 116, 0, 0),
  (2, ⟨"RingDrive$Commands", "argument", "(I)I"⟩, prog_4_method_20_code, 2, (Option.some Jvm.ClassFile.FieldType.int), 1, 0, 1, 21, 0, 0),
  (7, ⟨"RingDrive$Processor", "set", "(II)V"⟩, prog_9_method_3_code, 3, none, 2, 0, 0, 0, 0, 0),
  (7, ⟨"RingDrive$Processor", "get", "(I)I"⟩, prog_9_method_2_code, 2, (Option.some Jvm.ClassFile.FieldType.int), 1, 0, 0, 0, 0, 0),
  (9, ⟨"RingDrive$Status", "addReply", "(I)V"⟩, prog_11_method_4_code, 2, none, 1, 0, 0, 0, 0, 0),
  (7, ⟨"RingDrive$Processor", "run", "(I)I"⟩, prog_9_method_6_code, 5, (Option.some Jvm.ClassFile.FieldType.int), 1, 0, 4, 92, 0, 0),
  (7, ⟨"RingDrive$Processor", "begin", "(I)V"⟩, prog_9_method_5_code, 2, none, 1, 0, 0, 0, 0, 0),
  (7, ⟨"RingDrive$Processor", "locate", "(I)V"⟩, prog_9_method_12_code, 4, none, 1, 0, 2, 42, 0, 0),
  (7, ⟨"RingDrive$Processor", "fetch", "()I"⟩, prog_9_method_8_code, 2, (Option.some Jvm.ClassFile.FieldType.int), 0, 0, 0, 0, 0, 0),
  (7, ⟨"RingDrive$Processor", "fetchTwo", "()I"⟩, prog_9_method_9_code, 2, (Option.some Jvm.ClassFile.FieldType.int), 0, 0, 1, 21, 0, 0),
  (7, ⟨"RingDrive$Processor", "indexed", "(II)V"⟩, prog_9_method_11_code, 3, none, 2, 0, 0, 0, 0, 0),
  (7, ⟨"RingDrive$Processor", "pair", "(I)I"⟩, prog_9_method_10_code, 2, (Option.some Jvm.ClassFile.FieldType.int), 1, 0, 0, 0, 0, 0),
  (7, ⟨"RingDrive$Processor", "perform", "(II)V"⟩, prog_9_method_7_code, 3, none, 2, 0, 3, 70, 0, 0),
  (7, ⟨"RingDrive$Processor", "useValue", "(II)V"⟩, prog_9_method_16_code, 3, none, 2, 0, 2, 48, 0, 0)]
def rx_MT_3 : List rx_M := [(7, ⟨"RingDrive$Processor", "marked", "(I)I"⟩, prog_9_method_15_code, 3, (Option.some Jvm.ClassFile.FieldType.int), 1, 0, 0, 0, 0, 0),
  (7, ⟨"RingDrive$Processor", "add", "(I)V"⟩, prog_9_method_19_code, 4, none, 1, 0, 1, 25, 0, 0),
  (7, ⟨"RingDrive$Processor", "has", "(I)Z"⟩, prog_9_method_14_code, 2, (Option.some Jvm.ClassFile.FieldType.boolean), 1, 0, 0, 0, 0, 0),
  (7, ⟨"RingDrive$Processor", "addBinary", "(I)V"⟩, prog_9_method_18_code, 6, none, 1, 0, 0, 0, 0, 0),
  (7, ⟨"RingDrive$Processor", "flag", "(IZ)V"⟩, prog_9_method_13_code, 3, none, 2, 0, 0, 0, 0, 0),
  (7, ⟨"RingDrive$Processor", "subtract", "(I)V"⟩, prog_9_method_20_code, 4, none, 1, 0, 1, 25, 0, 0),
  (7, ⟨"RingDrive$Processor", "compare", "(II)V"⟩, prog_9_method_17_code, 3, none, 2, 0, 1, 22, 0, 0),
  (7, ⟨"RingDrive$Processor", "changeValue", "(IZ)V"⟩, prog_9_method_21_code, 5, none, 2, 0, 1, 22, 0, 0),
  (7, ⟨"RingDrive$Processor", "branch", "(I)V"⟩, prog_9_method_22_code, 3, none, 1, 0, 1, 21, 0, 0),
  (7, ⟨"RingDrive$Processor", "move", "(I)V"⟩, prog_9_method_23_code, 2, none, 1, 0, 1, 22, 0, 0),
  (7, ⟨"RingDrive$Processor", "changeFlag", "(I)V"⟩, prog_9_method_24_code, 2, none, 1, 0, 1, 22, 0, 0),
  (7, ⟨"RingDrive$Processor", "stack", "(I)V"⟩, prog_9_method_28_code, 3, none, 1, 0, 2, 41, 0, 0),
  (7, ⟨"RingDrive$Processor", "push", "(I)V"⟩, prog_9_method_25_code, 2, none, 1, 0, 0, 0, 0, 0),
  (7, ⟨"RingDrive$Processor", "pull", "()I"⟩, prog_9_method_26_code, 1, (Option.some Jvm.ClassFile.FieldType.int), 0, 0, 0, 0, 0, 0),
  (7, ⟨"RingDrive$Processor", "pullTwo", "()I"⟩, prog_9_method_27_code, 2, (Option.some Jvm.ClassFile.FieldType.int), 0, 0, 1, 20, 0, 0),
  (5, ⟨"RingDrive$Dos", "openChannel", "(I)I"⟩, prog_7_method_8_code, 4, (Option.some Jvm.ClassFile.FieldType.int), 1, 0, 6, 161, 0, 0),
  (5, ⟨"RingDrive$Dos", "closeChannel", "(I)I"⟩, prog_7_method_6_code, 4, (Option.some Jvm.ClassFile.FieldType.int), 1, 0, 4, 111, 0, 0),
  (5, ⟨"RingDrive$Dos", "goToEntryOf", "(LRingDrive$Channel;)V"⟩, prog_7_method_7_code, 2, none, 1, 0, 1, 24, 0, 0),
  (3, ⟨"RingDrive$Directory", "changeToClosed", "(I)I"⟩, prog_5_method_17_code, 3, (Option.some Jvm.ClassFile.FieldType.int), 1, 0, 3, 89, 0, 0),
  (5, ⟨"RingDrive$Dos", "countOpen", "()I"⟩, prog_7_method_3_code, 3, (Option.some Jvm.ClassFile.FieldType.int), 0, 0, 0, 0, 0, 0),
  (5, ⟨"RingDrive$Dos", "openBuffer", "(LRingDrive$Channel;)I"⟩, prog_7_method_9_code, 2, (Option.some Jvm.ClassFile.FieldType.int), 1, 0, 2, 44, 0, 0),
  (1, ⟨"RingDrive$Channel", "begin", "(I)V"⟩, prog_3_method_2_code, 2, none, 1, 0, 1, 23, 0, 0),
  (5, ⟨"RingDrive$Dos", "openList", "(LRingDrive$Channel;)I"⟩, prog_7_method_10_code, 3, (Option.some Jvm.ClassFile.FieldType.int), 1, 0, 2, 85, 0, 0),
  (6, ⟨"RingDrive$Pattern", "copyFrom", "(LRingDrive$Pattern;)V"⟩, prog_8_method_5_code, 2, none, 1, 0, 1, 64, 0, 0),
  (5, ⟨"RingDrive$Dos", "parseFile", "(I)I"⟩, prog_7_method_11_code, 5, (Option.some Jvm.ClassFile.FieldType.int), 1, 0, 2, 45, 0, 0),
  (5, ⟨"RingDrive$Dos", "sortTold", "(I)I"⟩, prog_7_method_12_code, 2, (Option.some Jvm.ClassFile.FieldType.int), 1, 0, 1, 21, 0, 0),
  (5, ⟨"RingDrive$Dos", "wayTold", "(I)I"⟩, prog_7_method_13_code, 3, (Option.some Jvm.ClassFile.FieldType.int), 1, 0, 1, 21, 0, 0),
  (5, ⟨"RingDrive$Dos", "openToRead", "(LRingDrive$Channel;)I"⟩, prog_7_method_14_code, 5, (Option.some Jvm.ClassFile.FieldType.int), 1, 0, 4, 112, 0, 0),
  (1, ⟨"RingDrive$Channel", "unfold", "()V"⟩, prog_3_method_5_code, 1, none, 0, 0, 1, 21, 0, 0),
  (14, ⟨"java/lang/Math", "min", "(II)I"⟩, prog_15_method_69_code, 2, (Option.some Jvm.ClassFile.FieldType.int), 2, 1, 0, 0, 0, 0),
  (5, ⟨"RingDrive$Dos", "openToWrite", "(LRingDrive$Channel;)I"⟩, prog_7_method_15_code, 3, (Option.some Jvm.ClassFile.FieldType.int), 1, 0, 5, 139, 0, 0),
  (5, ⟨"RingDrive$Dos", "findRoom", "()I"⟩, prog_7_method_18_code, 2, (Option.some Jvm.ClassFile.FieldType.int), 0, 0, 4, 112, 0, 0),
  (0, ⟨"RingDrive$BlockMap", "pickForDirectory", "()Z"⟩, prog_2_method_12_code, 1, (Option.some Jvm.ClassFile.FieldType.boolean), 0, 0, 3, 68, 0, 0),
  (0, ⟨"RingDrive$BlockMap", "pickOf", "(II)Z"⟩, prog_2_method_13_code, 6, (Option.some Jvm.ClassFile.FieldType.boolean), 2, 0, 2, 43, 0, 0),
  (3, ⟨"RingDrive$Directory", "lengthen", "(II)I"⟩, prog_5_method_20_code, 4, (Option.some Jvm.ClassFile.FieldType.int), 2, 0, 3, 89, 0, 0),
  (5, ⟨"RingDrive$Dos", "startFile", "(LRingDrive$Channel;)I"⟩, prog_7_method_19_code, 3, (Option.some Jvm.ClassFile.FieldType.int), 1, 0, 4, 113, 0, 0),
  (0, ⟨"RingDrive$BlockMap", "pick", "()Z"⟩, prog_2_method_10_code, 2, (Option.some Jvm.ClassFile.FieldType.boolean), 0, 0, 3, 68, 0, 0),
  (3, ⟨"RingDrive$Directory", "changeToNew", "(ILRingDrive$BlockMap;LRingDrive$Pattern;)I"⟩, prog_5_method_18_code, 5, (Option.some Jvm.ClassFile.FieldType.int), 3, 0, 3, 89, 0, 0),
  (1, ⟨"RingDrive$Channel", "beginBlock", "(II)V"⟩, prog_3_method_3_code, 3, none, 2, 0, 1, 23, 0, 0),
  (1, ⟨"RingDrive$Channel", "keepEntry", "(LRingDrive$Directory;)V"⟩, prog_3_method_4_code, 2, none, 1, 0, 0, 0, 0, 0)]
def rx_MT_4 : List rx_M := [(11, ⟨"RingDrive", "write", "(II)I"⟩, prog_1_method_4_code, 3, (Option.some Jvm.ClassFile.FieldType.int), 2, 0, 7, 184, 0, 0),
  (5, ⟨"RingDrive$Dos", "sendBytes", "(I)V"⟩, prog_7_method_27_code, 5, none, 1, 0, 6, 160, 0, 0),
  (5, ⟨"RingDrive$Dos", "addToFile", "(LRingDrive$Channel;I)I"⟩, prog_7_method_28_code, 5, (Option.some Jvm.ClassFile.FieldType.int), 2, 0, 5, 136, 0, 0),
  (0, ⟨"RingDrive$BlockMap", "pickBehind", "(II)Z"⟩, prog_2_method_11_code, 3, (Option.some Jvm.ClassFile.FieldType.boolean), 2, 0, 4, 89, 0, 0),
  (5, ⟨"RingDrive$Dos", "goToNextBlock", "(LRingDrive$Channel;)I"⟩, prog_7_method_29_code, 3, (Option.some Jvm.ClassFile.FieldType.int), 1, 0, 4, 98, 0, 0),
  (5, ⟨"RingDrive$Dos", "giveUpFile", "(LRingDrive$Channel;)I"⟩, prog_7_method_30_code, 6, (Option.some Jvm.ClassFile.FieldType.int), 1, 0, 4, 111, 0, 0),
  (11, ⟨"RingDrive", "close", "(I)I"⟩, prog_1_method_5_code, 2, (Option.some Jvm.ClassFile.FieldType.int), 1, 0, 6, 156, 0, 0),
  (5, ⟨"RingDrive$Dos", "closeAll", "()V"⟩, prog_7_method_5_code, 3, none, 0, 0, 5, 134, 0, 0),
  (11, ⟨"RingDrive", "read", "(II)I"⟩, prog_1_method_6_code, 3, (Option.some Jvm.ClassFile.FieldType.int), 2, 0, 9, 197, 0, 0),
  (9, ⟨"RingDrive$Status", "receive", "(I[I)I"⟩, prog_11_method_5_code, 4, (Option.some Jvm.ClassFile.FieldType.int), 2, 0, 7, 149, 0, 0),
  (9, ⟨"RingDrive$Status", "replyByte", "()I"⟩, prog_11_method_6_code, 2, (Option.some Jvm.ClassFile.FieldType.int), 0, 0, 0, 0, 0, 0),
  (9, ⟨"RingDrive$Status", "textByte", "()I"⟩, prog_11_method_7_code, 2, (Option.some Jvm.ClassFile.FieldType.int), 0, 0, 6, 128, 0, 0),
  (9, ⟨"RingDrive$Status", "spell", "()V"⟩, prog_11_method_8_code, 3, none, 0, 0, 5, 106, 0, 0),
  (9, ⟨"RingDrive$Status", "addTwoDigits", "(I)V"⟩, prog_11_method_9_code, 2, none, 1, 0, 1, 21, 0, 0),
  (9, ⟨"RingDrive$Status", "add", "(I)V"⟩, prog_11_method_10_code, 2, none, 1, 0, 0, 0, 0, 0),
  (9, ⟨"RingDrive$Status", "words", "()Ljava/lang/String;"⟩, prog_11_method_11_code, 1, (Option.some (Jvm.ClassFile.FieldType.object "java/lang/String")), 0, 0, 0, 0, 0, 0),
  (16, ⟨"java/lang/String", "length", "()I"⟩, prog_16_method_54_code, 1, (Option.some Jvm.ClassFile.FieldType.int), 0, 0, 1, 20, 0, 0),
  (16, ⟨"java/lang/String", "coder", "()B"⟩, prog_16_method_152_code, 1, (Option.some Jvm.ClassFile.FieldType.byte), 0, 0, 0, 0, 0, 0),
  (16, ⟨"java/lang/String", "charAt", "(I)C"⟩, prog_16_method_56_code, 2, (Option.some Jvm.ClassFile.FieldType.char), 1, 0, 4, 85, 0, 0),
  (16, ⟨"java/lang/String", "isLatin1", "()Z"⟩, prog_16_method_154_code, 1, (Option.some Jvm.ClassFile.FieldType.boolean), 0, 0, 0, 0, 0, 0),
  (17, ⟨"java/lang/StringLatin1", "charAt", "([BI)C"⟩, prog_17_method_2_code, 2, (Option.some Jvm.ClassFile.FieldType.char), 2, 1, 2, 43, 0, 0),
  (16, ⟨"java/lang/String", "checkIndex", "(II)V"⟩, prog_16_method_155_code, 2, none, 2, 1, 1, 22, 0, 0),
  (20, ⟨"jdk/internal/util/Preconditions", "checkIndex", "(IILjava/util/function/BiFunction;)I"⟩, prog_21_method_11_code, 3, (Option.some Jvm.ClassFile.FieldType.int), 3, 1, 0, 0, 0, 0),
  (18, ⟨"java/lang/StringUTF16", "charAt", "([BI)C"⟩, prog_18_method_83_code, 2, (Option.some Jvm.ClassFile.FieldType.char), 2, 1, 3, 64, 0, 0),
  (18, ⟨"java/lang/StringUTF16", "checkIndex", "(I[B)V"⟩, prog_18_method_91_code, 2, none, 2, 1, 2, 43, 0, 0),
  (18, ⟨"java/lang/StringUTF16", "length", "([B)I"⟩, prog_18_method_6_code, 1, (Option.some Jvm.ClassFile.FieldType.int), 1, 1, 0, 0, 0, 0),
  (18, ⟨"java/lang/StringUTF16", "getChar", "([BI)C"⟩, prog_18_method_5_code, 2, (Option.some Jvm.ClassFile.FieldType.char), 2, 1, 1, 20, 0, 0),
  (5, ⟨"RingDrive$Dos", "receive", "(II[I)I"⟩, prog_7_method_20_code, 6, (Option.some Jvm.ClassFile.FieldType.int), 3, 0, 8, 172, 0, 0),
  (5, ⟨"RingDrive$Dos", "nextByte", "(LRingDrive$Channel;)I"⟩, prog_7_method_21_code, 3, (Option.some Jvm.ClassFile.FieldType.int), 1, 0, 7, 150, 0, 0),
  (5, ⟨"RingDrive$Dos", "makeLine", "(LRingDrive$Channel;)I"⟩, prog_7_method_23_code, 3, (Option.some Jvm.ClassFile.FieldType.int), 1, 0, 6, 128, 0, 0),
  (1, ⟨"RingDrive$Channel", "startLine", "()V"⟩, prog_3_method_6_code, 1, none, 0, 0, 0, 0, 0, 0),
  (5, ⟨"RingDrive$Dos", "addTitle", "(LRingDrive$Channel;)V"⟩, prog_7_method_24_code, 4, none, 1, 0, 1, 21, 0, 0),
  (1, ⟨"RingDrive$Channel", "add", "(I)V"⟩, prog_3_method_7_code, 2, none, 1, 0, 0, 0, 0, 0),
  (5, ⟨"RingDrive$Dos", "addEntry", "(LRingDrive$Channel;)V"⟩, prog_7_method_25_code, 3, none, 1, 0, 5, 106, 0, 0),
  (3, ⟨"RingDrive$Directory", "count", "()I"⟩, prog_5_method_14_code, 1, (Option.some Jvm.ClassFile.FieldType.int), 0, 0, 1, 20, 0, 0),
  (1, ⟨"RingDrive$Channel", "addNumber", "(I)V"⟩, prog_3_method_8_code, 4, none, 1, 0, 1, 21, 0, 0),
  (3, ⟨"RingDrive$Directory", "nameByte", "(I)I"⟩, prog_5_method_13_code, 2, (Option.some Jvm.ClassFile.FieldType.int), 1, 0, 1, 20, 0, 0),
  (5, ⟨"RingDrive$Dos", "addFree", "(LRingDrive$Channel;)V"⟩, prog_7_method_26_code, 2, none, 1, 0, 2, 44, 0, 0),
  (0, ⟨"RingDrive$BlockMap", "freeSum", "()I"⟩, prog_2_method_6_code, 3, (Option.some Jvm.ClassFile.FieldType.int), 0, 0, 0, 0, 0, 0),
  (5, ⟨"RingDrive$Dos", "readNext", "(LRingDrive$Channel;)I"⟩, prog_7_method_22_code, 5, (Option.some Jvm.ClassFile.FieldType.int), 1, 0, 3, 89, 0, 0)]
def rx_MT_5 : List rx_M := [(11, ⟨"RingDrive", "out", "(I)I"⟩, prog_1_method_7_code, 2, (Option.some Jvm.ClassFile.FieldType.int), 1, 0, 0, 0, 0, 0),
  (11, ⟨"RingDrive", "look", "(I)I"⟩, prog_1_method_8_code, 2, (Option.some Jvm.ClassFile.FieldType.int), 1, 0, 1, 22, 0, 0),
  (11, ⟨"RingDrive", "bits", "(II)I"⟩, prog_1_method_9_code, 4, (Option.some Jvm.ClassFile.FieldType.int), 2, 0, 2, 47, 0, 0),
  (8, ⟨"RingDrive$Ring", "hasBit", "(I)Z"⟩, prog_10_method_2_code, 2, (Option.some Jvm.ClassFile.FieldType.boolean), 1, 0, 0, 0, 0, 0),
  (8, ⟨"RingDrive$Ring", "word", "(I)I"⟩, prog_10_method_3_code, 4, (Option.some Jvm.ClassFile.FieldType.int), 1, 0, 1, 24, 0, 0),
  (8, ⟨"RingDrive$Ring", "eight", "(I)I"⟩, prog_10_method_5_code, 5, (Option.some Jvm.ClassFile.FieldType.int), 1, 0, 0, 0, 0, 0),
  (11, ⟨"RingDrive", "turn", "(III)Z"⟩, prog_1_method_10_code, 5, (Option.some Jvm.ClassFile.FieldType.boolean), 3, 0, 2, 50, 0, 0),
  (8, ⟨"RingDrive$Ring", "flip", "(II)V"⟩, prog_10_method_4_code, 4, none, 2, 0, 1, 27, 0, 0),
  (11, ⟨"RingDrive", "protect", "(Z)V"⟩, prog_1_method_11_code, 2, none, 1, 0, 0, 0, 0, 0),
  (11, ⟨"RingDrive", "power", "()V"⟩, prog_1_method_12_code, 1, none, 0, 0, 2, 43, 0, 0),
  (7, ⟨"RingDrive$Processor", "reset", "()V"⟩, prog_9_method_4_code, 1, none, 0, 0, 1, 23, 0, 0),
  (11, ⟨"RingDrive", "memory", "(I)I"⟩, prog_1_method_13_code, 2, (Option.some Jvm.ClassFile.FieldType.int), 1, 0, 1, 21, 0, 0),
  (12, ⟨"RingDriveModel", "feed", "(IIIII)I"⟩, prog_14_method_45_code, 6, (Option.some Jvm.ClassFile.FieldType.int), 5, 0, 1, 22, 0, 0),
  (12, ⟨"RingDriveModel", "types", "(I)V"⟩, prog_14_method_44_code, 3, none, 1, 0, 0, 0, 0, 0),
  (12, ⟨"RingDriveModel", "open", "(II)I"⟩, prog_14_method_47_code, 3, (Option.some Jvm.ClassFile.FieldType.int), 2, 0, 11, 277, 0, 0),
  (12, ⟨"RingDriveModel", "sends", "(I)V"⟩, prog_14_method_46_code, 3, none, 1, 0, 0, 0, 0, 0),
  (12, ⟨"RingDriveModel", "commands", "(I)I"⟩, prog_14_method_81_code, 2, (Option.some Jvm.ClassFile.FieldType.int), 1, 0, 10, 248, 0, 0),
  (12, ⟨"RingDriveModel", "begins", "()V"⟩, prog_14_method_41_code, 1, none, 0, 0, 1, 23, 0, 0),
  (12, ⟨"RingDriveModel", "sets", "(III)V"⟩, prog_14_method_40_code, 4, none, 3, 0, 0, 0, 0, 0),
  (12, ⟨"RingDriveModel", "fault", "(III)I"⟩, prog_14_method_4_code, 4, (Option.some Jvm.ClassFile.FieldType.int), 3, 0, 0, 0, 0, 0),
  (12, ⟨"RingDriveModel", "ends", "(I)I"⟩, prog_14_method_42_code, 2, (Option.some Jvm.ClassFile.FieldType.int), 1, 0, 1, 23, 0, 0),
  (12, ⟨"RingDriveModel", "does", "(I)I"⟩, prog_14_method_83_code, 4, (Option.some Jvm.ClassFile.FieldType.int), 1, 0, 9, 225, 0, 0),
  (12, ⟨"RingDriveModel", "again", "()I"⟩, prog_14_method_84_code, 2, (Option.some Jvm.ClassFile.FieldType.int), 0, 0, 6, 143, 0, 0),
  (12, ⟨"RingDriveModel", "takeId", "()I"⟩, prog_14_method_24_code, 4, (Option.some Jvm.ClassFile.FieldType.int), 0, 0, 3, 69, 0, 0),
  (12, ⟨"RingDriveModel", "round", "(I)I"⟩, prog_14_method_10_code, 7, (Option.some Jvm.ClassFile.FieldType.int), 1, 0, 2, 43, 0, 0),
  (12, ⟨"RingDriveModel", "bytesOf", "(I)I"⟩, prog_14_method_1_code, 1, (Option.some Jvm.ClassFile.FieldType.int), 1, 1, 0, 0, 0, 0),
  (12, ⟨"RingDriveModel", "bitAt", "(II)I"⟩, prog_14_method_5_code, 3, (Option.some Jvm.ClassFile.FieldType.int), 2, 0, 0, 0, 0, 0),
  (12, ⟨"RingDriveModel", "along", "(III)V"⟩, prog_14_method_7_code, 4, none, 3, 0, 1, 20, 0, 0),
  (12, ⟨"RingDriveModel", "goes", "()Z"⟩, prog_14_method_8_code, 2, (Option.some Jvm.ClassFile.FieldType.boolean), 0, 0, 1, 22, 0, 0),
  (12, ⟨"RingDriveModel", "comes", "()I"⟩, prog_14_method_9_code, 2, (Option.some Jvm.ClassFile.FieldType.int), 0, 0, 2, 43, 0, 0),
  (12, ⟨"RingDriveModel", "reads", "(I)Z"⟩, prog_14_method_15_code, 6, (Option.some Jvm.ClassFile.FieldType.boolean), 1, 0, 2, 42, 0, 0),
  (12, ⟨"RingDriveModel", "group", "(I)I"⟩, prog_14_method_14_code, 4, (Option.some Jvm.ClassFile.FieldType.int), 1, 0, 0, 0, 0, 0),
  (12, ⟨"RingDriveModel", "valueOf", "(I)I"⟩, prog_14_method_12_code, 3, (Option.some Jvm.ClassFile.FieldType.int), 1, 1, 1, 20, 0, 0),
  (12, ⟨"RingDriveModel", "groupOf", "(I)I"⟩, prog_14_method_11_code, 1, (Option.some Jvm.ClassFile.FieldType.int), 1, 1, 0, 0, 0, 0),
  (12, ⟨"RingDriveModel", "loads", "()I"⟩, prog_14_method_25_code, 1, (Option.some Jvm.ClassFile.FieldType.int), 0, 0, 5, 123, 0, 0),
  (12, ⟨"RingDriveModel", "readBlock", "(II[II)I"⟩, prog_14_method_20_code, 8, (Option.some Jvm.ClassFile.FieldType.int), 4, 0, 4, 96, 0, 0),
  (12, ⟨"RingDriveModel", "seek", "(II)I"⟩, prog_14_method_18_code, 7, (Option.some Jvm.ClassFile.FieldType.int), 2, 0, 3, 70, 0, 0),
  (12, ⟨"RingDriveModel", "header", "(IIII)V"⟩, prog_14_method_16_code, 5, none, 4, 0, 2, 46, 0, 0),
  (12, ⟨"RingDriveModel", "codes", "(I)V"⟩, prog_14_method_13_code, 7, none, 1, 0, 1, 20, 0, 0),
  (12, ⟨"RingDriveModel", "gets", "()V"⟩, prog_14_method_19_code, 3, none, 0, 0, 3, 64, 0, 0)]
def rx_MT_6 : List rx_M := [(12, ⟨"RingDriveModel", "validates", "()I"⟩, prog_14_method_91_code, 6, (Option.some Jvm.ClassFile.FieldType.int), 0, 0, 8, 200, 0, 0),
  (12, ⟨"RingDriveModel", "freesAll", "()V"⟩, prog_14_method_87_code, 2, none, 0, 0, 1, 20, 0, 0),
  (12, ⟨"RingDriveModel", "sectorsOf", "(I)I"⟩, prog_14_method_2_code, 1, (Option.some Jvm.ClassFile.FieldType.int), 1, 1, 0, 0, 0, 0),
  (12, ⟨"RingDriveModel", "takes", "(II)V"⟩, prog_14_method_28_code, 3, none, 2, 0, 0, 0, 0, 0),
  (12, ⟨"RingDriveModel", "isLegal", "(II)Z"⟩, prog_14_method_3_code, 2, (Option.some Jvm.ClassFile.FieldType.boolean), 2, 1, 1, 20, 0, 0),
  (12, ⟨"RingDriveModel", "isFree", "(II)Z"⟩, prog_14_method_27_code, 3, (Option.some Jvm.ClassFile.FieldType.boolean), 2, 0, 0, 0, 0, 0),
  (12, ⟨"RingDriveModel", "entries", "()I"⟩, prog_14_method_92_code, 6, (Option.some Jvm.ClassFile.FieldType.int), 0, 0, 7, 175, 0, 0),
  (12, ⟨"RingDriveModel", "used", "(III)I"⟩, prog_14_method_93_code, 8, (Option.some Jvm.ClassFile.FieldType.int), 3, 0, 6, 148, 0, 0),
  (12, ⟨"RingDriveModel", "changesType", "(IIII)I"⟩, prog_14_method_38_code, 6, (Option.some Jvm.ClassFile.FieldType.int), 4, 0, 5, 123, 0, 0),
  (12, ⟨"RingDriveModel", "writeBlock", "(II[II)I"⟩, prog_14_method_22_code, 8, (Option.some Jvm.ClassFile.FieldType.int), 4, 0, 4, 96, 0, 0),
  (12, ⟨"RingDriveModel", "lays", "(II)V"⟩, prog_14_method_21_code, 4, none, 2, 0, 1, 25, 0, 0),
  (12, ⟨"RingDriveModel", "setBit", "(III)V"⟩, prog_14_method_6_code, 6, none, 3, 0, 0, 0, 0, 0),
  (12, ⟨"RingDriveModel", "data", "([II)V"⟩, prog_14_method_17_code, 5, none, 2, 0, 2, 46, 0, 0),
  (12, ⟨"RingDriveModel", "uses", "(II)I"⟩, prog_14_method_90_code, 3, (Option.some Jvm.ClassFile.FieldType.int), 2, 0, 2, 41, 0, 0),
  (12, ⟨"RingDriveModel", "stores", "()I"⟩, prog_14_method_26_code, 1, (Option.some Jvm.ClassFile.FieldType.int), 0, 0, 5, 123, 0, 0),
  (12, ⟨"RingDriveModel", "shutsAll", "()V"⟩, prog_14_method_59_code, 2, none, 0, 0, 0, 0, 0, 0),
  (12, ⟨"RingDriveModel", "news", "(I)I"⟩, prog_14_method_85_code, 9, (Option.some Jvm.ClassFile.FieldType.int), 1, 0, 7, 166, 0, 0),
  (12, ⟨"RingDriveModel", "isWild", "(II)Z"⟩, prog_14_method_51_code, 5, (Option.some Jvm.ClassFile.FieldType.boolean), 2, 0, 0, 0, 0, 0),
  (12, ⟨"RingDriveModel", "format", "(III)I"⟩, prog_14_method_23_code, 6, (Option.some Jvm.ClassFile.FieldType.int), 3, 0, 3, 70, 0, 0),
  (12, ⟨"RingDriveModel", "maps", "(I)I"⟩, prog_14_method_86_code, 4, (Option.some Jvm.ClassFile.FieldType.int), 1, 0, 6, 143, 0, 0),
  (12, ⟨"RingDriveModel", "scratch", "(I)I"⟩, prog_14_method_88_code, 5, (Option.some Jvm.ClassFile.FieldType.int), 1, 0, 8, 197, 0, 0),
  (12, ⟨"RingDriveModel", "finds", "(I[III)I"⟩, prog_14_method_37_code, 11, (Option.some Jvm.ClassFile.FieldType.int), 4, 0, 5, 123, 0, 0),
  (12, ⟨"RingDriveModel", "fits", "([III[II)Z"⟩, prog_14_method_35_code, 7, (Option.some Jvm.ClassFile.FieldType.boolean), 5, 1, 0, 0, 0, 0),
  (12, ⟨"RingDriveModel", "same", "([III[II)Z"⟩, prog_14_method_36_code, 7, (Option.some Jvm.ClassFile.FieldType.boolean), 5, 1, 0, 0, 0, 0),
  (12, ⟨"RingDriveModel", "scratches", "()I"⟩, prog_14_method_39_code, 5, (Option.some Jvm.ClassFile.FieldType.int), 0, 0, 7, 173, 0, 0),
  (12, ⟨"RingDriveModel", "freesChain", "(II)I"⟩, prog_14_method_34_code, 11, (Option.some Jvm.ClassFile.FieldType.int), 2, 0, 6, 143, 0, 0),
  (12, ⟨"RingDriveModel", "givesBack", "(II)V"⟩, prog_14_method_29_code, 3, none, 2, 0, 2, 41, 0, 0),
  (12, ⟨"RingDriveModel", "renames", "(I)I"⟩, prog_14_method_89_code, 7, (Option.some Jvm.ClassFile.FieldType.int), 1, 0, 6, 153, 0, 0),
  (12, ⟨"RingDriveModel", "blockOf", "(IZ)I"⟩, prog_14_method_97_code, 7, (Option.some Jvm.ClassFile.FieldType.int), 2, 0, 5, 123, 0, 0),
  (12, ⟨"RingDriveModel", "numbers", "(I)Z"⟩, prog_14_method_94_code, 2, (Option.some Jvm.ClassFile.FieldType.boolean), 1, 0, 0, 0, 0, 0),
  (12, ⟨"RingDriveModel", "numberNext", "(I)I"⟩, prog_14_method_96_code, 4, (Option.some Jvm.ClassFile.FieldType.int), 1, 0, 1, 20, 0, 0),
  (12, ⟨"RingDriveModel", "isDigit", "(I)Z"⟩, prog_14_method_95_code, 1, (Option.some Jvm.ClassFile.FieldType.boolean), 1, 1, 0, 0, 0, 0),
  (12, ⟨"RingDriveModel", "begins3", "(III)Z"⟩, prog_14_method_82_code, 4, (Option.some Jvm.ClassFile.FieldType.boolean), 3, 0, 0, 0, 0, 0),
  (12, ⟨"RingDriveModel", "pointer", "(I)I"⟩, prog_14_method_98_code, 4, (Option.some Jvm.ClassFile.FieldType.int), 1, 0, 2, 43, 0, 0),
  (12, ⟨"RingDriveModel", "allocates", "(I)I"⟩, prog_14_method_99_code, 7, (Option.some Jvm.ClassFile.FieldType.int), 1, 0, 6, 143, 0, 0),
  (12, ⟨"RingDriveModel", "frees", "(I)I"⟩, prog_14_method_100_code, 5, (Option.some Jvm.ClassFile.FieldType.int), 1, 0, 6, 143, 0, 0),
  (12, ⟨"RingDriveModel", "memories", "(I)I"⟩, prog_14_method_103_code, 7, (Option.some Jvm.ClassFile.FieldType.int), 1, 0, 8, 174, 0, 0),
  (12, ⟨"RingDriveModel", "put", "(II)V"⟩, prog_14_method_102_code, 3, none, 2, 0, 0, 0, 0, 0),
  (12, ⟨"RingDriveModel", "get", "(I)I"⟩, prog_14_method_101_code, 2, (Option.some Jvm.ClassFile.FieldType.int), 1, 0, 0, 0, 0, 0),
  (12, ⟨"RingDriveModel", "runs", "(I)I"⟩, prog_14_method_104_code, 4, (Option.some Jvm.ClassFile.FieldType.int), 1, 0, 7, 151, 0, 0)]
def rx_MT_7 : List rx_M := [(12, ⟨"RingDriveModel", "step", "(I)Z"⟩, prog_14_method_128_code, 2, (Option.some Jvm.ClassFile.FieldType.boolean), 1, 0, 6, 130, 0, 0),
  (12, ⟨"RingDriveModel", "works", "(I)Z"⟩, prog_14_method_119_code, 6, (Option.some Jvm.ClassFile.FieldType.boolean), 1, 0, 4, 86, 0, 0),
  (12, ⟨"RingDriveModel", "howOf", "(I)I"⟩, prog_14_method_115_code, 1, (Option.some Jvm.ClassFile.FieldType.int), 1, 1, 0, 0, 0, 0),
  (12, ⟨"RingDriveModel", "address", "(I)I"⟩, prog_14_method_112_code, 4, (Option.some Jvm.ClassFile.FieldType.int), 1, 0, 3, 63, 0, 0),
  (12, ⟨"RingDriveModel", "byteNext", "()I"⟩, prog_14_method_105_code, 2, (Option.some Jvm.ClassFile.FieldType.int), 0, 0, 1, 21, 0, 0),
  (12, ⟨"RingDriveModel", "wordNext", "()I"⟩, prog_14_method_106_code, 2, (Option.some Jvm.ClassFile.FieldType.int), 0, 0, 2, 42, 0, 0),
  (12, ⟨"RingDriveModel", "storeTime", "(I)I"⟩, prog_14_method_114_code, 1, (Option.some Jvm.ClassFile.FieldType.int), 1, 1, 0, 0, 0, 0),
  (12, ⟨"RingDriveModel", "readTime", "(I)I"⟩, prog_14_method_113_code, 3, (Option.some Jvm.ClassFile.FieldType.int), 1, 0, 0, 0, 0, 0),
  (12, ⟨"RingDriveModel", "marks", "(I)I"⟩, prog_14_method_109_code, 2, (Option.some Jvm.ClassFile.FieldType.int), 1, 0, 1, 22, 0, 0),
  (12, ⟨"RingDriveModel", "flag", "(IZ)V"⟩, prog_14_method_108_code, 3, none, 2, 0, 0, 0, 0, 0),
  (12, ⟨"RingDriveModel", "adds", "(I)V"⟩, prog_14_method_116_code, 6, none, 1, 0, 2, 43, 0, 0),
  (12, ⟨"RingDriveModel", "is", "(I)Z"⟩, prog_14_method_107_code, 2, (Option.some Jvm.ClassFile.FieldType.boolean), 1, 0, 0, 0, 0, 0),
  (12, ⟨"RingDriveModel", "compares", "(II)V"⟩, prog_14_method_118_code, 3, none, 2, 0, 2, 43, 0, 0),
  (12, ⟨"RingDriveModel", "takesOff", "(I)V"⟩, prog_14_method_117_code, 8, none, 1, 0, 2, 43, 0, 0),
  (12, ⟨"RingDriveModel", "twos", "(I)Z"⟩, prog_14_method_129_code, 2, (Option.some Jvm.ClassFile.FieldType.boolean), 1, 0, 5, 109, 0, 0),
  (12, ⟨"RingDriveModel", "shifted", "(II)I"⟩, prog_14_method_120_code, 4, (Option.some Jvm.ClassFile.FieldType.int), 2, 0, 2, 43, 0, 0),
  (12, ⟨"RingDriveModel", "takes2", "(I)Z"⟩, prog_14_method_127_code, 2, (Option.some Jvm.ClassFile.FieldType.boolean), 1, 0, 0, 0, 0, 0),
  (12, ⟨"RingDriveModel", "changes", "(II)V"⟩, prog_14_method_121_code, 4, none, 2, 0, 4, 86, 0, 0),
  (12, ⟨"RingDriveModel", "keeps", "(II)Z"⟩, prog_14_method_124_code, 3, (Option.some Jvm.ClassFile.FieldType.boolean), 2, 0, 4, 86, 0, 0),
  (12, ⟨"RingDriveModel", "fetches", "(II)Z"⟩, prog_14_method_123_code, 4, (Option.some Jvm.ClassFile.FieldType.boolean), 2, 0, 4, 86, 0, 0),
  (12, ⟨"RingDriveModel", "zeros", "(I)Z"⟩, prog_14_method_130_code, 2, (Option.some Jvm.ClassFile.FieldType.boolean), 1, 0, 5, 109, 0, 0),
  (12, ⟨"RingDriveModel", "branch", "(Z)V"⟩, prog_14_method_122_code, 4, none, 1, 0, 2, 42, 0, 0),
  (12, ⟨"RingDriveModel", "tests", "(I)Z"⟩, prog_14_method_126_code, 3, (Option.some Jvm.ClassFile.FieldType.boolean), 1, 0, 4, 86, 0, 0),
  (12, ⟨"RingDriveModel", "compared", "(II)Z"⟩, prog_14_method_125_code, 4, (Option.some Jvm.ClassFile.FieldType.boolean), 2, 0, 4, 86, 0, 0),
  (12, ⟨"RingDriveModel", "push", "(I)V"⟩, prog_14_method_110_code, 2, none, 1, 0, 1, 22, 0, 0),
  (12, ⟨"RingDriveModel", "pull", "()I"⟩, prog_14_method_111_code, 1, (Option.some Jvm.ClassFile.FieldType.int), 0, 0, 1, 21, 0, 0),
  (12, ⟨"RingDriveModel", "jumps", "(I)Z"⟩, prog_14_method_131_code, 4, (Option.some Jvm.ClassFile.FieldType.boolean), 1, 0, 3, 63, 0, 0),
  (12, ⟨"RingDriveModel", "opens", "(II)I"⟩, prog_14_method_48_code, 4, (Option.some Jvm.ClassFile.FieldType.int), 2, 0, 10, 254, 0, 0),
  (12, ⟨"RingDriveModel", "shuts", "(I)I"⟩, prog_14_method_57_code, 5, (Option.some Jvm.ClassFile.FieldType.int), 1, 0, 5, 123, 0, 0),
  (12, ⟨"RingDriveModel", "openMany", "()I"⟩, prog_14_method_43_code, 3, (Option.some Jvm.ClassFile.FieldType.int), 0, 0, 0, 0, 0, 0),
  (12, ⟨"RingDriveModel", "opensList", "(II)I"⟩, prog_14_method_49_code, 5, (Option.some Jvm.ClassFile.FieldType.int), 2, 0, 1, 23, 0, 0),
  (12, ⟨"RingDriveModel", "opensFile", "(II)I"⟩, prog_14_method_50_code, 10, (Option.some Jvm.ClassFile.FieldType.int), 2, 0, 9, 225, 0, 0),
  (12, ⟨"RingDriveModel", "opensNew", "(IIIIZ)I"⟩, prog_14_method_55_code, 9, (Option.some Jvm.ClassFile.FieldType.int), 5, 0, 8, 197, 0, 0),
  (12, ⟨"RingDriveModel", "makesEntry", "()I"⟩, prog_14_method_54_code, 6, (Option.some Jvm.ClassFile.FieldType.int), 0, 0, 6, 153, 0, 0),
  (12, ⟨"RingDriveModel", "lowest", "(I)I"⟩, prog_14_method_30_code, 4, (Option.some Jvm.ClassFile.FieldType.int), 1, 0, 1, 22, 0, 0),
  (12, ⟨"RingDriveModel", "takesOne", "()I"⟩, prog_14_method_32_code, 4, (Option.some Jvm.ClassFile.FieldType.int), 0, 0, 2, 45, 0, 0),
  (12, ⟨"RingDriveModel", "trackOf", "(I)I"⟩, prog_14_method_31_code, 1, (Option.some Jvm.ClassFile.FieldType.int), 1, 1, 0, 0, 0, 0),
  (12, ⟨"RingDriveModel", "clears", "(I)V"⟩, prog_14_method_56_code, 3, none, 1, 0, 0, 0, 0, 0),
  (12, ⟨"RingDriveModel", "opensOld", "(IIII)I"⟩, prog_14_method_53_code, 9, (Option.some Jvm.ClassFile.FieldType.int), 4, 0, 6, 153, 0, 0),
  (12, ⟨"RingDriveModel", "begun", "(I)V"⟩, prog_14_method_52_code, 4, none, 1, 0, 0, 0, 0, 0)]
def rx_MT_8 : List rx_M := [(12, ⟨"RingDriveModel", "close", "(I)I"⟩, prog_14_method_58_code, 4, (Option.some Jvm.ClassFile.FieldType.int), 1, 0, 6, 147, 0, 0),
  (12, ⟨"RingDriveModel", "read", "(II)I"⟩, prog_14_method_61_code, 4, (Option.some Jvm.ClassFile.FieldType.int), 2, 0, 9, 218, 0, 0),
  (12, ⟨"RingDriveModel", "givesMore", "(I)V"⟩, prog_14_method_62_code, 2, none, 1, 0, 1, 21, 0, 0),
  (12, ⟨"RingDriveModel", "gives", "(I)V"⟩, prog_14_method_60_code, 2, none, 1, 0, 0, 0, 0, 0),
  (12, ⟨"RingDriveModel", "givesStatus", "(I)V"⟩, prog_14_method_68_code, 2, none, 1, 0, 3, 66, 0, 0),
  (12, ⟨"RingDriveModel", "saysTwo", "(I)V"⟩, prog_14_method_66_code, 2, none, 1, 0, 1, 21, 0, 0),
  (12, ⟨"RingDriveModel", "says", "(I)V"⟩, prog_14_method_63_code, 2, none, 1, 0, 0, 0, 0, 0),
  (12, ⟨"RingDriveModel", "saysWords", "(I)V"⟩, prog_14_method_67_code, 2, none, 1, 0, 2, 45, 0, 0),
  (12, ⟨"RingDriveModel", "says8", "(J)V"⟩, prog_14_method_64_code, 5, none, 1, 0, 1, 21, 0, 0),
  (12, ⟨"RingDriveModel", "readsFile", "(II)I"⟩, prog_14_method_69_code, 8, (Option.some Jvm.ClassFile.FieldType.int), 2, 0, 5, 123, 0, 0),
  (12, ⟨"RingDriveModel", "readsList", "(II)I"⟩, prog_14_method_71_code, 6, (Option.some Jvm.ClassFile.FieldType.int), 2, 0, 8, 193, 0, 0),
  (12, ⟨"RingDriveModel", "title", "(I)I"⟩, prog_14_method_72_code, 4, (Option.some Jvm.ClassFile.FieldType.int), 1, 0, 6, 143, 0, 0),
  (12, ⟨"RingDriveModel", "next", "(I)I"⟩, prog_14_method_73_code, 7, (Option.some Jvm.ClassFile.FieldType.int), 1, 0, 7, 167, 0, 0),
  (12, ⟨"RingDriveModel", "entryLine", "(I)V"⟩, prog_14_method_74_code, 4, none, 1, 0, 2, 42, 0, 0),
  (12, ⟨"RingDriveModel", "saysNumber", "(I)V"⟩, prog_14_method_65_code, 2, none, 1, 0, 1, 21, 0, 0),
  (12, ⟨"RingDriveModel", "total", "(I)I"⟩, prog_14_method_75_code, 5, (Option.some Jvm.ClassFile.FieldType.int), 1, 0, 6, 143, 0, 0),
  (12, ⟨"RingDriveModel", "readsBuffer", "(II)I"⟩, prog_14_method_70_code, 4, (Option.some Jvm.ClassFile.FieldType.int), 2, 0, 1, 21, 0, 0),
  (12, ⟨"RingDriveModel", "out", "(I)I"⟩, prog_14_method_76_code, 2, (Option.some Jvm.ClassFile.FieldType.int), 1, 0, 0, 0, 0, 0),
  (12, ⟨"RingDriveModel", "write", "(II)I"⟩, prog_14_method_77_code, 5, (Option.some Jvm.ClassFile.FieldType.int), 2, 0, 11, 269, 0, 0),
  (12, ⟨"RingDriveModel", "writesByte", "(II)I"⟩, prog_14_method_78_code, 4, (Option.some Jvm.ClassFile.FieldType.int), 2, 0, 8, 197, 0, 0),
  (12, ⟨"RingDriveModel", "goesOn", "(I)I"⟩, prog_14_method_79_code, 5, (Option.some Jvm.ClassFile.FieldType.int), 1, 0, 7, 173, 0, 0),
  (12, ⟨"RingDriveModel", "takesNext", "(II)I"⟩, prog_14_method_33_code, 6, (Option.some Jvm.ClassFile.FieldType.int), 2, 0, 3, 68, 0, 0),
  (12, ⟨"RingDriveModel", "isFull", "(I)I"⟩, prog_14_method_80_code, 6, (Option.some Jvm.ClassFile.FieldType.int), 1, 0, 6, 148, 0, 0),
  (12, ⟨"RingDriveModel", "look", "(I)I"⟩, prog_14_method_132_code, 2, (Option.some Jvm.ClassFile.FieldType.int), 1, 0, 1, 22, 0, 0),
  (12, ⟨"RingDriveModel", "bits", "(II)I"⟩, prog_14_method_134_code, 6, (Option.some Jvm.ClassFile.FieldType.int), 2, 0, 2, 41, 0, 0),
  (12, ⟨"RingDriveModel", "isBit", "(II)Z"⟩, prog_14_method_133_code, 2, (Option.some Jvm.ClassFile.FieldType.boolean), 2, 1, 1, 20, 0, 0),
  (12, ⟨"RingDriveModel", "turn", "(III)Z"⟩, prog_14_method_135_code, 7, (Option.some Jvm.ClassFile.FieldType.boolean), 3, 0, 2, 41, 0, 0),
  (12, ⟨"RingDriveModel", "protect", "(Z)V"⟩, prog_14_method_136_code, 2, none, 1, 0, 0, 0, 0, 0),
  (12, ⟨"RingDriveModel", "memory", "(I)I"⟩, prog_14_method_137_code, 2, (Option.some Jvm.ClassFile.FieldType.int), 1, 0, 0, 0, 0, 0),
  (12, ⟨"RingDriveModel", "power", "()V"⟩, prog_14_method_138_code, 2, none, 0, 0, 1, 23, 0, 0),
  (12, ⟨"RingDriveModel", "<init>", "()V"⟩, prog_14_method_139_code, 1, none, 0, 2, 1, 20, 39, 18895)]
def rx_MT : List rx_M := rx_MT_0 ++ rx_MT_1 ++ rx_MT_2 ++ rx_MT_3 ++ rx_MT_4 ++ rx_MT_5 ++ rx_MT_6 ++ rx_MT_7 ++ rx_MT_8
def rx_ME : List (Nat × Nat × Nat × Nat) := [(216, 215, 192, 0), (224, 223, 193, 0), (247, 246, 194, 0), (291, 290, 195, 0), (302, 301, 196, 0), (306, 305, 197, 0), (374, 373, 198, 0), (418, 417, 199, 0), (426, 425, 200, 0), (439, 438, 201, 0), (463, 462, 202, 0), (502, 501, 203, 0), (618, 617, 204, 0), (625, 623, 200, 624), (688, 686, 192, 687), (692, 690, 193, 691), (696, 694, 192, 695), (700, 699, 192, 0), (703, 702, 192, 0), (707, 705, 193, 706), (711, 709, 193, 710), (715, 713, 204, 714), (719, 717, 194, 718), (723, 721, 194, 722), (728, 726, 193, 727), (732, 731, 204, 1), (736, 734, 193, 735), (741, 739, 200, 740), (747, 745, 200, 746), (751, 749, 200, 750), (755, 754, 204, 2), (759, 757, 199, 758), (763, 761, 195, 762), (767, 765, 195, 766), (772, 770, 196, 771), (776, 775, 195, 3), (779, 778, 195, 0), (785, 784, 195, 4), (789, 787, 196, 788), (793, 791, 196, 792), (797, 795, 196, 796), (801, 799, 196, 800), (806, 804, 195, 805), (810, 808, 195, 809), (814, 812, 195, 813), (818, 816, 195, 817), (822, 820, 196, 821), (826, 824, 196, 825), (830, 828, 196, 829), (835, 833, 196, 834), (838, 837, 195, 0), (844, 843, 195, 5), (849, 847, 201, 848), (852, 851, 206, 0), (856, 854, 201, 855), (859, 858, 195, 0), (863, 861, 201, 862), (866, 865, 195, 0), (870, 868, 200, 869), (874, 872, 201, 873), (878, 876, 195, 877), (883, 882, 195, 6), (887, 885, 196, 886), (891, 889, 196, 890), (896, 894, 196, 895), (899, 898, 195, 0), (903, 901, 202, 902), (909, 908, 204, 7), (913, 911, 202, 912), (917, 915, 202, 916), (921, 919, 202, 920), (925, 923, 195, 924), (929, 928, 195, 8), (936, 935, 202, 9), (940, 938, 202, 939), (944, 943, 202, 10), (948, 946, 200, 947), (952, 950, 202, 951), (956, 954, 202, 955), (962, 960, 199, 961), (966, 964, 201, 965), (971, 969, 202, 970), (975, 973, 202, 974), (979, 978, 199, 11), (985, 983, 201, 984), (991, 989, 202, 990), (995, 994, 204, 12), (999, 997, 202, 998), (1004, 1003, 204, 13), (1009, 1008, 204, 14), (1013, 1012, 204, 15), (1019, 1018, 204, 16), (1025, 1023, 202, 1024), (1031, 1030, 204, 17), (1035, 1033, 201, 1034), (1040, 1039, 204, 18), (1044, 1043, 204, 19), (1048, 1046, 193, 1047), (1053, 1051, 193, 1052), (1057, 1056, 193, 0), (1061, 1059, 199, 1060), (1066, 1065, 204, 20), (1071, 1070, 204, 21), (1075, 1074, 204, 22), (1079, 1078, 204, 23), (1083, 1082, 204, 24), (1089, 1088, 204, 25), (1093, 1092, 204, 26), (1098, 1096, 198, 1097), (1102, 1100, 198, 1101), (1106, 1104, 194, 1105), (1110, 1108, 198, 1109), (1114, 1113, 198, 27), (1125, 1124, 198, 28), (1129, 1128, 198, 29), (1133, 1132, 198, 30), (1137, 1136, 198, 31), (1141, 1140, 198, 32), (1146, 1145, 198, 33), (1150, 1149, 198, 34), (1154, 1153, 198, 35), (1158, 1157, 198, 36), (1162, 1161, 198, 37), (1166, 1165, 198, 38), (1170, 1169, 198, 39), (1174, 1173, 198, 40), (1178, 1177, 198, 41), (1183, 1182, 198, 42), (1187, 1186, 198, 43), (1191, 1190, 198, 44), (1195, 1194, 198, 45), (1199, 1198, 198, 46), (1203, 1202, 198, 47), (1207, 1206, 198, 48), (1211, 1210, 198, 49), (1217, 1215, 199, 1216), (1221, 1219, 199, 1220), (1226, 1225, 199, 50), (1231, 1229, 202, 1230), (1235, 1233, 199, 1234), (1240, 1239, 199, 51), (1244, 1242, 203, 1243), (1249, 1248, 199, 52), (1256, 1254, 200, 1255), (1261, 1260, 199, 53), (1266, 1265, 199, 54), (1270, 1269, 199, 55), (1275, 1274, 199, 56), (1283, 1281, 203, 1282), (1286, 1285, 197, 0), (1290, 1289, 199, 57), (1295, 1294, 199, 58), (1300, 1298, 201, 1299), (1304, 1303, 201, 59), (1310, 1308, 202, 1309), (1314, 1313, 199, 60), (1318, 1316, 201, 1317), (1324, 1322, 202, 1323), (1328, 1326, 203, 1327), (1332, 1330, 203, 1331), (1336, 1334, 192, 1335), (1340, 1338, 199, 1339), (1344, 1343, 199, 61), (1348, 1346, 201, 1347), (1353, 1352, 199, 62), (1357, 1356, 199, 63), (1361, 1359, 192, 1360), (1365, 1363, 199, 1364), (1371, 1369, 192, 1370), (1375, 1373, 194, 1374), (1379, 1378, 194, 64), (1383, 1382, 194, 65), (1387, 1386, 194, 66), (1391, 1390, 194, 67), (1395, 1394, 194, 68), (1399, 1398, 194, 69), (1422, 1420, 208, 1421), (1426, 1424, 208, 1425), (1432, 1430, 208, 1431), (1436, 1434, 208, 1435), (1439, 1438, 209, 0), (1442, 1441, 208, 0), (1447, 1446, 210, 0), (1450, 1449, 211, 0), (1453, 1452, 211, 0), (1456, 1455, 211, 0), (1460, 1459, 211, 0), (1470, 1468, 199, 1469), (1474, 1473, 199, 70), (1478, 1477, 199, 71), (1482, 1480, 203, 1481), (1486, 1485, 199, 72), (1490, 1488, 203, 1489), (1494, 1493, 199, 73), (1498, 1496, 202, 1497), (1502, 1500, 203, 1501), (1507, 1505, 202, 1506), (1513, 1512, 199, 74), (1517, 1515, 201, 1516), (1521, 1520, 199, 75), (1526, 1524, 192, 1525), (1530, 1528, 192, 1529), (1535, 1533, 192, 1534), (1540, 1538, 196, 1539), (1544, 1542, 196, 1543), (1548, 1547, 196, 76), (1552, 1550, 192, 1551), (1556, 1554, 196, 1555), (1560, 1558, 192, 1559), (1564, 1562, 192, 1563), (1570, 1568, 198, 1569), (1575, 1573, 192, 1574), (1580, 1578, 205, 1579), (1585, 1583, 205, 77), (1589, 1587, 205, 1588), (1593, 1592, 205, 78), (1597, 1596, 205, 79), (1601, 1600, 205, 80), (1605, 1604, 205, 81), (1609, 1608, 205, 82), (1613, 1612, 205, 83), (1617, 1616, 205, 84), (1621, 1620, 205, 85), (1625, 1624, 205, 86), (1629, 1628, 205, 87), (1632, 1631, 205, 0), (1636, 1635, 205, 88), (1640, 1639, 205, 89), (1644, 1643, 205, 90), (1648, 1647, 205, 91), (1652, 1651, 205, 92), (1656, 1655, 205, 93), (1659, 1658, 205, 0), (1662, 1661, 205, 0), (1666, 1665, 205, 94), (1670, 1669, 205, 95), (1674, 1673, 205, 96), (1678, 1677, 205, 97), (1682, 1681, 205, 98), (1686, 1685, 205, 99), (1690, 1689, 205, 100), (1694, 1693, 205, 101), (1697, 1696, 205, 0), (1701, 1700, 205, 102), (1704, 1703, 205, 0), (1708, 1707, 205, 103), (1712, 1711, 205, 104), (1716, 1715, 205, 105), (1720, 1719, 205, 106), (1724, 1723, 205, 107), (1728, 1727, 205, 108), (1732, 1731, 205, 109), (1736, 1735, 205, 110), (1740, 1739, 205, 111), (1744, 1743, 205, 112), (1748, 1747, 205, 113), (1752, 1751, 205, 114), (1756, 1755, 205, 115), (1760, 1759, 205, 116), (1764, 1763, 205, 117), (1768, 1767, 205, 118), (1772, 1771, 205, 119), (1775, 1774, 205, 0), (1778, 1777, 205, 0), (1782, 1781, 205, 120), (1786, 1785, 205, 121), (1790, 1789, 205, 122), (1794, 1793, 205, 123), (1798, 1797, 205, 124), (1802, 1801, 205, 125), (1806, 1805, 205, 126), (1809, 1808, 205, 0), (1813, 1812, 205, 127), (1817, 1816, 205, 128), (1821, 1820, 205, 129), (1825, 1824, 205, 130), (1829, 1828, 205, 131), (1833, 1832, 205, 132), (1837, 1836, 205, 133), (1841, 1840, 205, 134), (1845, 1844, 205, 135), (1849, 1848, 205, 136), (1852, 1851, 205, 0), (1856, 1855, 205, 137), (1860, 1859, 205, 138), (1864, 1863, 205, 139), (1867, 1866, 205, 0), (1871, 1870, 205, 140), (1875, 1874, 205, 141), (1879, 1878, 205, 142), (1883, 1882, 205, 143), (1887, 1886, 205, 144), (1891, 1890, 205, 145), (1895, 1894, 205, 146), (1899, 1898, 205, 147), (1903, 1902, 205, 148), (1907, 1906, 205, 149), (1911, 1910, 205, 150), (1915, 1914, 205, 151), (1919, 1918, 205, 152), (1923, 1922, 205, 153), (1927, 1926, 205, 154), (1931, 1930, 205, 155), (1935, 1934, 205, 156), (1939, 1938, 205, 157), (1943, 1942, 205, 158), (1947, 1946, 205, 159), (1951, 1950, 205, 160), (1955, 1954, 205, 161), (1959, 1958, 205, 162), (1963, 1962, 205, 163), (1967, 1966, 205, 164), (1971, 1970, 205, 165), (1975, 1974, 205, 166), (1979, 1978, 205, 167), (1983, 1982, 205, 168), (1986, 1985, 205, 0), (1990, 1989, 205, 169), (1994, 1993, 205, 170), (1998, 1997, 205, 171), (2002, 2000, 205, 2001), (2006, 2004, 205, 2005), (2010, 2009, 205, 172), (2014, 2013, 205, 173), (2018, 2017, 205, 174), (2022, 2021, 205, 175), (2026, 2025, 205, 176), (2030, 2029, 205, 177), (2035, 2034, 205, 178), (2076, 2075, 205, 179), (2080, 2079, 205, 180), (2084, 2083, 205, 181), (2088, 2087, 205, 182), (2092, 2091, 205, 183), (2096, 2095, 205, 184), (2100, 2099, 205, 185), (2105, 2104, 205, 186), (2109, 2107, 205, 2108), (2113, 2111, 205, 2112), (2117, 2116, 205, 187), (2121, 2120, 205, 188), (2125, 2124, 205, 189), (2129, 2128, 205, 190), (2133, 2131, 205, 2132), (2137, 2135, 205, 2136), (2140, 2139, 205, 0), (2144, 2142, 205, 2143), (2148, 2146, 205, 2147), (2152, 2150, 205, 2151), (2156, 2154, 205, 2155), (2160, 2159, 205, 0)]
/-- links to methods: class, entry; method, whether by the nest; the place of its word -/
def rx_MLs : List ((Nat × Nat) × (Nat × Bool) × Nat) := [((13, 9), (0, false), 214), ((11, 25), (3, false), 289), ((4, 50), (4, false), 300), ((8, 9), (5, false), 304), ((11, 41), (7, false), 416), ((5, 44), (9, false), 437), ((5, 53), (10, false), 461), ((11, 50), (12, false), 616), ((2, 59), (13, false), 622), ((13, 13), (14, false), 685), ((11, 72), (15, false), 689), ((13, 18), (16, false), 693), ((11, 76), (17, false), 697), ((11, 101), (18, false), 701), ((11, 189), (19, false), 704), ((11, 192), (20, false), 708), ((11, 80), (21, false), 712), ((2, 68), (22, false), 716), ((9, 22), (23, false), 720), ((2, 73), (23, false), 724), ((2, 77), (24, false), 725), ((2, 81), (25, false), 729), ((2, 109), (26, false), 733), ((10, 22), (5, false), 737), ((2, 113), (27, false), 738), ((6, 13), (5, false), 742), ((6, 23), (24, false), 743), ((2, 117), (28, false), 744), ((2, 121), (29, false), 748), ((2, 124), (30, false), 752), ((2, 148), (31, false), 756), ((2, 151), (32, false), 760), ((4, 94), (33, false), 764), ((4, 88), (23, false), 768), ((4, 72), (34, false), 769), ((4, 125), (35, false), 773), ((4, 144), (36, false), 777), ((4, 140), (37, false), 782), ((4, 131), (38, false), 786), ((8, 32), (39, false), 790), ((4, 148), (40, false), 794), ((4, 151), (41, false), 798), ((8, 39), (40, false), 802), ((2, 154), (42, false), 803), ((2, 127), (43, false), 807), ((2, 132), (44, false), 811), ((4, 53), (45, false), 815), ((4, 56), (46, false), 819), ((4, 60), (47, false), 823), ((4, 64), (48, false), 827), ((4, 68), (43, false), 831), ((4, 75), (49, false), 832), ((4, 78), (50, false), 836), ((4, 82), (51, false), 841), ((4, 85), (42, false), 845), ((2, 135), (52, false), 846), ((0, 26), (53, false), 850), ((0, 32), (54, false), 853), ((0, 51), (55, false), 857), ((0, 35), (56, false), 860), ((0, 58), (57, false), 864), ((0, 39), (58, false), 867), ((2, 140), (59, false), 871), ((0, 23), (60, false), 875), ((4, 98), (44, false), 879), ((4, 104), (61, false), 880), ((4, 157), (62, false), 884), ((4, 128), (63, false), 888), ((8, 56), (49, false), 892), ((4, 108), (64, false), 893), ((4, 134), (65, false), 897), ((2, 143), (66, false), 900), ((3, 96), (53, false), 904), ((3, 85), (60, false), 905), ((2, 85), (67, false), 906), ((2, 158), (68, false), 910), ((3, 23), (69, false), 914), ((2, 161), (70, false), 918), ((3, 47), (71, false), 922), ((4, 112), (72, false), 926), ((3, 51), (73, false), 933), ((3, 72), (74, false), 937), ((3, 76), (75, false), 941), ((3, 79), (76, false), 945), ((3, 55), (77, false), 949), ((3, 69), (78, false), 953), ((3, 59), (57, false), 957), ((3, 63), (23, false), 958), ((2, 168), (79, false), 959), ((5, 231), (80, false), 963), ((0, 19), (71, false), 967), ((5, 206), (81, false), 968), ((5, 209), (82, false), 972), ((5, 234), (83, false), 976), ((5, 212), (57, false), 980), ((5, 116), (23, false), 981), ((5, 245), (84, false), 982), ((5, 216), (71, false), 986), ((5, 239), (59, false), 987), ((5, 242), (85, false), 988), ((2, 88), (86, false), 992), ((2, 171), (87, false), 996), ((3, 88), (58, false), 1000), ((2, 91), (88, false), 1001), ((2, 174), (80, false), 1005), ((2, 94), (89, false), 1006), ((2, 97), (90, false), 1010), ((2, 177), (54, false), 1014), ((2, 180), (56, false), 1015), ((2, 183), (91, false), 1016), ((2, 201), (57, false), 1020), ((2, 209), (71, false), 1021), ((2, 186), (92, false), 1022), ((2, 189), (81, false), 1026), ((2, 192), (82, false), 1027), ((2, 195), (93, false), 1028), ((2, 213), (94, false), 1032), ((2, 198), (85, false), 1036), ((2, 100), (95, false), 1037), ((2, 216), (96, false), 1041), ((2, 226), (97, false), 1045), ((10, 28), (26, false), 1049), ((2, 229), (98, false), 1050), ((10, 34), (24, false), 1054), ((10, 38), (99, false), 1055), ((2, 232), (100, false), 1058), ((2, 239), (60, false), 1062), ((2, 220), (101, false), 1063), ((2, 223), (45, false), 1067), ((2, 103), (102, false), 1068), ((2, 245), (103, false), 1072), ((2, 248), (104, false), 1076), ((2, 251), (105, false), 1080), ((2, 257), (55, false), 1084), ((2, 254), (84, false), 1085), ((2, 106), (106, false), 1086), ((2, 260), (107, false), 1090), ((2, 277), (5, false), 1094), ((2, 263), (108, false), 1095), ((2, 267), (109, false), 1099), ((2, 270), (110, false), 1103), ((2, 274), (111, false), 1107), ((7, 19), (112, false), 1111), ((7, 45), (109, false), 1115), ((7, 58), (113, false), 1122), ((7, 94), (114, false), 1126), ((7, 98), (115, false), 1130), ((7, 101), (116, false), 1134), ((7, 104), (117, false), 1138), ((7, 61), (118, false), 1143), ((7, 72), (119, false), 1147), ((7, 108), (120, false), 1151), ((7, 111), (121, false), 1155), ((7, 123), (122, false), 1159), ((7, 127), (123, false), 1163), ((7, 117), (124, false), 1167), ((7, 114), (125, false), 1171), ((7, 120), (126, false), 1175), ((7, 75), (108, false), 1179), ((7, 78), (127, false), 1180), ((7, 82), (128, false), 1184), ((7, 85), (129, false), 1188), ((7, 88), (130, false), 1192), ((7, 91), (131, false), 1196), ((7, 133), (132, false), 1200), ((7, 130), (133, false), 1204), ((7, 136), (134, false), 1208), ((11, 87), (22, false), 1212), ((11, 90), (23, false), 1213), ((11, 94), (135, false), 1214), ((5, 65), (136, false), 1218), ((5, 82), (60, false), 1222), ((5, 86), (137, false), 1223), ((5, 108), (69, false), 1227), ((5, 93), (138, false), 1228), ((5, 112), (139, false), 1232), ((5, 122), (24, false), 1236), ((5, 127), (140, false), 1237), ((5, 149), (141, false), 1241), ((1, 26), (53, false), 1245), ((5, 131), (142, false), 1246), ((5, 153), (27, false), 1250), ((5, 157), (28, false), 1251), ((5, 161), (13, false), 1252), ((5, 167), (143, false), 1253), ((5, 134), (144, false), 1258), ((5, 175), (26, false), 1262), ((5, 179), (145, false), 1263), ((5, 185), (146, false), 1267), ((5, 188), (29, false), 1271), ((5, 140), (147, false), 1272), ((5, 191), (68, false), 1276), ((5, 194), (70, false), 1277), ((5, 200), (92, false), 1278), ((5, 203), (74, false), 1279), ((5, 219), (148, false), 1280), ((1, 71), (149, false), 1284), ((5, 143), (150, false), 1287), ((5, 222), (79, false), 1291), ((5, 225), (151, false), 1292), ((5, 249), (78, false), 1296), ((5, 252), (152, false), 1297), ((0, 62), (153, false), 1301), ((0, 69), (94, false), 1305), ((5, 257), (66, false), 1306), ((5, 260), (154, false), 1307), ((5, 228), (155, false), 1311), ((5, 263), (156, false), 1315), ((5, 266), (157, false), 1321), ((5, 270), (158, false), 1325), ((5, 277), (159, false), 1329), ((13, 23), (160, false), 1333), ((11, 98), (161, false), 1337), ((5, 337), (162, false), 1341), ((5, 341), (163, false), 1345), ((0, 65), (156, false), 1349), ((5, 344), (164, false), 1350), ((5, 347), (165, false), 1354), ((13, 27), (166, false), 1358), ((11, 105), (167, false), 1362), ((5, 69), (31, false), 1366), ((11, 108), (136, false), 1367), ((13, 32), (168, false), 1368), ((11, 111), (169, false), 1372), ((9, 48), (170, false), 1376), ((9, 52), (171, false), 1380), ((9, 55), (172, false), 1384), ((9, 58), (173, false), 1388), ((9, 62), (174, false), 1392), ((9, 65), (175, false), 1396), ((9, 69), (176, false), 1419), ((16, 335), (177, false), 1423), ((9, 73), (178, false), 1429), ((16, 492), (179, false), 1433), ((16, 495), (180, false), 1437), ((17, 9), (181, false), 1440), ((16, 1059), (182, false), 1445), ((16, 498), (183, false), 1448), ((18, 67), (184, false), 1451), ((18, 48), (185, false), 1454), ((18, 414), (181, false), 1457), ((18, 71), (186, false), 1458), ((11, 118), (187, false), 1467), ((5, 284), (188, false), 1471), ((5, 293), (189, false), 1475), ((5, 299), (190, false), 1479), ((5, 305), (191, false), 1483), ((5, 314), (192, false), 1487), ((5, 308), (193, false), 1491), ((5, 318), (194, false), 1495), ((5, 320), (195, false), 1499), ((1, 77), (192, false), 1503), ((5, 323), (196, false), 1504), ((5, 328), (178, false), 1509), ((5, 311), (197, false), 1510), ((5, 334), (198, false), 1514), ((5, 296), (199, false), 1518), ((13, 36), (200, false), 1523), ((13, 40), (201, false), 1527), ((11, 134), (139, false), 1531), ((13, 44), (202, false), 1532), ((11, 158), (33, false), 1536), ((11, 162), (203, false), 1537), ((11, 167), (204, false), 1541), ((8, 28), (205, false), 1545), ((13, 48), (206, false), 1549), ((11, 170), (207, false), 1553), ((13, 53), (208, false), 1557), ((13, 58), (209, false), 1561), ((11, 177), (31, false), 1565), ((11, 180), (45, false), 1566), ((11, 183), (210, false), 1567), ((7, 13), (53, false), 1571), ((13, 62), (211, false), 1572), ((11, 186), (109, false), 1576), ((13, 17), (212, false), 1577), ((12, 257), (213, false), 1581), ((13, 22), (214, false), 1586), ((12, 263), (215, false), 1590), ((12, 266), (216, false), 1594), ((12, 269), (217, false), 1598), ((12, 239), (218, false), 1602), ((12, 113), (219, false), 1606), ((12, 272), (220, false), 1610), ((12, 537), (221, false), 1614), ((12, 540), (222, false), 1618), ((12, 107), (223, false), 1622), ((12, 87), (224, false), 1626), ((12, 21), (225, false), 1630), ((12, 46), (226, false), 1633), ((12, 60), (227, false), 1637), ((12, 56), (228, false), 1641), ((12, 100), (229, false), 1645), ((12, 121), (230, false), 1649), ((12, 77), (231, false), 1653), ((12, 80), (232, false), 1657), ((12, 68), (233, false), 1660), ((12, 180), (234, false), 1663), ((12, 148), (235, false), 1667), ((12, 110), (236, false), 1671), ((12, 96), (237, false), 1675), ((12, 83), (238, false), 1679), ((12, 117), (239, false), 1683), ((12, 543), (240, false), 1687), ((12, 584), (241, false), 1691), ((12, 1), (242, false), 1695), ((12, 174), (243, false), 1698), ((12, 161), (244, false), 1702), ((12, 165), (245, false), 1705), ((12, 590), (246, false), 1709), ((12, 593), (247, false), 1713), ((12, 223), (248, false), 1717), ((12, 152), (249, false), 1721), ((12, 134), (250, false), 1725), ((12, 128), (251, false), 1729), ((12, 138), (252, false), 1733), ((12, 596), (253, false), 1737), ((12, 189), (254, false), 1741), ((12, 546), (255, false), 1745), ((12, 549), (256, false), 1749), ((12, 332), (257, false), 1753), ((12, 578), (258, false), 1757), ((12, 581), (259, false), 1761), ((12, 552), (260, false), 1765), ((12, 325), (261, false), 1769), ((12, 204), (262, false), 1773), ((12, 208), (263, false), 1776), ((12, 335), (264, false), 1779), ((12, 220), (265, false), 1783), ((12, 183), (266, false), 1787), ((12, 555), (267, false), 1791), ((12, 558), (268, false), 1795), ((12, 608), (269, false), 1799), ((12, 611), (270, false), 1803), ((12, 605), (271, false), 1807), ((12, 562), (272, false), 1810), ((12, 566), (273, false), 1814), ((12, 569), (274, false), 1818), ((12, 572), (275, false), 1822), ((12, 575), (276, false), 1826), ((12, 617), (277, false), 1830), ((12, 620), (278, false), 1834), ((12, 623), (279, false), 1838), ((12, 650), (280, false), 1842), ((12, 696), (281, false), 1846), ((12, 672), (282, false), 1850), ((12, 675), (283, false), 1853), ((12, 653), (284, false), 1857), ((12, 663), (285, false), 1861), ((12, 678), (286, false), 1865), ((12, 681), (287, false), 1868), ((12, 669), (288, false), 1872), ((12, 656), (289, false), 1876), ((12, 684), (290, false), 1880), ((12, 666), (291, false), 1884), ((12, 687), (292, false), 1888), ((12, 690), (293, false), 1892), ((12, 699), (294, false), 1896), ((12, 693), (295, false), 1900), ((12, 704), (296, false), 1904), ((12, 707), (297, false), 1908), ((12, 710), (298, false), 1912), ((12, 713), (299, false), 1916), ((12, 702), (300, false), 1920), ((12, 716), (301, false), 1924), ((12, 720), (302, false), 1928), ((12, 723), (303, false), 1932), ((12, 726), (304, false), 1936), ((12, 729), (305, false), 1940), ((12, 732), (306, false), 1944), ((12, 275), (307, false), 1948), ((12, 278), (308, false), 1952), ((12, 281), (309, false), 1956), ((12, 290), (310, false), 1960), ((12, 293), (311, false), 1964), ((12, 311), (312, false), 1968), ((12, 338), (313, false), 1972), ((12, 171), (314, false), 1976), ((12, 177), (315, false), 1980), ((12, 168), (316, false), 1984), ((12, 365), (317, false), 1987), ((12, 315), (318, false), 1991), ((12, 329), (319, false), 1995), ((13, 31), (320, false), 1999), ((13, 35), (321, false), 2003), ((12, 377), (322, false), 2007), ((12, 395), (323, false), 2011), ((12, 380), (324, false), 2015), ((12, 487), (325, false), 2019), ((12, 406), (326, false), 2023), ((12, 490), (327, false), 2027), ((12, 411), (328, false), 2032), ((12, 383), (329, false), 2073), ((12, 386), (330, false), 2077), ((12, 496), (331, false), 2081), ((12, 499), (332, false), 2085), ((12, 514), (333, false), 2089), ((12, 520), (334, false), 2093), ((12, 517), (335, false), 2097), ((12, 389), (336, false), 2102), ((13, 39), (337, false), 2106), ((13, 26), (338, false), 2110), ((12, 525), (339, false), 2114), ((12, 528), (340, false), 2118), ((12, 531), (341, false), 2122), ((12, 534), (342, false), 2126), ((13, 43), (343, false), 2130), ((13, 47), (344, false), 2134), ((12, 735), (345, false), 2138), ((13, 52), (346, false), 2141), ((13, 57), (347, false), 2145), ((13, 65), (348, false), 2149), ((13, 61), (349, false), 2153), ((13, 12), (350, false), 2158), ((11, 9), (1, true), 222), ((11, 18), (2, true), 245), ((11, 34), (6, true), 372), ((5, 25), (8, true), 424), ((5, 60), (11, true), 500), ((1, 21), (8, true), 505), ((2, 11), (8, true), 621)]
def rx_host : String := "RingDrive"
def rx_OLs : List ((Nat × Nat) × Nat) := [((11, 1), 217), ((10, 3), 225), ((9, 3), 248), ((4, 3), 292), ((8, 3), 303), ((7, 3), 375), ((5, 3), 419), ((6, 1), 427), ((0, 1), 440), ((3, 1), 464), ((1, 1), 503), ((2, 3), 619), ((12, 738), 2161)]
def rx_YLs : List ((Nat × Nat) × Nat) := [((4, 115), 930), ((6, 29), 1257)]
def rx_cf : List (Nat → FieldType) := [tyX0, tyX1, tyX2, tyX3, tyX4, tyX5, tyX6, tyX7, tyX8, tyX9, tyX10, tyX11, tyX12]
end
section
/-! what the tables of part 01 say is among the Statement's words -/
def rx_lk {α : Type} : List ((Nat × Nat) × α) → Nat → Nat → Option α
  | [], _, _ => none
  | q :: t, c, i => if q.1.1 = c ∧ q.1.2 = i then some q.2 else rx_lk t c i
theorem rx_lk_mem {α : Type} {t : List ((Nat × Nat) × α)} {c i : Nat} {a : α} (h : rx_lk t c i = some a) : ((c, i), a) ∈ t := by
  induction t with
  | nil => cases h
  | cons q t ih =>
    unfold rx_lk at h
    split at h
    · next e =>
      obtain ⟨⟨q1, q2⟩, q3⟩ := q
      obtain ⟨e1, e2⟩ := e
      subst e1; subst e2
      cases h
      exact List.mem_cons_self
    · exact List.mem_cons_of_mem _ (ih h)
theorem rx_has_mem {i : Nat} {w : Cond} (h : rx_has i w = true) : w ∈ rx_Ts := by
  unfold rx_has at h
  simp only [Bool.and_eq_true, decide_eq_true_eq] at h
  exact List.mem_filter.mpr ⟨List.mem_of_getElem? h.1, h.2⟩
def rx_fchk (q : (Nat × Nat) × (Nat × Nat × FieldType × Bool) × Nat) : Bool := match vwCl[q.2.1.1]? with
  | some (C, T, N) => decide (q.2.1.2.1 < N) && rx_has q.2.2 (.fieldLink (rx_cn q.1.1) q.1.2 (T q.2.1.2.1).1 (T q.2.1.2.1).2.1 (T q.2.1.2.1).2.2.1) && decide (parseFieldDescriptor (T q.2.1.2.1).2.2.1 = some q.2.1.2.2.1) && decide ((T q.2.1.2.1).2.2.2 = q.2.1.2.2.2) && decide ((T q.2.1.2.1).1 = C)
  | none => false
set_option maxRecDepth 100000 in
theorem rx_fchk_all : rx_FLs.all rx_fchk = true := by decide +kernel
theorem rx_FL_ok {co idx ci k : Nat} {ty : FieldType} {fin : Bool} {pos : Nat} (h : rx_lk rx_FLs co idx = some ((ci, k, ty, fin), pos)) : ∃ (C : String) (T : u_T) (N : Nat), vwCl[ci]? = some (C, T, N) ∧ k < N ∧ Cond.fieldLink (rx_cn co) idx (T k).1 (T k).2.1 (T k).2.2.1 ∈ rx_Ts ∧ parseFieldDescriptor (T k).2.2.1 = some ty ∧ (T k).2.2.2 = fin ∧ (T k).1 = C := by
  have h1 := List.all_eq_true.mp rx_fchk_all _ (rx_lk_mem h)
  unfold rx_fchk at h1
  dsimp only at h1
  split at h1
  · next C T N hc =>
    simp only [Bool.and_eq_true, decide_eq_true_eq] at h1
    exact ⟨C, T, N, hc, h1.1.1.1.1, rx_has_mem h1.1.1.1.2, h1.1.1.2, h1.1.2, h1.2⟩
  · cases h1
def rx_CW (ci : Nat) (C : String) (T : u_T) (N : Nat) : Prop := (∀ w ∈ u_ws C T N, w ∈ rx_Ts) ∧ (∃ ty0, rx_cf[ci]? = some ty0 ∧ ∀ k, k < N → parseFieldDescriptor (T k).2.2.1 = some (ty0 k)) ∧ (∀ a, a < N → ∀ b, b < N → a ≠ b → (T a).2.1 ≠ (T b).2.1) ∧ Cond.instantiable C N ∈ rx_Ts ∧ Cond.initialized C ∈ rx_Ts
def rx_in2 (ws : List Cond) : Bool := ws.all (fun w => decide (w ∈ tables_1) && goodWord w)
theorem rx_in2_mem {ws : List Cond} (h : rx_in2 ws = true) : ∀ w ∈ ws, w ∈ rx_Ts := by
  intro w hw
  have h1 := List.all_eq_true.mp h w hw
  simp only [Bool.and_eq_true, decide_eq_true_eq] at h1
  exact List.mem_filter.mpr ⟨List.mem_append_right _ h1.1, h1.2⟩
set_option maxRecDepth 100000 in
theorem rx_CW0 : rx_CW 0 RX0 TX0 4 := ⟨rx_in2_mem (by decide +kernel), ⟨tyX0, rfl, tyX0_ok⟩, nmX0, rx_in2_mem (ws := [Cond.instantiable RX0 4]) (by decide +kernel) _ List.mem_cons_self, rx_in2_mem (ws := [Cond.initialized RX0]) (by decide +kernel) _ List.mem_cons_self⟩
set_option maxRecDepth 100000 in
theorem rx_CW1 : rx_CW 1 RX1 TX1 16 := ⟨rx_in2_mem (by decide +kernel), ⟨tyX1, rfl, tyX1_ok⟩, nmX1, rx_in2_mem (ws := [Cond.instantiable RX1 16]) (by decide +kernel) _ List.mem_cons_self, rx_in2_mem (ws := [Cond.initialized RX1]) (by decide +kernel) _ List.mem_cons_self⟩
set_option maxRecDepth 100000 in
theorem rx_CW2 : rx_CW 2 RX2 TX2 10 := ⟨rx_in2_mem (by decide +kernel), ⟨tyX2, rfl, tyX2_ok⟩, nmX2, rx_in2_mem (ws := [Cond.instantiable RX2 10]) (by decide +kernel) _ List.mem_cons_self, rx_in2_mem (ws := [Cond.initialized RX2]) (by decide +kernel) _ List.mem_cons_self⟩
set_option maxRecDepth 100000 in
theorem rx_CW3 : rx_CW 3 RX3 TX3 9 := ⟨rx_in2_mem (by decide +kernel), ⟨tyX3, rfl, tyX3_ok⟩, nmX3, rx_in2_mem (ws := [Cond.instantiable RX3 9]) (by decide +kernel) _ List.mem_cons_self, rx_in2_mem (ws := [Cond.initialized RX3]) (by decide +kernel) _ List.mem_cons_self⟩
set_option maxRecDepth 100000 in
theorem rx_CW4 : rx_CW 4 RX4 TX4 10 := ⟨rx_in2_mem (by decide +kernel), ⟨tyX4, rfl, tyX4_ok⟩, nmX4, rx_in2_mem (ws := [Cond.instantiable RX4 10]) (by decide +kernel) _ List.mem_cons_self, rx_in2_mem (ws := [Cond.initialized RX4]) (by decide +kernel) _ List.mem_cons_self⟩
set_option maxRecDepth 100000 in
theorem rx_CW5 : rx_CW 5 RX5 TX5 12 := ⟨rx_in2_mem (by decide +kernel), ⟨tyX5, rfl, tyX5_ok⟩, nmX5, rx_in2_mem (ws := [Cond.instantiable RX5 12]) (by decide +kernel) _ List.mem_cons_self, rx_in2_mem (ws := [Cond.initialized RX5]) (by decide +kernel) _ List.mem_cons_self⟩
set_option maxRecDepth 100000 in
theorem rx_CW6 : rx_CW 6 RX6 TX6 2 := ⟨rx_in2_mem (by decide +kernel), ⟨tyX6, rfl, tyX6_ok⟩, nmX6, rx_in2_mem (ws := [Cond.instantiable RX6 2]) (by decide +kernel) _ List.mem_cons_self, rx_in2_mem (ws := [Cond.initialized RX6]) (by decide +kernel) _ List.mem_cons_self⟩
set_option maxRecDepth 100000 in
theorem rx_CW7 : rx_CW 7 RX7 TX7 10 := ⟨rx_in2_mem (by decide +kernel), ⟨tyX7, rfl, tyX7_ok⟩, nmX7, rx_in2_mem (ws := [Cond.instantiable RX7 10]) (by decide +kernel) _ List.mem_cons_self, rx_in2_mem (ws := [Cond.initialized RX7]) (by decide +kernel) _ List.mem_cons_self⟩
set_option maxRecDepth 100000 in
theorem rx_CW8 : rx_CW 8 RX8 TX8 8 := ⟨rx_in2_mem (by decide +kernel), ⟨tyX8, rfl, tyX8_ok⟩, nmX8, rx_in2_mem (ws := [Cond.instantiable RX8 8]) (by decide +kernel) _ List.mem_cons_self, rx_in2_mem (ws := [Cond.initialized RX8]) (by decide +kernel) _ List.mem_cons_self⟩
set_option maxRecDepth 100000 in
theorem rx_CW9 : rx_CW 9 RX9 TX9 10 := ⟨rx_in2_mem (by decide +kernel), ⟨tyX9, rfl, tyX9_ok⟩, nmX9, rx_in2_mem (ws := [Cond.instantiable RX9 10]) (by decide +kernel) _ List.mem_cons_self, rx_in2_mem (ws := [Cond.initialized RX9]) (by decide +kernel) _ List.mem_cons_self⟩
set_option maxRecDepth 100000 in
theorem rx_CW10 : rx_CW 10 RX10 TX10 4 := ⟨rx_in2_mem (by decide +kernel), ⟨tyX10, rfl, tyX10_ok⟩, nmX10, rx_in2_mem (ws := [Cond.instantiable RX10 4]) (by decide +kernel) _ List.mem_cons_self, rx_in2_mem (ws := [Cond.initialized RX10]) (by decide +kernel) _ List.mem_cons_self⟩
set_option maxRecDepth 100000 in
theorem rx_CW11 : rx_CW 11 RX11 TX11 9 := ⟨rx_in2_mem (by decide +kernel), ⟨tyX11, rfl, tyX11_ok⟩, nmX11, rx_in2_mem (ws := [Cond.instantiable RX11 9]) (by decide +kernel) _ List.mem_cons_self, rx_in2_mem (ws := [Cond.initialized RX11]) (by decide +kernel) _ List.mem_cons_self⟩
set_option maxRecDepth 100000 in
theorem rx_CW12 : rx_CW 12 RX12 TX12 84 := ⟨rx_in2_mem (by decide +kernel), ⟨tyX12, rfl, tyX12_ok⟩, nmX12, rx_in2_mem (ws := [Cond.instantiable RX12 84]) (by decide +kernel) _ List.mem_cons_self, rx_in2_mem (ws := [Cond.initialized RX12]) (by decide +kernel) _ List.mem_cons_self⟩
theorem rx_cl_ok {ci : Nat} {C : String} {T : u_T} {N : Nat} (h : vwCl[ci]? = some (C, T, N)) : rx_CW ci C T N := by
  match ci, h with
  | 0, h => cases h; exact rx_CW0
  | 1, h => cases h; exact rx_CW1
  | 2, h => cases h; exact rx_CW2
  | 3, h => cases h; exact rx_CW3
  | 4, h => cases h; exact rx_CW4
  | 5, h => cases h; exact rx_CW5
  | 6, h => cases h; exact rx_CW6
  | 7, h => cases h; exact rx_CW7
  | 8, h => cases h; exact rx_CW8
  | 9, h => cases h; exact rx_CW9
  | 10, h => cases h; exact rx_CW10
  | 11, h => cases h; exact rx_CW11
  | 12, h => cases h; exact rx_CW12
  | k + 13, h => simp [vwCl] at h
end
section
/-! AN ENGINE: a small machine over abstract cells that is run by a function; what it does, the machine does. PART 1: what touches no cell. -/
abbrev rx_L : Type := List (Nat × Value)
def rx_v (ad : Nat → Nat) : Value → Value
  | .ref k => .ref (ad k)
  | v => v
def rx_l (ad : Nat → Nat) (l : rx_L) : rx_L := l.map (fun q => (q.1, rx_v ad q.2))
def rx_gi : rx_L → Nat → Option Value
  | [], _ => none
  | q :: l, i => if q.1 = i then some q.2 else rx_gi l i
def rx_si (l : rx_L) (i : Nat) (v : Value) : rx_L := (i, v) :: l.filter (fun q => !(q.1 == i) && !(q.1 + 1 == i && q.2.category == 2))
def rx_tg (pc : Nat) (off : Int) : Option Nat := if 0 ≤ (pc : Int) + off then some ((pc : Int) + off).toNat else none
def rx_go (pc : Nat) (off : Int) (l : rx_L) (st : List Value) : Option (Nat × rx_L × List Value) := match rx_tg pc off with
  | some t => some (t, l, st)
  | none => none
def rx_ld (l : rx_L) (i n : Nat) (st : List Value) : Option (Nat × rx_L × List Value) := match rx_gi l i with
  | some (.int x) => some (n, l, .int x :: st)
  | _ => none
def rx_ldl (l : rx_L) (i n : Nat) (st : List Value) : Option (Nat × rx_L × List Value) := match rx_gi l i with
  | some (.long x) => some (n, l, .long x :: st)
  | _ => none
def rx_lda (l : rx_L) (i n : Nat) (st : List Value) : Option (Nat × rx_L × List Value) := match rx_gi l i with
  | some (.ref x) => some (n, l, .ref x :: st)
  | some .null => some (n, l, .null :: st)
  | _ => none
def rx_sti (nL : Nat) (l : rx_L) (i n : Nat) (st : List Value) : Option (Nat × rx_L × List Value) := match st with
  | .int x :: r => if i < nL then some (n, rx_si l i (.int x), r) else none
  | _ => none
def rx_sta (nL : Nat) (l : rx_L) (i n : Nat) (st : List Value) : Option (Nat × rx_L × List Value) := match st with
  | .ref x :: r => if i < nL then some (n, rx_si l i (.ref x), r) else none
  | .null :: r => if i < nL then some (n, rx_si l i .null, r) else none
  | _ => none
def rx_inc (nL : Nat) (l : rx_L) (i n : Nat) (d : Int) (st : List Value) : Option (Nat × rx_L × List Value) := match rx_gi l i with
  | some (.int x) => if i < nL then some (n, rx_si l i (.int (x + Int32.ofInt d)), st) else none
  | _ => none
def rx_ii (f : Int32 → Int32 → Int32) (n : Nat) (l : rx_L) (st : List Value) : Option (Nat × rx_L × List Value) := match st with
  | .int y :: .int x :: r => some (n, l, .int (f x y) :: r)
  | _ => none
def rx_id (f : Int32 → Int32 → Int32) (n : Nat) (l : rx_L) (st : List Value) : Option (Nat × rx_L × List Value) := match st with
  | .int y :: .int x :: r => if y = 0 then none else some (n, l, .int (f x y) :: r)
  | _ => none
def rx_b1 (P : Int32 → Bool) (pc : Nat) (off : Int) (l : rx_L) (st : List Value) : Option (Nat × rx_L × List Value) := match st with
  | .int x :: r => match rx_tg pc off with
    | some t => if P x then some (t, l, r) else some (pc + 3, l, r)
    | none => none
  | _ => none
def rx_b2 (P : Int32 → Int32 → Bool) (pc : Nat) (off : Int) (l : rx_L) (st : List Value) : Option (Nat × rx_L × List Value) := match st with
  | .int y :: .int x :: r => match rx_tg pc off with
    | some t => if P x y then some (t, l, r) else some (pc + 3, l, r)
    | none => none
  | _ => none
def rx_c1 : ClassFile.Cond → Int32 → Bool
  | .eq, x => decide (x = 0)
  | .ne, x => decide (¬ x = 0)
  | .lt, x => decide (x < 0)
  | .ge, x => decide (0 ≤ x)
  | .gt, x => decide (0 < x)
  | .le, x => decide (x ≤ 0)
def rx_c2 : ClassFile.Cond → Int32 → Int32 → Bool
  | .eq, x, y => decide (x = y)
  | .ne, x, y => decide (¬ x = y)
  | .lt, x, y => decide (x < y)
  | .ge, x, y => decide (y ≤ x)
  | .gt, x, y => decide (y < x)
  | .le, x, y => decide (x ≤ y)
def rx_tsw (pc : Nat) (d lo hi : Int) (offs : Array Int) (l : rx_L) (st : List Value) : Option (Nat × rx_L × List Value) := match st with
  | .int x :: r => if x.toInt < lo ∨ hi < x.toInt then rx_go pc d l r else match offs[(x.toInt - lo).toNat]? with
    | some o => rx_go pc o l r
    | none => none
  | _ => none
def rx_lsw (pc : Nat) (d : Int) (ps : Array (Int × Int)) (l : rx_L) (st : List Value) : Option (Nat × rx_L × List Value) := match st with
  | .int x :: r => if (ps.toList.zip (ps.toList.drop 1)).all (fun (a, next) => a.1 < next.1) = true then rx_go pc (Op.lookupswitch.offset ps.toList d x.toInt) l r else none
  | _ => none
def rx_pure (nL : Nat) (i : Instr) (len pc : Nat) (l : rx_L) (st : List Value) : Option (Nat × rx_L × List Value) := match i, len with
  | .iconst n, 1 => some (pc + 1, l, .int (Int32.ofInt n) :: st)
  | .bipush n, 2 => some (pc + 2, l, .int (Int8.ofInt n).toInt32 :: st)
  | .sipush n, 3 => some (pc + 3, l, .int (Int16.ofInt n).toInt32 :: st)
  | .aconst_null, 1 => some (pc + 1, l, .null :: st)
  | .iload_n k, 1 => rx_ld l k (pc + 1) st
  | .iload k, 2 => rx_ld l k (pc + 2) st
  | .lload_n k, 1 => rx_ldl l k (pc + 1) st
  | .aload_n k, 1 => rx_lda l k (pc + 1) st
  | .aload k, 2 => rx_lda l k (pc + 2) st
  | .istore_n k, 1 => rx_sti nL l k (pc + 1) st
  | .istore k, 2 => rx_sti nL l k (pc + 2) st
  | .astore_n k, 1 => rx_sta nL l k (pc + 1) st
  | .astore k, 2 => rx_sta nL l k (pc + 2) st
  | .iinc k d, 3 => rx_inc nL l k (pc + 3) d st
  | .iadd, 1 => rx_ii (fun x y => x + y) (pc + 1) l st
  | .isub, 1 => rx_ii (fun x y => x - y) (pc + 1) l st
  | .imul, 1 => rx_ii (fun x y => x * y) (pc + 1) l st
  | .iand, 1 => rx_ii (fun x y => x &&& y) (pc + 1) l st
  | .ior, 1 => rx_ii (fun x y => x ||| y) (pc + 1) l st
  | .ixor, 1 => rx_ii (fun x y => x ^^^ y) (pc + 1) l st
  | .ishl, 1 => rx_ii (fun x y => x <<< (y &&& 31)) (pc + 1) l st
  | .ishr, 1 => rx_ii (fun x y => x >>> (y &&& 31)) (pc + 1) l st
  | .idiv, 1 => rx_id (fun x y => x / y) (pc + 1) l st
  | .irem, 1 => rx_id (fun x y => x - x / y * y) (pc + 1) l st
  | .i2b, 1 => match st with
    | .int x :: r => some (pc + 1, l, .int x.toInt8.toInt32 :: r)
    | _ => none
  | .i2c, 1 => match st with
    | .int x :: r => some (pc + 1, l, .int (x.toUInt32 % 65536).toInt32 :: r)
    | _ => none
  | .l2i, 1 => match st with
    | .long x :: r => some (pc + 1, l, .int x.toInt32 :: r)
    | _ => none
  | .land, 1 => match st with
    | .long y :: .long x :: r => some (pc + 1, l, .long (x &&& y) :: r)
    | _ => none
  | .lshr, 1 => match st with
    | .int y :: .long x :: r => some (pc + 1, l, .long (x >>> (y.toInt64 &&& 63)) :: r)
    | _ => none
  | .dup, 1 => match st with
    | v :: r => if v.category = 1 then some (pc + 1, l, v :: v :: r) else none
    | _ => none
  | .pop, 1 => match st with
    | v :: r => if v.category = 1 then some (pc + 1, l, r) else none
    | _ => none
  | .dup2, 1 => match st with
    | v :: w :: r => if v.category = 1 ∧ w.category = 1 then some (pc + 1, l, v :: w :: v :: w :: r) else none
    | _ => none
  | .ifCond c off, 3 => rx_b1 (rx_c1 c) pc off l st
  | .if_icmp c off, 3 => rx_b2 (rx_c2 c) pc off l st
  | .goto off, 3 => rx_go pc off l st
  | .ifnull off, 3 => match st with
    | .ref _ :: r => some (pc + 3, l, r)
    | .null :: r => rx_go pc off l r
    | _ => none
  | .ifnonnull off, 3 => match st with
    | .ref _ :: r => rx_go pc off l r
    | .null :: r => some (pc + 3, l, r)
    | _ => none
  | .tableswitch d lo hi offs, _ => rx_tsw pc d lo hi offs l st
  | .lookupswitch d ps, _ => rx_lsw pc d ps l st
  | _, _ => none
theorem rx_cat (ad : Nat → Nat) (v : Value) : (rx_v ad v).category = v.category := by cases v <;> rfl
theorem rx_l_at {ad : Nat → Nat} {ls : Array Slot} {nL i : Nat} {l : rx_L} {v : Value} (hl : lv_has ls nL (rx_l ad l)) (h : rx_gi l i = some v) : ls[i]? = some (.val (rx_v ad v)) := by
  have : (i, v) ∈ l := by
    clear hl
    induction l with
    | nil => cases h
    | cons q l ih =>
      unfold rx_gi at h
      split at h
      · next he => subst he; cases h; exact List.mem_cons_self
      · exact List.mem_cons_of_mem _ (ih h)
  exact hl.2.2 (i, rx_v ad v) (List.mem_map.mpr ⟨(i, v), this, rfl⟩)
theorem rx_l_si (ad : Nat → Nat) (l : rx_L) (i : Nat) (v : Value) : (i, rx_v ad v) :: (rx_l ad l).filter (fun q => !(q.1 == i) && !(q.1 + 1 == i && q.2.category == 2)) = rx_l ad (rx_si l i v) := by
  simp only [rx_l, rx_si, List.map_cons, List.filter_map, Function.comp_def, rx_cat]
theorem rx_tg_eq {pc t : Nat} {off : Int} (h : rx_tg pc off = some t) : (pc : Int) + off = (t : Int) := by
  unfold rx_tg at h
  split at h
  · cases h; omega
  · cases h
theorem rx_go_eq {pc t : Nat} {off : Int} {l l' : rx_L} {st st' : List Value} (h : rx_go pc off l st = some (t, l', st')) : (pc : Int) + off = (t : Int) ∧ l' = l ∧ st' = st := by
  unfold rx_go at h
  split at h
  · next e => cases h; exact ⟨rx_tg_eq e, rfl, rfl⟩
  · cases h
end
section
/-! the machine does what rx_pure does -/
section RXP
variable {p : Program} {l : Launch} {e : Env} {R : Room} {s : State} {m : MethodId} {args : Array Value} {below : List Frame} {meth : Method} {c : Code} {H : Heap} {locs : List Loc} {cells slots : Nat} {Q : State → Prop}
variable {cc : ByteArray} {pc pc' nL len : Nat} {ls : Array Slot} {ad : Nat → Nat} {lv lv' : rx_L} {st st' : List Value}
/-- the goal behind an instruction -/
def rx_K (p : Program) (l : Launch) (e : Env) (R : Room) (s : State) (m : MethodId) (args : Array Value) (below : List Frame) (meth : Method) (c : Code) (H : Heap) (locs : List Loc) (cells slots : Nat) (Q : State → Prop) (ad : Nat → Nat) (nL pc : Nat) (lv : rx_L) (st : List Value) : Prop :=
  ∀ ls : Array Slot, lv_has ls nL (rx_l ad lv) → W p l e R s m args below meth c H locs cells slots Q (F0 m pc ls (st.map (rx_v ad)))
theorem rx_k_ld (hx : p.tables.exec = Jvm.exec) (hb : c.code = cc) {i n : Nat} (hs : rx_ld lv i n st = some (pc', lv', st')) (kk : rx_K p l e R s m args below meth c H locs cells slots Q ad nL pc' lv' st') (hl : lv_has ls nL (rx_l ad lv)) :
    ∃ x : Int32, ls[i]? = some (.val (.int x)) ∧ W p l e R s m args below meth c H locs cells slots Q (F0 m n ls (.int x :: st.map (rx_v ad))) := by
  unfold rx_ld at hs
  split at hs
  · next x hg => cases hs; exact ⟨x, rx_l_at hl hg, kk ls hl⟩
  · cases hs
theorem rx_k_ldl (hx : p.tables.exec = Jvm.exec) (hb : c.code = cc) {i n : Nat} (hs : rx_ldl lv i n st = some (pc', lv', st')) (kk : rx_K p l e R s m args below meth c H locs cells slots Q ad nL pc' lv' st') (hl : lv_has ls nL (rx_l ad lv)) :
    ∃ x : Int64, ls[i]? = some (.val (.long x)) ∧ W p l e R s m args below meth c H locs cells slots Q (F0 m n ls (.long x :: st.map (rx_v ad))) := by
  unfold rx_ldl at hs
  split at hs
  · next x hg => cases hs; exact ⟨x, rx_l_at hl hg, kk ls hl⟩
  · cases hs
theorem rx_k_lda (hx : p.tables.exec = Jvm.exec) (hb : c.code = cc) {i n : Nat} (hs : rx_lda lv i n st = some (pc', lv', st')) (kk : rx_K p l e R s m args below meth c H locs cells slots Q ad nL pc' lv' st') (hl : lv_has ls nL (rx_l ad lv)) :
    (∃ x : Nat, ls[i]? = some (.val (.ref x)) ∧ W p l e R s m args below meth c H locs cells slots Q (F0 m n ls (.ref x :: st.map (rx_v ad)))) ∨ (ls[i]? = some (.val .null) ∧ W p l e R s m args below meth c H locs cells slots Q (F0 m n ls (.null :: st.map (rx_v ad)))) := by
  unfold rx_lda at hs
  split at hs
  · next x hg => cases hs; exact Or.inl ⟨ad x, rx_l_at hl hg, kk ls hl⟩
  · next hg => cases hs; exact Or.inr ⟨rx_l_at hl hg, kk ls hl⟩
  · cases hs
theorem rx_k_sti {i n : Nat} (hs : rx_sti nL lv i n st = some (pc', lv', st')) (kk : rx_K p l e R s m args below meth c H locs cells slots Q ad nL pc' lv' st') :
    ∃ (x : Int32) (r : List Value), st = .int x :: r ∧ i < nL ∧ ∀ ls : Array Slot, lv_has ls nL (rx_l ad (rx_si lv i (.int x))) → W p l e R s m args below meth c H locs cells slots Q (F0 m n ls (r.map (rx_v ad))) := by
  unfold rx_sti at hs
  split at hs
  · split at hs
    · next hi => cases hs; exact ⟨_, _, rfl, hi, fun ls hl => kk ls hl⟩
    · cases hs
  · cases hs
theorem rx_k_sta {i n : Nat} (hs : rx_sta nL lv i n st = some (pc', lv', st')) (kk : rx_K p l e R s m args below meth c H locs cells slots Q ad nL pc' lv' st') :
    i < nL ∧ ((∃ (x : Nat) (r : List Value), st = .ref x :: r ∧ ∀ ls : Array Slot, lv_has ls nL (rx_l ad (rx_si lv i (.ref x))) → W p l e R s m args below meth c H locs cells slots Q (F0 m n ls (r.map (rx_v ad)))) ∨
    (∃ (r : List Value), st = .null :: r ∧ ∀ ls : Array Slot, lv_has ls nL (rx_l ad (rx_si lv i .null)) → W p l e R s m args below meth c H locs cells slots Q (F0 m n ls (r.map (rx_v ad))))) := by
  unfold rx_sta at hs
  split at hs
  · split at hs
    · next hi => cases hs; exact ⟨hi, Or.inl ⟨_, _, rfl, fun ls hl => kk ls hl⟩⟩
    · cases hs
  · split at hs
    · next hi => cases hs; exact ⟨hi, Or.inr ⟨_, rfl, fun ls hl => kk ls hl⟩⟩
    · cases hs
  · cases hs
theorem rx_k_inc (hx : p.tables.exec = Jvm.exec) (hb : c.code = cc) {i : Nat} {d : Int} (hd : decode cc pc = .ok (.iinc i d, 3)) (hs : rx_inc nL lv i (pc + 3) d st = some (pc', lv', st')) (kk : rx_K p l e R s m args below meth c H locs cells slots Q ad nL pc' lv' st') (hl : lv_has ls nL (rx_l ad lv)) :
    W p l e R s m args below meth c H locs cells slots Q (F0 m pc ls (st.map (rx_v ad))) := by
  unfold rx_inc at hs
  split at hs
  · next x hg =>
    split at hs
    · next hi =>
      cases hs
      have hm : (i, Value.int x) ∈ rx_l ad lv := by
        have : ∀ l : rx_L, rx_gi l i = some (.int x) → (i, Value.int x) ∈ rx_l ad l := by
          intro l
          induction l with
          | nil => intro h; cases h
          | cons q l ih =>
            intro h
            unfold rx_gi at h
            split at h
            · next he => subst he; obtain ⟨q1, q2⟩ := q; cases h; exact List.mem_cons_self
            · exact List.mem_cons_of_mem _ (ih h)
        exact this lv hg
      obtain ⟨k, hk⟩ := List.getElem?_of_mem hm
      exact lv_iinc hx hb hd hl hk rfl hi (rx_l_si ad lv i (.int (x + Int32.ofInt d))) (fun ls hl => kk ls hl)
    · cases hs
  · cases hs
theorem rx_k_ii {f : Int32 → Int32 → Int32} {n : Nat} (hs : rx_ii f n lv st = some (pc', lv', st')) (kk : rx_K p l e R s m args below meth c H locs cells slots Q ad nL pc' lv' st') (hl : lv_has ls nL (rx_l ad lv)) :
    ∃ (x y : Int32) (r : List Value), st = .int y :: .int x :: r ∧ W p l e R s m args below meth c H locs cells slots Q (F0 m n ls (.int (f x y) :: r.map (rx_v ad))) := by
  unfold rx_ii at hs
  split at hs
  · cases hs; exact ⟨_, _, _, rfl, kk ls hl⟩
  · cases hs
theorem rx_k_id {f : Int32 → Int32 → Int32} {n : Nat} (hs : rx_id f n lv st = some (pc', lv', st')) (kk : rx_K p l e R s m args below meth c H locs cells slots Q ad nL pc' lv' st') (hl : lv_has ls nL (rx_l ad lv)) :
    ∃ (x y : Int32) (r : List Value), st = .int y :: .int x :: r ∧ ¬ y = 0 ∧ W p l e R s m args below meth c H locs cells slots Q (F0 m n ls (.int (f x y) :: r.map (rx_v ad))) := by
  unfold rx_id at hs
  split at hs
  · split at hs
    · cases hs
    · next hy => cases hs; exact ⟨_, _, _, rfl, hy, kk ls hl⟩
  · cases hs
theorem rx_k_b1 {P : Int32 → Bool} {off : Int} (hs : rx_b1 P pc off lv st = some (pc', lv', st')) (kk : rx_K p l e R s m args below meth c H locs cells slots Q ad nL pc' lv' st') (hl : lv_has ls nL (rx_l ad lv)) :
    ∃ (x : Int32) (r : List Value) (t : Nat), st = .int x :: r ∧ (pc : Int) + off = (t : Int) ∧ (P x = true → W p l e R s m args below meth c H locs cells slots Q (F0 m t ls (r.map (rx_v ad)))) ∧ (¬ P x = true → W p l e R s m args below meth c H locs cells slots Q (F0 m (pc + 3) ls (r.map (rx_v ad)))) := by
  unfold rx_b1 at hs
  split at hs
  · next x r =>
    split at hs
    · next t ht =>
      split at hs
      · next hp => cases hs; exact ⟨x, _, _, rfl, rx_tg_eq ht, fun _ => kk ls hl, fun h => absurd hp h⟩
      · next hp => cases hs; exact ⟨x, _, _, rfl, rx_tg_eq ht, fun h => absurd h hp, fun _ => kk ls hl⟩
    · cases hs
  · cases hs
theorem rx_k_b2 {P : Int32 → Int32 → Bool} {off : Int} (hs : rx_b2 P pc off lv st = some (pc', lv', st')) (kk : rx_K p l e R s m args below meth c H locs cells slots Q ad nL pc' lv' st') (hl : lv_has ls nL (rx_l ad lv)) :
    ∃ (x y : Int32) (r : List Value) (t : Nat), st = .int y :: .int x :: r ∧ (pc : Int) + off = (t : Int) ∧ (P x y = true → W p l e R s m args below meth c H locs cells slots Q (F0 m t ls (r.map (rx_v ad)))) ∧ (¬ P x y = true → W p l e R s m args below meth c H locs cells slots Q (F0 m (pc + 3) ls (r.map (rx_v ad)))) := by
  unfold rx_b2 at hs
  split at hs
  · next y x r =>
    split at hs
    · next t ht =>
      split at hs
      · next hp => cases hs; exact ⟨x, y, _, _, rfl, rx_tg_eq ht, fun _ => kk ls hl, fun h => absurd hp h⟩
      · next hp => cases hs; exact ⟨x, y, _, _, rfl, rx_tg_eq ht, fun h => absurd h hp, fun _ => kk ls hl⟩
    · cases hs
  · cases hs
/-- a branch of one number, of two -/
theorem rx_k_if (hx : p.tables.exec = Jvm.exec) (hb : c.code = cc) {cd : ClassFile.Cond} {off : Int} (hd : decode cc pc = .ok (.ifCond cd off, 3)) (hs : rx_b1 (rx_c1 cd) pc off lv st = some (pc', lv', st')) (kk : rx_K p l e R s m args below meth c H locs cells slots Q ad nL pc' lv' st') (hl : lv_has ls nL (rx_l ad lv)) :
    W p l e R s m args below meth c H locs cells slots Q (F0 m pc ls (st.map (rx_v ad))) := by
  obtain ⟨x, r, t, rfl, ht, h1, h2⟩ := rx_k_b1 hs kk hl
  show W p l e R s m args below meth c H locs cells slots Q (F0 m pc ls (.int x :: r.map (rx_v ad)))
  cases cd
  · exact lv_if_eq hx hb hd ht (fun q => h1 (decide_eq_true q)) (fun q => h2 (fun z => q (of_decide_eq_true z)))
  · exact lv_if_ne hx hb hd ht (fun q => h1 (decide_eq_true q)) (fun q => h2 (fun z => absurd q (of_decide_eq_true z)))
  · exact lv_if_lt hx hb hd ht (fun q => h1 (decide_eq_true q)) (fun q => h2 (fun z => q (of_decide_eq_true z)))
  · exact lv_if_ge hx hb hd ht (fun q => h1 (decide_eq_true q)) (fun q => h2 (fun z => q (of_decide_eq_true z)))
  · exact lv_if_gt hx hb hd ht (fun q => h1 (decide_eq_true q)) (fun q => h2 (fun z => q (of_decide_eq_true z)))
  · exact lv_if_le hx hb hd ht (fun q => h1 (decide_eq_true q)) (fun q => h2 (fun z => q (of_decide_eq_true z)))
theorem rx_k_icmp (hx : p.tables.exec = Jvm.exec) (hb : c.code = cc) {cd : ClassFile.Cond} {off : Int} (hd : decode cc pc = .ok (.if_icmp cd off, 3)) (hs : rx_b2 (rx_c2 cd) pc off lv st = some (pc', lv', st')) (kk : rx_K p l e R s m args below meth c H locs cells slots Q ad nL pc' lv' st') (hl : lv_has ls nL (rx_l ad lv)) :
    W p l e R s m args below meth c H locs cells slots Q (F0 m pc ls (st.map (rx_v ad))) := by
  obtain ⟨x, y, r, t, rfl, ht, h1, h2⟩ := rx_k_b2 hs kk hl
  show W p l e R s m args below meth c H locs cells slots Q (F0 m pc ls (.int y :: .int x :: r.map (rx_v ad)))
  cases cd
  · exact lv_icmp_eq hx hb hd ht (fun q => h1 (decide_eq_true q)) (fun q => h2 (fun z => q (of_decide_eq_true z)))
  · exact lv_icmp_ne hx hb hd ht (fun q => h1 (decide_eq_true q)) (fun q => h2 (fun z => absurd q (of_decide_eq_true z)))
  · exact lv_icmp_lt hx hb hd ht (fun q => h1 (decide_eq_true q)) (fun q => h2 (fun z => q (of_decide_eq_true z)))
  · exact lv_icmp_ge hx hb hd ht (fun q => h1 (decide_eq_true q)) (fun q => h2 (fun z => q (of_decide_eq_true z)))
  · exact lv_icmp_gt hx hb hd ht (fun q => h1 (decide_eq_true q)) (fun q => h2 (fun z => q (of_decide_eq_true z)))
  · exact lv_icmp_le hx hb hd ht (fun q => h1 (decide_eq_true q)) (fun q => h2 (fun z => q (of_decide_eq_true z)))
theorem rx_k_tsw (hx : p.tables.exec = Jvm.exec) (hb : c.code = cc) {d lo hi : Int} {offs : Array Int} (hd : decode cc pc = .ok (.tableswitch d lo hi offs, len)) (hs : rx_tsw pc d lo hi offs lv st = some (pc', lv', st')) (kk : rx_K p l e R s m args below meth c H locs cells slots Q ad nL pc' lv' st') (hl : lv_has ls nL (rx_l ad lv)) :
    W p l e R s m args below meth c H locs cells slots Q (F0 m pc ls (st.map (rx_v ad))) := by
  unfold rx_tsw at hs
  split at hs
  · next x r =>
    show W p l e R s m args below meth c H locs cells slots Q (F0 m pc ls (.int x :: r.map (rx_v ad)))
    split at hs
    · next hc =>
      obtain ⟨h1, rfl, rfl⟩ := rx_go_eq hs
      exact lv_tableOut hx hb hd hc h1 (kk ls hl)
    · next hc =>
      split at hs
      · next o ho =>
        obtain ⟨h1, rfl, rfl⟩ := rx_go_eq hs
        exact lv_tableIn hx hb hd (fun q => hc (Or.inl q)) (fun q => hc (Or.inr q)) ho h1 (kk ls hl)
      · cases hs
  · cases hs
theorem rx_k_lsw (hx : p.tables.exec = Jvm.exec) (hb : c.code = cc) {d : Int} {ps : Array (Int × Int)} (hd : decode cc pc = .ok (.lookupswitch d ps, len)) (hs : rx_lsw pc d ps lv st = some (pc', lv', st')) (kk : rx_K p l e R s m args below meth c H locs cells slots Q ad nL pc' lv' st') (hl : lv_has ls nL (rx_l ad lv)) :
    W p l e R s m args below meth c H locs cells slots Q (F0 m pc ls (st.map (rx_v ad))) := by
  unfold rx_lsw at hs
  split at hs
  · next x r =>
    show W p l e R s m args below meth c H locs cells slots Q (F0 m pc ls (.int x :: r.map (rx_v ad)))
    split at hs
    · next hc =>
      obtain ⟨h1, rfl, rfl⟩ := rx_go_eq hs
      exact lv_lookup hx hb hd hc rfl h1 (kk ls hl)
    · cases hs
  · cases hs
set_option maxHeartbeats 4000000 in
theorem rx_pure_sim (hx : p.tables.exec = Jvm.exec) (hb : c.code = cc) {i : Instr} (hd : decode cc pc = .ok (i, len)) (hs : rx_pure nL i len pc lv st = some (pc', lv', st')) (kk : rx_K p l e R s m args below meth c H locs cells slots Q ad nL pc' lv' st') (hl : lv_has ls nL (rx_l ad lv)) :
    W p l e R s m args below meth c H locs cells slots Q (F0 m pc ls (st.map (rx_v ad))) := by
  unfold rx_pure at hs
  split at hs
  · cases hs; exact lv_iconst hx hb hd rfl (kk ls hl)
  · cases hs; exact lv_bipush hx hb hd rfl (kk ls hl)
  · cases hs; exact lv_sipush hx hb hd rfl (kk ls hl)
  · cases hs; exact lv_null hx hb hd (kk ls hl)
  · obtain ⟨x, h1, h2⟩ := rx_k_ld hx hb hs kk hl
    exact lv_iload_n hx hb hd rfl h1 h2
  · obtain ⟨x, h1, h2⟩ := rx_k_ld hx hb hs kk hl
    exact lv_iload hx hb hd h1 h2
  · obtain ⟨x, h1, h2⟩ := rx_k_ldl hx hb hs kk hl
    exact lv_lload_n hx hb hd rfl h1 h2
  · rcases rx_k_lda hx hb hs kk hl with ⟨x, h1, h2⟩ | ⟨h1, h2⟩
    · exact lv_aload_n hx hb hd rfl h1 h2
    · exact lv_aload_nN hx hb hd rfl h1 h2
  · rcases rx_k_lda hx hb hs kk hl with ⟨x, h1, h2⟩ | ⟨h1, h2⟩
    · exact lv_aload hx hb hd h1 h2
    · exact lv_aloadN hx hb hd h1 h2
  · obtain ⟨x, r, rfl, hi, h2⟩ := rx_k_sti hs kk
    exact lv_istore_n hx hb hd rfl hl hi (rx_l_si ad lv _ (.int x)) h2
  · obtain ⟨x, r, rfl, hi, h2⟩ := rx_k_sti hs kk
    exact lv_istore hx hb hd hl hi (rx_l_si ad lv _ (.int x)) h2
  · obtain ⟨hi, ⟨x, r, rfl, h2⟩ | ⟨r, rfl, h2⟩⟩ := rx_k_sta hs kk
    · exact lv_astore_n hx hb hd rfl hl hi (rx_l_si ad lv _ (.ref x)) h2
    · exact lv_astore_nN hx hb hd rfl hl hi (rx_l_si ad lv _ .null) h2
  · obtain ⟨hi, ⟨x, r, rfl, h2⟩ | ⟨r, rfl, h2⟩⟩ := rx_k_sta hs kk
    · exact lv_astore hx hb hd hl hi (rx_l_si ad lv _ (.ref x)) h2
    · exact lv_astoreN hx hb hd hl hi (rx_l_si ad lv _ .null) h2
  · exact rx_k_inc hx hb hd hs kk hl
  · obtain ⟨x, y, r, rfl, h2⟩ := rx_k_ii hs kk hl
    exact lv_iadd hx hb hd h2
  · obtain ⟨x, y, r, rfl, h2⟩ := rx_k_ii hs kk hl
    exact lv_isub hx hb hd h2
  · obtain ⟨x, y, r, rfl, h2⟩ := rx_k_ii hs kk hl
    exact lv_imul hx hb hd h2
  · obtain ⟨x, y, r, rfl, h2⟩ := rx_k_ii hs kk hl
    exact lv_iand hx hb hd h2
  · obtain ⟨x, y, r, rfl, h2⟩ := rx_k_ii hs kk hl
    exact lv_ior hx hb hd h2
  · obtain ⟨x, y, r, rfl, h2⟩ := rx_k_ii hs kk hl
    exact lv_ixor hx hb hd h2
  · obtain ⟨x, y, r, rfl, h2⟩ := rx_k_ii hs kk hl
    exact lv_ishl hx hb hd h2
  · obtain ⟨x, y, r, rfl, h2⟩ := rx_k_ii hs kk hl
    exact lv_ishr hx hb hd h2
  · obtain ⟨x, y, r, rfl, hy, h2⟩ := rx_k_id hs kk hl
    exact lv_idiv hx hb hd hy h2
  · obtain ⟨x, y, r, rfl, hy, h2⟩ := rx_k_id hs kk hl
    exact lv_irem hx hb hd hy h2
  · split at hs
    · cases hs; exact lv_i2b hx hb hd rfl (kk ls hl)
    · cases hs
  · split at hs
    · cases hs; exact lv_i2c hx hb hd rfl (kk ls hl)
    · cases hs
  · split at hs
    · cases hs; exact lv_l2i hx hb hd rfl (kk ls hl)
    · cases hs
  · split at hs
    · cases hs; exact lv_land hx hb hd (kk ls hl)
    · cases hs
  · split at hs
    · cases hs; exact lv_lshr hx hb hd rfl (kk ls hl)
    · cases hs
  · split at hs
    · split at hs
      · next hc => cases hs; exact lv_dup hx hb hd ((rx_cat ad _).trans hc) (kk ls hl)
      · cases hs
    · cases hs
  · split at hs
    · split at hs
      · next hc => cases hs; exact lv_pop hx hb hd ((rx_cat ad _).trans hc) (kk ls hl)
      · cases hs
    · cases hs
  · split at hs
    · split at hs
      · next hc => cases hs; exact lv_dup2_11 hx hb hd ((rx_cat ad _).trans hc.1) ((rx_cat ad _).trans hc.2) (kk ls hl)
      · cases hs
    · cases hs
  · exact rx_k_if hx hb hd hs kk hl
  · exact rx_k_icmp hx hb hd hs kk hl
  · obtain ⟨h1, rfl, rfl⟩ := rx_go_eq hs
    exact lv_goto hx hb hd h1 (kk ls hl)
  · split at hs
    · cases hs; exact lv_ifnull hx hb hd (kk ls hl)
    · obtain ⟨h1, rfl, rfl⟩ := rx_go_eq hs
      exact lv_ifnullN hx hb hd h1 (kk ls hl)
    · cases hs
  · split at hs
    · obtain ⟨h1, rfl, rfl⟩ := rx_go_eq hs
      exact lv_ifnonnull hx hb hd h1 (kk ls hl)
    · cases hs; exact lv_ifnonnullN hx hb hd (kk ls hl)
    · cases hs
  · exact rx_k_tsw hx hb hd hs kk hl
  · exact rx_k_lsw hx hb hd hs kk hl
  · cases hs
end RXP
end
section
/-! AN ENGINE, PART 2: what reads and writes cells. A cell: an array of ints (kind, length, contents), of references (kind, contents), an object (class, fields); references are places in the list of cells; from 1000000 on texts, from 2000000 on their bytes, from 3000000 on static arrays -/
abbrev rx_C : Type := (Nat × Nat × (Nat → Int32)) ⊕ ((Nat × List (Option Nat)) ⊕ (Nat × List Value))
abbrev rx_H : Type := List rx_C
def rx_in (i : Int32) (n : Nat) : Bool := decide (¬ (i < 0 ∨ n ≤ i.toNatClampNeg))
theorem rx_in_iff {i : Int32} {n : Nat} (h : rx_in i n = true) : vp_in i n := of_decide_eq_true (p := ¬ (i < 0 ∨ n ≤ i.toNatClampNeg)) h
/-- what a field or an array of that type takes -/
def rx_fit : FieldType → Value → Bool
  | .int, .int _ => true
  | .boolean, .int x => decide (x = 0) || decide (x = 1)
  | .object _, .ref _ => true
  | .object _, .null => true
  | .array _, .ref _ => true
  | .array _, .null => true
  | _, _ => false
theorem rx_fit_ok {ty : FieldType} {v : Value} (ad : Nat → Nat) (h : rx_fit ty v = true) : narrow ty (rx_v ad v) = rx_v ad v ∧ fits ty (rx_v ad v) = true := by
  cases ty <;> cases v <;> first
    | (cases h; done)
    | exact ⟨rfl, rfl⟩
    | (simp only [rx_fit, Bool.or_eq_true, decide_eq_true_eq] at h
       rcases h with rfl | rfl <;> exact ⟨rfl, rfl⟩)
def rx_ref (o : Option Nat) : Value := match o with
  | some k => .ref k
  | none => .null
def rx_get (co idx : Nat) (st : List Value) (h : rx_H) : Option (List Value) := match st with
  | .ref k :: r => match rx_lk rx_FLs co idx with
    | some ((ci, fk, _, _), _) => match h[k]? with
      | some (.inr (.inr (cj, fs))) => if cj = ci then match fs[fk]? with
          | some v => some (v :: r)
          | none => none
        else none
      | _ => none
    | none => match rx_lk rx_KLs co idx with
      | some (0, _) => if 1000000 ≤ k ∧ k - 1000000 < rx_tb.length then some (.int 0 :: r) else none
      | some (1, _) => if 1000000 ≤ k ∧ k - 1000000 < rx_tb.length then some (.ref (k + 1000000) :: r) else none
      | _ => none
  | _ => none
def rx_put (ini : Bool) (co idx : Nat) (st : List Value) (h : rx_H) : Option (List Value × rx_H) := match st with
  | v :: .ref k :: r => match rx_lk rx_FLs co idx with
    | some ((ci, fk, ty, fin), _) => match h[k]? with
      | some (.inr (.inr (cj, fs))) => if cj = ci ∧ fk < fs.length ∧ rx_fit ty v = true ∧ (fin = false ∨ (ini = true ∧ ci = co)) then some (r, h.set k (.inr (.inr (cj, fs.set fk v)))) else none
      | _ => none
    | none => none
  | _ => none
/-- a static array's contents -/
def rx_sa (k : Nat) : Option (Nat × List Int32) := if 3000000 ≤ k then match rx_sn[k - 3000000]? with
    | some (_, _, _, .inr a) => some a
    | _ => none
  else none
def rx_iald (st : List Value) (h : rx_H) : Option (List Value) := match st with
  | .int i :: .ref k :: r => match h[k]? with
    | some (.inl (0, n, f)) => if rx_in i n then some (.int (f i.toNatClampNeg) :: r) else none
    | some _ => none
    | none => match rx_sa k with
      | some (n, a) => if rx_in i n then some (.int (a.getD i.toNatClampNeg 0) :: r) else none
      | none => none
  | _ => none
def rx_bald (st : List Value) (h : rx_H) : Option (List Value) := match st with
  | .int i :: .ref k :: r => match h[k]? with
    | some (.inl (1, n, f)) => if rx_in i n then some (.int (f i.toNatClampNeg) :: r) else none
    | some (.inl (2, n, f)) => if rx_in i n then some (.int (f i.toNatClampNeg) :: r) else none
    | some _ => none
    | none => if 2000000 ≤ k then match rx_tb[k - 2000000]? with
        | some a => if rx_in i a.length then some (.int (a.getD i.toNatClampNeg 0) :: r) else none
        | none => none
      else none
  | _ => none
def rx_isq (t : Nat) : Bool := rx_el.any (fun q => decide (q.1 = t))
def rx_aald (st : List Value) (h : rx_H) : Option (List Value) := match st with
  | .int i :: .ref k :: r => match h[k]? with
    | some (.inr (.inl (t, a))) => if rx_in i a.length = true ∧ rx_isq t = true then some (rx_ref (a.getD i.toNatClampNeg none) :: r) else none
    | _ => none
  | _ => none
def rx_alen (st : List Value) (h : rx_H) : Option (List Value) := match st with
  | .ref k :: r => match h[k]? with
    | some (.inl (t, n, _)) => if t < 3 then some (.int (Int32.ofNat n) :: r) else none
    | some (.inr (.inl (t, a))) => if rx_isq t = true then some (.int (Int32.ofNat a.length) :: r) else none
    | some _ => none
    | none => match rx_sa k with
      | some (n, _) => some (.int (Int32.ofNat n) :: r)
      | none => if 2000000 ≤ k then match rx_tb[k - 2000000]? with
          | some a => some (.int (Int32.ofNat a.length) :: r)
          | none => none
        else none
  | _ => none
def rx_iast (st : List Value) (h : rx_H) : Option (List Value × rx_H) := match st with
  | .int x :: .int i :: .ref k :: r => match h[k]? with
    | some (.inl (0, n, f)) => if rx_in i n then some (r, h.set k (.inl (0, n, upd f i.toNatClampNeg x))) else none
    | _ => none
  | _ => none
def rx_bast (st : List Value) (h : rx_H) : Option (List Value × rx_H) := match st with
  | .int x :: .int i :: .ref k :: r => match h[k]? with
    | some (.inl (1, n, f)) => if rx_in i n then some (r, h.set k (.inl (1, n, upd f i.toNatClampNeg (vp_nar .byte x)))) else none
    | some (.inl (2, n, f)) => if rx_in i n then some (r, h.set k (.inl (2, n, upd f i.toNatClampNeg (vp_nar .boolean x)))) else none
    | _ => none
  | _ => none
def rx_aast (st : List Value) (h : rx_H) : Option (List Value × rx_H) := match st with
  | .ref q :: .int i :: .ref k :: r => match h[k]?, h[q]? with
    | some (.inr (.inl (t, a))), some (.inr (.inr (ci, _))) => if rx_in i a.length = true ∧ (t, ci) ∈ rx_el then some (r, h.set k (.inr (.inl (t, a.set i.toNatClampNeg (some q))))) else none
    | _, _ => none
  | _ => none
def rx_cats (r : List Value) : Nat := (r.map fun v => v.category).sum
def rx_copy (fr lo : Nat) (st : List Value) (h : rx_H) : Option (List Value × rx_H) := match st with
  | .int n :: .int dp :: .ref k :: .int sp :: .ref j :: r => match h[j]?, h[k]? with
    | some (.inl (0, n0, f)), some (.inl (0, n1, g)) => if ¬ sp < 0 ∧ ¬ dp < 0 ∧ ¬ n < 0 ∧ sp.toNatClampNeg + n.toNatClampNeg ≤ n0 ∧ dp.toNatClampNeg + n.toNatClampNeg ≤ n1 ∧ 1 ≤ fr ∧ rx_cats r + 40 ≤ lo then some (r, h.set k (.inl (0, n1, va_cpy f g sp.toNatClampNeg dp.toNatClampNeg n.toNatClampNeg))) else none
    | _, _ => none
  | _ => none
def rx_stat (co idx : Nat) : Option Value := match rx_lk rx_SLs co idx with
  | some (k, _) => match rx_sn[k]? with
    | some (_, _, _, .inr _) => some (.ref (3000000 + k))
    | some (_, _, _, .inl x) => some (.int x)
    | none => none
  | none => none
def rx_ldc (co idx : Nat) : Option Value := match rx_lk rx_CIs co idx with
  | some (x, _) => some (.int x)
  | none => match rx_lk rx_STs co idx with
    | some k => if k < rx_tb.length then some (.ref (1000000 + k)) else none
    | none => none
def rx_heap (co : Nat) (ini : Bool) (fr lo : Nat) (i : Instr) (len pc : Nat) (st : List Value) (h : rx_H) : Option (Nat × List Value × rx_H) := match i, len with
  | .getfield idx, 3 => (rx_get co idx st h).map fun r => (pc + 3, r, h)
  | .putfield idx, 3 => (rx_put ini co idx st h).map fun r => (pc + 3, r.1, r.2)
  | .iaload, 1 => (rx_iald st h).map fun r => (pc + 1, r, h)
  | .baload, 1 => (rx_bald st h).map fun r => (pc + 1, r, h)
  | .aaload, 1 => (rx_aald st h).map fun r => (pc + 1, r, h)
  | .arraylength, 1 => (rx_alen st h).map fun r => (pc + 1, r, h)
  | .iastore, 1 => (rx_iast st h).map fun r => (pc + 1, r.1, r.2)
  | .bastore, 1 => (rx_bast st h).map fun r => (pc + 1, r.1, r.2)
  | .aastore, 1 => (rx_aast st h).map fun r => (pc + 1, r.1, r.2)
  | .getstatic idx, 3 => (rx_stat co idx).map fun v => (pc + 3, v :: st, h)
  | .ldc idx, 2 => (rx_ldc co idx).map fun v => (pc + 2, v :: st, h)
  | .ldc_w idx, 3 => match rx_lk rx_CIs co idx with
    | some (x, _) => some (pc + 3, .int x :: st, h)
    | none => none
  | .ldc2_w idx, 3 => match rx_lk rx_CJs co idx with
    | some (x, _) => some (pc + 3, .long x :: st, h)
    | none => none
  | .invokespecial idx, 3 => match rx_lk rx_OLs co idx, st with
    | some _, .ref _ :: r => if 1 ≤ fr ∧ rx_cats r + 12 ≤ lo then some (pc + 3, r, h) else none
    | _, _ => none
  | .invokestatic idx, 3 => match rx_lk rx_YLs co idx with
    | some _ => (rx_copy fr lo st h).map fun r => (pc + 3, r.1, r.2)
    | none => none
  | _, _ => none
/-! the cells as the machine has them -/
def rx_c (ad : Nat → Nat) (tC : Nat → ClassId) : rx_C → va_E
  | .inl (t, n, f) => .inl (tC t, n, .inl f)
  | .inr (.inl (t, a)) => .inl (tC t, a.length, .inr (.inr (.inr (.inr (fun j => (a.getD j none).map ad)))))
  | .inr (.inr (ci, fs)) => .inr (ci, fs.map (rx_v ad))
def rx_w (ad : Nat → Nat) (tC : Nat → ClassId) (h : rx_H) : va_W := h.mapIdx (fun k c => (ad k, rx_c ad tC c))
def rx_tys (tC : Nat → ClassId) : List (ClassId × FieldType) := rx_ty.mapIdx (fun k ty => (tC k, ty))
theorem rx_w_get {ad : Nat → Nat} {tC : Nat → ClassId} {h : rx_H} {k : Nat} {c : rx_C} (hk : h[k]? = some c) : (rx_w ad tC h)[k]? = some (ad k, rx_c ad tC c) := by
  simp [rx_w, List.getElem?_mapIdx, hk]
theorem rx_w_set {ad : Nat → Nat} {tC : Nat → ClassId} {h : rx_H} {k : Nat} {c : rx_C} : (rx_w ad tC h).set k (ad k, rx_c ad tC c) = rx_w ad tC (h.set k c) := by
  apply List.ext_getElem?
  intro j
  simp only [rx_w, List.getElem?_set, List.getElem?_mapIdx, List.length_mapIdx]
  by_cases hj : k = j
  · subst hj
    simp only [if_true]
    split <;> simp_all
  · simp only [if_neg hj]
theorem rx_tys_get {tC : Nat → ClassId} {k : Nat} {ty : FieldType} (hk : rx_ty[k]? = some ty) : (rx_tys tC)[k]? = some (tC k, ty) := by
  simp [rx_tys, List.getElem?_mapIdx, hk]
def rx_A (base : Nat) : Nat → Prop := fun q => base ≤ q
/-- what stands of constants -/
def rx_Con (ad : Nat → Nat) (base : Nat) (s : State) : Prop :=
  vk_S rx_tb.length (rx_tb.map List.length) rx_tb (fun i => ad (1000000 + i)) (fun i => ad (2000000 + i)) (rx_A base) s s.heap ∧
  (∀ (k : Nat) (C n d : String) (N : Nat) (a : List Int32), rx_sn[k]? = some (C, n, d, .inr (N, a)) → va_Z C n d (.ref (ad (3000000 + k))) (rx_A base) s s.heap ∧ va_T .int (ad (3000000 + k)) N (fun j => .int (a.getD j 0)) (rx_A base) s s.heap) ∧
  (∀ (k : Nat) (C n d : String) (x : Int32), rx_sn[k]? = some (C, n, d, .inl x) → va_Z C n d (.int x) (rx_A base) s s.heap) ∧
  (∀ (co idx k : Nat), rx_lk rx_STs co idx = some k → ∃ tx : String, vk_R (rx_cn co) idx tx (ad (1000000 + k)) s) ∧
  (∀ (t ci : Nat), (t, ci) ∈ rx_el → va_AO (rx_cn ci) s) ∧
  (∀ (co idx j pos : Nat), rx_lk rx_MLs co idx = some ((j, true), pos) → ∀ M : rx_M, rx_MT[j]? = some M → va_Nw (.methodLinkNest (rx_cn co) idx M.2.1 rx_host) s)
/-- the machine's cells are these -/
def rx_Rel (D : va_G) (tC : Nat → ClassId) (ad : Nat → Nat) (base : Nat) (s : State) (H : Heap) (locs : List Loc) (h : rx_H) : Prop :=
  va_K D vwCl (rx_tys tC) s ∧ va_P D vwCl (rx_w ad tC h) H ∧ va_D (rx_A base) (rx_w ad tC h) ∧ va_S (rx_A base) s.heap H locs
end
section
/-! the machine does what rx_heap does -/
theorem rx_n1 {k : Nat} (h : 1000000 ≤ k) : 1000000 + (k - 1000000) = k := by omega
theorem rx_n2 {k : Nat} (h : 1000000 ≤ k) : 2000000 + (k - 1000000) = k + 1000000 := by omega
theorem rx_n3 {k : Nat} (h : 2000000 ≤ k) : 2000000 + (k - 2000000) = k := by omega
theorem rx_n4 {k : Nat} (h : 3000000 ≤ k) : 3000000 + (k - 3000000) = k := by omega
set_option maxRecDepth 100000 in
theorem rx_schk : rx_SLs.all (fun q => match rx_sn[q.2.1]? with
  | some (C, n, d, _) => rx_has q.2.2 (.fieldLink (rx_cn q.1.1) q.1.2 C n d)
  | none => false) = true := by decide +kernel
set_option maxRecDepth 100000 in
theorem rx_kchk : rx_KLs.all (fun q => if q.2.1 = 0 then rx_has q.2.2 (.fieldLink (rx_cn q.1.1) q.1.2 "java/lang/String" "coder" "B") else rx_has q.2.2 (.fieldLink (rx_cn q.1.1) q.1.2 "java/lang/String" "value" "[B")) = true := by decide +kernel
set_option maxRecDepth 100000 in
theorem rx_cichk : rx_CIs.all (fun q => rx_has q.2.2 (.constant (rx_cn q.1.1) q.1.2 q.2.1)) = true := by decide +kernel
set_option maxRecDepth 100000 in
theorem rx_cjchk : rx_CJs.all (fun q => rx_has q.2.2 (.constantLong (rx_cn q.1.1) q.1.2 q.2.1)) = true := by decide +kernel
set_option maxRecDepth 100000 in
theorem rx_olchk : rx_OLs.all (fun q => rx_has q.2 (.methodLink (rx_cn q.1.1) q.1.2 Lib.objectInit)) = true := by decide +kernel
set_option maxRecDepth 100000 in
theorem rx_ylchk : rx_YLs.all (fun q => rx_has q.2 (.methodLink (rx_cn q.1.1) q.1.2 arraycopyName)) = true := by decide +kernel
set_option maxRecDepth 100000 in
theorem rx_w_oi : Cond.instanceMethod Lib.objectInit ∈ rx_Ts ∧ Cond.code Lib.objectInit ⟨#[0xb1]⟩ 1 none ∈ rx_Ts ∧ Cond.native arraycopyName ∈ rx_Ts ∧ Cond.static arraycopyName ∈ rx_Ts ∧ Cond.initialized "java/lang/System" ∈ rx_Ts := by
  have h := rx_in2_mem (ws := [Cond.instanceMethod Lib.objectInit, Cond.code Lib.objectInit ⟨#[0xb1]⟩ 1 none, Cond.native arraycopyName, Cond.static arraycopyName, Cond.initialized "java/lang/System"]) (by decide +kernel)
  exact ⟨h _ (by simp), h _ (by simp), h _ (by simp), h _ (by simp), h _ (by simp)⟩
theorem rx_nfw : nativeFrameWords "java/lang/System" "arraycopy" 5 + 11 ≤ 40 := by decide +kernel
theorem rx_el_ok : rx_el.all (fun q => match vwCl[q.2]? with
  | some (C, _, _) => decide (rx_ty[q.1]? = some (.object C)) && decide (rx_cn q.2 = C)
  | none => false) = true := by decide +kernel
section RXH
variable {p : Program} {l : Launch} {e : Env} {R : Room} {s : State} {m : MethodId} {args : Array Value} {below : List Frame} {meth : Method} {c : Code} {H : Heap} {locs : List Loc} {cells slots : Nat} {Q : State → Prop}
variable {cc : ByteArray} {pc pc' nL len co idx base : Nat} {ini : Bool} {ls : Array Slot} {D : va_G} {tC : Nat → ClassId} {ad : Nat → Nat} {st st' : List Value} {h h' : rx_H}
/-- the goal behind an instruction that may write -/
def rx_KH (p : Program) (l : Launch) (e : Env) (R : Room) (s : State) (m : MethodId) (args : Array Value) (below : List Frame) (meth : Method) (c : Code) (cells slots : Nat) (Q : State → Prop) (D : va_G) (tC : Nat → ClassId) (ad : Nat → Nat) (base : Nat) (ls : Array Slot) (pc : Nat) (st : List Value) (h : rx_H) : Prop :=
  ∀ (H : Heap) (locs : List Loc), rx_Rel D tC ad base s H locs h → W p l e R s m args below meth c H locs cells slots Q (F0 m pc ls (st.map (rx_v ad)))
theorem rx_h_get (hx : p.tables.exec = Jvm.exec) (hb : c.code = cc) (hown : s.vm.findClass (rx_cn co) = some m.cls) (hts : ∀ w ∈ rx_Ts, w.before args s = true) (hC : rx_Con ad base s) (hR : rx_Rel D tC ad base s H locs h) (hd : decode cc pc = .ok (.getfield idx, 3)) (hs : rx_get co idx st h = some st') (kk : W p l e R s m args below meth c H locs cells slots Q (F0 m (pc + 3) ls (st'.map (rx_v ad)))) :
    W p l e R s m args below meth c H locs cells slots Q (F0 m pc ls (st.map (rx_v ad))) := by
  obtain ⟨hK, hP, hD, hS⟩ := hR
  unfold rx_get at hs
  split at hs
  · next k r =>
    split at hs
    · next ci fk ty fin pos hL =>
      split at hs
      · next cj fs hk =>
        split at hs
        · next hcc =>
          subst hcc
          split at hs
          · next v hv =>
            cases hs
            obtain ⟨C, T, N, h1, h2, h3, h4, h5, h6⟩ := rx_FL_ok hL
            exact va_get (D := D) (C := C) (T := T) (N := N) hx hb hts (rx_cl_ok h1).1 hown hK hP k (rx_w_get hk) h1 fk h2 (hts _ h3) (fun _ q => q) (by simp [hv]) hd kk
          · cases hs
        · cases hs
      · cases hs
    · next hL =>
      split at hs
      · next pos hk2 =>
        split at hs
        · next hk =>
          cases hs
          have h1 := List.all_eq_true.mp rx_kchk _ (rx_lk_mem hk2)
          simp only [if_true] at h1
          have h2 := (hC.1.1 _ hk.2).2.1
          dsimp only at h2
          rw [rx_n1 hk.1] at h2
          exact vk_getf hx hb h2 hS hown (hts _ (rx_has_mem h1)) (fun _ q => q) hd kk
        · cases hs
      · next pos hk2 =>
        split at hs
        · next hk =>
          cases hs
          have h1 := List.all_eq_true.mp rx_kchk _ (rx_lk_mem hk2)
          simp only [show (1 : Nat) ≠ 0 by decide, if_false] at h1
          have h2 := (hC.1.1 _ hk.2).2.2.1
          dsimp only at h2
          rw [rx_n1 hk.1, rx_n2 hk.1] at h2
          exact vk_getf hx hb h2 hS hown (hts _ (rx_has_mem h1)) (fun _ q => q) hd kk
        · cases hs
      · cases hs
  · cases hs
theorem rx_h_put (hx : p.tables.exec = Jvm.exec) (hb : c.code = cc) (hown : s.vm.findClass (rx_cn co) = some m.cls) (hts : ∀ w ∈ rx_Ts, w.before args s = true) (hin : ini = true → meth.name = "<init>") (hcn : ∀ ci C T N, vwCl[ci]? = some (C, T, N) → rx_cn ci = C) (hR : rx_Rel D tC ad base s H locs h) (hd : decode cc pc = .ok (.putfield idx, 3)) (hs : rx_put ini co idx st h = some (st', h')) (kk : rx_KH p l e R s m args below meth c cells slots Q D tC ad base ls (pc + 3) st' h') :
    W p l e R s m args below meth c H locs cells slots Q (F0 m pc ls (st.map (rx_v ad))) := by
  obtain ⟨hK, hP, hD, hS⟩ := hR
  unfold rx_put at hs
  split at hs
  · next v k r =>
    split at hs
    · next ci fk ty fin pos hL =>
      split at hs
      · next cj fs hk =>
        split at hs
        · next hcc =>
          obtain ⟨e1, hlen, hfit, hfin⟩ := hcc
          subst e1
          simp only [Option.some.injEq, Prod.mk.injEq] at hs
          obtain ⟨e2, e3⟩ := hs
          subst e2
          subst e3
          obtain ⟨C, T, N, h1, h2, h3, h4, h5, h6⟩ := rx_FL_ok hL
          obtain ⟨f1, f2⟩ := rx_fit_ok ad hfit
          obtain ⟨w1, ⟨ty0, -, w2⟩, w3, -, -⟩ := rx_cl_ok h1
          have hfs : (fs.map (rx_v ad)).set fk (rx_v ad v) = (fs.set fk v).map (rx_v ad) := by simp [List.map_set]
          have kk' : ∀ (H1 : Heap) (locs1 : List Loc), va_P D vwCl ((rx_w ad tC h).set k (ad k, .inr (cj, (fs.map (rx_v ad)).set fk (rx_v ad v)))) H1 → va_D (rx_A base) ((rx_w ad tC h).set k (ad k, .inr (cj, (fs.map (rx_v ad)).set fk (rx_v ad v)))) → va_S (rx_A base) s.heap H1 locs1 → W p l e R s m args below meth c H1 locs1 cells slots Q (F0 m (pc + 3) ls (r.map (rx_v ad))) := by
            intro H1 locs1 a1 a2 a3
            rw [hfs] at a1 a2
            have e2 := rx_w_set (ad := ad) (tC := tC) (h := h) (k := k) (c := .inr (.inr (cj, fs.set fk v)))
            exact kk H1 locs1 ⟨hK, e2 ▸ a1, e2 ▸ a2, a3⟩
          cases hb2 : fin with
          | false =>
            rw [hb2] at h5
            exact va_put (D := D) (C := C) (T := T) (N := N) hx hb hts w1 ty0 w2 w3 hown hK hP hD hS k (rx_w_get hk) h1 fk h2 (hts _ h3) (fun _ q => q) h5 h4 f1 f2 (by simpa using hlen) hd kk'
          | true =>
            rw [hb2] at h5 hfin
            rcases hfin with q | ⟨q1, q2⟩
            · cases q
            · subst q2
              exact va_putF (D := D) (C := C) (T := T) (N := N) hx hb hts w1 ty0 w2 w3 hown hK hP hD hS k (rx_w_get hk) h1 fk h2 (hts _ h3) (fun _ q => q) h5 (hin q1) (h6.trans (hcn _ _ _ _ h1).symm) h4 f1 f2 (by simpa using hlen) hd kk'
        · cases hs
      · cases hs
    · cases hs
  · cases hs
theorem rx_sa_ok (hC : rx_Con ad base s) {k N : Nat} {a : List Int32} (h1 : rx_sa k = some (N, a)) : va_T .int (ad k) N (fun j => .int (a.getD j 0)) (rx_A base) s s.heap := by
  unfold rx_sa at h1
  split at h1
  · next hk =>
    split at h1
    · next C n d a' he =>
      cases h1
      have := (hC.2.1 _ _ _ _ _ _ he).2
      rwa [rx_n4 hk] at this
    · cases h1
  · cases h1
theorem rx_tb_ok (hC : rx_Con ad base s) {k : Nat} {a : List Int32} (hk : 2000000 ≤ k) (h1 : rx_tb[k - 2000000]? = some a) : va_T .byte (ad k) a.length (fun j => .int (a.getD j 0)) (rx_A base) s s.heap := by
  have hl : k - 2000000 < rx_tb.length := (List.getElem?_eq_some_iff.mp h1).1
  have := (hC.1.1 _ hl).2.2.2
  have e1 : (rx_tb.map List.length).getD (k - 2000000) 0 = a.length := by simp [List.getD_eq_getElem?_getD, h1]
  have e2 : rx_tb.getD (k - 2000000) [] = a := by simp [List.getD_eq_getElem?_getD, h1]
  rw [e1, e2] at this
  dsimp only at this
  rwa [rx_n3 hk] at this
theorem rx_h_iald (hx : p.tables.exec = Jvm.exec) (hb : c.code = cc) (hC : rx_Con ad base s) (hR : rx_Rel D tC ad base s H locs h) (hd : decode cc pc = .ok (.iaload, 1)) (hs : rx_iald st h = some st') (kk : W p l e R s m args below meth c H locs cells slots Q (F0 m (pc + 1) ls (st'.map (rx_v ad)))) :
    W p l e R s m args below meth c H locs cells slots Q (F0 m pc ls (st.map (rx_v ad))) := by
  obtain ⟨hK, hP, hD, hS⟩ := hR
  unfold rx_iald at hs
  split at hs
  · next i k r =>
    split at hs
    · next n f hk =>
      split at hs
      · next hi => cases hs; exact va_iald hx hb hK hP k 0 (rx_w_get hk) (rx_tys_get rfl) (rx_in_iff hi) hd kk
      · cases hs
    · cases hs
    · split at hs
      · next N a ha =>
        split at hs
        · next hi => cases hs; exact va_ti hx hb (rx_sa_ok hC ha) hS (rx_in_iff hi) rfl hd kk
        · cases hs
      · cases hs
  · cases hs
theorem rx_h_bald (hx : p.tables.exec = Jvm.exec) (hb : c.code = cc) (hC : rx_Con ad base s) (hR : rx_Rel D tC ad base s H locs h) (hd : decode cc pc = .ok (.baload, 1)) (hs : rx_bald st h = some st') (kk : W p l e R s m args below meth c H locs cells slots Q (F0 m (pc + 1) ls (st'.map (rx_v ad)))) :
    W p l e R s m args below meth c H locs cells slots Q (F0 m pc ls (st.map (rx_v ad))) := by
  obtain ⟨hK, hP, hD, hS⟩ := hR
  unfold rx_bald at hs
  split at hs
  · next i k r =>
    split at hs
    · next n f hk =>
      split at hs
      · next hi => cases hs; exact va_bald hx hb hK hP k 1 (rx_w_get hk) (rx_tys_get rfl) (rx_in_iff hi) hd kk
      · cases hs
    · next n f hk =>
      split at hs
      · next hi => cases hs; exact va_zald hx hb hK hP k 2 (rx_w_get hk) (rx_tys_get rfl) (rx_in_iff hi) hd kk
      · cases hs
    · cases hs
    · split at hs
      · next hk =>
        split at hs
        · next a ha =>
          split at hs
          · next hi => cases hs; exact va_tb hx hb (rx_tb_ok hC hk ha) hS (rx_in_iff hi) rfl hd kk
          · cases hs
        · cases hs
      · cases hs
  · cases hs
theorem rx_v_ref (o : Option Nat) : rx_v ad (rx_ref o) = va_rf (o.map ad) := by cases o <;> rfl
theorem rx_isq_ok {t : Nat} (h1 : rx_isq t = true) : ∃ C : String, rx_ty[t]? = some (.object C) := by
  unfold rx_isq at h1
  obtain ⟨q, hq, he⟩ := List.any_eq_true.mp h1
  have h2 := List.all_eq_true.mp rx_el_ok q hq
  split at h2
  · next C T N hc =>
    simp only [Bool.and_eq_true, decide_eq_true_eq] at h2 he
    exact ⟨C, he ▸ h2.1⟩
  · cases h2
theorem rx_el_has {t ci : Nat} (h1 : (t, ci) ∈ rx_el) : ∃ (C : String) (T : u_T) (N : Nat), vwCl[ci]? = some (C, T, N) ∧ rx_ty[t]? = some (.object C) ∧ rx_cn ci = C := by
  have h2 := List.all_eq_true.mp rx_el_ok _ h1
  split at h2
  · next C T N hc =>
    simp only [Bool.and_eq_true, decide_eq_true_eq] at h2
    exact ⟨C, T, N, hc, h2.1, h2.2⟩
  · cases h2
theorem rx_ty3 {t : Nat} (h1 : t < 3) : ∃ ty, rx_ty[t]? = some ty := by
  match t, h1 with
  | 0, _ => exact ⟨_, rfl⟩
  | 1, _ => exact ⟨_, rfl⟩
  | 2, _ => exact ⟨_, rfl⟩
theorem rx_h_aald (hx : p.tables.exec = Jvm.exec) (hb : c.code = cc) (hR : rx_Rel D tC ad base s H locs h) (hd : decode cc pc = .ok (.aaload, 1)) (hs : rx_aald st h = some st') (kk : W p l e R s m args below meth c H locs cells slots Q (F0 m (pc + 1) ls (st'.map (rx_v ad)))) :
    W p l e R s m args below meth c H locs cells slots Q (F0 m pc ls (st.map (rx_v ad))) := by
  obtain ⟨hK, hP, hD, hS⟩ := hR
  unfold rx_aald at hs
  split at hs
  · next i k r =>
    split at hs
    · next t a hk =>
      split at hs
      · next hi =>
        cases hs
        obtain ⟨C, hC⟩ := rx_isq_ok hi.2
        refine va_aldq hx hb hK hP k t (rx_w_get hk) (rx_tys_get hC) (rx_in_iff hi.1) hd ?_
        have e : rx_v ad (rx_ref (a.getD i.toNatClampNeg none)) = va_rf ((a.getD i.toNatClampNeg none).map ad) := rx_v_ref _
        rw [← e]
        exact kk
      · cases hs
    · cases hs
  · cases hs
theorem rx_h_alen (hx : p.tables.exec = Jvm.exec) (hb : c.code = cc) (hC : rx_Con ad base s) (hR : rx_Rel D tC ad base s H locs h) (hd : decode cc pc = .ok (.arraylength, 1)) (hs : rx_alen st h = some st') (kk : W p l e R s m args below meth c H locs cells slots Q (F0 m (pc + 1) ls (st'.map (rx_v ad)))) :
    W p l e R s m args below meth c H locs cells slots Q (F0 m pc ls (st.map (rx_v ad))) := by
  obtain ⟨hK, hP, hD, hS⟩ := hR
  unfold rx_alen at hs
  split at hs
  · next k r =>
    split at hs
    · next t n f hk =>
      split at hs
      · next ht =>
        cases hs
        obtain ⟨ty, hty⟩ := rx_ty3 ht
        exact va_alen hx hb hK hP k t (rx_w_get hk) (rx_tys_get hty) rfl hd kk
      · cases hs
    · next t a hk =>
      split at hs
      · next ht =>
        cases hs
        obtain ⟨C, hty⟩ := rx_isq_ok ht
        exact va_alen hx hb hK hP k t (rx_w_get hk) (rx_tys_get hty) rfl hd kk
      · cases hs
    · cases hs
    · split at hs
      · next N a ha => cases hs; exact va_tlen hx hb (rx_sa_ok hC ha) hS rfl hd kk
      · split at hs
        · next hk =>
          split at hs
          · next a ha => cases hs; exact va_tlen hx hb (rx_tb_ok hC hk ha) hS rfl hd kk
          · cases hs
        · cases hs
  · cases hs
theorem rx_h_iast (hx : p.tables.exec = Jvm.exec) (hb : c.code = cc) (hR : rx_Rel D tC ad base s H locs h) (hd : decode cc pc = .ok (.iastore, 1)) (hs : rx_iast st h = some (st', h')) (kk : rx_KH p l e R s m args below meth c cells slots Q D tC ad base ls (pc + 1) st' h') :
    W p l e R s m args below meth c H locs cells slots Q (F0 m pc ls (st.map (rx_v ad))) := by
  obtain ⟨hK, hP, hD, hS⟩ := hR
  unfold rx_iast at hs
  split at hs
  · next x i k r =>
    split at hs
    · next n f hk =>
      split at hs
      · next hi =>
        simp only [Option.some.injEq, Prod.mk.injEq] at hs
        obtain ⟨e2, e3⟩ := hs
        subst e2; subst e3
        have e2 := rx_w_set (ad := ad) (tC := tC) (h := h) (k := k) (c := .inl (0, n, upd f i.toNatClampNeg x))
        exact va_iast hx hb hK hP hD hS k 0 (rx_w_get hk) (rx_tys_get rfl) (rx_in_iff hi) hd (fun H1 locs1 a1 a2 a3 => kk H1 locs1 ⟨hK, e2 ▸ a1, e2 ▸ a2, a3⟩)
      · cases hs
    · cases hs
  · cases hs
theorem rx_h_bast (hx : p.tables.exec = Jvm.exec) (hb : c.code = cc) (hR : rx_Rel D tC ad base s H locs h) (hd : decode cc pc = .ok (.bastore, 1)) (hs : rx_bast st h = some (st', h')) (kk : rx_KH p l e R s m args below meth c cells slots Q D tC ad base ls (pc + 1) st' h') :
    W p l e R s m args below meth c H locs cells slots Q (F0 m pc ls (st.map (rx_v ad))) := by
  obtain ⟨hK, hP, hD, hS⟩ := hR
  unfold rx_bast at hs
  split at hs
  · next x i k r =>
    split at hs
    · next n f hk =>
      split at hs
      · next hi =>
        simp only [Option.some.injEq, Prod.mk.injEq] at hs
        obtain ⟨e2, e3⟩ := hs
        subst e2; subst e3
        have e2 := rx_w_set (ad := ad) (tC := tC) (h := h) (k := k) (c := .inl (1, n, upd f i.toNatClampNeg (vp_nar .byte x)))
        exact va_bast hx hb hK hP hD hS k 1 (rx_w_get hk) (rx_tys_get rfl) (rx_in_iff hi) hd (fun H1 locs1 a1 a2 a3 => kk H1 locs1 ⟨hK, e2 ▸ a1, e2 ▸ a2, a3⟩)
      · cases hs
    · next n f hk =>
      split at hs
      · next hi =>
        simp only [Option.some.injEq, Prod.mk.injEq] at hs
        obtain ⟨e2, e3⟩ := hs
        subst e2; subst e3
        have e2 := rx_w_set (ad := ad) (tC := tC) (h := h) (k := k) (c := .inl (2, n, upd f i.toNatClampNeg (vp_nar .boolean x)))
        exact va_zast hx hb hK hP hD hS k 2 (rx_w_get hk) (rx_tys_get rfl) (rx_in_iff hi) hd (fun H1 locs1 a1 a2 a3 => kk H1 locs1 ⟨hK, e2 ▸ a1, e2 ▸ a2, a3⟩)
      · cases hs
    · cases hs
  · cases hs
theorem rx_q_set {a : List (Option Nat)} {i q : Nat} (hi : i < a.length) : (fun j => ((a.set i (some q)).getD j none).map ad) = va_up (fun j => (a.getD j none).map ad) i (some (ad q)) := by
  funext j
  unfold va_up
  simp only [List.getD_eq_getElem?_getD, List.getElem?_set]
  by_cases hj : j = i
  · subst hj; simp [hi]
  · simp [hj, Ne.symm hj]
theorem rx_h_aast (hx : p.tables.exec = Jvm.exec) (hb : c.code = cc) (hR : rx_Rel D tC ad base s H locs h) (hd : decode cc pc = .ok (.aastore, 1)) (hs : rx_aast st h = some (st', h')) (kk : rx_KH p l e R s m args below meth c cells slots Q D tC ad base ls (pc + 1) st' h') :
    W p l e R s m args below meth c H locs cells slots Q (F0 m pc ls (st.map (rx_v ad))) := by
  obtain ⟨hK, hP, hD, hS⟩ := hR
  unfold rx_aast at hs
  split at hs
  · next q i k r =>
    split at hs
    · next t a ci fs hk hq =>
      split at hs
      · next hi =>
        simp only [Option.some.injEq, Prod.mk.injEq] at hs
        obtain ⟨e2, e3⟩ := hs
        subst e2; subst e3
        obtain ⟨C, T, N, h1, h2, h3⟩ := rx_el_has hi.2
        have hlt : i.toNatClampNeg < a.length := Nat.not_le.mp fun z => rx_in_iff hi.1 (Or.inr z)
        have e2 := rx_w_set (ad := ad) (tC := tC) (h := h) (k := k) (c := .inr (.inl (t, a.set i.toNatClampNeg (some q))))
        simp only [rx_c, List.length_set, rx_q_set hlt] at e2
        exact va_astq (r := (C, T, N)) hx hb hK hP hD hS k t q ci (rx_w_get hk) (rx_tys_get h2) (rx_w_get hq) h1 (rx_in_iff hi.1) hd (fun H1 locs1 a1 a2 a3 => kk H1 locs1 ⟨hK, e2 ▸ a1, e2 ▸ a2, a3⟩)
      · cases hs
    · cases hs
  · cases hs
theorem rx_cats_map (r : List Value) : ((r.map (rx_v ad)).map fun v => v.category).sum = rx_cats r := by
  unfold rx_cats
  rw [List.map_map]
  congr 1
  apply List.map_congr_left
  intro v _
  exact rx_cat ad v
theorem rx_h_copy (hx : p.tables.exec = Jvm.exec) (hb : c.code = cc) (hml : c.maxLocals = ls.size) (hown : s.vm.findClass (rx_cn co) = some m.cls) (hts : ∀ w ∈ rx_Ts, w.before args s = true) {pos : Nat} (hY : rx_lk rx_YLs co idx = some pos) (hR : rx_Rel D tC ad base s H locs h) (hd : decode cc pc = .ok (.invokestatic idx, 3)) (hs : rx_copy R.frames R.locals st h = some (st', h')) (kk : rx_KH p l e R s m args below meth c cells slots Q D tC ad base ls (pc + 3) st' h') :
    W p l e R s m args below meth c H locs cells slots Q (F0 m pc ls (st.map (rx_v ad))) := by
  obtain ⟨hK, hP, hD, hS⟩ := hR
  unfold rx_copy at hs
  split at hs
  · next n dp k sp j r =>
    split at hs
    · next n0 f n1 g hj hk =>
      split at hs
      · next hi =>
        obtain ⟨i1, i2, i3, i4, i5, i6, i7⟩ := hi
        simp only [Option.some.injEq, Prod.mk.injEq] at hs
        obtain ⟨e2, e3⟩ := hs
        subst e2; subst e3
        have h1 := List.all_eq_true.mp rx_ylchk _ (rx_lk_mem hY)
        have e2 := rx_w_set (ad := ad) (tC := tC) (h := h) (k := k) (c := .inl (0, n1, va_cpy f g sp.toNatClampNeg dp.toNatClampNeg n.toNatClampNeg))
        have hw := rx_w_oi
        have hnf := rx_nfw
        exact va_copyi hx hb hml hown (hts _ (rx_has_mem h1)) (hts _ hw.2.2.1) (hts _ hw.2.2.2.1) (hts _ hw.2.2.2.2) hK hP hD hS j k 0 0 (rx_w_get hj) (rx_w_get hk) (rx_tys_get rfl) (rx_tys_get rfl) rfl i1 i2 i3 i4 i5 (fun _ _ => rfl) i6 (by rw [rx_cats_map]; omega) hd (fun H1 locs1 a1 a2 a3 => kk H1 locs1 ⟨hK, e2 ▸ a1, e2 ▸ a2, a3⟩)
      · cases hs
    · cases hs
  · cases hs
end RXH
end
section
/-! the machine does what rx_heap does: all of it -/
section RXI
variable {p : Program} {l : Launch} {e : Env} {R : Room} {s : State} {m : MethodId} {args : Array Value} {below : List Frame} {meth : Method} {c : Code} {H : Heap} {locs : List Loc} {cells slots : Nat} {Q : State → Prop}
variable {cc : ByteArray} {pc pc' nL len co idx base : Nat} {ini : Bool} {ls : Array Slot} {D : va_G} {tC : Nat → ClassId} {ad : Nat → Nat} {st st' : List Value} {h h' : rx_H}
theorem rx_h_stat (hx : p.tables.exec = Jvm.exec) (hb : c.code = cc) (hown : s.vm.findClass (rx_cn co) = some m.cls) (hts : ∀ w ∈ rx_Ts, w.before args s = true) (hC : rx_Con ad base s) (hR : rx_Rel D tC ad base s H locs h) (hd : decode cc pc = .ok (.getstatic idx, 3)) {v : Value} (hs : rx_stat co idx = some v) (kk : W p l e R s m args below meth c H locs cells slots Q (F0 m (pc + 3) ls (rx_v ad v :: st.map (rx_v ad)))) :
    W p l e R s m args below meth c H locs cells slots Q (F0 m pc ls (st.map (rx_v ad))) := by
  obtain ⟨hK, hP, hD, hS⟩ := hR
  unfold rx_stat at hs
  split at hs
  · next k pos hL =>
    have h1 := List.all_eq_true.mp rx_schk _ (rx_lk_mem hL)
    split at hs
    · next C n d a he =>
      cases hs
      obtain ⟨N, a⟩ := a
      simp only [he] at h1
      exact va_gets hx hb (hC.2.1 _ _ _ _ _ _ he).1 hS hown (hts _ (rx_has_mem h1)) (fun _ q => q) hd kk
    · next C n d x he =>
      cases hs
      simp only [he] at h1
      exact va_gets hx hb (hC.2.2.1 _ _ _ _ _ he) hS hown (hts _ (rx_has_mem h1)) (fun _ q => q) hd kk
    · cases hs
  · cases hs
theorem rx_h_ldc (hx : p.tables.exec = Jvm.exec) (hb : c.code = cc) (hown : s.vm.findClass (rx_cn co) = some m.cls) (hts : ∀ w ∈ rx_Ts, w.before args s = true) (hC : rx_Con ad base s) (hd : decode cc pc = .ok (.ldc idx, 2)) {v : Value} (hs : rx_ldc co idx = some v) (kk : W p l e R s m args below meth c H locs cells slots Q (F0 m (pc + 2) ls (rx_v ad v :: st.map (rx_v ad)))) :
    W p l e R s m args below meth c H locs cells slots Q (F0 m pc ls (st.map (rx_v ad))) := by
  unfold rx_ldc at hs
  split at hs
  · next x pos hL =>
    cases hs
    have h1 := List.all_eq_true.mp rx_cichk _ (rx_lk_mem hL)
    exact lv_ldc hx hb hown (hts _ (rx_has_mem h1)) hd kk
  · split at hs
    · next k hk =>
      split at hs
      · cases hs
        obtain ⟨tx, hr⟩ := hC.2.2.2.1 co idx k hk
        exact va_ldcS hx hb hown hr hd kk
      · cases hs
    · cases hs
theorem rx_cn_cl : ∀ ci C T N, vwCl[ci]? = some (C, T, N) → rx_cn ci = C := by
  intro ci C T N h
  have h1 : (List.range vwCl.length).all (fun i => match vwCl[i]? with
    | some (C, _, _) => decide (rx_cn i = C)
    | none => true) = true := by decide +kernel
  have hl : ci < vwCl.length := (List.getElem?_eq_some_iff.mp h).1
  have h2 := List.all_eq_true.mp h1 ci (List.mem_range.mpr hl)
  simp only [h, decide_eq_true_eq] at h2
  exact h2
theorem rx_map1 {α β : Type} {o : Option α} {f : α → β} {b : β} (h : o.map f = some b) : ∃ a, o = some a ∧ f a = b := by
  cases o with
  | none => cases h
  | some a => exact ⟨a, rfl, Option.some.inj h⟩
set_option maxHeartbeats 2000000 in
theorem rx_heap_sim (hx : p.tables.exec = Jvm.exec) (hb : c.code = cc) (hml : c.maxLocals = ls.size) (hown : s.vm.findClass (rx_cn co) = some m.cls) (hts : ∀ w ∈ rx_Ts, w.before args s = true) (hin : ini = true → meth.name = "<init>") (hC : rx_Con ad base s) (hR : rx_Rel D tC ad base s H locs h) {i : Instr} (hd : decode cc pc = .ok (i, len)) (hs : rx_heap co ini R.frames R.locals i len pc st h = some (pc', st', h')) (kk : rx_KH p l e R s m args below meth c cells slots Q D tC ad base ls pc' st' h') :
    W p l e R s m args below meth c H locs cells slots Q (F0 m pc ls (st.map (rx_v ad))) := by
  unfold rx_heap at hs
  split at hs
  · obtain ⟨r, h1, h2⟩ := rx_map1 hs
    cases h2
    exact rx_h_get hx hb hown hts hC hR hd h1 (kk H locs hR)
  · obtain ⟨⟨r, hh⟩, h1, h2⟩ := rx_map1 hs
    cases h2
    exact rx_h_put hx hb hown hts hin rx_cn_cl hR hd h1 kk
  · obtain ⟨r, h1, h2⟩ := rx_map1 hs
    cases h2
    exact rx_h_iald hx hb hC hR hd h1 (kk H locs hR)
  · obtain ⟨r, h1, h2⟩ := rx_map1 hs
    cases h2
    exact rx_h_bald hx hb hC hR hd h1 (kk H locs hR)
  · obtain ⟨r, h1, h2⟩ := rx_map1 hs
    cases h2
    exact rx_h_aald hx hb hR hd h1 (kk H locs hR)
  · obtain ⟨r, h1, h2⟩ := rx_map1 hs
    cases h2
    exact rx_h_alen hx hb hC hR hd h1 (kk H locs hR)
  · obtain ⟨⟨r, hh⟩, h1, h2⟩ := rx_map1 hs
    cases h2
    exact rx_h_iast hx hb hR hd h1 kk
  · obtain ⟨⟨r, hh⟩, h1, h2⟩ := rx_map1 hs
    cases h2
    exact rx_h_bast hx hb hR hd h1 kk
  · obtain ⟨⟨r, hh⟩, h1, h2⟩ := rx_map1 hs
    cases h2
    exact rx_h_aast hx hb hR hd h1 kk
  · obtain ⟨v, h1, h2⟩ := rx_map1 hs
    cases h2
    exact rx_h_stat hx hb hown hts hC hR hd h1 (kk H locs hR)
  · obtain ⟨v, h1, h2⟩ := rx_map1 hs
    cases h2
    exact rx_h_ldc hx hb hown hts hC hd h1 (kk H locs hR)
  · split at hs
    · next x pos hL =>
      cases hs
      have h1 := List.all_eq_true.mp rx_cichk _ (rx_lk_mem hL)
      exact lv_ldcw hx hb hown (hts _ (rx_has_mem h1)) hd (kk H locs hR)
    · cases hs
  · split at hs
    · next x pos hL =>
      cases hs
      have h1 := List.all_eq_true.mp rx_cjchk _ (rx_lk_mem hL)
      exact lv_ldc2 hx hb hown (hts _ (rx_has_mem h1)) hd (kk H locs hR)
    · cases hs
  · split at hs
    · next pos k r hL =>
      split at hs
      · next hi =>
        cases hs
        have h1 := List.all_eq_true.mp rx_olchk _ (rx_lk_mem hL)
        have hw := rx_w_oi
        exact W.objInit hx hb hown (hts _ (rx_has_mem h1)) (hts _ hw.1) (hts _ hw.2.1) rfl hml.symm rfl hd hi.1 (by
          have hz := hi.2
          show 2 * (F0 m pc ls _).monitorRoom + _ + 12 ≤ _
          have e0 : ∀ x, (F0 m pc ls x).monitorRoom = 0 := fun _ => rfl
          rw [rx_cats_map, e0]
          omega) (kk H locs hR)
      · cases hs
    · cases hs
  · split at hs
    · next pos hL =>
      obtain ⟨⟨r, hh⟩, h1, h2⟩ := rx_map1 hs
      cases h2
      exact rx_h_copy hx hb hml hown hts hL hR hd h1 kk
    · cases hs
  · cases hs
end RXI
end
section
/-! AN ENGINE, PART 3: new cells -/
def rx_nr (n : Nat) : Value → Bool
  | .ref k => decide (k ≠ n)
  | _ => true
def rx_nrC (n : Nat) : rx_C → Bool
  | .inl _ => true
  | .inr (.inl (_, a)) => a.all (fun o => match o with
    | some k => decide (k ≠ n)
    | none => true)
  | .inr (.inr (_, fs)) => fs.all (rx_nr n)
/-- nothing names the place n yet -/
def rx_fresh (n : Nat) (l : rx_L) (st : List Value) (h : rx_H) : Bool := decide (n < 1000000) && l.all (fun q => rx_nr n q.2) && st.all (rx_nr n) && h.all (rx_nrC n)
def rx_at : ArrayType → Option Nat
  | .int => some 0
  | .byte => some 1
  | .boolean => some 2
  | _ => none
def rx_alloc (co mc ms : Nat) (i : Instr) (len pc : Nat) (l : rx_L) (st : List Value) (h : rx_H) (uc us : Nat) : Option (Nat × List Value × rx_H × Nat × Nat) := match i, len with
  | .new idx, 3 => match rx_lk rx_NLs co idx with
    | some (ci, _) => match vwCl[ci]?, rx_cf[ci]? with
      | some (_, _, N), some ty0 => if rx_fresh h.length l st h = true ∧ uc + 1 ≤ mc ∧ us + N ≤ ms then some (pc + 3, .ref h.length :: st, h ++ [.inr (.inr (ci, (List.range N).map (fun k => defaultValue (ty0 k))))], uc + 1, us + N) else none
      | _, _ => none
    | none => none
  | .newarray a, 2 => match st, rx_at a with
    | .int n :: r, some t => if rx_fresh h.length l r h = true ∧ ¬ n < 0 ∧ n.toNatClampNeg ≤ 1000000 ∧ uc + 1 ≤ mc ∧ us + n.toNatClampNeg ≤ ms then some (pc + 2, .ref h.length :: r, h ++ [.inl (t, n.toNatClampNeg, fun _ => 0)], uc + 1, us + n.toNatClampNeg) else none
    | _, _ => none
  | .anewarray idx, 3 => match st, rx_lk rx_ALs co idx with
    | .int n :: r, some (t, _) => if rx_fresh h.length l r h = true ∧ ¬ n < 0 ∧ n.toNatClampNeg ≤ 1000000 ∧ uc + 1 ≤ mc ∧ us + n.toNatClampNeg ≤ ms then some (pc + 3, .ref h.length :: r, h ++ [.inr (.inl (t, List.replicate n.toNatClampNeg none))], uc + 1, us + n.toNatClampNeg) else none
    | _, _ => none
  | _, _ => none
set_option maxRecDepth 100000 in
theorem rx_nlchk : rx_NLs.all (fun q => match vwCl[q.2.1]? with
  | some (C, _, _) => rx_has q.2.2 (.classLink (rx_cn q.1.1) q.1.2 C)
  | none => false) = true := by decide +kernel
set_option maxRecDepth 100000 in
theorem rx_alchk : rx_ALs.all (fun q => rx_el.any (fun z => decide (z.1 = q.2.1) && rx_has q.2.2 (.classLink (rx_cn q.1.1) q.1.2 (rx_cn z.2)))) = true := by decide +kernel
set_option maxRecDepth 100000 in
theorem rx_w_ac : Cond.arrayClass .int ∈ rx_Ts ∧ Cond.arrayClass .byte ∈ rx_Ts ∧ Cond.arrayClass .boolean ∈ rx_Ts := by
  have h := rx_in2_mem (ws := [Cond.arrayClass .int, Cond.arrayClass .byte, Cond.arrayClass .boolean]) (by decide +kernel)
  exact ⟨h _ (by simp), h _ (by simp), h _ (by simp)⟩
theorem rx_RA_uniq {U : State} {a b : ClassId} {ty : FieldType} (h1 : va_RA U a ty) (h2 : va_RA U b ty) : a = b := by
  cases ty with
  | object C =>
    obtain ⟨_, _, _, _, _, e1⟩ := h1
    obtain ⟨_, _, _, _, _, e2⟩ := h2
    exact Option.some.inj (e1.symm.trans e2)
  | _ => exact Option.some.inj (Eq.trans (Eq.symm h1) h2)
section RXN
variable {p : Program} {l : Launch} {e : Env} {R : Room} {s : State} {m : MethodId} {args : Array Value} {below : List Frame} {meth : Method} {c : Code} {H : Heap} {locs : List Loc} {uc us : Nat} {Q : State → Prop}
variable {cc : ByteArray} {pc pc' nL len co idx base n uc' us' : Nat} {ls : Array Slot} {D : va_G} {tC : Nat → ClassId} {ad ad' : Nat → Nat} {lv : rx_L} {st st' : List Value} {h h' : rx_H}
theorem rx_nr_v {v : Value} (h1 : rx_nr n v = true) (ha : ∀ k, k ≠ n → ad' k = ad k) : rx_v ad' v = rx_v ad v := by
  cases v with
  | ref k => exact congrArg Value.ref (ha k (of_decide_eq_true h1))
  | _ => rfl
theorem rx_nr_c {x : rx_C} (h1 : rx_nrC n x = true) (ha : ∀ k, k ≠ n → ad' k = ad k) : rx_c ad' tC x = rx_c ad tC x := by
  rcases x with ⟨t, N, f⟩ | ⟨t, a⟩ | ⟨ci, fs⟩
  · rfl
  · simp only [rx_c]
    have hf : (fun j => (a.getD j none).map ad') = (fun j => (a.getD j none).map ad) := by
      funext j
      cases hj : a[j]? with
      | none => simp [List.getD_eq_getElem?_getD, hj]
      | some o =>
        cases o with
        | none => simp [List.getD_eq_getElem?_getD, hj]
        | some k =>
          have h2 := List.all_eq_true.mp h1 (some k) (List.mem_of_getElem? hj)
          have h3 : k ≠ n := of_decide_eq_true h2
          simp [List.getD_eq_getElem?_getD, hj, ha k h3]
    rw [hf]
  · simp only [rx_c]
    have hf : fs.map (rx_v ad') = fs.map (rx_v ad) := List.map_congr_left fun v hv => rx_nr_v (List.all_eq_true.mp h1 v hv) ha
    rw [hf]
theorem rx_fresh_all (h1 : rx_fresh n lv st h = true) (ha : ∀ k, k ≠ n → ad' k = ad k) : n < 1000000 ∧ rx_l ad' lv = rx_l ad lv ∧ st.map (rx_v ad') = st.map (rx_v ad) ∧ (h.length ≤ n → rx_w ad' tC h = rx_w ad tC h) := by
  unfold rx_fresh at h1
  simp only [Bool.and_eq_true, decide_eq_true_eq] at h1
  obtain ⟨⟨⟨h1, h2⟩, h3⟩, h4⟩ := h1
  refine ⟨h1, ?_, ?_, ?_⟩
  · exact List.map_congr_left fun q hq => by rw [rx_nr_v (List.all_eq_true.mp h2 q hq) ha]
  · exact List.map_congr_left fun v hv => rx_nr_v (List.all_eq_true.mp h3 v hv) ha
  · intro hl
    apply List.ext_getElem?
    intro j
    simp only [rx_w, List.getElem?_mapIdx]
    cases hj : h[j]? with
    | none => rfl
    | some x =>
      have hlt : j < h.length := (List.getElem?_eq_some_iff.mp hj).1
      simp only [Option.map_some]
      rw [rx_nr_c (List.all_eq_true.mp h4 x (List.mem_of_getElem? hj)) ha, ha j (by omega)]
theorem rx_w_push {x : rx_C} : rx_w ad tC (h ++ [x]) = rx_w ad tC h ++ [(ad h.length, rx_c ad tC x)] := by
  simp [rx_w, List.mapIdx_append]
/-- the goal behind a new cell -/
def rx_KN (p : Program) (l : Launch) (e : Env) (R : Room) (s : State) (m : MethodId) (args : Array Value) (below : List Frame) (meth : Method) (c : Code) (Q : State → Prop) (D : va_G) (tC : Nat → ClassId) (ad : Nat → Nat) (base : Nat) (ls : Array Slot) (lv : rx_L) (n pc : Nat) (st : List Value) (h : rx_H) (uc us : Nat) : Prop :=
  ∀ (ad' : Nat → Nat) (H : Heap) (locs : List Loc), (∀ k, k ≠ n → ad' k = ad k) → rx_l ad' lv = rx_l ad lv → rx_Rel D tC ad' base s H locs h → W p l e R s m args below meth c H locs uc us Q (F0 m pc ls (st.map (rx_v ad')))
theorem rx_up {q : Nat} : ∀ k, k ≠ n → va_up ad n q k = ad k := fun k hk => by unfold va_up; rw [if_neg hk]
theorem rx_up0 {q : Nat} : va_up ad n q n = q := by unfold va_up; rw [if_pos rfl]
theorem rx_n_new (hx : p.tables.exec = Jvm.exec) (hb : c.code = cc) (hown : s.vm.findClass (rx_cn co) = some m.cls) (hts : ∀ w ∈ rx_Ts, w.before args s = true) (hbs : base ≤ s.heap.size) (hR : rx_Rel D tC ad base s H locs h) (hd : decode cc pc = .ok (.new idx, 3)) {ci pos N : Nat} {C : String} {T : u_T} {ty0 : Nat → FieldType} (hL : rx_lk rx_NLs co idx = some (ci, pos)) (h1 : vwCl[ci]? = some (C, T, N)) (h2 : rx_cf[ci]? = some ty0) (hf : rx_fresh h.length lv st h = true) (hc1 : uc + 1 ≤ R.cells) (hc2 : us + N ≤ R.slots)
    (kk : rx_KN p l e R s m args below meth c Q D tC ad base ls lv h.length (pc + 3) (.ref h.length :: st) (h ++ [.inr (.inr (ci, (List.range N).map (fun k => defaultValue (ty0 k))))]) (uc + 1) (us + N)) :
    W p l e R s m args below meth c H locs uc us Q (F0 m pc ls (st.map (rx_v ad))) := by
  obtain ⟨hK, hP, hD, hS⟩ := hR
  have hlk := List.all_eq_true.mp rx_nlchk _ (rx_lk_mem hL)
  simp only [h1] at hlk
  obtain ⟨w1, ⟨ty1, e1, w2⟩, w3, w4, w5⟩ := rx_cl_ok h1
  cases e1.symm.trans h2
  refine va_new (D := D) (C := C) (T := T) (N := N) (ci := ci) (fs := (List.range N).map (fun k => defaultValue (ty0 k))) hx hb hts w1 ty0 w2 hown (hts _ (rx_has_mem hlk)) (hts _ w4) (hts _ w5) hK hP hD hS (fun q hq => Nat.le_trans hbs hq) h1 (fun j hj => by simp [vp_V, List.getD_eq_getElem?_getD, hj]) hc1 hc2 hd (fun q H1 a1 a2 a3 => ?_)
  obtain ⟨f1, f2, f3, f4⟩ := rx_fresh_all (ad := ad) (ad' := va_up ad h.length q) (tC := tC) hf rx_up
  have hdf : ((List.range N).map (fun k => defaultValue (ty0 k))).map (rx_v (va_up ad h.length q)) = (List.range N).map (fun k => defaultValue (ty0 k)) := by
    rw [List.map_map]
    apply List.map_congr_left
    intro k _
    show rx_v _ (defaultValue (ty0 k)) = defaultValue (ty0 k)
    cases ty0 k <;> rfl
  have hw : rx_w (va_up ad h.length q) tC (h ++ [.inr (.inr (ci, (List.range N).map (fun k => defaultValue (ty0 k))))]) = rx_w ad tC h ++ [(q, .inr (ci, (List.range N).map (fun k => defaultValue (ty0 k))))] := by
    rw [rx_w_push, f4 (Nat.le_refl _), rx_up0]
    simp only [rx_c, hdf]
  have := kk (va_up ad h.length q) H1 locs rx_up f2 ⟨hK, hw ▸ a1, hw ▸ a2, a3⟩
  simp only [List.map_cons, f3] at this
  have e2 : rx_v (va_up ad h.length q) (.ref h.length) = .ref q := congrArg Value.ref rx_up0
  rw [e2] at this
  exact this
theorem rx_n_arr (hx : p.tables.exec = Jvm.exec) (hb : c.code = cc) (hts : ∀ w ∈ rx_Ts, w.before args s = true) (hbs : base ≤ s.heap.size) (hR : rx_Rel D tC ad base s H locs h) {a : ArrayType} (hd : decode cc pc = .ok (.newarray a, 2)) {x : Int32} {t : Nat} (ht : rx_at a = some t) (hf : rx_fresh h.length lv st h = true) (hn : ¬ x < 0) (hn2 : x.toNatClampNeg ≤ 1000000) (hc1 : uc + 1 ≤ R.cells) (hc2 : us + x.toNatClampNeg ≤ R.slots)
    (kk : rx_KN p l e R s m args below meth c Q D tC ad base ls lv h.length (pc + 2) (.ref h.length :: st) (h ++ [.inl (t, x.toNatClampNeg, fun _ => 0)]) (uc + 1) (us + x.toNatClampNeg)) :
    W p l e R s m args below meth c H locs uc us Q (F0 m pc ls (.int x :: st.map (rx_v ad))) := by
  obtain ⟨hK, hP, hD, hS⟩ := hR
  obtain ⟨g1, g2, g3⟩ := rx_w_ac
  have key : ∃ ty, newarray.typeOf a = ty ∧ rx_ty[t]? = some ty ∧ Cond.arrayClass ty ∈ rx_Ts ∧ (∀ cA : ClassId, vp_cell cA (x.toNatClampNeg, .inl (fun _ => 0)) = arrV cA x.toNatClampNeg (fun _ => defaultValue ty)) ∧ componentBytes ty ≤ 8 := by
    cases a <;> first
      | (cases ht; done)
      | (cases ht; exact ⟨_, rfl, rfl, g1, fun _ => rfl, by decide⟩)
      | (cases ht; exact ⟨_, rfl, rfl, g2, fun _ => rfl, by decide⟩)
      | (cases ht; exact ⟨_, rfl, rfl, g3, fun _ => rfl, by decide⟩)
  obtain ⟨ty, k1, k2, k3, k4, k5⟩ := key
  subst k1
  refine va_newa (D := D) hx hb (hts _ k3) rfl hK hP hD hS (fun q hq => Nat.le_trans hbs hq) k4 hn rfl (by
    have := Nat.mul_le_mul hn2 k5
    omega) hc1 hc2 hd (fun q cA H1 a0 a1 a2 a3 => ?_)
  have hcA : cA = tC t := by
    have e1 := (a0.2 (rx_tys tC).length (cA, newarray.typeOf a) (by simp)).2
    have e2 := (hK.2 t _ (rx_tys_get k2)).2
    exact rx_RA_uniq e1 e2
  subst hcA
  obtain ⟨f1, f2, f3, f4⟩ := rx_fresh_all (ad := ad) (ad' := va_up ad h.length q) (tC := tC) hf rx_up
  have hw : rx_w (va_up ad h.length q) tC (h ++ [.inl (t, x.toNatClampNeg, fun _ => 0)]) = rx_w ad tC h ++ [(q, .inl (tC t, x.toNatClampNeg, .inl (fun _ => 0)))] := by
    rw [rx_w_push, f4 (Nat.le_refl _), rx_up0]
    rfl
  have := kk (va_up ad h.length q) H1 locs rx_up f2 ⟨hK, hw ▸ a1, hw ▸ a2, a3⟩
  simp only [List.map_cons, f3] at this
  have e2 : rx_v (va_up ad h.length q) (.ref h.length) = .ref q := congrArg Value.ref rx_up0
  rw [e2] at this
  exact this
theorem rx_n_arq (hx : p.tables.exec = Jvm.exec) (hb : c.code = cc) (hown : s.vm.findClass (rx_cn co) = some m.cls) (hts : ∀ w ∈ rx_Ts, w.before args s = true) (hC : rx_Con ad base s) (hbs : base ≤ s.heap.size) (hR : rx_Rel D tC ad base s H locs h) (hd : decode cc pc = .ok (.anewarray idx, 3)) {x : Int32} {t pos : Nat} (hL : rx_lk rx_ALs co idx = some (t, pos)) (hf : rx_fresh h.length lv st h = true) (hn : ¬ x < 0) (hn2 : x.toNatClampNeg ≤ 1000000) (hc1 : uc + 1 ≤ R.cells) (hc2 : us + x.toNatClampNeg ≤ R.slots)
    (kk : rx_KN p l e R s m args below meth c Q D tC ad base ls lv h.length (pc + 3) (.ref h.length :: st) (h ++ [.inr (.inl (t, List.replicate x.toNatClampNeg none))]) (uc + 1) (us + x.toNatClampNeg)) :
    W p l e R s m args below meth c H locs uc us Q (F0 m pc ls (.int x :: st.map (rx_v ad))) := by
  obtain ⟨hK, hP, hD, hS⟩ := hR
  have hlk := List.all_eq_true.mp rx_alchk _ (rx_lk_mem hL)
  obtain ⟨⟨t2, ci⟩, hz1, hz2⟩ := List.any_eq_true.mp hlk
  simp only [Bool.and_eq_true, decide_eq_true_eq] at hz2
  obtain ⟨e0, hz2⟩ := hz2
  subst e0
  obtain ⟨C, T, N, h1, h2, h3⟩ := rx_el_has hz1
  refine va_newq (D := D) (C := rx_cn ci) hx hb hown (hts _ (rx_has_mem hz2)) (hC.2.2.2.2.1 _ _ hz1) hK hP hD hS (fun q hq => Nat.le_trans hbs hq) hn rfl (by omega) hc1 hc2 hd (fun q cA H1 a0 a1 a2 a3 => ?_)
  have hcA : cA = tC t2 := by
    have e1 := (a0.2 (rx_tys tC).length (cA, .object (rx_cn ci)) (by simp)).2
    have e2 := (hK.2 t2 _ (rx_tys_get h2)).2
    rw [← h3] at e2
    exact rx_RA_uniq e1 e2
  subst hcA
  obtain ⟨f1, f2, f3, f4⟩ := rx_fresh_all (ad := ad) (ad' := va_up ad h.length q) (tC := tC) hf rx_up
  have hw : rx_w (va_up ad h.length q) tC (h ++ [.inr (.inl (t2, List.replicate x.toNatClampNeg none))]) = rx_w ad tC h ++ [(q, .inl (tC t2, x.toNatClampNeg, .inr (.inr (.inr (.inr (fun _ => none))))))] := by
    rw [rx_w_push, f4 (Nat.le_refl _), rx_up0]
    simp only [rx_c, List.length_replicate]
    have hfn : (fun j => ((List.replicate x.toNatClampNeg (none : Option Nat)).getD j none).map (va_up ad h.length q)) = (fun _ => none) := by
      funext j
      simp only [List.getD_eq_getElem?_getD, List.getElem?_replicate]
      split <;> rfl
    rw [hfn]
  have := kk (va_up ad h.length q) H1 locs rx_up f2 ⟨hK, hw ▸ a1, hw ▸ a2, a3⟩
  simp only [List.map_cons, f3] at this
  have e2 : rx_v (va_up ad h.length q) (.ref h.length) = .ref q := congrArg Value.ref rx_up0
  rw [e2] at this
  exact this
theorem rx_alloc_sim (hx : p.tables.exec = Jvm.exec) (hb : c.code = cc) (hown : s.vm.findClass (rx_cn co) = some m.cls) (hts : ∀ w ∈ rx_Ts, w.before args s = true) (hC : rx_Con ad base s) (hbs : base ≤ s.heap.size) (hR : rx_Rel D tC ad base s H locs h) {i : Instr} (hd : decode cc pc = .ok (i, len)) (hs : rx_alloc co R.cells R.slots i len pc lv st h uc us = some (pc', st', h', uc', us')) (kk : rx_KN p l e R s m args below meth c Q D tC ad base ls lv h.length pc' st' h' uc' us') :
    h.length < 1000000 ∧ uc < R.cells ∧ W p l e R s m args below meth c H locs uc us Q (F0 m pc ls (st.map (rx_v ad))) := by
  have hz : ∀ {st0 : List Value}, rx_fresh h.length lv st0 h = true → h.length < 1000000 := fun q => (rx_fresh_all (ad := ad) (ad' := ad) (tC := tC) q (fun _ _ => rfl)).1
  unfold rx_alloc at hs
  split at hs
  · split at hs
    · next ci pos hL =>
      split at hs
      · next C T N ty0 h1 h2 =>
        split at hs
        · next hi => cases hs; exact ⟨hz hi.1, hi.2.1, rx_n_new hx hb hown hts hbs hR hd hL h1 h2 hi.1 hi.2.1 hi.2.2 kk⟩
        · cases hs
      · cases hs
    · cases hs
  · split at hs
    · next n r t ht =>
      split at hs
      · next hi => cases hs; exact ⟨hz hi.1, hi.2.2.2.1, rx_n_arr hx hb hts hbs hR hd ht hi.1 hi.2.1 hi.2.2.1 hi.2.2.2.1 hi.2.2.2.2 kk⟩
      · cases hs
    · cases hs
  · split at hs
    · next n r t pos hL =>
      split at hs
      · next hi => cases hs; exact ⟨hz hi.1, hi.2.2.2.1, rx_n_arq hx hb hown hts hC hbs hR hd hL hi.1 hi.2.1 hi.2.2.1 hi.2.2.2.1 hi.2.2.2.2 kk⟩
      · cases hs
    · cases hs
  · cases hs
end RXN
end
