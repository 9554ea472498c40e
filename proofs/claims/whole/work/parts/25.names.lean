/-! a name for each method, a row for each link -/
def mX_init : rx_M := (11, ⟨"RingDrive", "<init>", "()V"⟩, prog_1_method_1_code, 1, none, 0, 2, 4, 84, 115, 16888)
def mTape_init : rx_M := (10, ⟨"RingDrive$Tape", "<init>", "()V"⟩, prog_12_method_1_code, 1, none, 0, 2, 1, 20, 1, 400)
def mStatus_init : rx_M := (9, ⟨"RingDrive$Status", "<init>", "()V"⟩, prog_11_method_1_code, 1, none, 0, 2, 1, 20, 2, 72)
def mDisk_init : rx_M := (4, ⟨"RingDrive$Disk", "<init>", "(LRingDrive$Status;)V"⟩, prog_6_method_1_code, 3, none, 1, 2, 2, 46, 30, 12364)
def mRing_init : rx_M := (8, ⟨"RingDrive$Ring", "<init>", "(II)V"⟩, prog_10_method_1_code, 3, none, 2, 2, 1, 24, 1, 1000)
def mProcessor_init : rx_M := (7, ⟨"RingDrive$Processor", "<init>", "()V"⟩, prog_9_method_1_code, 1, none, 0, 2, 1, 20, 1, 2048)
def mDos_init : rx_M := (5, ⟨"RingDrive$Dos", "<init>", "(LRingDrive$Status;LRingDrive$Disk;LRingDrive$Tape;)V"⟩, prog_7_method_1_code, 5, none, 3, 2, 3, 60, 68, 1612)
def mPattern_init : rx_M := (6, ⟨"RingDrive$Pattern", "<init>", "()V"⟩, prog_8_method_1_code, 1, none, 0, 2, 1, 20, 1, 10)
def mBlockMap_init : rx_M := (0, ⟨"RingDrive$BlockMap", "<init>", "(LRingDrive$Disk;)V"⟩, prog_2_method_1_code, 2, none, 1, 2, 1, 20, 1, 64)
def mDirectory_init : rx_M := (3, ⟨"RingDrive$Directory", "<init>", "(LRingDrive$Disk;LRingDrive$Status;)V"⟩, prog_5_method_1_code, 3, none, 2, 2, 1, 20, 1, 64)
def mChannel_init : rx_M := (1, ⟨"RingDrive$Channel", "<init>", "()V"⟩, prog_3_method_1_code, 1, none, 0, 2, 2, 40, 3, 76)
def mCommands_init : rx_M := (2, ⟨"RingDrive$Commands", "<init>", "(LRingDrive$Dos;LRingDrive$Processor;)V"⟩, prog_4_method_1_code, 3, none, 2, 2, 2, 40, 6, 36)
def mPattern_fitAll : rx_M := (6, ⟨"RingDrive$Pattern", "fitAll", "()V"⟩, prog_8_method_4_code, 1, none, 0, 0, 0, 0, 0, 0)
def mX_feed : rx_M := (11, ⟨"RingDrive", "feed", "(IIIII)I"⟩, prog_1_method_2_code, 6, (Option.some Jvm.ClassFile.FieldType.int), 5, 0, 1, 22, 0, 0)
def mTape_add : rx_M := (10, ⟨"RingDrive$Tape", "add", "(I)V"⟩, prog_12_method_3_code, 3, none, 1, 0, 0, 0, 0, 0)
def mX_open : rx_M := (11, ⟨"RingDrive", "open", "(II)I"⟩, prog_1_method_3_code, 3, (Option.some Jvm.ClassFile.FieldType.int), 2, 0, 7, 184, 0, 0)
def mX_sendText : rx_M := (11, ⟨"RingDrive", "sendText", "(II)Z"⟩, prog_1_method_15_code, 3, (Option.some Jvm.ClassFile.FieldType.boolean), 2, 0, 1, 21, 0, 0)
def mX_isChannel : rx_M := (11, ⟨"RingDrive", "isChannel", "(I)Z"⟩, prog_1_method_14_code, 1, (Option.some Jvm.ClassFile.FieldType.boolean), 1, 1, 0, 0, 0, 0)
def mTape_has : rx_M := (10, ⟨"RingDrive$Tape", "has", "(I)Z"⟩, prog_12_method_2_code, 2, (Option.some Jvm.ClassFile.FieldType.boolean), 1, 0, 0, 0, 0, 0)
def mTape_send : rx_M := (10, ⟨"RingDrive$Tape", "send", "(I)V"⟩, prog_12_method_4_code, 2, none, 1, 0, 0, 0, 0, 0)
def mCommands_run : rx_M := (2, ⟨"RingDrive$Commands", "run", "()I"⟩, prog_4_method_2_code, 1, (Option.some Jvm.ClassFile.FieldType.int), 0, 0, 6, 163, 0, 0)
def mStatus_begin : rx_M := (9, ⟨"RingDrive$Status", "begin", "()V"⟩, prog_11_method_2_code, 1, none, 0, 0, 1, 23, 0, 0)
def mStatus_set : rx_M := (9, ⟨"RingDrive$Status", "set", "(III)I"⟩, prog_11_method_3_code, 4, (Option.some Jvm.ClassFile.FieldType.int), 3, 0, 0, 0, 0, 0)
def mTape_byteAt : rx_M := (10, ⟨"RingDrive$Tape", "byteAt", "(I)I"⟩, prog_12_method_5_code, 2, (Option.some Jvm.ClassFile.FieldType.int), 1, 0, 0, 0, 0, 0)
def mCommands_newDisk : rx_M := (2, ⟨"RingDrive$Commands", "newDisk", "()I"⟩, prog_4_method_4_code, 5, (Option.some Jvm.ClassFile.FieldType.int), 0, 0, 5, 118, 0, 0)
def mTape_find : rx_M := (10, ⟨"RingDrive$Tape", "find", "(II)I"⟩, prog_12_method_6_code, 4, (Option.some Jvm.ClassFile.FieldType.int), 2, 0, 1, 24, 0, 0)
def mPattern_take : rx_M := (6, ⟨"RingDrive$Pattern", "take", "(LRingDrive$Tape;II)Z"⟩, prog_8_method_2_code, 5, (Option.some Jvm.ClassFile.FieldType.boolean), 3, 0, 1, 24, 0, 0)
def mPattern_isEmpty : rx_M := (6, ⟨"RingDrive$Pattern", "isEmpty", "()Z"⟩, prog_8_method_3_code, 1, (Option.some Jvm.ClassFile.FieldType.boolean), 0, 0, 0, 0, 0, 0)
def mPattern_isWild : rx_M := (6, ⟨"RingDrive$Pattern", "isWild", "()Z"⟩, prog_8_method_6_code, 2, (Option.some Jvm.ClassFile.FieldType.boolean), 0, 0, 0, 0, 0, 0)
def mCommands_formatAll : rx_M := (2, ⟨"RingDrive$Commands", "formatAll", "(II)I"⟩, prog_4_method_5_code, 5, (Option.some Jvm.ClassFile.FieldType.int), 2, 0, 4, 94, 0, 0)
def mDos_dropAll : rx_M := (5, ⟨"RingDrive$Dos", "dropAll", "()V"⟩, prog_7_method_4_code, 2, none, 0, 0, 0, 0, 0, 0)
def mDisk_format : rx_M := (4, ⟨"RingDrive$Disk", "format", "(III)I"⟩, prog_6_method_12_code, 6, (Option.some Jvm.ClassFile.FieldType.int), 3, 0, 3, 69, 0, 0)
def mDisk_ring : rx_M := (4, ⟨"RingDrive$Disk", "ring", "(I)LRingDrive$Ring;"⟩, prog_6_method_2_code, 2, (Option.some (Jvm.ClassFile.FieldType.object "RingDrive$Ring")), 1, 0, 0, 0, 0, 0)
def mRing_goTo : rx_M := (8, ⟨"RingDrive$Ring", "goTo", "(II)V"⟩, prog_10_method_11_code, 3, none, 2, 0, 0, 0, 0, 0)
def mDisk_codeData : rx_M := (4, ⟨"RingDrive$Disk", "codeData", "([I)V"⟩, prog_6_method_16_code, 4, none, 1, 0, 1, 26, 0, 0)
def mDisk_encode : rx_M := (4, ⟨"RingDrive$Disk", "encode", "([I[I)V"⟩, prog_6_method_17_code, 7, none, 2, 1, 0, 0, 0, 0)
def mDisk_fillHeader : rx_M := (4, ⟨"RingDrive$Disk", "fillHeader", "(IIII)V"⟩, prog_6_method_15_code, 5, none, 4, 0, 0, 0, 0, 0)
def mRing_putMarked : rx_M := (8, ⟨"RingDrive$Ring", "putMarked", "([I)V"⟩, prog_10_method_7_code, 4, none, 1, 0, 1, 27, 0, 0)
def mRing_put : rx_M := (8, ⟨"RingDrive$Ring", "put", "(II)V"⟩, prog_10_method_6_code, 8, none, 2, 0, 0, 0, 0, 0)
def mRing_putGap : rx_M := (8, ⟨"RingDrive$Ring", "putGap", "(I)V"⟩, prog_10_method_8_code, 3, none, 1, 0, 1, 27, 0, 0)
def mRing_putGapToEnd : rx_M := (8, ⟨"RingDrive$Ring", "putGapToEnd", "()V"⟩, prog_10_method_9_code, 1, none, 0, 0, 2, 49, 0, 0)
def mDisk_setId : rx_M := (4, ⟨"RingDrive$Disk", "setId", "(II)V"⟩, prog_6_method_7_code, 3, none, 2, 0, 0, 0, 0, 0)
def mDisk_hasId : rx_M := (4, ⟨"RingDrive$Disk", "hasId", "()Z"⟩, prog_6_method_5_code, 1, (Option.some Jvm.ClassFile.FieldType.boolean), 0, 0, 0, 0, 0, 0)
def mDisk_takeId : rx_M := (4, ⟨"RingDrive$Disk", "takeId", "()I"⟩, prog_6_method_8_code, 5, (Option.some Jvm.ClassFile.FieldType.int), 0, 0, 1, 26, 0, 0)
def mDisk_dropId : rx_M := (4, ⟨"RingDrive$Disk", "dropId", "()V"⟩, prog_6_method_6_code, 1, none, 0, 0, 0, 0, 0, 0)
def mRing_onesAhead : rx_M := (8, ⟨"RingDrive$Ring", "onesAhead", "(I)I"⟩, prog_10_method_10_code, 5, (Option.some Jvm.ClassFile.FieldType.int), 1, 0, 0, 0, 0, 0)
def mRing_startRound : rx_M := (8, ⟨"RingDrive$Ring", "startRound", "(I)V"⟩, prog_10_method_12_code, 2, none, 1, 0, 0, 0, 0, 0)
def mRing_nextFirst : rx_M := (8, ⟨"RingDrive$Ring", "nextFirst", "()I"⟩, prog_10_method_13_code, 5, (Option.some Jvm.ClassFile.FieldType.int), 0, 0, 0, 0, 0, 0)
def mRing_next : rx_M := (8, ⟨"RingDrive$Ring", "next", "()I"⟩, prog_10_method_15_code, 5, (Option.some Jvm.ClassFile.FieldType.int), 0, 0, 0, 0, 0, 0)
def mDisk_decode : rx_M := (4, ⟨"RingDrive$Disk", "decode", "([I[I)Z"⟩, prog_6_method_18_code, 7, (Option.some Jvm.ClassFile.FieldType.boolean), 2, 1, 0, 0, 0, 0)
def mDisk_isHeader : rx_M := (4, ⟨"RingDrive$Disk", "isHeader", "()Z"⟩, prog_6_method_9_code, 1, (Option.some Jvm.ClassFile.FieldType.boolean), 0, 0, 0, 0, 0, 0)
def mBlockMap_begin : rx_M := (0, ⟨"RingDrive$BlockMap", "begin", "(LRingDrive$Pattern;)V"⟩, prog_2_method_4_code, 2, none, 1, 0, 2, 44, 0, 0)
def mArr_fill : rx_M := (19, ⟨"java/util/Arrays", "fill", "([II)V"⟩, prog_20_method_103_code, 4, none, 2, 1, 0, 0, 0, 0)
def mBlockMap_freeAll : rx_M := (0, ⟨"RingDrive$BlockMap", "freeAll", "()V"⟩, prog_2_method_5_code, 2, none, 0, 0, 1, 20, 0, 0)
def mDisk_sectorsOf : rx_M := (4, ⟨"RingDrive$Disk", "sectorsOf", "(I)I"⟩, prog_6_method_3_code, 1, (Option.some Jvm.ClassFile.FieldType.int), 1, 1, 0, 0, 0, 0)
def mBlockMap_takeBlock : rx_M := (0, ⟨"RingDrive$BlockMap", "takeBlock", "(II)V"⟩, prog_2_method_8_code, 3, none, 2, 0, 1, 21, 0, 0)
def mDisk_isLegal : rx_M := (4, ⟨"RingDrive$Disk", "isLegal", "(II)Z"⟩, prog_6_method_4_code, 2, (Option.some Jvm.ClassFile.FieldType.boolean), 2, 1, 0, 0, 0, 0)
def mPattern_putInto : rx_M := (6, ⟨"RingDrive$Pattern", "putInto", "([II)V"⟩, prog_8_method_9_code, 4, none, 2, 0, 1, 21, 0, 0)
def mPattern_padded : rx_M := (6, ⟨"RingDrive$Pattern", "padded", "(I)I"⟩, prog_8_method_10_code, 2, (Option.some Jvm.ClassFile.FieldType.int), 1, 0, 0, 0, 0, 0)
def mBlockMap_store : rx_M := (0, ⟨"RingDrive$BlockMap", "store", "()I"⟩, prog_2_method_3_code, 1, (Option.some Jvm.ClassFile.FieldType.int), 0, 0, 3, 78, 0, 0)
def mDisk_writeBlock : rx_M := (4, ⟨"RingDrive$Disk", "writeBlock", "(II[I)I"⟩, prog_6_method_11_code, 7, (Option.some Jvm.ClassFile.FieldType.int), 3, 0, 2, 52, 0, 0)
def mDisk_seek : rx_M := (4, ⟨"RingDrive$Disk", "seek", "(LRingDrive$Ring;II)I"⟩, prog_6_method_13_code, 7, (Option.some Jvm.ClassFile.FieldType.int), 3, 0, 1, 26, 0, 0)
def mRing_holds : rx_M := (8, ⟨"RingDrive$Ring", "holds", "(I[I)Z"⟩, prog_10_method_14_code, 7, (Option.some Jvm.ClassFile.FieldType.boolean), 2, 0, 0, 0, 0, 0)
def mRing_skip : rx_M := (8, ⟨"RingDrive$Ring", "skip", "(I)V"⟩, prog_10_method_16_code, 3, none, 1, 0, 1, 24, 0, 0)
def mRing_gatherFromFirst : rx_M := (8, ⟨"RingDrive$Ring", "gatherFromFirst", "([I)V"⟩, prog_10_method_17_code, 4, none, 1, 0, 1, 24, 0, 0)
def mDisk_areSame : rx_M := (4, ⟨"RingDrive$Disk", "areSame", "([I[I)Z"⟩, prog_6_method_19_code, 3, (Option.some Jvm.ClassFile.FieldType.boolean), 2, 1, 0, 0, 0, 0)
def mDirectory_writeEmpty : rx_M := (3, ⟨"RingDrive$Directory", "writeEmpty", "(II)I"⟩, prog_5_method_19_code, 3, (Option.some Jvm.ClassFile.FieldType.int), 2, 0, 3, 78, 0, 0)
def mCommands_scratch : rx_M := (2, ⟨"RingDrive$Commands", "scratch", "()I"⟩, prog_4_method_6_code, 5, (Option.some Jvm.ClassFile.FieldType.int), 0, 0, 5, 139, 0, 0)
def mDirectory_rewind : rx_M := (3, ⟨"RingDrive$Directory", "rewind", "()V"⟩, prog_5_method_2_code, 1, none, 0, 0, 1, 24, 0, 0)
def mDirectory_goTo : rx_M := (3, ⟨"RingDrive$Directory", "goTo", "(IIII)V"⟩, prog_5_method_3_code, 5, none, 4, 0, 0, 0, 0, 0)
def mDirectory_find : rx_M := (3, ⟨"RingDrive$Directory", "find", "(ILRingDrive$Pattern;)I"⟩, prog_5_method_4_code, 5, (Option.some Jvm.ClassFile.FieldType.int), 2, 0, 3, 89, 0, 0)
def mDisk_readBlock : rx_M := (4, ⟨"RingDrive$Disk", "readBlock", "(II[I)I"⟩, prog_6_method_10_code, 6, (Option.some Jvm.ClassFile.FieldType.int), 3, 0, 2, 64, 0, 0)
def mDisk_dataFault : rx_M := (4, ⟨"RingDrive$Disk", "dataFault", "()I"⟩, prog_6_method_14_code, 3, (Option.some Jvm.ClassFile.FieldType.int), 0, 0, 1, 26, 0, 0)
def mDirectory_isWanted : rx_M := (3, ⟨"RingDrive$Directory", "isWanted", "(ILRingDrive$Pattern;)Z"⟩, prog_5_method_7_code, 4, (Option.some Jvm.ClassFile.FieldType.boolean), 2, 0, 2, 44, 0, 0)
def mDirectory_base : rx_M := (3, ⟨"RingDrive$Directory", "base", "()I"⟩, prog_5_method_8_code, 1, (Option.some Jvm.ClassFile.FieldType.int), 0, 0, 0, 0, 0, 0)
def mDirectory_type : rx_M := (3, ⟨"RingDrive$Directory", "type", "()I"⟩, prog_5_method_9_code, 1, (Option.some Jvm.ClassFile.FieldType.int), 0, 0, 1, 20, 0, 0)
def mPattern_isSame : rx_M := (6, ⟨"RingDrive$Pattern", "isSame", "([II)Z"⟩, prog_8_method_8_code, 4, (Option.some Jvm.ClassFile.FieldType.boolean), 2, 0, 1, 21, 0, 0)
def mPattern_fits : rx_M := (6, ⟨"RingDrive$Pattern", "fits", "([II)Z"⟩, prog_8_method_7_code, 5, (Option.some Jvm.ClassFile.FieldType.boolean), 2, 0, 0, 0, 0, 0)
def mDirectory_isLast : rx_M := (3, ⟨"RingDrive$Directory", "isLast", "()Z"⟩, prog_5_method_5_code, 1, (Option.some Jvm.ClassFile.FieldType.boolean), 0, 0, 1, 20, 0, 0)
def mDirectory_isFull : rx_M := (3, ⟨"RingDrive$Directory", "isFull", "()Z"⟩, prog_5_method_6_code, 1, (Option.some Jvm.ClassFile.FieldType.boolean), 0, 0, 0, 0, 0, 0)
def mDos_scratchFound : rx_M := (5, ⟨"RingDrive$Dos", "scratchFound", "()I"⟩, prog_7_method_16_code, 5, (Option.some Jvm.ClassFile.FieldType.int), 0, 0, 4, 115, 0, 0)
def mBlockMap_load : rx_M := (0, ⟨"RingDrive$BlockMap", "load", "()I"⟩, prog_2_method_2_code, 1, (Option.some Jvm.ClassFile.FieldType.int), 0, 0, 3, 89, 0, 0)
def mDirectory_firstTrack : rx_M := (3, ⟨"RingDrive$Directory", "firstTrack", "()I"⟩, prog_5_method_11_code, 1, (Option.some Jvm.ClassFile.FieldType.int), 0, 0, 1, 20, 0, 0)
def mDirectory_firstSector : rx_M := (3, ⟨"RingDrive$Directory", "firstSector", "()I"⟩, prog_5_method_12_code, 1, (Option.some Jvm.ClassFile.FieldType.int), 0, 0, 1, 20, 0, 0)
def mDos_giveBackChain : rx_M := (5, ⟨"RingDrive$Dos", "giveBackChain", "(II)I"⟩, prog_7_method_17_code, 7, (Option.some Jvm.ClassFile.FieldType.int), 2, 0, 3, 89, 0, 0)
def mBlockMap_giveBack : rx_M := (0, ⟨"RingDrive$BlockMap", "giveBack", "(II)V"⟩, prog_2_method_9_code, 3, none, 2, 0, 1, 21, 0, 0)
def mDirectory_changeType : rx_M := (3, ⟨"RingDrive$Directory", "changeType", "(I)I"⟩, prog_5_method_15_code, 3, (Option.some Jvm.ClassFile.FieldType.int), 1, 0, 3, 89, 0, 0)
def mCommands_rename : rx_M := (2, ⟨"RingDrive$Commands", "rename", "()I"⟩, prog_4_method_7_code, 4, (Option.some Jvm.ClassFile.FieldType.int), 0, 0, 4, 113, 0, 0)
def mDirectory_changeName : rx_M := (3, ⟨"RingDrive$Directory", "changeName", "(LRingDrive$Pattern;)I"⟩, prog_5_method_16_code, 3, (Option.some Jvm.ClassFile.FieldType.int), 1, 0, 3, 89, 0, 0)
def mCommands_initialise : rx_M := (2, ⟨"RingDrive$Commands", "initialise", "()I"⟩, prog_4_method_8_code, 2, (Option.some Jvm.ClassFile.FieldType.int), 0, 0, 4, 109, 0, 0)
def mCommands_unknown : rx_M := (2, ⟨"RingDrive$Commands", "unknown", "()I"⟩, prog_4_method_3_code, 1, (Option.some Jvm.ClassFile.FieldType.int), 0, 0, 1, 23, 0, 0)
def mCommands_validate : rx_M := (2, ⟨"RingDrive$Commands", "validate", "()I"⟩, prog_4_method_9_code, 3, (Option.some Jvm.ClassFile.FieldType.int), 0, 0, 4, 115, 0, 0)
def mCommands_takeDirectory : rx_M := (2, ⟨"RingDrive$Commands", "takeDirectory", "()I"⟩, prog_4_method_10_code, 5, (Option.some Jvm.ClassFile.FieldType.int), 0, 0, 3, 89, 0, 0)
def mDirectory_isClosed : rx_M := (3, ⟨"RingDrive$Directory", "isClosed", "()Z"⟩, prog_5_method_10_code, 1, (Option.some Jvm.ClassFile.FieldType.boolean), 0, 0, 2, 40, 0, 0)
def mCommands_takeChain : rx_M := (2, ⟨"RingDrive$Commands", "takeChain", "(II)I"⟩, prog_4_method_11_code, 7, (Option.some Jvm.ClassFile.FieldType.int), 2, 0, 3, 89, 0, 0)
def mBlockMap_isFree : rx_M := (0, ⟨"RingDrive$BlockMap", "isFree", "(II)Z"⟩, prog_2_method_7_code, 3, (Option.some Jvm.ClassFile.FieldType.boolean), 2, 0, 1, 21, 0, 0)
def mCommands_user : rx_M := (2, ⟨"RingDrive$Commands", "user", "()I"⟩, prog_4_method_12_code, 1, (Option.some Jvm.ClassFile.FieldType.int), 0, 0, 4, 115, 0, 0)
def mCommands_moveBlock : rx_M := (2, ⟨"RingDrive$Commands", "moveBlock", "(Z)I"⟩, prog_4_method_14_code, 7, (Option.some Jvm.ClassFile.FieldType.int), 1, 0, 3, 89, 0, 0)
def mTape_startNumbers : rx_M := (10, ⟨"RingDrive$Tape", "startNumbers", "()V"⟩, prog_12_method_7_code, 1, none, 0, 0, 2, 47, 0, 0)
def mTape_nextNumber : rx_M := (10, ⟨"RingDrive$Tape", "nextNumber", "()I"⟩, prog_12_method_8_code, 4, (Option.some Jvm.ClassFile.FieldType.int), 0, 0, 1, 21, 0, 0)
def mTape_isDigit : rx_M := (10, ⟨"RingDrive$Tape", "isDigit", "(I)Z"⟩, prog_12_method_9_code, 1, (Option.some Jvm.ClassFile.FieldType.boolean), 1, 1, 0, 0, 0, 0)
def mDos_buffer : rx_M := (5, ⟨"RingDrive$Dos", "buffer", "(I)LRingDrive$Channel;"⟩, prog_7_method_2_code, 3, (Option.some (Jvm.ClassFile.FieldType.object "RingDrive$Channel")), 1, 0, 0, 0, 0, 0)
def mCommands_restart : rx_M := (2, ⟨"RingDrive$Commands", "restart", "()I"⟩, prog_4_method_13_code, 1, (Option.some Jvm.ClassFile.FieldType.int), 0, 0, 1, 23, 0, 0)
def mCommands_block : rx_M := (2, ⟨"RingDrive$Commands", "block", "()I"⟩, prog_4_method_15_code, 1, (Option.some Jvm.ClassFile.FieldType.int), 0, 0, 5, 133, 0, 0)
def mCommands_setPlace : rx_M := (2, ⟨"RingDrive$Commands", "setPlace", "()I"⟩, prog_4_method_16_code, 4, (Option.some Jvm.ClassFile.FieldType.int), 0, 0, 3, 67, 0, 0)
def mCommands_allocate : rx_M := (2, ⟨"RingDrive$Commands", "allocate", "(Z)I"⟩, prog_4_method_17_code, 5, (Option.some Jvm.ClassFile.FieldType.int), 1, 0, 4, 109, 0, 0)
def mCommands_tellNextFree : rx_M := (2, ⟨"RingDrive$Commands", "tellNextFree", "(II)I"⟩, prog_4_method_18_code, 6, (Option.some Jvm.ClassFile.FieldType.int), 2, 0, 2, 43, 0, 0)
def mCommands_program : rx_M := (2, ⟨"RingDrive$Commands", "program", "()I"⟩, prog_4_method_19_code, 4, (Option.some Jvm.ClassFile.FieldType.int), 0, 0, 5, 116, 0, 0)
def mCommands_argument : rx_M := (2, ⟨"RingDrive$Commands", "argument", "(I)I"⟩, prog_4_method_20_code, 2, (Option.some Jvm.ClassFile.FieldType.int), 1, 0, 1, 24, 0, 0)
def mProcessor_set : rx_M := (7, ⟨"RingDrive$Processor", "set", "(II)V"⟩, prog_9_method_3_code, 3, none, 2, 0, 0, 0, 0, 0)
def mProcessor_get : rx_M := (7, ⟨"RingDrive$Processor", "get", "(I)I"⟩, prog_9_method_2_code, 2, (Option.some Jvm.ClassFile.FieldType.int), 1, 0, 0, 0, 0, 0)
def mStatus_addReply : rx_M := (9, ⟨"RingDrive$Status", "addReply", "(I)V"⟩, prog_11_method_4_code, 2, none, 1, 0, 0, 0, 0, 0)
def mProcessor_run : rx_M := (7, ⟨"RingDrive$Processor", "run", "(I)I"⟩, prog_9_method_6_code, 5, (Option.some Jvm.ClassFile.FieldType.int), 1, 0, 4, 92, 0, 0)
def mProcessor_begin : rx_M := (7, ⟨"RingDrive$Processor", "begin", "(I)V"⟩, prog_9_method_5_code, 2, none, 1, 0, 0, 0, 0, 0)
def mProcessor_locate : rx_M := (7, ⟨"RingDrive$Processor", "locate", "(I)V"⟩, prog_9_method_12_code, 4, none, 1, 0, 2, 42, 0, 0)
def mProcessor_fetch : rx_M := (7, ⟨"RingDrive$Processor", "fetch", "()I"⟩, prog_9_method_8_code, 2, (Option.some Jvm.ClassFile.FieldType.int), 0, 0, 0, 0, 0, 0)
def mProcessor_fetchTwo : rx_M := (7, ⟨"RingDrive$Processor", "fetchTwo", "()I"⟩, prog_9_method_9_code, 2, (Option.some Jvm.ClassFile.FieldType.int), 0, 0, 1, 21, 0, 0)
def mProcessor_indexed : rx_M := (7, ⟨"RingDrive$Processor", "indexed", "(II)V"⟩, prog_9_method_11_code, 3, none, 2, 0, 0, 0, 0, 0)
def mProcessor_pair : rx_M := (7, ⟨"RingDrive$Processor", "pair", "(I)I"⟩, prog_9_method_10_code, 2, (Option.some Jvm.ClassFile.FieldType.int), 1, 0, 0, 0, 0, 0)
def mProcessor_perform : rx_M := (7, ⟨"RingDrive$Processor", "perform", "(II)V"⟩, prog_9_method_7_code, 3, none, 2, 0, 3, 70, 0, 0)
def mProcessor_useValue : rx_M := (7, ⟨"RingDrive$Processor", "useValue", "(II)V"⟩, prog_9_method_16_code, 3, none, 2, 0, 2, 48, 0, 0)
def mProcessor_marked : rx_M := (7, ⟨"RingDrive$Processor", "marked", "(I)I"⟩, prog_9_method_15_code, 3, (Option.some Jvm.ClassFile.FieldType.int), 1, 0, 0, 0, 0, 0)
def mProcessor_add : rx_M := (7, ⟨"RingDrive$Processor", "add", "(I)V"⟩, prog_9_method_19_code, 4, none, 1, 0, 1, 25, 0, 0)
def mProcessor_has : rx_M := (7, ⟨"RingDrive$Processor", "has", "(I)Z"⟩, prog_9_method_14_code, 2, (Option.some Jvm.ClassFile.FieldType.boolean), 1, 0, 0, 0, 0, 0)
def mProcessor_addBinary : rx_M := (7, ⟨"RingDrive$Processor", "addBinary", "(I)V"⟩, prog_9_method_18_code, 6, none, 1, 0, 0, 0, 0, 0)
def mProcessor_flag : rx_M := (7, ⟨"RingDrive$Processor", "flag", "(IZ)V"⟩, prog_9_method_13_code, 3, none, 2, 0, 0, 0, 0, 0)
def mProcessor_subtract : rx_M := (7, ⟨"RingDrive$Processor", "subtract", "(I)V"⟩, prog_9_method_20_code, 4, none, 1, 0, 1, 25, 0, 0)
def mProcessor_compare : rx_M := (7, ⟨"RingDrive$Processor", "compare", "(II)V"⟩, prog_9_method_17_code, 3, none, 2, 0, 1, 22, 0, 0)
def mProcessor_changeValue : rx_M := (7, ⟨"RingDrive$Processor", "changeValue", "(IZ)V"⟩, prog_9_method_21_code, 5, none, 2, 0, 1, 22, 0, 0)
def mProcessor_branch : rx_M := (7, ⟨"RingDrive$Processor", "branch", "(I)V"⟩, prog_9_method_22_code, 3, none, 1, 0, 1, 21, 0, 0)
def mProcessor_move : rx_M := (7, ⟨"RingDrive$Processor", "move", "(I)V"⟩, prog_9_method_23_code, 2, none, 1, 0, 1, 22, 0, 0)
def mProcessor_changeFlag : rx_M := (7, ⟨"RingDrive$Processor", "changeFlag", "(I)V"⟩, prog_9_method_24_code, 2, none, 1, 0, 1, 22, 0, 0)
def mProcessor_stack : rx_M := (7, ⟨"RingDrive$Processor", "stack", "(I)V"⟩, prog_9_method_28_code, 3, none, 1, 0, 2, 41, 0, 0)
def mProcessor_push : rx_M := (7, ⟨"RingDrive$Processor", "push", "(I)V"⟩, prog_9_method_25_code, 2, none, 1, 0, 0, 0, 0, 0)
def mProcessor_pull : rx_M := (7, ⟨"RingDrive$Processor", "pull", "()I"⟩, prog_9_method_26_code, 1, (Option.some Jvm.ClassFile.FieldType.int), 0, 0, 0, 0, 0, 0)
def mProcessor_pullTwo : rx_M := (7, ⟨"RingDrive$Processor", "pullTwo", "()I"⟩, prog_9_method_27_code, 2, (Option.some Jvm.ClassFile.FieldType.int), 0, 0, 1, 20, 0, 0)
def mDos_openChannel : rx_M := (5, ⟨"RingDrive$Dos", "openChannel", "(I)I"⟩, prog_7_method_8_code, 4, (Option.some Jvm.ClassFile.FieldType.int), 1, 0, 6, 161, 0, 0)
def mDos_closeChannel : rx_M := (5, ⟨"RingDrive$Dos", "closeChannel", "(I)I"⟩, prog_7_method_6_code, 4, (Option.some Jvm.ClassFile.FieldType.int), 1, 0, 4, 111, 0, 0)
def mDos_goToEntryOf : rx_M := (5, ⟨"RingDrive$Dos", "goToEntryOf", "(LRingDrive$Channel;)V"⟩, prog_7_method_7_code, 2, none, 1, 0, 1, 24, 0, 0)
def mDirectory_changeToClosed : rx_M := (3, ⟨"RingDrive$Directory", "changeToClosed", "(I)I"⟩, prog_5_method_17_code, 3, (Option.some Jvm.ClassFile.FieldType.int), 1, 0, 3, 89, 0, 0)
def mDos_countOpen : rx_M := (5, ⟨"RingDrive$Dos", "countOpen", "()I"⟩, prog_7_method_3_code, 3, (Option.some Jvm.ClassFile.FieldType.int), 0, 0, 0, 0, 0, 0)
def mDos_openBuffer : rx_M := (5, ⟨"RingDrive$Dos", "openBuffer", "(LRingDrive$Channel;)I"⟩, prog_7_method_9_code, 2, (Option.some Jvm.ClassFile.FieldType.int), 1, 0, 2, 44, 0, 0)
def mChannel_begin : rx_M := (1, ⟨"RingDrive$Channel", "begin", "(I)V"⟩, prog_3_method_2_code, 2, none, 1, 0, 1, 23, 0, 0)
def mDos_openList : rx_M := (5, ⟨"RingDrive$Dos", "openList", "(LRingDrive$Channel;)I"⟩, prog_7_method_10_code, 3, (Option.some Jvm.ClassFile.FieldType.int), 1, 0, 2, 85, 0, 0)
def mPattern_copyFrom : rx_M := (6, ⟨"RingDrive$Pattern", "copyFrom", "(LRingDrive$Pattern;)V"⟩, prog_8_method_5_code, 2, none, 1, 0, 1, 64, 0, 0)
def mDos_parseFile : rx_M := (5, ⟨"RingDrive$Dos", "parseFile", "(I)I"⟩, prog_7_method_11_code, 5, (Option.some Jvm.ClassFile.FieldType.int), 1, 0, 2, 48, 0, 0)
def mDos_sortTold : rx_M := (5, ⟨"RingDrive$Dos", "sortTold", "(I)I"⟩, prog_7_method_12_code, 2, (Option.some Jvm.ClassFile.FieldType.int), 1, 0, 1, 21, 0, 0)
def mDos_wayTold : rx_M := (5, ⟨"RingDrive$Dos", "wayTold", "(I)I"⟩, prog_7_method_13_code, 3, (Option.some Jvm.ClassFile.FieldType.int), 1, 0, 1, 21, 0, 0)
def mDos_openToRead : rx_M := (5, ⟨"RingDrive$Dos", "openToRead", "(LRingDrive$Channel;)I"⟩, prog_7_method_14_code, 5, (Option.some Jvm.ClassFile.FieldType.int), 1, 0, 4, 113, 0, 0)
def mChannel_unfold : rx_M := (1, ⟨"RingDrive$Channel", "unfold", "()V"⟩, prog_3_method_5_code, 1, none, 0, 0, 1, 24, 0, 0)
def mDos_openToWrite : rx_M := (5, ⟨"RingDrive$Dos", "openToWrite", "(LRingDrive$Channel;)I"⟩, prog_7_method_15_code, 3, (Option.some Jvm.ClassFile.FieldType.int), 1, 0, 5, 139, 0, 0)
def mDos_findRoom : rx_M := (5, ⟨"RingDrive$Dos", "findRoom", "()I"⟩, prog_7_method_18_code, 2, (Option.some Jvm.ClassFile.FieldType.int), 0, 0, 4, 113, 0, 0)
def mBlockMap_pickForDirectory : rx_M := (0, ⟨"RingDrive$BlockMap", "pickForDirectory", "()Z"⟩, prog_2_method_12_code, 1, (Option.some Jvm.ClassFile.FieldType.boolean), 0, 0, 3, 68, 0, 0)
def mBlockMap_pickOf : rx_M := (0, ⟨"RingDrive$BlockMap", "pickOf", "(II)Z"⟩, prog_2_method_13_code, 6, (Option.some Jvm.ClassFile.FieldType.boolean), 2, 0, 2, 43, 0, 0)
def mDirectory_lengthen : rx_M := (3, ⟨"RingDrive$Directory", "lengthen", "(II)I"⟩, prog_5_method_20_code, 4, (Option.some Jvm.ClassFile.FieldType.int), 2, 0, 3, 89, 0, 0)
def mDos_startFile : rx_M := (5, ⟨"RingDrive$Dos", "startFile", "(LRingDrive$Channel;)I"⟩, prog_7_method_19_code, 3, (Option.some Jvm.ClassFile.FieldType.int), 1, 0, 4, 113, 0, 0)
def mBlockMap_pick : rx_M := (0, ⟨"RingDrive$BlockMap", "pick", "()Z"⟩, prog_2_method_10_code, 2, (Option.some Jvm.ClassFile.FieldType.boolean), 0, 0, 3, 68, 0, 0)
def mDirectory_changeToNew : rx_M := (3, ⟨"RingDrive$Directory", "changeToNew", "(ILRingDrive$BlockMap;LRingDrive$Pattern;)I"⟩, prog_5_method_18_code, 5, (Option.some Jvm.ClassFile.FieldType.int), 3, 0, 3, 89, 0, 0)
def mChannel_beginBlock : rx_M := (1, ⟨"RingDrive$Channel", "beginBlock", "(II)V"⟩, prog_3_method_3_code, 3, none, 2, 0, 1, 23, 0, 0)
def mChannel_keepEntry : rx_M := (1, ⟨"RingDrive$Channel", "keepEntry", "(LRingDrive$Directory;)V"⟩, prog_3_method_4_code, 2, none, 1, 0, 0, 0, 0, 0)
def mX_write : rx_M := (11, ⟨"RingDrive", "write", "(II)I"⟩, prog_1_method_4_code, 3, (Option.some Jvm.ClassFile.FieldType.int), 2, 0, 7, 184, 0, 0)
def mDos_sendBytes : rx_M := (5, ⟨"RingDrive$Dos", "sendBytes", "(I)V"⟩, prog_7_method_27_code, 5, none, 1, 0, 6, 160, 0, 0)
def mDos_addToFile : rx_M := (5, ⟨"RingDrive$Dos", "addToFile", "(LRingDrive$Channel;I)I"⟩, prog_7_method_28_code, 5, (Option.some Jvm.ClassFile.FieldType.int), 2, 0, 5, 136, 0, 0)
def mBlockMap_pickBehind : rx_M := (0, ⟨"RingDrive$BlockMap", "pickBehind", "(II)Z"⟩, prog_2_method_11_code, 3, (Option.some Jvm.ClassFile.FieldType.boolean), 2, 0, 4, 89, 0, 0)
def mDos_goToNextBlock : rx_M := (5, ⟨"RingDrive$Dos", "goToNextBlock", "(LRingDrive$Channel;)I"⟩, prog_7_method_29_code, 3, (Option.some Jvm.ClassFile.FieldType.int), 1, 0, 4, 98, 0, 0)
def mDos_giveUpFile : rx_M := (5, ⟨"RingDrive$Dos", "giveUpFile", "(LRingDrive$Channel;)I"⟩, prog_7_method_30_code, 6, (Option.some Jvm.ClassFile.FieldType.int), 1, 0, 4, 111, 0, 0)
def mX_close : rx_M := (11, ⟨"RingDrive", "close", "(I)I"⟩, prog_1_method_5_code, 2, (Option.some Jvm.ClassFile.FieldType.int), 1, 0, 6, 156, 0, 0)
def mDos_closeAll : rx_M := (5, ⟨"RingDrive$Dos", "closeAll", "()V"⟩, prog_7_method_5_code, 3, none, 0, 0, 5, 134, 0, 0)
def mX_read : rx_M := (11, ⟨"RingDrive", "read", "(II)I"⟩, prog_1_method_6_code, 3, (Option.some Jvm.ClassFile.FieldType.int), 2, 0, 9, 197, 0, 0)
def mStatus_receive : rx_M := (9, ⟨"RingDrive$Status", "receive", "(I[I)I"⟩, prog_11_method_5_code, 4, (Option.some Jvm.ClassFile.FieldType.int), 2, 0, 7, 149, 0, 0)
def mStatus_replyByte : rx_M := (9, ⟨"RingDrive$Status", "replyByte", "()I"⟩, prog_11_method_6_code, 2, (Option.some Jvm.ClassFile.FieldType.int), 0, 0, 0, 0, 0, 0)
def mStatus_textByte : rx_M := (9, ⟨"RingDrive$Status", "textByte", "()I"⟩, prog_11_method_7_code, 2, (Option.some Jvm.ClassFile.FieldType.int), 0, 0, 6, 128, 0, 0)
def mStatus_spell : rx_M := (9, ⟨"RingDrive$Status", "spell", "()V"⟩, prog_11_method_8_code, 3, none, 0, 0, 5, 106, 0, 0)
def mStatus_addTwoDigits : rx_M := (9, ⟨"RingDrive$Status", "addTwoDigits", "(I)V"⟩, prog_11_method_9_code, 2, none, 1, 0, 1, 21, 0, 0)
def mStatus_add : rx_M := (9, ⟨"RingDrive$Status", "add", "(I)V"⟩, prog_11_method_10_code, 2, none, 1, 0, 0, 0, 0, 0)
def mStatus_words : rx_M := (9, ⟨"RingDrive$Status", "words", "()Ljava/lang/String;"⟩, prog_11_method_11_code, 1, (Option.some (Jvm.ClassFile.FieldType.object "java/lang/String")), 0, 0, 0, 0, 0, 0)
def mStr_length : rx_M := (16, ⟨"java/lang/String", "length", "()I"⟩, prog_16_method_54_code, 1, (Option.some Jvm.ClassFile.FieldType.int), 0, 0, 1, 20, 0, 0)
def mStr_coder : rx_M := (16, ⟨"java/lang/String", "coder", "()B"⟩, prog_16_method_152_code, 1, (Option.some Jvm.ClassFile.FieldType.byte), 0, 0, 0, 0, 0, 0)
def mStr_charAt : rx_M := (16, ⟨"java/lang/String", "charAt", "(I)C"⟩, prog_16_method_56_code, 2, (Option.some Jvm.ClassFile.FieldType.char), 1, 0, 4, 85, 0, 0)
def mStr_isLatin1 : rx_M := (16, ⟨"java/lang/String", "isLatin1", "()Z"⟩, prog_16_method_154_code, 1, (Option.some Jvm.ClassFile.FieldType.boolean), 0, 0, 0, 0, 0, 0)
def mLat_charAt : rx_M := (17, ⟨"java/lang/StringLatin1", "charAt", "([BI)C"⟩, prog_17_method_2_code, 2, (Option.some Jvm.ClassFile.FieldType.char), 2, 1, 2, 43, 0, 0)
def mStr_checkIndex : rx_M := (16, ⟨"java/lang/String", "checkIndex", "(II)V"⟩, prog_16_method_155_code, 2, none, 2, 1, 1, 22, 0, 0)
def mPre_checkIndex : rx_M := (20, ⟨"jdk/internal/util/Preconditions", "checkIndex", "(IILjava/util/function/BiFunction;)I"⟩, prog_21_method_11_code, 3, (Option.some Jvm.ClassFile.FieldType.int), 3, 1, 0, 0, 0, 0)
def mU16_charAt : rx_M := (18, ⟨"java/lang/StringUTF16", "charAt", "([BI)C"⟩, prog_18_method_83_code, 2, (Option.some Jvm.ClassFile.FieldType.char), 2, 1, 3, 64, 0, 0)
def mU16_checkIndex : rx_M := (18, ⟨"java/lang/StringUTF16", "checkIndex", "(I[B)V"⟩, prog_18_method_91_code, 2, none, 2, 1, 2, 43, 0, 0)
def mU16_length : rx_M := (18, ⟨"java/lang/StringUTF16", "length", "([B)I"⟩, prog_18_method_6_code, 1, (Option.some Jvm.ClassFile.FieldType.int), 1, 1, 0, 0, 0, 0)
def mU16_getChar : rx_M := (18, ⟨"java/lang/StringUTF16", "getChar", "([BI)C"⟩, prog_18_method_5_code, 2, (Option.some Jvm.ClassFile.FieldType.char), 2, 1, 1, 20, 0, 0)
def mDos_receive : rx_M := (5, ⟨"RingDrive$Dos", "receive", "(II[I)I"⟩, prog_7_method_20_code, 6, (Option.some Jvm.ClassFile.FieldType.int), 3, 0, 8, 172, 0, 0)
def mDos_nextByte : rx_M := (5, ⟨"RingDrive$Dos", "nextByte", "(LRingDrive$Channel;)I"⟩, prog_7_method_21_code, 3, (Option.some Jvm.ClassFile.FieldType.int), 1, 0, 7, 150, 0, 0)
def mDos_makeLine : rx_M := (5, ⟨"RingDrive$Dos", "makeLine", "(LRingDrive$Channel;)I"⟩, prog_7_method_23_code, 3, (Option.some Jvm.ClassFile.FieldType.int), 1, 0, 6, 128, 0, 0)
def mChannel_startLine : rx_M := (1, ⟨"RingDrive$Channel", "startLine", "()V"⟩, prog_3_method_6_code, 1, none, 0, 0, 0, 0, 0, 0)
def mDos_addTitle : rx_M := (5, ⟨"RingDrive$Dos", "addTitle", "(LRingDrive$Channel;)V"⟩, prog_7_method_24_code, 4, none, 1, 0, 1, 21, 0, 0)
def mChannel_add : rx_M := (1, ⟨"RingDrive$Channel", "add", "(I)V"⟩, prog_3_method_7_code, 2, none, 1, 0, 0, 0, 0, 0)
def mDos_addEntry : rx_M := (5, ⟨"RingDrive$Dos", "addEntry", "(LRingDrive$Channel;)V"⟩, prog_7_method_25_code, 3, none, 1, 0, 5, 106, 0, 0)
def mDirectory_count : rx_M := (3, ⟨"RingDrive$Directory", "count", "()I"⟩, prog_5_method_14_code, 1, (Option.some Jvm.ClassFile.FieldType.int), 0, 0, 1, 20, 0, 0)
def mChannel_addNumber : rx_M := (1, ⟨"RingDrive$Channel", "addNumber", "(I)V"⟩, prog_3_method_8_code, 4, none, 1, 0, 1, 21, 0, 0)
def mDirectory_nameByte : rx_M := (3, ⟨"RingDrive$Directory", "nameByte", "(I)I"⟩, prog_5_method_13_code, 2, (Option.some Jvm.ClassFile.FieldType.int), 1, 0, 1, 20, 0, 0)
def mDos_addFree : rx_M := (5, ⟨"RingDrive$Dos", "addFree", "(LRingDrive$Channel;)V"⟩, prog_7_method_26_code, 2, none, 1, 0, 2, 44, 0, 0)
def mBlockMap_freeSum : rx_M := (0, ⟨"RingDrive$BlockMap", "freeSum", "()I"⟩, prog_2_method_6_code, 3, (Option.some Jvm.ClassFile.FieldType.int), 0, 0, 0, 0, 0, 0)
def mDos_readNext : rx_M := (5, ⟨"RingDrive$Dos", "readNext", "(LRingDrive$Channel;)I"⟩, prog_7_method_22_code, 5, (Option.some Jvm.ClassFile.FieldType.int), 1, 0, 3, 89, 0, 0)
def mX_out : rx_M := (11, ⟨"RingDrive", "out", "(I)I"⟩, prog_1_method_7_code, 2, (Option.some Jvm.ClassFile.FieldType.int), 1, 0, 0, 0, 0, 0)
def mX_look : rx_M := (11, ⟨"RingDrive", "look", "(I)I"⟩, prog_1_method_8_code, 2, (Option.some Jvm.ClassFile.FieldType.int), 1, 0, 1, 22, 0, 0)
def mX_bits : rx_M := (11, ⟨"RingDrive", "bits", "(II)I"⟩, prog_1_method_9_code, 4, (Option.some Jvm.ClassFile.FieldType.int), 2, 0, 2, 47, 0, 0)
def mRing_hasBit : rx_M := (8, ⟨"RingDrive$Ring", "hasBit", "(I)Z"⟩, prog_10_method_2_code, 2, (Option.some Jvm.ClassFile.FieldType.boolean), 1, 0, 0, 0, 0, 0)
def mRing_word : rx_M := (8, ⟨"RingDrive$Ring", "word", "(I)I"⟩, prog_10_method_3_code, 4, (Option.some Jvm.ClassFile.FieldType.int), 1, 0, 1, 24, 0, 0)
def mRing_eight : rx_M := (8, ⟨"RingDrive$Ring", "eight", "(I)I"⟩, prog_10_method_5_code, 5, (Option.some Jvm.ClassFile.FieldType.int), 1, 0, 0, 0, 0, 0)
def mX_turn : rx_M := (11, ⟨"RingDrive", "turn", "(III)Z"⟩, prog_1_method_10_code, 5, (Option.some Jvm.ClassFile.FieldType.boolean), 3, 0, 2, 50, 0, 0)
def mRing_flip : rx_M := (8, ⟨"RingDrive$Ring", "flip", "(II)V"⟩, prog_10_method_4_code, 4, none, 2, 0, 1, 27, 0, 0)
def mX_protect : rx_M := (11, ⟨"RingDrive", "protect", "(Z)V"⟩, prog_1_method_11_code, 2, none, 1, 0, 0, 0, 0, 0)
def mX_power : rx_M := (11, ⟨"RingDrive", "power", "()V"⟩, prog_1_method_12_code, 1, none, 0, 0, 2, 43, 0, 0)
def mProcessor_reset : rx_M := (7, ⟨"RingDrive$Processor", "reset", "()V"⟩, prog_9_method_4_code, 1, none, 0, 0, 1, 23, 0, 0)
def mX_memory : rx_M := (11, ⟨"RingDrive", "memory", "(I)I"⟩, prog_1_method_13_code, 2, (Option.some Jvm.ClassFile.FieldType.int), 1, 0, 1, 21, 0, 0)
def mM_feed : rx_M := (12, ⟨"RingDriveModel", "feed", "(IIIII)I"⟩, prog_14_method_45_code, 6, (Option.some Jvm.ClassFile.FieldType.int), 5, 0, 1, 22, 0, 0)
def mM_types : rx_M := (12, ⟨"RingDriveModel", "types", "(I)V"⟩, prog_14_method_44_code, 3, none, 1, 0, 0, 0, 0, 0)
def mM_open : rx_M := (12, ⟨"RingDriveModel", "open", "(II)I"⟩, prog_14_method_47_code, 3, (Option.some Jvm.ClassFile.FieldType.int), 2, 0, 11, 277, 0, 0)
def mM_sends : rx_M := (12, ⟨"RingDriveModel", "sends", "(I)V"⟩, prog_14_method_46_code, 3, none, 1, 0, 0, 0, 0, 0)
def mM_commands : rx_M := (12, ⟨"RingDriveModel", "commands", "(I)I"⟩, prog_14_method_81_code, 2, (Option.some Jvm.ClassFile.FieldType.int), 1, 0, 10, 248, 0, 0)
def mM_begins : rx_M := (12, ⟨"RingDriveModel", "begins", "()V"⟩, prog_14_method_41_code, 1, none, 0, 0, 1, 23, 0, 0)
def mM_sets : rx_M := (12, ⟨"RingDriveModel", "sets", "(III)V"⟩, prog_14_method_40_code, 4, none, 3, 0, 0, 0, 0, 0)
def mM_fault : rx_M := (12, ⟨"RingDriveModel", "fault", "(III)I"⟩, prog_14_method_4_code, 4, (Option.some Jvm.ClassFile.FieldType.int), 3, 0, 0, 0, 0, 0)
def mM_ends : rx_M := (12, ⟨"RingDriveModel", "ends", "(I)I"⟩, prog_14_method_42_code, 2, (Option.some Jvm.ClassFile.FieldType.int), 1, 0, 1, 23, 0, 0)
def mM_does : rx_M := (12, ⟨"RingDriveModel", "does", "(I)I"⟩, prog_14_method_83_code, 4, (Option.some Jvm.ClassFile.FieldType.int), 1, 0, 9, 225, 0, 0)
def mM_again : rx_M := (12, ⟨"RingDriveModel", "again", "()I"⟩, prog_14_method_84_code, 2, (Option.some Jvm.ClassFile.FieldType.int), 0, 0, 6, 143, 0, 0)
def mM_takeId : rx_M := (12, ⟨"RingDriveModel", "takeId", "()I"⟩, prog_14_method_24_code, 4, (Option.some Jvm.ClassFile.FieldType.int), 0, 0, 3, 69, 0, 0)
def mM_round : rx_M := (12, ⟨"RingDriveModel", "round", "(I)I"⟩, prog_14_method_10_code, 7, (Option.some Jvm.ClassFile.FieldType.int), 1, 0, 2, 43, 0, 0)
def mM_bytesOf : rx_M := (12, ⟨"RingDriveModel", "bytesOf", "(I)I"⟩, prog_14_method_1_code, 1, (Option.some Jvm.ClassFile.FieldType.int), 1, 1, 0, 0, 0, 0)
def mM_bitAt : rx_M := (12, ⟨"RingDriveModel", "bitAt", "(II)I"⟩, prog_14_method_5_code, 3, (Option.some Jvm.ClassFile.FieldType.int), 2, 0, 0, 0, 0, 0)
def mM_along : rx_M := (12, ⟨"RingDriveModel", "along", "(III)V"⟩, prog_14_method_7_code, 4, none, 3, 0, 1, 20, 0, 0)
def mM_goes : rx_M := (12, ⟨"RingDriveModel", "goes", "()Z"⟩, prog_14_method_8_code, 2, (Option.some Jvm.ClassFile.FieldType.boolean), 0, 0, 1, 22, 0, 0)
def mM_comes : rx_M := (12, ⟨"RingDriveModel", "comes", "()I"⟩, prog_14_method_9_code, 2, (Option.some Jvm.ClassFile.FieldType.int), 0, 0, 2, 43, 0, 0)
def mM_reads : rx_M := (12, ⟨"RingDriveModel", "reads", "(I)Z"⟩, prog_14_method_15_code, 6, (Option.some Jvm.ClassFile.FieldType.boolean), 1, 0, 2, 42, 0, 0)
def mM_group : rx_M := (12, ⟨"RingDriveModel", "group", "(I)I"⟩, prog_14_method_14_code, 4, (Option.some Jvm.ClassFile.FieldType.int), 1, 0, 0, 0, 0, 0)
def mM_valueOf : rx_M := (12, ⟨"RingDriveModel", "valueOf", "(I)I"⟩, prog_14_method_12_code, 3, (Option.some Jvm.ClassFile.FieldType.int), 1, 1, 1, 20, 0, 0)
def mM_groupOf : rx_M := (12, ⟨"RingDriveModel", "groupOf", "(I)I"⟩, prog_14_method_11_code, 1, (Option.some Jvm.ClassFile.FieldType.int), 1, 1, 0, 0, 0, 0)
def mM_loads : rx_M := (12, ⟨"RingDriveModel", "loads", "()I"⟩, prog_14_method_25_code, 1, (Option.some Jvm.ClassFile.FieldType.int), 0, 0, 5, 123, 0, 0)
def mM_readBlock : rx_M := (12, ⟨"RingDriveModel", "readBlock", "(II[II)I"⟩, prog_14_method_20_code, 8, (Option.some Jvm.ClassFile.FieldType.int), 4, 0, 4, 96, 0, 0)
def mM_seek : rx_M := (12, ⟨"RingDriveModel", "seek", "(II)I"⟩, prog_14_method_18_code, 7, (Option.some Jvm.ClassFile.FieldType.int), 2, 0, 3, 70, 0, 0)
def mM_header : rx_M := (12, ⟨"RingDriveModel", "header", "(IIII)V"⟩, prog_14_method_16_code, 5, none, 4, 0, 2, 46, 0, 0)
def mM_codes : rx_M := (12, ⟨"RingDriveModel", "codes", "(I)V"⟩, prog_14_method_13_code, 7, none, 1, 0, 1, 20, 0, 0)
def mM_gets : rx_M := (12, ⟨"RingDriveModel", "gets", "()V"⟩, prog_14_method_19_code, 3, none, 0, 0, 3, 64, 0, 0)
def mM_validates : rx_M := (12, ⟨"RingDriveModel", "validates", "()I"⟩, prog_14_method_91_code, 6, (Option.some Jvm.ClassFile.FieldType.int), 0, 0, 8, 200, 0, 0)
def mM_freesAll : rx_M := (12, ⟨"RingDriveModel", "freesAll", "()V"⟩, prog_14_method_87_code, 2, none, 0, 0, 1, 20, 0, 0)
def mM_sectorsOf : rx_M := (12, ⟨"RingDriveModel", "sectorsOf", "(I)I"⟩, prog_14_method_2_code, 1, (Option.some Jvm.ClassFile.FieldType.int), 1, 1, 0, 0, 0, 0)
def mM_takes : rx_M := (12, ⟨"RingDriveModel", "takes", "(II)V"⟩, prog_14_method_28_code, 3, none, 2, 0, 0, 0, 0, 0)
def mM_isLegal : rx_M := (12, ⟨"RingDriveModel", "isLegal", "(II)Z"⟩, prog_14_method_3_code, 2, (Option.some Jvm.ClassFile.FieldType.boolean), 2, 1, 1, 20, 0, 0)
def mM_isFree : rx_M := (12, ⟨"RingDriveModel", "isFree", "(II)Z"⟩, prog_14_method_27_code, 3, (Option.some Jvm.ClassFile.FieldType.boolean), 2, 0, 0, 0, 0, 0)
def mM_entries : rx_M := (12, ⟨"RingDriveModel", "entries", "()I"⟩, prog_14_method_92_code, 6, (Option.some Jvm.ClassFile.FieldType.int), 0, 0, 7, 175, 0, 0)
def mM_used : rx_M := (12, ⟨"RingDriveModel", "used", "(III)I"⟩, prog_14_method_93_code, 8, (Option.some Jvm.ClassFile.FieldType.int), 3, 0, 6, 148, 0, 0)
def mM_changesType : rx_M := (12, ⟨"RingDriveModel", "changesType", "(IIII)I"⟩, prog_14_method_38_code, 6, (Option.some Jvm.ClassFile.FieldType.int), 4, 0, 5, 123, 0, 0)
def mM_writeBlock : rx_M := (12, ⟨"RingDriveModel", "writeBlock", "(II[II)I"⟩, prog_14_method_22_code, 8, (Option.some Jvm.ClassFile.FieldType.int), 4, 0, 4, 96, 0, 0)
def mM_lays : rx_M := (12, ⟨"RingDriveModel", "lays", "(II)V"⟩, prog_14_method_21_code, 4, none, 2, 0, 1, 25, 0, 0)
def mM_setBit : rx_M := (12, ⟨"RingDriveModel", "setBit", "(III)V"⟩, prog_14_method_6_code, 6, none, 3, 0, 0, 0, 0, 0)
def mM_data : rx_M := (12, ⟨"RingDriveModel", "data", "([II)V"⟩, prog_14_method_17_code, 5, none, 2, 0, 2, 46, 0, 0)
def mM_uses : rx_M := (12, ⟨"RingDriveModel", "uses", "(II)I"⟩, prog_14_method_90_code, 3, (Option.some Jvm.ClassFile.FieldType.int), 2, 0, 2, 41, 0, 0)
def mM_stores : rx_M := (12, ⟨"RingDriveModel", "stores", "()I"⟩, prog_14_method_26_code, 1, (Option.some Jvm.ClassFile.FieldType.int), 0, 0, 5, 123, 0, 0)
def mM_shutsAll : rx_M := (12, ⟨"RingDriveModel", "shutsAll", "()V"⟩, prog_14_method_59_code, 2, none, 0, 0, 0, 0, 0, 0)
def mM_news : rx_M := (12, ⟨"RingDriveModel", "news", "(I)I"⟩, prog_14_method_85_code, 9, (Option.some Jvm.ClassFile.FieldType.int), 1, 0, 7, 166, 0, 0)
def mM_isWild : rx_M := (12, ⟨"RingDriveModel", "isWild", "(II)Z"⟩, prog_14_method_51_code, 5, (Option.some Jvm.ClassFile.FieldType.boolean), 2, 0, 0, 0, 0, 0)
def mM_format : rx_M := (12, ⟨"RingDriveModel", "format", "(III)I"⟩, prog_14_method_23_code, 6, (Option.some Jvm.ClassFile.FieldType.int), 3, 0, 3, 70, 0, 0)
def mM_maps : rx_M := (12, ⟨"RingDriveModel", "maps", "(I)I"⟩, prog_14_method_86_code, 4, (Option.some Jvm.ClassFile.FieldType.int), 1, 0, 6, 143, 0, 0)
def mM_scratch : rx_M := (12, ⟨"RingDriveModel", "scratch", "(I)I"⟩, prog_14_method_88_code, 5, (Option.some Jvm.ClassFile.FieldType.int), 1, 0, 8, 197, 0, 0)
def mM_finds : rx_M := (12, ⟨"RingDriveModel", "finds", "(I[III)I"⟩, prog_14_method_37_code, 11, (Option.some Jvm.ClassFile.FieldType.int), 4, 0, 5, 123, 0, 0)
def mM_fits : rx_M := (12, ⟨"RingDriveModel", "fits", "([III[II)Z"⟩, prog_14_method_35_code, 7, (Option.some Jvm.ClassFile.FieldType.boolean), 5, 1, 0, 0, 0, 0)
def mM_same : rx_M := (12, ⟨"RingDriveModel", "same", "([III[II)Z"⟩, prog_14_method_36_code, 7, (Option.some Jvm.ClassFile.FieldType.boolean), 5, 1, 0, 0, 0, 0)
def mM_scratches : rx_M := (12, ⟨"RingDriveModel", "scratches", "()I"⟩, prog_14_method_39_code, 5, (Option.some Jvm.ClassFile.FieldType.int), 0, 0, 7, 173, 0, 0)
def mM_freesChain : rx_M := (12, ⟨"RingDriveModel", "freesChain", "(II)I"⟩, prog_14_method_34_code, 11, (Option.some Jvm.ClassFile.FieldType.int), 2, 0, 6, 143, 0, 0)
def mM_givesBack : rx_M := (12, ⟨"RingDriveModel", "givesBack", "(II)V"⟩, prog_14_method_29_code, 3, none, 2, 0, 2, 41, 0, 0)
def mM_renames : rx_M := (12, ⟨"RingDriveModel", "renames", "(I)I"⟩, prog_14_method_89_code, 7, (Option.some Jvm.ClassFile.FieldType.int), 1, 0, 6, 153, 0, 0)
def mM_blockOf : rx_M := (12, ⟨"RingDriveModel", "blockOf", "(IZ)I"⟩, prog_14_method_97_code, 7, (Option.some Jvm.ClassFile.FieldType.int), 2, 0, 5, 123, 0, 0)
def mM_numbers : rx_M := (12, ⟨"RingDriveModel", "numbers", "(I)Z"⟩, prog_14_method_94_code, 2, (Option.some Jvm.ClassFile.FieldType.boolean), 1, 0, 0, 0, 0, 0)
def mM_numberNext : rx_M := (12, ⟨"RingDriveModel", "numberNext", "(I)I"⟩, prog_14_method_96_code, 4, (Option.some Jvm.ClassFile.FieldType.int), 1, 0, 1, 20, 0, 0)
def mM_isDigit : rx_M := (12, ⟨"RingDriveModel", "isDigit", "(I)Z"⟩, prog_14_method_95_code, 1, (Option.some Jvm.ClassFile.FieldType.boolean), 1, 1, 0, 0, 0, 0)
def mM_begins3 : rx_M := (12, ⟨"RingDriveModel", "begins3", "(III)Z"⟩, prog_14_method_82_code, 4, (Option.some Jvm.ClassFile.FieldType.boolean), 3, 0, 0, 0, 0, 0)
def mM_pointer : rx_M := (12, ⟨"RingDriveModel", "pointer", "(I)I"⟩, prog_14_method_98_code, 4, (Option.some Jvm.ClassFile.FieldType.int), 1, 0, 2, 43, 0, 0)
def mM_allocates : rx_M := (12, ⟨"RingDriveModel", "allocates", "(I)I"⟩, prog_14_method_99_code, 7, (Option.some Jvm.ClassFile.FieldType.int), 1, 0, 6, 143, 0, 0)
def mM_frees : rx_M := (12, ⟨"RingDriveModel", "frees", "(I)I"⟩, prog_14_method_100_code, 5, (Option.some Jvm.ClassFile.FieldType.int), 1, 0, 6, 143, 0, 0)
def mM_memories : rx_M := (12, ⟨"RingDriveModel", "memories", "(I)I"⟩, prog_14_method_103_code, 7, (Option.some Jvm.ClassFile.FieldType.int), 1, 0, 8, 174, 0, 0)
def mM_put : rx_M := (12, ⟨"RingDriveModel", "put", "(II)V"⟩, prog_14_method_102_code, 3, none, 2, 0, 0, 0, 0, 0)
def mM_get : rx_M := (12, ⟨"RingDriveModel", "get", "(I)I"⟩, prog_14_method_101_code, 2, (Option.some Jvm.ClassFile.FieldType.int), 1, 0, 0, 0, 0, 0)
def mM_runs : rx_M := (12, ⟨"RingDriveModel", "runs", "(I)I"⟩, prog_14_method_104_code, 4, (Option.some Jvm.ClassFile.FieldType.int), 1, 0, 7, 151, 0, 0)
def mM_step : rx_M := (12, ⟨"RingDriveModel", "step", "(I)Z"⟩, prog_14_method_128_code, 2, (Option.some Jvm.ClassFile.FieldType.boolean), 1, 0, 6, 130, 0, 0)
def mM_works : rx_M := (12, ⟨"RingDriveModel", "works", "(I)Z"⟩, prog_14_method_119_code, 6, (Option.some Jvm.ClassFile.FieldType.boolean), 1, 0, 4, 86, 0, 0)
def mM_howOf : rx_M := (12, ⟨"RingDriveModel", "howOf", "(I)I"⟩, prog_14_method_115_code, 1, (Option.some Jvm.ClassFile.FieldType.int), 1, 1, 0, 0, 0, 0)
def mM_address : rx_M := (12, ⟨"RingDriveModel", "address", "(I)I"⟩, prog_14_method_112_code, 4, (Option.some Jvm.ClassFile.FieldType.int), 1, 0, 3, 63, 0, 0)
def mM_byteNext : rx_M := (12, ⟨"RingDriveModel", "byteNext", "()I"⟩, prog_14_method_105_code, 2, (Option.some Jvm.ClassFile.FieldType.int), 0, 0, 1, 21, 0, 0)
def mM_wordNext : rx_M := (12, ⟨"RingDriveModel", "wordNext", "()I"⟩, prog_14_method_106_code, 2, (Option.some Jvm.ClassFile.FieldType.int), 0, 0, 2, 42, 0, 0)
def mM_storeTime : rx_M := (12, ⟨"RingDriveModel", "storeTime", "(I)I"⟩, prog_14_method_114_code, 1, (Option.some Jvm.ClassFile.FieldType.int), 1, 1, 0, 0, 0, 0)
def mM_readTime : rx_M := (12, ⟨"RingDriveModel", "readTime", "(I)I"⟩, prog_14_method_113_code, 3, (Option.some Jvm.ClassFile.FieldType.int), 1, 0, 0, 0, 0, 0)
def mM_marks : rx_M := (12, ⟨"RingDriveModel", "marks", "(I)I"⟩, prog_14_method_109_code, 2, (Option.some Jvm.ClassFile.FieldType.int), 1, 0, 1, 22, 0, 0)
def mM_flag : rx_M := (12, ⟨"RingDriveModel", "flag", "(IZ)V"⟩, prog_14_method_108_code, 3, none, 2, 0, 0, 0, 0, 0)
def mM_adds : rx_M := (12, ⟨"RingDriveModel", "adds", "(I)V"⟩, prog_14_method_116_code, 6, none, 1, 0, 2, 43, 0, 0)
def mM_is : rx_M := (12, ⟨"RingDriveModel", "is", "(I)Z"⟩, prog_14_method_107_code, 2, (Option.some Jvm.ClassFile.FieldType.boolean), 1, 0, 0, 0, 0, 0)
def mM_compares : rx_M := (12, ⟨"RingDriveModel", "compares", "(II)V"⟩, prog_14_method_118_code, 3, none, 2, 0, 2, 43, 0, 0)
def mM_takesOff : rx_M := (12, ⟨"RingDriveModel", "takesOff", "(I)V"⟩, prog_14_method_117_code, 8, none, 1, 0, 2, 43, 0, 0)
def mM_twos : rx_M := (12, ⟨"RingDriveModel", "twos", "(I)Z"⟩, prog_14_method_129_code, 2, (Option.some Jvm.ClassFile.FieldType.boolean), 1, 0, 5, 109, 0, 0)
def mM_shifted : rx_M := (12, ⟨"RingDriveModel", "shifted", "(II)I"⟩, prog_14_method_120_code, 4, (Option.some Jvm.ClassFile.FieldType.int), 2, 0, 2, 43, 0, 0)
def mM_takes2 : rx_M := (12, ⟨"RingDriveModel", "takes2", "(I)Z"⟩, prog_14_method_127_code, 2, (Option.some Jvm.ClassFile.FieldType.boolean), 1, 0, 0, 0, 0, 0)
def mM_changes : rx_M := (12, ⟨"RingDriveModel", "changes", "(II)V"⟩, prog_14_method_121_code, 4, none, 2, 0, 4, 86, 0, 0)
def mM_keeps : rx_M := (12, ⟨"RingDriveModel", "keeps", "(II)Z"⟩, prog_14_method_124_code, 3, (Option.some Jvm.ClassFile.FieldType.boolean), 2, 0, 4, 86, 0, 0)
def mM_fetches : rx_M := (12, ⟨"RingDriveModel", "fetches", "(II)Z"⟩, prog_14_method_123_code, 4, (Option.some Jvm.ClassFile.FieldType.boolean), 2, 0, 4, 86, 0, 0)
def mM_zeros : rx_M := (12, ⟨"RingDriveModel", "zeros", "(I)Z"⟩, prog_14_method_130_code, 2, (Option.some Jvm.ClassFile.FieldType.boolean), 1, 0, 5, 109, 0, 0)
def mM_branch : rx_M := (12, ⟨"RingDriveModel", "branch", "(Z)V"⟩, prog_14_method_122_code, 4, none, 1, 0, 2, 42, 0, 0)
def mM_tests : rx_M := (12, ⟨"RingDriveModel", "tests", "(I)Z"⟩, prog_14_method_126_code, 3, (Option.some Jvm.ClassFile.FieldType.boolean), 1, 0, 4, 86, 0, 0)
def mM_compared : rx_M := (12, ⟨"RingDriveModel", "compared", "(II)Z"⟩, prog_14_method_125_code, 4, (Option.some Jvm.ClassFile.FieldType.boolean), 2, 0, 4, 86, 0, 0)
def mM_push : rx_M := (12, ⟨"RingDriveModel", "push", "(I)V"⟩, prog_14_method_110_code, 2, none, 1, 0, 1, 22, 0, 0)
def mM_pull : rx_M := (12, ⟨"RingDriveModel", "pull", "()I"⟩, prog_14_method_111_code, 1, (Option.some Jvm.ClassFile.FieldType.int), 0, 0, 1, 21, 0, 0)
def mM_jumps : rx_M := (12, ⟨"RingDriveModel", "jumps", "(I)Z"⟩, prog_14_method_131_code, 4, (Option.some Jvm.ClassFile.FieldType.boolean), 1, 0, 3, 63, 0, 0)
def mM_opens : rx_M := (12, ⟨"RingDriveModel", "opens", "(II)I"⟩, prog_14_method_48_code, 4, (Option.some Jvm.ClassFile.FieldType.int), 2, 0, 10, 254, 0, 0)
def mM_shuts : rx_M := (12, ⟨"RingDriveModel", "shuts", "(I)I"⟩, prog_14_method_57_code, 5, (Option.some Jvm.ClassFile.FieldType.int), 1, 0, 5, 123, 0, 0)
def mM_openMany : rx_M := (12, ⟨"RingDriveModel", "openMany", "()I"⟩, prog_14_method_43_code, 3, (Option.some Jvm.ClassFile.FieldType.int), 0, 0, 0, 0, 0, 0)
def mM_opensList : rx_M := (12, ⟨"RingDriveModel", "opensList", "(II)I"⟩, prog_14_method_49_code, 5, (Option.some Jvm.ClassFile.FieldType.int), 2, 0, 1, 23, 0, 0)
def mM_opensFile : rx_M := (12, ⟨"RingDriveModel", "opensFile", "(II)I"⟩, prog_14_method_50_code, 10, (Option.some Jvm.ClassFile.FieldType.int), 2, 0, 9, 225, 0, 0)
def mM_opensNew : rx_M := (12, ⟨"RingDriveModel", "opensNew", "(IIIIZ)I"⟩, prog_14_method_55_code, 9, (Option.some Jvm.ClassFile.FieldType.int), 5, 0, 8, 197, 0, 0)
def mM_makesEntry : rx_M := (12, ⟨"RingDriveModel", "makesEntry", "()I"⟩, prog_14_method_54_code, 6, (Option.some Jvm.ClassFile.FieldType.int), 0, 0, 6, 153, 0, 0)
def mM_lowest : rx_M := (12, ⟨"RingDriveModel", "lowest", "(I)I"⟩, prog_14_method_30_code, 4, (Option.some Jvm.ClassFile.FieldType.int), 1, 0, 1, 22, 0, 0)
def mM_takesOne : rx_M := (12, ⟨"RingDriveModel", "takesOne", "()I"⟩, prog_14_method_32_code, 4, (Option.some Jvm.ClassFile.FieldType.int), 0, 0, 2, 45, 0, 0)
def mM_trackOf : rx_M := (12, ⟨"RingDriveModel", "trackOf", "(I)I"⟩, prog_14_method_31_code, 1, (Option.some Jvm.ClassFile.FieldType.int), 1, 1, 0, 0, 0, 0)
def mM_clears : rx_M := (12, ⟨"RingDriveModel", "clears", "(I)V"⟩, prog_14_method_56_code, 3, none, 1, 0, 0, 0, 0, 0)
def mM_opensOld : rx_M := (12, ⟨"RingDriveModel", "opensOld", "(IIII)I"⟩, prog_14_method_53_code, 9, (Option.some Jvm.ClassFile.FieldType.int), 4, 0, 6, 153, 0, 0)
def mM_begun : rx_M := (12, ⟨"RingDriveModel", "begun", "(I)V"⟩, prog_14_method_52_code, 4, none, 1, 0, 0, 0, 0, 0)
def mM_close : rx_M := (12, ⟨"RingDriveModel", "close", "(I)I"⟩, prog_14_method_58_code, 4, (Option.some Jvm.ClassFile.FieldType.int), 1, 0, 6, 147, 0, 0)
def mM_read : rx_M := (12, ⟨"RingDriveModel", "read", "(II)I"⟩, prog_14_method_61_code, 4, (Option.some Jvm.ClassFile.FieldType.int), 2, 0, 9, 218, 0, 0)
def mM_givesMore : rx_M := (12, ⟨"RingDriveModel", "givesMore", "(I)V"⟩, prog_14_method_62_code, 2, none, 1, 0, 1, 21, 0, 0)
def mM_gives : rx_M := (12, ⟨"RingDriveModel", "gives", "(I)V"⟩, prog_14_method_60_code, 2, none, 1, 0, 0, 0, 0, 0)
def mM_givesStatus : rx_M := (12, ⟨"RingDriveModel", "givesStatus", "(I)V"⟩, prog_14_method_68_code, 2, none, 1, 0, 3, 66, 0, 0)
def mM_saysTwo : rx_M := (12, ⟨"RingDriveModel", "saysTwo", "(I)V"⟩, prog_14_method_66_code, 2, none, 1, 0, 1, 21, 0, 0)
def mM_says : rx_M := (12, ⟨"RingDriveModel", "says", "(I)V"⟩, prog_14_method_63_code, 2, none, 1, 0, 0, 0, 0, 0)
def mM_saysWords : rx_M := (12, ⟨"RingDriveModel", "saysWords", "(I)V"⟩, prog_14_method_67_code, 2, none, 1, 0, 2, 45, 0, 0)
def mM_says8 : rx_M := (12, ⟨"RingDriveModel", "says8", "(J)V"⟩, prog_14_method_64_code, 5, none, 1, 0, 1, 21, 0, 0)
def mM_readsFile : rx_M := (12, ⟨"RingDriveModel", "readsFile", "(II)I"⟩, prog_14_method_69_code, 8, (Option.some Jvm.ClassFile.FieldType.int), 2, 0, 5, 123, 0, 0)
def mM_readsList : rx_M := (12, ⟨"RingDriveModel", "readsList", "(II)I"⟩, prog_14_method_71_code, 6, (Option.some Jvm.ClassFile.FieldType.int), 2, 0, 8, 193, 0, 0)
def mM_title : rx_M := (12, ⟨"RingDriveModel", "title", "(I)I"⟩, prog_14_method_72_code, 4, (Option.some Jvm.ClassFile.FieldType.int), 1, 0, 6, 143, 0, 0)
def mM_next : rx_M := (12, ⟨"RingDriveModel", "next", "(I)I"⟩, prog_14_method_73_code, 7, (Option.some Jvm.ClassFile.FieldType.int), 1, 0, 7, 167, 0, 0)
def mM_entryLine : rx_M := (12, ⟨"RingDriveModel", "entryLine", "(I)V"⟩, prog_14_method_74_code, 4, none, 1, 0, 2, 42, 0, 0)
def mM_saysNumber : rx_M := (12, ⟨"RingDriveModel", "saysNumber", "(I)V"⟩, prog_14_method_65_code, 2, none, 1, 0, 1, 21, 0, 0)
def mM_total : rx_M := (12, ⟨"RingDriveModel", "total", "(I)I"⟩, prog_14_method_75_code, 5, (Option.some Jvm.ClassFile.FieldType.int), 1, 0, 6, 143, 0, 0)
def mM_readsBuffer : rx_M := (12, ⟨"RingDriveModel", "readsBuffer", "(II)I"⟩, prog_14_method_70_code, 4, (Option.some Jvm.ClassFile.FieldType.int), 2, 0, 1, 21, 0, 0)
def mM_out : rx_M := (12, ⟨"RingDriveModel", "out", "(I)I"⟩, prog_14_method_76_code, 2, (Option.some Jvm.ClassFile.FieldType.int), 1, 0, 0, 0, 0, 0)
def mM_write : rx_M := (12, ⟨"RingDriveModel", "write", "(II)I"⟩, prog_14_method_77_code, 5, (Option.some Jvm.ClassFile.FieldType.int), 2, 0, 11, 269, 0, 0)
def mM_writesByte : rx_M := (12, ⟨"RingDriveModel", "writesByte", "(II)I"⟩, prog_14_method_78_code, 4, (Option.some Jvm.ClassFile.FieldType.int), 2, 0, 8, 197, 0, 0)
def mM_goesOn : rx_M := (12, ⟨"RingDriveModel", "goesOn", "(I)I"⟩, prog_14_method_79_code, 5, (Option.some Jvm.ClassFile.FieldType.int), 1, 0, 7, 173, 0, 0)
def mM_takesNext : rx_M := (12, ⟨"RingDriveModel", "takesNext", "(II)I"⟩, prog_14_method_33_code, 6, (Option.some Jvm.ClassFile.FieldType.int), 2, 0, 3, 68, 0, 0)
def mM_isFull : rx_M := (12, ⟨"RingDriveModel", "isFull", "(I)I"⟩, prog_14_method_80_code, 6, (Option.some Jvm.ClassFile.FieldType.int), 1, 0, 6, 148, 0, 0)
def mM_look : rx_M := (12, ⟨"RingDriveModel", "look", "(I)I"⟩, prog_14_method_132_code, 2, (Option.some Jvm.ClassFile.FieldType.int), 1, 0, 1, 22, 0, 0)
def mM_bits : rx_M := (12, ⟨"RingDriveModel", "bits", "(II)I"⟩, prog_14_method_134_code, 6, (Option.some Jvm.ClassFile.FieldType.int), 2, 0, 2, 41, 0, 0)
def mM_isBit : rx_M := (12, ⟨"RingDriveModel", "isBit", "(II)Z"⟩, prog_14_method_133_code, 2, (Option.some Jvm.ClassFile.FieldType.boolean), 2, 1, 1, 20, 0, 0)
def mM_turn : rx_M := (12, ⟨"RingDriveModel", "turn", "(III)Z"⟩, prog_14_method_135_code, 7, (Option.some Jvm.ClassFile.FieldType.boolean), 3, 0, 2, 41, 0, 0)
def mM_protect : rx_M := (12, ⟨"RingDriveModel", "protect", "(Z)V"⟩, prog_14_method_136_code, 2, none, 1, 0, 0, 0, 0, 0)
def mM_memory : rx_M := (12, ⟨"RingDriveModel", "memory", "(I)I"⟩, prog_14_method_137_code, 2, (Option.some Jvm.ClassFile.FieldType.int), 1, 0, 0, 0, 0, 0)
def mM_power : rx_M := (12, ⟨"RingDriveModel", "power", "()V"⟩, prog_14_method_138_code, 2, none, 0, 0, 1, 23, 0, 0)
def mM_init : rx_M := (12, ⟨"RingDriveModel", "<init>", "()V"⟩, prog_14_method_139_code, 1, none, 0, 2, 1, 20, 39, 18895)
theorem f_0_9 : rx_lk rx_FLs 0 9 = some ((0, 0, (.array .int), true), 2010) := by decide +kernel
theorem f_0_15 : rx_lk rx_FLs 0 15 = some ((0, 3, (.object "RingDrive$Disk"), true), 2018) := by decide +kernel
theorem f_0_44 : rx_lk rx_FLs 0 44 = some ((4, 1, .int, false), 1146) := by decide +kernel
theorem f_0_48 : rx_lk rx_FLs 0 48 = some ((4, 2, .int, false), 1149) := by decide +kernel
theorem f_0_72 : rx_lk rx_FLs 0 72 = some ((0, 1, .int, false), 2012) := by decide +kernel
theorem f_0_75 : rx_lk rx_FLs 0 75 = some ((0, 2, .int, false), 2015) := by decide +kernel
theorem f_1_9 : rx_lk rx_FLs 1 9 = some ((1, 0, .int, false), 2075) := by decide +kernel
theorem f_1_15 : rx_lk rx_FLs 1 15 = some ((1, 1, (.array .int), true), 2077) := by decide +kernel
theorem f_1_22 : rx_lk rx_FLs 1 22 = some ((1, 14, (.object "RingDrive$Pattern"), true), 2102) := by decide +kernel
theorem f_1_32 : rx_lk rx_FLs 1 32 = some ((1, 2, .int, false), 2080) := by decide +kernel
theorem f_1_35 : rx_lk rx_FLs 1 35 = some ((1, 3, .int, false), 2083) := by decide +kernel
theorem f_1_38 : rx_lk rx_FLs 1 38 = some ((1, 4, .boolean, false), 2085) := by decide +kernel
theorem f_1_42 : rx_lk rx_FLs 1 42 = some ((1, 15, .boolean, false), 2104) := by decide +kernel
theorem f_1_45 : rx_lk rx_FLs 1 45 = some ((1, 5, .int, false), 2087) := by decide +kernel
theorem f_1_48 : rx_lk rx_FLs 1 48 = some ((1, 6, .int, false), 2089) := by decide +kernel
theorem f_1_51 : rx_lk rx_FLs 1 51 = some ((3, 1, .int, false), 2036) := by decide +kernel
theorem f_1_54 : rx_lk rx_FLs 1 54 = some ((1, 10, .int, false), 2094) := by decide +kernel
theorem f_1_57 : rx_lk rx_FLs 1 57 = some ((3, 2, .int, false), 2038) := by decide +kernel
theorem f_1_58 : rx_lk rx_FLs 1 58 = some ((1, 11, .int, false), 2096) := by decide +kernel
theorem f_1_61 : rx_lk rx_FLs 1 61 = some ((3, 3, .int, false), 2040) := by decide +kernel
theorem f_1_64 : rx_lk rx_FLs 1 64 = some ((1, 12, .int, false), 2098) := by decide +kernel
theorem f_1_67 : rx_lk rx_FLs 1 67 = some ((3, 4, .int, false), 2042) := by decide +kernel
theorem f_1_70 : rx_lk rx_FLs 1 70 = some ((1, 13, .int, false), 2100) := by decide +kernel
theorem f_2_12 : rx_lk rx_FLs 2 12 = some ((2, 7, (.object "RingDrive$Pattern"), true), 2202) := by decide +kernel
theorem f_2_18 : rx_lk rx_FLs 2 18 = some ((2, 8, (.object "RingDrive$Pattern"), true), 2203) := by decide +kernel
theorem f_2_21 : rx_lk rx_FLs 2 21 = some ((2, 9, (.object "RingDrive$Pattern"), true), 2204) := by decide +kernel
theorem f_2_24 : rx_lk rx_FLs 2 24 = some ((2, 0, (.object "RingDrive$Dos"), true), 2195) := by decide +kernel
theorem f_2_28 : rx_lk rx_FLs 2 28 = some ((2, 6, (.object "RingDrive$Processor"), true), 2201) := by decide +kernel
theorem f_2_32 : rx_lk rx_FLs 2 32 = some ((5, 0, (.object "RingDrive$Status"), true), 2140) := by decide +kernel
theorem f_2_38 : rx_lk rx_FLs 2 38 = some ((2, 1, (.object "RingDrive$Status"), true), 2196) := by decide +kernel
theorem f_2_39 : rx_lk rx_FLs 2 39 = some ((5, 1, (.object "RingDrive$Disk"), true), 2142) := by decide +kernel
theorem f_2_43 : rx_lk rx_FLs 2 43 = some ((2, 2, (.object "RingDrive$Disk"), true), 2197) := by decide +kernel
theorem f_2_44 : rx_lk rx_FLs 2 44 = some ((5, 2, (.object "RingDrive$Tape"), true), 2144) := by decide +kernel
theorem f_2_48 : rx_lk rx_FLs 2 48 = some ((2, 3, (.object "RingDrive$Tape"), true), 2198) := by decide +kernel
theorem f_2_49 : rx_lk rx_FLs 2 49 = some ((5, 3, (.object "RingDrive$BlockMap"), true), 2146) := by decide +kernel
theorem f_2_53 : rx_lk rx_FLs 2 53 = some ((2, 4, (.object "RingDrive$BlockMap"), true), 2199) := by decide +kernel
theorem f_2_54 : rx_lk rx_FLs 2 54 = some ((5, 4, (.object "RingDrive$Directory"), true), 2148) := by decide +kernel
theorem f_2_58 : rx_lk rx_FLs 2 58 = some ((2, 5, (.object "RingDrive$Directory"), true), 2200) := by decide +kernel
theorem f_2_62 : rx_lk rx_FLs 2 62 = some ((10, 2, .int, false), 1038) := by decide +kernel
theorem f_2_164 : rx_lk rx_FLs 2 164 = some ((3, 5, .boolean, false), 2044) := by decide +kernel
theorem f_2_206 : rx_lk rx_FLs 2 206 = some ((5, 5, (.array .int), true), 2150) := by decide +kernel
theorem f_2_237 : rx_lk rx_FLs 2 237 = some ((1, 1, (.array .int), true), 2079) := by decide +kernel
theorem f_2_243 : rx_lk rx_FLs 2 243 = some ((1, 2, .int, false), 2082) := by decide +kernel
theorem f_3_9 : rx_lk rx_FLs 3 9 = some ((3, 0, (.array .int), true), 2034) := by decide +kernel
theorem f_3_15 : rx_lk rx_FLs 3 15 = some ((3, 7, (.object "RingDrive$Disk"), true), 2047) := by decide +kernel
theorem f_3_19 : rx_lk rx_FLs 3 19 = some ((3, 8, (.object "RingDrive$Status"), true), 2048) := by decide +kernel
theorem f_3_27 : rx_lk rx_FLs 3 27 = some ((3, 1, .int, false), 2035) := by decide +kernel
theorem f_3_31 : rx_lk rx_FLs 3 31 = some ((3, 2, .int, false), 2037) := by decide +kernel
theorem f_3_34 : rx_lk rx_FLs 3 34 = some ((3, 3, .int, false), 2039) := by decide +kernel
theorem f_3_37 : rx_lk rx_FLs 3 37 = some ((3, 4, .int, false), 2041) := by decide +kernel
theorem f_3_40 : rx_lk rx_FLs 3 40 = some ((3, 6, .boolean, false), 2046) := by decide +kernel
theorem f_3_44 : rx_lk rx_FLs 3 44 = some ((3, 5, .boolean, false), 2043) := by decide +kernel
theorem f_3_95 : rx_lk rx_FLs 3 95 = some ((0, 1, .int, false), 2013) := by decide +kernel
theorem f_3_98 : rx_lk rx_FLs 3 98 = some ((0, 2, .int, false), 2016) := by decide +kernel
theorem f_4_9 : rx_lk rx_FLs 4 9 = some ((4, 1, .int, false), 1145) := by decide +kernel
theorem f_4_15 : rx_lk rx_FLs 4 15 = some ((4, 2, .int, false), 1148) := by decide +kernel
theorem f_4_20 : rx_lk rx_FLs 4 20 = some ((4, 4, (.array (.object "RingDrive$Ring")), true), 1152) := by decide +kernel
theorem f_4_24 : rx_lk rx_FLs 4 24 = some ((4, 5, (.array .int), true), 1153) := by decide +kernel
theorem f_4_28 : rx_lk rx_FLs 4 28 = some ((4, 6, (.array .int), true), 1154) := by decide +kernel
theorem f_4_31 : rx_lk rx_FLs 4 31 = some ((4, 7, (.array .int), true), 1155) := by decide +kernel
theorem f_4_34 : rx_lk rx_FLs 4 34 = some ((4, 8, (.array .int), true), 1156) := by decide +kernel
theorem f_4_37 : rx_lk rx_FLs 4 37 = some ((4, 9, (.array .int), true), 1157) := by decide +kernel
theorem f_4_40 : rx_lk rx_FLs 4 40 = some ((4, 3, (.object "RingDrive$Status"), true), 1151) := by decide +kernel
theorem f_4_101 : rx_lk rx_FLs 4 101 = some ((9, 0, .int, false), 1060) := by decide +kernel
theorem f_4_121 : rx_lk rx_FLs 4 121 = some ((4, 0, .boolean, false), 1144) := by decide +kernel
theorem f_4_137 : rx_lk rx_FLs 4 137 = some ((8, 0, .int, true), 1117) := by decide +kernel
theorem f_4_154 : rx_lk rx_FLs 4 154 = some ((8, 1, .int, true), 1119) := by decide +kernel
theorem f_5_11 : rx_lk rx_FLs 5 11 = some ((5, 5, (.array .int), true), 2149) := by decide +kernel
theorem f_5_19 : rx_lk rx_FLs 5 19 = some ((5, 7, (.array (.object "RingDrive$Channel")), true), 2153) := by decide +kernel
theorem f_5_26 : rx_lk rx_FLs 5 26 = some ((5, 8, (.object "RingDrive$Pattern"), true), 2154) := by decide +kernel
theorem f_5_30 : rx_lk rx_FLs 5 30 = some ((5, 0, (.object "RingDrive$Status"), true), 2139) := by decide +kernel
theorem f_5_34 : rx_lk rx_FLs 5 34 = some ((5, 1, (.object "RingDrive$Disk"), true), 2141) := by decide +kernel
theorem f_5_38 : rx_lk rx_FLs 5 38 = some ((5, 2, (.object "RingDrive$Tape"), true), 2143) := by decide +kernel
theorem f_5_47 : rx_lk rx_FLs 5 47 = some ((5, 3, (.object "RingDrive$BlockMap"), true), 2145) := by decide +kernel
theorem f_5_56 : rx_lk rx_FLs 5 56 = some ((5, 4, (.object "RingDrive$Directory"), true), 2147) := by decide +kernel
theorem f_5_61 : rx_lk rx_FLs 5 61 = some ((1, 0, .int, false), 2076) := by decide +kernel
theorem f_5_72 : rx_lk rx_FLs 5 72 = some ((1, 1, (.array .int), true), 2078) := by decide +kernel
theorem f_5_73 : rx_lk rx_FLs 5 73 = some ((1, 2, .int, false), 2081) := by decide +kernel
theorem f_5_76 : rx_lk rx_FLs 5 76 = some ((1, 5, .int, false), 2088) := by decide +kernel
theorem f_5_79 : rx_lk rx_FLs 5 79 = some ((1, 6, .int, false), 2090) := by decide +kernel
theorem f_5_90 : rx_lk rx_FLs 5 90 = some ((1, 9, .int, false), 2093) := by decide +kernel
theorem f_5_96 : rx_lk rx_FLs 5 96 = some ((1, 10, .int, false), 2095) := by decide +kernel
theorem f_5_99 : rx_lk rx_FLs 5 99 = some ((1, 11, .int, false), 2097) := by decide +kernel
theorem f_5_102 : rx_lk rx_FLs 5 102 = some ((1, 12, .int, false), 2099) := by decide +kernel
theorem f_5_105 : rx_lk rx_FLs 5 105 = some ((1, 13, .int, false), 2101) := by decide +kernel
theorem f_5_137 : rx_lk rx_FLs 5 137 = some ((5, 11, .int, false), 2157) := by decide +kernel
theorem f_5_146 : rx_lk rx_FLs 5 146 = some ((10, 2, .int, false), 1040) := by decide +kernel
theorem f_5_164 : rx_lk rx_FLs 5 164 = some ((1, 14, (.object "RingDrive$Pattern"), true), 2103) := by decide +kernel
theorem f_5_171 : rx_lk rx_FLs 5 171 = some ((5, 9, .boolean, false), 2155) := by decide +kernel
theorem f_5_182 : rx_lk rx_FLs 5 182 = some ((5, 10, .int, false), 2156) := by decide +kernel
theorem f_5_197 : rx_lk rx_FLs 5 197 = some ((3, 5, .boolean, false), 2045) := by decide +kernel
theorem f_5_237 : rx_lk rx_FLs 5 237 = some ((9, 1, .int, false), 1063) := by decide +kernel
theorem f_5_238 : rx_lk rx_FLs 5 238 = some ((9, 2, .int, false), 1066) := by decide +kernel
theorem f_5_255 : rx_lk rx_FLs 5 255 = some ((0, 1, .int, false), 2014) := by decide +kernel
theorem f_5_256 : rx_lk rx_FLs 5 256 = some ((0, 2, .int, false), 2017) := by decide +kernel
theorem f_5_273 : rx_lk rx_FLs 5 273 = some ((1, 7, .int, false), 2091) := by decide +kernel
theorem f_5_275 : rx_lk rx_FLs 5 275 = some ((1, 8, .int, false), 2092) := by decide +kernel
theorem f_5_281 : rx_lk rx_FLs 5 281 = some ((5, 6, .boolean, false), 2152) := by decide +kernel
theorem f_5_287 : rx_lk rx_FLs 5 287 = some ((1, 3, .int, false), 2084) := by decide +kernel
theorem f_5_290 : rx_lk rx_FLs 5 290 = some ((1, 4, .boolean, false), 2086) := by decide +kernel
theorem f_5_302 : rx_lk rx_FLs 5 302 = some ((1, 15, .boolean, false), 2105) := by decide +kernel
theorem f_5_317 : rx_lk rx_FLs 5 317 = some ((0, 0, (.array .int), true), 2011) := by decide +kernel
theorem f_6_9 : rx_lk rx_FLs 6 9 = some ((6, 0, (.array .int), true), 1237) := by decide +kernel
theorem f_6_19 : rx_lk rx_FLs 6 19 = some ((6, 1, .int, false), 1238) := by decide +kernel
theorem f_7_9 : rx_lk rx_FLs 7 9 = some ((7, 7, (.array .int), true), 1199) := by decide +kernel
theorem f_7_23 : rx_lk rx_FLs 7 23 = some ((7, 3, .int, false), 1191) := by decide +kernel
theorem f_7_27 : rx_lk rx_FLs 7 27 = some ((7, 4, .int, false), 1193) := by decide +kernel
theorem f_7_30 : rx_lk rx_FLs 7 30 = some ((7, 0, .int, false), 1185) := by decide +kernel
theorem f_7_33 : rx_lk rx_FLs 7 33 = some ((7, 1, .int, false), 1187) := by decide +kernel
theorem f_7_36 : rx_lk rx_FLs 7 36 = some ((7, 2, .int, false), 1189) := by decide +kernel
theorem f_7_39 : rx_lk rx_FLs 7 39 = some ((7, 5, .int, false), 1195) := by decide +kernel
theorem f_7_42 : rx_lk rx_FLs 7 42 = some ((7, 6, .int, false), 1197) := by decide +kernel
theorem f_7_65 : rx_lk rx_FLs 7 65 = some ((7, 9, .boolean, false), 1201) := by decide +kernel
theorem f_7_69 : rx_lk rx_FLs 7 69 = some ((7, 8, .int, false), 1200) := by decide +kernel
theorem f_8_15 : rx_lk rx_FLs 8 15 = some ((8, 2, (.array .int), true), 1120) := by decide +kernel
theorem f_8_21 : rx_lk rx_FLs 8 21 = some ((8, 1, .int, true), 1118) := by decide +kernel
theorem f_8_25 : rx_lk rx_FLs 8 25 = some ((8, 0, .int, true), 1116) := by decide +kernel
theorem f_8_36 : rx_lk rx_FLs 8 36 = some ((8, 3, .int, false), 1121) := by decide +kernel
theorem f_8_43 : rx_lk rx_FLs 8 43 = some ((8, 4, .int, false), 1122) := by decide +kernel
theorem f_8_46 : rx_lk rx_FLs 8 46 = some ((8, 6, .int, false), 1124) := by decide +kernel
theorem f_8_49 : rx_lk rx_FLs 8 49 = some ((8, 7, .int, false), 1125) := by decide +kernel
theorem f_8_52 : rx_lk rx_FLs 8 52 = some ((8, 5, .boolean, false), 1123) := by decide +kernel
theorem f_9_9 : rx_lk rx_FLs 9 9 = some ((9, 0, .int, false), 1058) := by decide +kernel
theorem f_9_15 : rx_lk rx_FLs 9 15 = some ((9, 4, (.array .int), true), 1069) := by decide +kernel
theorem f_9_19 : rx_lk rx_FLs 9 19 = some ((9, 7, (.array .int), true), 1072) := by decide +kernel
theorem f_9_26 : rx_lk rx_FLs 9 26 = some ((9, 8, .int, false), 1073) := by decide +kernel
theorem f_9_29 : rx_lk rx_FLs 9 29 = some ((9, 9, .int, false), 1074) := by decide +kernel
theorem f_9_32 : rx_lk rx_FLs 9 32 = some ((9, 1, .int, false), 1061) := by decide +kernel
theorem f_9_35 : rx_lk rx_FLs 9 35 = some ((9, 2, .int, false), 1064) := by decide +kernel
theorem f_9_38 : rx_lk rx_FLs 9 38 = some ((9, 5, .int, false), 1070) := by decide +kernel
theorem f_9_41 : rx_lk rx_FLs 9 41 = some ((9, 6, .int, false), 1071) := by decide +kernel
theorem f_9_44 : rx_lk rx_FLs 9 44 = some ((9, 3, .boolean, false), 1067) := by decide +kernel
theorem f_10_11 : rx_lk rx_FLs 10 11 = some ((10, 0, (.array .int), true), 1035) := by decide +kernel
theorem f_10_15 : rx_lk rx_FLs 10 15 = some ((10, 1, .int, false), 1037) := by decide +kernel
theorem f_10_19 : rx_lk rx_FLs 10 19 = some ((10, 2, .int, false), 1039) := by decide +kernel
theorem f_10_31 : rx_lk rx_FLs 10 31 = some ((10, 3, .int, false), 1041) := by decide +kernel
theorem f_11_10 : rx_lk rx_FLs 11 10 = some ((11, 0, (.object "RingDrive$Tape"), true), 2226) := by decide +kernel
theorem f_11_19 : rx_lk rx_FLs 11 19 = some ((11, 1, (.object "RingDrive$Status"), true), 2227) := by decide +kernel
theorem f_11_28 : rx_lk rx_FLs 11 28 = some ((11, 2, (.object "RingDrive$Disk"), true), 2228) := by decide +kernel
theorem f_11_35 : rx_lk rx_FLs 11 35 = some ((11, 3, (.object "RingDrive$Processor"), true), 2229) := by decide +kernel
theorem f_11_44 : rx_lk rx_FLs 11 44 = some ((11, 4, (.object "RingDrive$Dos"), true), 2230) := by decide +kernel
theorem f_11_53 : rx_lk rx_FLs 11 53 = some ((11, 5, (.object "RingDrive$Commands"), true), 2231) := by decide +kernel
theorem f_11_57 : rx_lk rx_FLs 11 57 = some ((11, 6, (.array .int), true), 2232) := by decide +kernel
theorem f_11_61 : rx_lk rx_FLs 11 61 = some ((11, 7, .int, false), 2233) := by decide +kernel
theorem f_11_65 : rx_lk rx_FLs 11 65 = some ((11, 8, .boolean, false), 2234) := by decide +kernel
theorem f_11_69 : rx_lk rx_FLs 11 69 = some ((10, 1, .int, false), 1036) := by decide +kernel
theorem f_11_84 : rx_lk rx_FLs 11 84 = some ((9, 0, .int, false), 1059) := by decide +kernel
theorem f_11_115 : rx_lk rx_FLs 11 115 = some ((9, 3, .boolean, false), 1068) := by decide +kernel
theorem f_11_121 : rx_lk rx_FLs 11 121 = some ((5, 6, .boolean, false), 2151) := by decide +kernel
theorem f_11_122 : rx_lk rx_FLs 11 122 = some ((9, 1, .int, false), 1062) := by decide +kernel
theorem f_11_125 : rx_lk rx_FLs 11 125 = some ((9, 2, .int, false), 1065) := by decide +kernel
theorem f_11_128 : rx_lk rx_FLs 11 128 = some ((4, 1, .int, false), 1147) := by decide +kernel
theorem f_11_131 : rx_lk rx_FLs 11 131 = some ((4, 2, .int, false), 1150) := by decide +kernel
theorem f_11_137 : rx_lk rx_FLs 11 137 = some ((7, 0, .int, false), 1186) := by decide +kernel
theorem f_11_140 : rx_lk rx_FLs 11 140 = some ((7, 1, .int, false), 1188) := by decide +kernel
theorem f_11_143 : rx_lk rx_FLs 11 143 = some ((7, 2, .int, false), 1190) := by decide +kernel
theorem f_11_146 : rx_lk rx_FLs 11 146 = some ((7, 3, .int, false), 1192) := by decide +kernel
theorem f_11_149 : rx_lk rx_FLs 11 149 = some ((7, 4, .int, false), 1194) := by decide +kernel
theorem f_11_152 : rx_lk rx_FLs 11 152 = some ((7, 5, .int, false), 1196) := by decide +kernel
theorem f_11_155 : rx_lk rx_FLs 11 155 = some ((7, 6, .int, false), 1198) := by decide +kernel
theorem f_11_174 : rx_lk rx_FLs 11 174 = some ((4, 0, .boolean, false), 1143) := by decide +kernel
theorem f_12_7 : rx_lk rx_FLs 12 7 = some ((12, 4, .int, false), 9063) := by decide +kernel
theorem f_12_11 : rx_lk rx_FLs 12 11 = some ((12, 5, .int, false), 9064) := by decide +kernel
theorem f_12_14 : rx_lk rx_FLs 12 14 = some ((12, 0, (.array .byte), true), 9059) := by decide +kernel
theorem f_12_18 : rx_lk rx_FLs 12 18 = some ((12, 6, .int, false), 9065) := by decide +kernel
theorem f_12_24 : rx_lk rx_FLs 12 24 = some ((12, 7, .int, false), 9066) := by decide +kernel
theorem f_12_27 : rx_lk rx_FLs 12 27 = some ((12, 8, .int, false), 9067) := by decide +kernel
theorem f_12_30 : rx_lk rx_FLs 12 30 = some ((12, 9, .int, false), 9068) := by decide +kernel
theorem f_12_33 : rx_lk rx_FLs 12 33 = some ((12, 10, .int, false), 9069) := by decide +kernel
theorem f_12_36 : rx_lk rx_FLs 12 36 = some ((12, 11, .int, false), 9070) := by decide +kernel
theorem f_12_39 : rx_lk rx_FLs 12 39 = some ((12, 12, .int, false), 9071) := by decide +kernel
theorem f_12_42 : rx_lk rx_FLs 12 42 = some ((12, 13, .boolean, false), 9072) := by decide +kernel
theorem f_12_50 : rx_lk rx_FLs 12 50 = some ((12, 14, .int, false), 9073) := by decide +kernel
theorem f_12_53 : rx_lk rx_FLs 12 53 = some ((12, 15, .boolean, false), 9074) := by decide +kernel
theorem f_12_64 : rx_lk rx_FLs 12 64 = some ((12, 16, (.array .int), true), 9075) := by decide +kernel
theorem f_12_71 : rx_lk rx_FLs 12 71 = some ((12, 17, (.array .int), true), 9076) := by decide +kernel
theorem f_12_74 : rx_lk rx_FLs 12 74 = some ((12, 18, (.array .int), true), 9077) := by decide +kernel
theorem f_12_90 : rx_lk rx_FLs 12 90 = some ((12, 2, .int, false), 9061) := by decide +kernel
theorem f_12_93 : rx_lk rx_FLs 12 93 = some ((12, 3, .int, false), 9062) := by decide +kernel
theorem f_12_104 : rx_lk rx_FLs 12 104 = some ((12, 19, (.array .int), true), 9078) := by decide +kernel
theorem f_12_125 : rx_lk rx_FLs 12 125 = some ((12, 20, .int, false), 9079) := by decide +kernel
theorem f_12_131 : rx_lk rx_FLs 12 131 = some ((12, 1, .boolean, false), 9060) := by decide +kernel
theorem f_12_142 : rx_lk rx_FLs 12 142 = some ((12, 21, (.array .int), true), 9080) := by decide +kernel
theorem f_12_145 : rx_lk rx_FLs 12 145 = some ((12, 22, (.array .int), true), 9081) := by decide +kernel
theorem f_12_155 : rx_lk rx_FLs 12 155 = some ((12, 25, .int, false), 9084) := by decide +kernel
theorem f_12_158 : rx_lk rx_FLs 12 158 = some ((12, 26, .int, false), 9085) := by decide +kernel
theorem f_12_186 : rx_lk rx_FLs 12 186 = some ((12, 24, (.array .int), true), 9083) := by decide +kernel
theorem f_12_192 : rx_lk rx_FLs 12 192 = some ((12, 32, .int, false), 9091) := by decide +kernel
theorem f_12_195 : rx_lk rx_FLs 12 195 = some ((12, 23, (.array .int), true), 9082) := by decide +kernel
theorem f_12_198 : rx_lk rx_FLs 12 198 = some ((12, 30, .int, false), 9089) := by decide +kernel
theorem f_12_201 : rx_lk rx_FLs 12 201 = some ((12, 31, .int, false), 9090) := by decide +kernel
theorem f_12_211 : rx_lk rx_FLs 12 211 = some ((12, 27, .int, false), 9086) := by decide +kernel
theorem f_12_214 : rx_lk rx_FLs 12 214 = some ((12, 28, .int, false), 9087) := by decide +kernel
theorem f_12_217 : rx_lk rx_FLs 12 217 = some ((12, 29, .int, false), 9088) := by decide +kernel
theorem f_12_227 : rx_lk rx_FLs 12 227 = some ((12, 56, .int, false), 9115) := by decide +kernel
theorem f_12_230 : rx_lk rx_FLs 12 230 = some ((12, 57, .int, false), 9116) := by decide +kernel
theorem f_12_233 : rx_lk rx_FLs 12 233 = some ((12, 58, .int, false), 9117) := by decide +kernel
theorem f_12_236 : rx_lk rx_FLs 12 236 = some ((12, 59, .int, false), 9118) := by decide +kernel
theorem f_12_242 : rx_lk rx_FLs 12 242 = some ((12, 61, .int, false), 9120) := by decide +kernel
theorem f_12_245 : rx_lk rx_FLs 12 245 = some ((12, 62, .int, false), 9121) := by decide +kernel
theorem f_12_248 : rx_lk rx_FLs 12 248 = some ((12, 33, (.array .int), true), 9092) := by decide +kernel
theorem f_12_251 : rx_lk rx_FLs 12 251 = some ((12, 63, (.array .byte), true), 9122) := by decide +kernel
theorem f_12_254 : rx_lk rx_FLs 12 254 = some ((12, 64, .int, false), 9123) := by decide +kernel
theorem f_12_260 : rx_lk rx_FLs 12 260 = some ((12, 65, (.array .int), true), 9124) := by decide +kernel
theorem f_12_284 : rx_lk rx_FLs 12 284 = some ((12, 34, (.array .int), true), 9093) := by decide +kernel
theorem f_12_287 : rx_lk rx_FLs 12 287 = some ((12, 35, (.array .int), true), 9094) := by decide +kernel
theorem f_12_296 : rx_lk rx_FLs 12 296 = some ((12, 54, (.array .int), true), 9113) := by decide +kernel
theorem f_12_299 : rx_lk rx_FLs 12 299 = some ((12, 51, (.array .int), true), 9110) := by decide +kernel
theorem f_12_302 : rx_lk rx_FLs 12 302 = some ((12, 46, (.array .int), true), 9105) := by decide +kernel
theorem f_12_305 : rx_lk rx_FLs 12 305 = some ((12, 52, (.array .int), true), 9111) := by decide +kernel
theorem f_12_308 : rx_lk rx_FLs 12 308 = some ((12, 53, (.array .int), true), 9112) := by decide +kernel
theorem f_12_318 : rx_lk rx_FLs 12 318 = some ((12, 37, (.array .boolean), true), 9096) := by decide +kernel
theorem f_12_322 : rx_lk rx_FLs 12 322 = some ((12, 36, (.array .int), true), 9095) := by decide +kernel
theorem f_12_341 : rx_lk rx_FLs 12 341 = some ((12, 38, (.array .int), true), 9097) := by decide +kernel
theorem f_12_344 : rx_lk rx_FLs 12 344 = some ((12, 39, (.array .int), true), 9098) := by decide +kernel
theorem f_12_347 : rx_lk rx_FLs 12 347 = some ((12, 40, (.array .int), true), 9099) := by decide +kernel
theorem f_12_350 : rx_lk rx_FLs 12 350 = some ((12, 41, (.array .int), true), 9100) := by decide +kernel
theorem f_12_353 : rx_lk rx_FLs 12 353 = some ((12, 42, (.array .int), true), 9101) := by decide +kernel
theorem f_12_356 : rx_lk rx_FLs 12 356 = some ((12, 43, (.array .int), true), 9102) := by decide +kernel
theorem f_12_359 : rx_lk rx_FLs 12 359 = some ((12, 44, (.array .int), true), 9103) := by decide +kernel
theorem f_12_362 : rx_lk rx_FLs 12 362 = some ((12, 45, (.array .int), true), 9104) := by decide +kernel
theorem f_12_368 : rx_lk rx_FLs 12 368 = some ((12, 66, (.array .int), true), 9125) := by decide +kernel
theorem f_12_371 : rx_lk rx_FLs 12 371 = some ((12, 67, .int, false), 9126) := by decide +kernel
theorem f_12_374 : rx_lk rx_FLs 12 374 = some ((12, 68, .int, false), 9127) := by decide +kernel
theorem f_12_392 : rx_lk rx_FLs 12 392 = some ((12, 60, (.array .int), true), 9119) := by decide +kernel
theorem f_12_398 : rx_lk rx_FLs 12 398 = some ((12, 69, (.array .int), true), 9128) := by decide +kernel
theorem f_12_401 : rx_lk rx_FLs 12 401 = some ((12, 70, .int, false), 9129) := by decide +kernel
theorem f_12_493 : rx_lk rx_FLs 12 493 = some ((12, 55, (.array .int), true), 9114) := by decide +kernel
theorem f_12_502 : rx_lk rx_FLs 12 502 = some ((12, 47, (.array .int), true), 9106) := by decide +kernel
theorem f_12_505 : rx_lk rx_FLs 12 505 = some ((12, 48, (.array .int), true), 9107) := by decide +kernel
theorem f_12_508 : rx_lk rx_FLs 12 508 = some ((12, 49, (.array .int), true), 9108) := by decide +kernel
theorem f_12_511 : rx_lk rx_FLs 12 511 = some ((12, 50, (.array .int), true), 9109) := by decide +kernel
theorem f_12_587 : rx_lk rx_FLs 12 587 = some ((12, 71, (.array .int), true), 9130) := by decide +kernel
theorem f_12_599 : rx_lk rx_FLs 12 599 = some ((12, 72, .int, false), 9131) := by decide +kernel
theorem f_12_602 : rx_lk rx_FLs 12 602 = some ((12, 73, .int, false), 9132) := by decide +kernel
theorem f_12_614 : rx_lk rx_FLs 12 614 = some ((12, 74, (.array .byte), true), 9133) := by decide +kernel
theorem f_12_626 : rx_lk rx_FLs 12 626 = some ((12, 75, .int, false), 9134) := by decide +kernel
theorem f_12_629 : rx_lk rx_FLs 12 629 = some ((12, 76, .int, false), 9135) := by decide +kernel
theorem f_12_632 : rx_lk rx_FLs 12 632 = some ((12, 77, .int, false), 9136) := by decide +kernel
theorem f_12_635 : rx_lk rx_FLs 12 635 = some ((12, 78, .int, false), 9137) := by decide +kernel
theorem f_12_638 : rx_lk rx_FLs 12 638 = some ((12, 79, .int, false), 9138) := by decide +kernel
theorem f_12_641 : rx_lk rx_FLs 12 641 = some ((12, 81, .int, false), 9140) := by decide +kernel
theorem f_12_644 : rx_lk rx_FLs 12 644 = some ((12, 80, .int, false), 9139) := by decide +kernel
theorem f_12_647 : rx_lk rx_FLs 12 647 = some ((12, 82, .int, false), 9141) := by decide +kernel
theorem f_12_660 : rx_lk rx_FLs 12 660 = some ((12, 83, .boolean, false), 9142) := by decide +kernel
theorem rx_whoV {co idx j pos : Nat} {Z : rx_M} (hL : rx_lk rx_MLs co idx = some ((j, false), pos)) (hj : rx_MT[j]? = some Z) (hk : rm_kind Z = 0) : rx_who co (.invokevirtual idx) 3 = some Z := by simp [rx_who, hL, hj, hk]
theorem rx_whoS {co idx j pos : Nat} {Z : rx_M} (hL : rx_lk rx_MLs co idx = some ((j, false), pos)) (hj : rx_MT[j]? = some Z) (hk : rm_kind Z = 1) : rx_who co (.invokestatic idx) 3 = some Z := by simp [rx_who, hL, hj, hk]
theorem rx_whoI {co idx j pos : Nat} {n : Bool} {Z : rx_M} (hL : rx_lk rx_MLs co idx = some ((j, n), pos)) (hj : rx_MT[j]? = some Z) (hk : rm_kind Z = 2) : rx_who co (.invokespecial idx) 3 = some Z := by simp [rx_who, hL, hj, hk]
set_option maxRecDepth 10000 in
theorem j_X_init : rx_MT[0]? = some mX_init := rfl
set_option maxRecDepth 10000 in
theorem j_Tape_init : rx_MT[1]? = some mTape_init := rfl
set_option maxRecDepth 10000 in
theorem j_Status_init : rx_MT[2]? = some mStatus_init := rfl
set_option maxRecDepth 10000 in
theorem j_Disk_init : rx_MT[3]? = some mDisk_init := rfl
set_option maxRecDepth 10000 in
theorem j_Ring_init : rx_MT[4]? = some mRing_init := rfl
set_option maxRecDepth 10000 in
theorem j_Processor_init : rx_MT[5]? = some mProcessor_init := rfl
set_option maxRecDepth 10000 in
theorem j_Dos_init : rx_MT[6]? = some mDos_init := rfl
set_option maxRecDepth 10000 in
theorem j_Pattern_init : rx_MT[7]? = some mPattern_init := rfl
set_option maxRecDepth 10000 in
theorem j_BlockMap_init : rx_MT[8]? = some mBlockMap_init := rfl
set_option maxRecDepth 10000 in
theorem j_Directory_init : rx_MT[9]? = some mDirectory_init := rfl
set_option maxRecDepth 10000 in
theorem j_Channel_init : rx_MT[10]? = some mChannel_init := rfl
set_option maxRecDepth 10000 in
theorem j_Commands_init : rx_MT[11]? = some mCommands_init := rfl
set_option maxRecDepth 10000 in
theorem j_Pattern_fitAll : rx_MT[12]? = some mPattern_fitAll := rfl
set_option maxRecDepth 10000 in
theorem j_X_feed : rx_MT[13]? = some mX_feed := rfl
set_option maxRecDepth 10000 in
theorem j_Tape_add : rx_MT[14]? = some mTape_add := rfl
set_option maxRecDepth 10000 in
theorem j_X_open : rx_MT[15]? = some mX_open := rfl
set_option maxRecDepth 10000 in
theorem j_X_sendText : rx_MT[16]? = some mX_sendText := rfl
set_option maxRecDepth 10000 in
theorem j_X_isChannel : rx_MT[17]? = some mX_isChannel := rfl
set_option maxRecDepth 10000 in
theorem j_Tape_has : rx_MT[18]? = some mTape_has := rfl
set_option maxRecDepth 10000 in
theorem j_Tape_send : rx_MT[19]? = some mTape_send := rfl
set_option maxRecDepth 10000 in
theorem j_Commands_run : rx_MT[20]? = some mCommands_run := rfl
set_option maxRecDepth 10000 in
theorem j_Status_begin : rx_MT[21]? = some mStatus_begin := rfl
set_option maxRecDepth 10000 in
theorem j_Status_set : rx_MT[22]? = some mStatus_set := rfl
set_option maxRecDepth 10000 in
theorem j_Tape_byteAt : rx_MT[23]? = some mTape_byteAt := rfl
set_option maxRecDepth 10000 in
theorem j_Commands_newDisk : rx_MT[24]? = some mCommands_newDisk := rfl
set_option maxRecDepth 10000 in
theorem j_Tape_find : rx_MT[25]? = some mTape_find := rfl
set_option maxRecDepth 10000 in
theorem j_Pattern_take : rx_MT[26]? = some mPattern_take := rfl
set_option maxRecDepth 10000 in
theorem j_Pattern_isEmpty : rx_MT[27]? = some mPattern_isEmpty := rfl
set_option maxRecDepth 10000 in
theorem j_Pattern_isWild : rx_MT[28]? = some mPattern_isWild := rfl
set_option maxRecDepth 10000 in
theorem j_Commands_formatAll : rx_MT[29]? = some mCommands_formatAll := rfl
set_option maxRecDepth 10000 in
theorem j_Dos_dropAll : rx_MT[30]? = some mDos_dropAll := rfl
set_option maxRecDepth 10000 in
theorem j_Disk_format : rx_MT[31]? = some mDisk_format := rfl
set_option maxRecDepth 10000 in
theorem j_Disk_ring : rx_MT[32]? = some mDisk_ring := rfl
set_option maxRecDepth 10000 in
theorem j_Ring_goTo : rx_MT[33]? = some mRing_goTo := rfl
set_option maxRecDepth 10000 in
theorem j_Disk_codeData : rx_MT[34]? = some mDisk_codeData := rfl
set_option maxRecDepth 10000 in
theorem j_Disk_encode : rx_MT[35]? = some mDisk_encode := rfl
set_option maxRecDepth 10000 in
theorem j_Disk_fillHeader : rx_MT[36]? = some mDisk_fillHeader := rfl
set_option maxRecDepth 10000 in
theorem j_Ring_putMarked : rx_MT[37]? = some mRing_putMarked := rfl
set_option maxRecDepth 10000 in
theorem j_Ring_put : rx_MT[38]? = some mRing_put := rfl
set_option maxRecDepth 10000 in
theorem j_Ring_putGap : rx_MT[39]? = some mRing_putGap := rfl
set_option maxRecDepth 10000 in
theorem j_Ring_putGapToEnd : rx_MT[40]? = some mRing_putGapToEnd := rfl
set_option maxRecDepth 10000 in
theorem j_Disk_setId : rx_MT[41]? = some mDisk_setId := rfl
set_option maxRecDepth 10000 in
theorem j_Disk_hasId : rx_MT[42]? = some mDisk_hasId := rfl
set_option maxRecDepth 10000 in
theorem j_Disk_takeId : rx_MT[43]? = some mDisk_takeId := rfl
set_option maxRecDepth 10000 in
theorem j_Disk_dropId : rx_MT[44]? = some mDisk_dropId := rfl
set_option maxRecDepth 10000 in
theorem j_Ring_onesAhead : rx_MT[45]? = some mRing_onesAhead := rfl
set_option maxRecDepth 10000 in
theorem j_Ring_startRound : rx_MT[46]? = some mRing_startRound := rfl
set_option maxRecDepth 10000 in
theorem j_Ring_nextFirst : rx_MT[47]? = some mRing_nextFirst := rfl
set_option maxRecDepth 10000 in
theorem j_Ring_next : rx_MT[48]? = some mRing_next := rfl
set_option maxRecDepth 10000 in
theorem j_Disk_decode : rx_MT[49]? = some mDisk_decode := rfl
set_option maxRecDepth 10000 in
theorem j_Disk_isHeader : rx_MT[50]? = some mDisk_isHeader := rfl
set_option maxRecDepth 10000 in
theorem j_BlockMap_begin : rx_MT[51]? = some mBlockMap_begin := rfl
set_option maxRecDepth 10000 in
theorem j_Arr_fill : rx_MT[52]? = some mArr_fill := rfl
set_option maxRecDepth 10000 in
theorem j_BlockMap_freeAll : rx_MT[53]? = some mBlockMap_freeAll := rfl
set_option maxRecDepth 10000 in
theorem j_Disk_sectorsOf : rx_MT[54]? = some mDisk_sectorsOf := rfl
set_option maxRecDepth 10000 in
theorem j_BlockMap_takeBlock : rx_MT[55]? = some mBlockMap_takeBlock := rfl
set_option maxRecDepth 10000 in
theorem j_Disk_isLegal : rx_MT[56]? = some mDisk_isLegal := rfl
set_option maxRecDepth 10000 in
theorem j_Pattern_putInto : rx_MT[57]? = some mPattern_putInto := rfl
set_option maxRecDepth 10000 in
theorem j_Pattern_padded : rx_MT[58]? = some mPattern_padded := rfl
set_option maxRecDepth 10000 in
theorem j_BlockMap_store : rx_MT[59]? = some mBlockMap_store := rfl
set_option maxRecDepth 10000 in
theorem j_Disk_writeBlock : rx_MT[60]? = some mDisk_writeBlock := rfl
set_option maxRecDepth 10000 in
theorem j_Disk_seek : rx_MT[61]? = some mDisk_seek := rfl
set_option maxRecDepth 10000 in
theorem j_Ring_holds : rx_MT[62]? = some mRing_holds := rfl
set_option maxRecDepth 10000 in
theorem j_Ring_skip : rx_MT[63]? = some mRing_skip := rfl
set_option maxRecDepth 10000 in
theorem j_Ring_gatherFromFirst : rx_MT[64]? = some mRing_gatherFromFirst := rfl
set_option maxRecDepth 10000 in
theorem j_Disk_areSame : rx_MT[65]? = some mDisk_areSame := rfl
set_option maxRecDepth 10000 in
theorem j_Directory_writeEmpty : rx_MT[66]? = some mDirectory_writeEmpty := rfl
set_option maxRecDepth 10000 in
theorem j_Commands_scratch : rx_MT[67]? = some mCommands_scratch := rfl
set_option maxRecDepth 10000 in
theorem j_Directory_rewind : rx_MT[68]? = some mDirectory_rewind := rfl
set_option maxRecDepth 10000 in
theorem j_Directory_goTo : rx_MT[69]? = some mDirectory_goTo := rfl
set_option maxRecDepth 10000 in
theorem j_Directory_find : rx_MT[70]? = some mDirectory_find := rfl
set_option maxRecDepth 10000 in
theorem j_Disk_readBlock : rx_MT[71]? = some mDisk_readBlock := rfl
set_option maxRecDepth 10000 in
theorem j_Disk_dataFault : rx_MT[72]? = some mDisk_dataFault := rfl
set_option maxRecDepth 10000 in
theorem j_Directory_isWanted : rx_MT[73]? = some mDirectory_isWanted := rfl
set_option maxRecDepth 10000 in
theorem j_Directory_base : rx_MT[74]? = some mDirectory_base := rfl
set_option maxRecDepth 10000 in
theorem j_Directory_type : rx_MT[75]? = some mDirectory_type := rfl
set_option maxRecDepth 10000 in
theorem j_Pattern_isSame : rx_MT[76]? = some mPattern_isSame := rfl
set_option maxRecDepth 10000 in
theorem j_Pattern_fits : rx_MT[77]? = some mPattern_fits := rfl
set_option maxRecDepth 10000 in
theorem j_Directory_isLast : rx_MT[78]? = some mDirectory_isLast := rfl
set_option maxRecDepth 10000 in
theorem j_Directory_isFull : rx_MT[79]? = some mDirectory_isFull := rfl
set_option maxRecDepth 10000 in
theorem j_Dos_scratchFound : rx_MT[80]? = some mDos_scratchFound := rfl
set_option maxRecDepth 10000 in
theorem j_BlockMap_load : rx_MT[81]? = some mBlockMap_load := rfl
set_option maxRecDepth 10000 in
theorem j_Directory_firstTrack : rx_MT[82]? = some mDirectory_firstTrack := rfl
set_option maxRecDepth 10000 in
theorem j_Directory_firstSector : rx_MT[83]? = some mDirectory_firstSector := rfl
set_option maxRecDepth 10000 in
theorem j_Dos_giveBackChain : rx_MT[84]? = some mDos_giveBackChain := rfl
set_option maxRecDepth 10000 in
theorem j_BlockMap_giveBack : rx_MT[85]? = some mBlockMap_giveBack := rfl
set_option maxRecDepth 10000 in
theorem j_Directory_changeType : rx_MT[86]? = some mDirectory_changeType := rfl
set_option maxRecDepth 10000 in
theorem j_Commands_rename : rx_MT[87]? = some mCommands_rename := rfl
set_option maxRecDepth 10000 in
theorem j_Directory_changeName : rx_MT[88]? = some mDirectory_changeName := rfl
set_option maxRecDepth 10000 in
theorem j_Commands_initialise : rx_MT[89]? = some mCommands_initialise := rfl
set_option maxRecDepth 10000 in
theorem j_Commands_unknown : rx_MT[90]? = some mCommands_unknown := rfl
set_option maxRecDepth 10000 in
theorem j_Commands_validate : rx_MT[91]? = some mCommands_validate := rfl
set_option maxRecDepth 10000 in
theorem j_Commands_takeDirectory : rx_MT[92]? = some mCommands_takeDirectory := rfl
set_option maxRecDepth 10000 in
theorem j_Directory_isClosed : rx_MT[93]? = some mDirectory_isClosed := rfl
set_option maxRecDepth 10000 in
theorem j_Commands_takeChain : rx_MT[94]? = some mCommands_takeChain := rfl
set_option maxRecDepth 10000 in
theorem j_BlockMap_isFree : rx_MT[95]? = some mBlockMap_isFree := rfl
set_option maxRecDepth 10000 in
theorem j_Commands_user : rx_MT[96]? = some mCommands_user := rfl
set_option maxRecDepth 10000 in
theorem j_Commands_moveBlock : rx_MT[97]? = some mCommands_moveBlock := rfl
set_option maxRecDepth 10000 in
theorem j_Tape_startNumbers : rx_MT[98]? = some mTape_startNumbers := rfl
set_option maxRecDepth 10000 in
theorem j_Tape_nextNumber : rx_MT[99]? = some mTape_nextNumber := rfl
set_option maxRecDepth 10000 in
theorem j_Tape_isDigit : rx_MT[100]? = some mTape_isDigit := rfl
set_option maxRecDepth 10000 in
theorem j_Dos_buffer : rx_MT[101]? = some mDos_buffer := rfl
set_option maxRecDepth 10000 in
theorem j_Commands_restart : rx_MT[102]? = some mCommands_restart := rfl
set_option maxRecDepth 10000 in
theorem j_Commands_block : rx_MT[103]? = some mCommands_block := rfl
set_option maxRecDepth 10000 in
theorem j_Commands_setPlace : rx_MT[104]? = some mCommands_setPlace := rfl
set_option maxRecDepth 10000 in
theorem j_Commands_allocate : rx_MT[105]? = some mCommands_allocate := rfl
set_option maxRecDepth 10000 in
theorem j_Commands_tellNextFree : rx_MT[106]? = some mCommands_tellNextFree := rfl
set_option maxRecDepth 10000 in
theorem j_Commands_program : rx_MT[107]? = some mCommands_program := rfl
set_option maxRecDepth 10000 in
theorem j_Commands_argument : rx_MT[108]? = some mCommands_argument := rfl
set_option maxRecDepth 10000 in
theorem j_Processor_set : rx_MT[109]? = some mProcessor_set := rfl
set_option maxRecDepth 10000 in
theorem j_Processor_get : rx_MT[110]? = some mProcessor_get := rfl
set_option maxRecDepth 10000 in
theorem j_Status_addReply : rx_MT[111]? = some mStatus_addReply := rfl
set_option maxRecDepth 10000 in
theorem j_Processor_run : rx_MT[112]? = some mProcessor_run := rfl
set_option maxRecDepth 10000 in
theorem j_Processor_begin : rx_MT[113]? = some mProcessor_begin := rfl
set_option maxRecDepth 10000 in
theorem j_Processor_locate : rx_MT[114]? = some mProcessor_locate := rfl
set_option maxRecDepth 10000 in
theorem j_Processor_fetch : rx_MT[115]? = some mProcessor_fetch := rfl
set_option maxRecDepth 10000 in
theorem j_Processor_fetchTwo : rx_MT[116]? = some mProcessor_fetchTwo := rfl
set_option maxRecDepth 10000 in
theorem j_Processor_indexed : rx_MT[117]? = some mProcessor_indexed := rfl
set_option maxRecDepth 10000 in
theorem j_Processor_pair : rx_MT[118]? = some mProcessor_pair := rfl
set_option maxRecDepth 10000 in
theorem j_Processor_perform : rx_MT[119]? = some mProcessor_perform := rfl
set_option maxRecDepth 10000 in
theorem j_Processor_useValue : rx_MT[120]? = some mProcessor_useValue := rfl
set_option maxRecDepth 10000 in
theorem j_Processor_marked : rx_MT[121]? = some mProcessor_marked := rfl
set_option maxRecDepth 10000 in
theorem j_Processor_add : rx_MT[122]? = some mProcessor_add := rfl
set_option maxRecDepth 10000 in
theorem j_Processor_has : rx_MT[123]? = some mProcessor_has := rfl
set_option maxRecDepth 10000 in
theorem j_Processor_addBinary : rx_MT[124]? = some mProcessor_addBinary := rfl
set_option maxRecDepth 10000 in
theorem j_Processor_flag : rx_MT[125]? = some mProcessor_flag := rfl
set_option maxRecDepth 10000 in
theorem j_Processor_subtract : rx_MT[126]? = some mProcessor_subtract := rfl
set_option maxRecDepth 10000 in
theorem j_Processor_compare : rx_MT[127]? = some mProcessor_compare := rfl
set_option maxRecDepth 10000 in
theorem j_Processor_changeValue : rx_MT[128]? = some mProcessor_changeValue := rfl
set_option maxRecDepth 10000 in
theorem j_Processor_branch : rx_MT[129]? = some mProcessor_branch := rfl
set_option maxRecDepth 10000 in
theorem j_Processor_move : rx_MT[130]? = some mProcessor_move := rfl
set_option maxRecDepth 10000 in
theorem j_Processor_changeFlag : rx_MT[131]? = some mProcessor_changeFlag := rfl
set_option maxRecDepth 10000 in
theorem j_Processor_stack : rx_MT[132]? = some mProcessor_stack := rfl
set_option maxRecDepth 10000 in
theorem j_Processor_push : rx_MT[133]? = some mProcessor_push := rfl
set_option maxRecDepth 10000 in
theorem j_Processor_pull : rx_MT[134]? = some mProcessor_pull := rfl
set_option maxRecDepth 10000 in
theorem j_Processor_pullTwo : rx_MT[135]? = some mProcessor_pullTwo := rfl
set_option maxRecDepth 10000 in
theorem j_Dos_openChannel : rx_MT[136]? = some mDos_openChannel := rfl
set_option maxRecDepth 10000 in
theorem j_Dos_closeChannel : rx_MT[137]? = some mDos_closeChannel := rfl
set_option maxRecDepth 10000 in
theorem j_Dos_goToEntryOf : rx_MT[138]? = some mDos_goToEntryOf := rfl
set_option maxRecDepth 10000 in
theorem j_Directory_changeToClosed : rx_MT[139]? = some mDirectory_changeToClosed := rfl
set_option maxRecDepth 10000 in
theorem j_Dos_countOpen : rx_MT[140]? = some mDos_countOpen := rfl
set_option maxRecDepth 10000 in
theorem j_Dos_openBuffer : rx_MT[141]? = some mDos_openBuffer := rfl
set_option maxRecDepth 10000 in
theorem j_Channel_begin : rx_MT[142]? = some mChannel_begin := rfl
set_option maxRecDepth 10000 in
theorem j_Dos_openList : rx_MT[143]? = some mDos_openList := rfl
set_option maxRecDepth 10000 in
theorem j_Pattern_copyFrom : rx_MT[144]? = some mPattern_copyFrom := rfl
set_option maxRecDepth 10000 in
theorem j_Dos_parseFile : rx_MT[145]? = some mDos_parseFile := rfl
set_option maxRecDepth 10000 in
theorem j_Dos_sortTold : rx_MT[146]? = some mDos_sortTold := rfl
set_option maxRecDepth 10000 in
theorem j_Dos_wayTold : rx_MT[147]? = some mDos_wayTold := rfl
set_option maxRecDepth 10000 in
theorem j_Dos_openToRead : rx_MT[148]? = some mDos_openToRead := rfl
set_option maxRecDepth 10000 in
theorem j_Channel_unfold : rx_MT[149]? = some mChannel_unfold := rfl
set_option maxRecDepth 10000 in
theorem j_Dos_openToWrite : rx_MT[150]? = some mDos_openToWrite := rfl
set_option maxRecDepth 10000 in
theorem j_Dos_findRoom : rx_MT[151]? = some mDos_findRoom := rfl
set_option maxRecDepth 10000 in
theorem j_BlockMap_pickForDirectory : rx_MT[152]? = some mBlockMap_pickForDirectory := rfl
set_option maxRecDepth 10000 in
theorem j_BlockMap_pickOf : rx_MT[153]? = some mBlockMap_pickOf := rfl
set_option maxRecDepth 10000 in
theorem j_Directory_lengthen : rx_MT[154]? = some mDirectory_lengthen := rfl
set_option maxRecDepth 10000 in
theorem j_Dos_startFile : rx_MT[155]? = some mDos_startFile := rfl
set_option maxRecDepth 10000 in
theorem j_BlockMap_pick : rx_MT[156]? = some mBlockMap_pick := rfl
set_option maxRecDepth 10000 in
theorem j_Directory_changeToNew : rx_MT[157]? = some mDirectory_changeToNew := rfl
set_option maxRecDepth 10000 in
theorem j_Channel_beginBlock : rx_MT[158]? = some mChannel_beginBlock := rfl
set_option maxRecDepth 10000 in
theorem j_Channel_keepEntry : rx_MT[159]? = some mChannel_keepEntry := rfl
set_option maxRecDepth 10000 in
theorem j_X_write : rx_MT[160]? = some mX_write := rfl
set_option maxRecDepth 10000 in
theorem j_Dos_sendBytes : rx_MT[161]? = some mDos_sendBytes := rfl
set_option maxRecDepth 10000 in
theorem j_Dos_addToFile : rx_MT[162]? = some mDos_addToFile := rfl
set_option maxRecDepth 10000 in
theorem j_BlockMap_pickBehind : rx_MT[163]? = some mBlockMap_pickBehind := rfl
set_option maxRecDepth 10000 in
theorem j_Dos_goToNextBlock : rx_MT[164]? = some mDos_goToNextBlock := rfl
set_option maxRecDepth 10000 in
theorem j_Dos_giveUpFile : rx_MT[165]? = some mDos_giveUpFile := rfl
set_option maxRecDepth 10000 in
theorem j_X_close : rx_MT[166]? = some mX_close := rfl
set_option maxRecDepth 10000 in
theorem j_Dos_closeAll : rx_MT[167]? = some mDos_closeAll := rfl
set_option maxRecDepth 10000 in
theorem j_X_read : rx_MT[168]? = some mX_read := rfl
set_option maxRecDepth 10000 in
theorem j_Status_receive : rx_MT[169]? = some mStatus_receive := rfl
set_option maxRecDepth 10000 in
theorem j_Status_replyByte : rx_MT[170]? = some mStatus_replyByte := rfl
set_option maxRecDepth 10000 in
theorem j_Status_textByte : rx_MT[171]? = some mStatus_textByte := rfl
set_option maxRecDepth 10000 in
theorem j_Status_spell : rx_MT[172]? = some mStatus_spell := rfl
set_option maxRecDepth 10000 in
theorem j_Status_addTwoDigits : rx_MT[173]? = some mStatus_addTwoDigits := rfl
set_option maxRecDepth 10000 in
theorem j_Status_add : rx_MT[174]? = some mStatus_add := rfl
set_option maxRecDepth 10000 in
theorem j_Status_words : rx_MT[175]? = some mStatus_words := rfl
set_option maxRecDepth 10000 in
theorem j_Str_length : rx_MT[176]? = some mStr_length := rfl
set_option maxRecDepth 10000 in
theorem j_Str_coder : rx_MT[177]? = some mStr_coder := rfl
set_option maxRecDepth 10000 in
theorem j_Str_charAt : rx_MT[178]? = some mStr_charAt := rfl
set_option maxRecDepth 10000 in
theorem j_Str_isLatin1 : rx_MT[179]? = some mStr_isLatin1 := rfl
set_option maxRecDepth 10000 in
theorem j_Lat_charAt : rx_MT[180]? = some mLat_charAt := rfl
set_option maxRecDepth 10000 in
theorem j_Str_checkIndex : rx_MT[181]? = some mStr_checkIndex := rfl
set_option maxRecDepth 10000 in
theorem j_Pre_checkIndex : rx_MT[182]? = some mPre_checkIndex := rfl
set_option maxRecDepth 10000 in
theorem j_U16_charAt : rx_MT[183]? = some mU16_charAt := rfl
set_option maxRecDepth 10000 in
theorem j_U16_checkIndex : rx_MT[184]? = some mU16_checkIndex := rfl
set_option maxRecDepth 10000 in
theorem j_U16_length : rx_MT[185]? = some mU16_length := rfl
set_option maxRecDepth 10000 in
theorem j_U16_getChar : rx_MT[186]? = some mU16_getChar := rfl
set_option maxRecDepth 10000 in
theorem j_Dos_receive : rx_MT[187]? = some mDos_receive := rfl
set_option maxRecDepth 10000 in
theorem j_Dos_nextByte : rx_MT[188]? = some mDos_nextByte := rfl
set_option maxRecDepth 10000 in
theorem j_Dos_makeLine : rx_MT[189]? = some mDos_makeLine := rfl
set_option maxRecDepth 10000 in
theorem j_Channel_startLine : rx_MT[190]? = some mChannel_startLine := rfl
set_option maxRecDepth 10000 in
theorem j_Dos_addTitle : rx_MT[191]? = some mDos_addTitle := rfl
set_option maxRecDepth 10000 in
theorem j_Channel_add : rx_MT[192]? = some mChannel_add := rfl
set_option maxRecDepth 10000 in
theorem j_Dos_addEntry : rx_MT[193]? = some mDos_addEntry := rfl
set_option maxRecDepth 10000 in
theorem j_Directory_count : rx_MT[194]? = some mDirectory_count := rfl
set_option maxRecDepth 10000 in
theorem j_Channel_addNumber : rx_MT[195]? = some mChannel_addNumber := rfl
set_option maxRecDepth 10000 in
theorem j_Directory_nameByte : rx_MT[196]? = some mDirectory_nameByte := rfl
set_option maxRecDepth 10000 in
theorem j_Dos_addFree : rx_MT[197]? = some mDos_addFree := rfl
set_option maxRecDepth 10000 in
theorem j_BlockMap_freeSum : rx_MT[198]? = some mBlockMap_freeSum := rfl
set_option maxRecDepth 10000 in
theorem j_Dos_readNext : rx_MT[199]? = some mDos_readNext := rfl
set_option maxRecDepth 10000 in
theorem j_X_out : rx_MT[200]? = some mX_out := rfl
set_option maxRecDepth 10000 in
theorem j_X_look : rx_MT[201]? = some mX_look := rfl
set_option maxRecDepth 10000 in
theorem j_X_bits : rx_MT[202]? = some mX_bits := rfl
set_option maxRecDepth 10000 in
theorem j_Ring_hasBit : rx_MT[203]? = some mRing_hasBit := rfl
set_option maxRecDepth 10000 in
theorem j_Ring_word : rx_MT[204]? = some mRing_word := rfl
set_option maxRecDepth 10000 in
theorem j_Ring_eight : rx_MT[205]? = some mRing_eight := rfl
set_option maxRecDepth 10000 in
theorem j_X_turn : rx_MT[206]? = some mX_turn := rfl
set_option maxRecDepth 10000 in
theorem j_Ring_flip : rx_MT[207]? = some mRing_flip := rfl
set_option maxRecDepth 10000 in
theorem j_X_protect : rx_MT[208]? = some mX_protect := rfl
set_option maxRecDepth 10000 in
theorem j_X_power : rx_MT[209]? = some mX_power := rfl
set_option maxRecDepth 10000 in
theorem j_Processor_reset : rx_MT[210]? = some mProcessor_reset := rfl
set_option maxRecDepth 10000 in
theorem j_X_memory : rx_MT[211]? = some mX_memory := rfl
set_option maxRecDepth 10000 in
theorem j_M_feed : rx_MT[212]? = some mM_feed := rfl
set_option maxRecDepth 10000 in
theorem j_M_types : rx_MT[213]? = some mM_types := rfl
set_option maxRecDepth 10000 in
theorem j_M_open : rx_MT[214]? = some mM_open := rfl
set_option maxRecDepth 10000 in
theorem j_M_sends : rx_MT[215]? = some mM_sends := rfl
set_option maxRecDepth 10000 in
theorem j_M_commands : rx_MT[216]? = some mM_commands := rfl
set_option maxRecDepth 10000 in
theorem j_M_begins : rx_MT[217]? = some mM_begins := rfl
set_option maxRecDepth 10000 in
theorem j_M_sets : rx_MT[218]? = some mM_sets := rfl
set_option maxRecDepth 10000 in
theorem j_M_fault : rx_MT[219]? = some mM_fault := rfl
set_option maxRecDepth 10000 in
theorem j_M_ends : rx_MT[220]? = some mM_ends := rfl
set_option maxRecDepth 10000 in
theorem j_M_does : rx_MT[221]? = some mM_does := rfl
set_option maxRecDepth 10000 in
theorem j_M_again : rx_MT[222]? = some mM_again := rfl
set_option maxRecDepth 10000 in
theorem j_M_takeId : rx_MT[223]? = some mM_takeId := rfl
set_option maxRecDepth 10000 in
theorem j_M_round : rx_MT[224]? = some mM_round := rfl
set_option maxRecDepth 10000 in
theorem j_M_bytesOf : rx_MT[225]? = some mM_bytesOf := rfl
set_option maxRecDepth 10000 in
theorem j_M_bitAt : rx_MT[226]? = some mM_bitAt := rfl
set_option maxRecDepth 10000 in
theorem j_M_along : rx_MT[227]? = some mM_along := rfl
set_option maxRecDepth 10000 in
theorem j_M_goes : rx_MT[228]? = some mM_goes := rfl
set_option maxRecDepth 10000 in
theorem j_M_comes : rx_MT[229]? = some mM_comes := rfl
set_option maxRecDepth 10000 in
theorem j_M_reads : rx_MT[230]? = some mM_reads := rfl
set_option maxRecDepth 10000 in
theorem j_M_group : rx_MT[231]? = some mM_group := rfl
set_option maxRecDepth 10000 in
theorem j_M_valueOf : rx_MT[232]? = some mM_valueOf := rfl
set_option maxRecDepth 10000 in
theorem j_M_groupOf : rx_MT[233]? = some mM_groupOf := rfl
set_option maxRecDepth 10000 in
theorem j_M_loads : rx_MT[234]? = some mM_loads := rfl
set_option maxRecDepth 10000 in
theorem j_M_readBlock : rx_MT[235]? = some mM_readBlock := rfl
set_option maxRecDepth 10000 in
theorem j_M_seek : rx_MT[236]? = some mM_seek := rfl
set_option maxRecDepth 10000 in
theorem j_M_header : rx_MT[237]? = some mM_header := rfl
set_option maxRecDepth 10000 in
theorem j_M_codes : rx_MT[238]? = some mM_codes := rfl
set_option maxRecDepth 10000 in
theorem j_M_gets : rx_MT[239]? = some mM_gets := rfl
set_option maxRecDepth 10000 in
theorem j_M_validates : rx_MT[240]? = some mM_validates := rfl
set_option maxRecDepth 10000 in
theorem j_M_freesAll : rx_MT[241]? = some mM_freesAll := rfl
set_option maxRecDepth 10000 in
theorem j_M_sectorsOf : rx_MT[242]? = some mM_sectorsOf := rfl
set_option maxRecDepth 10000 in
theorem j_M_takes : rx_MT[243]? = some mM_takes := rfl
set_option maxRecDepth 10000 in
theorem j_M_isLegal : rx_MT[244]? = some mM_isLegal := rfl
set_option maxRecDepth 10000 in
theorem j_M_isFree : rx_MT[245]? = some mM_isFree := rfl
set_option maxRecDepth 10000 in
theorem j_M_entries : rx_MT[246]? = some mM_entries := rfl
set_option maxRecDepth 10000 in
theorem j_M_used : rx_MT[247]? = some mM_used := rfl
set_option maxRecDepth 10000 in
theorem j_M_changesType : rx_MT[248]? = some mM_changesType := rfl
set_option maxRecDepth 10000 in
theorem j_M_writeBlock : rx_MT[249]? = some mM_writeBlock := rfl
set_option maxRecDepth 10000 in
theorem j_M_lays : rx_MT[250]? = some mM_lays := rfl
set_option maxRecDepth 10000 in
theorem j_M_setBit : rx_MT[251]? = some mM_setBit := rfl
set_option maxRecDepth 10000 in
theorem j_M_data : rx_MT[252]? = some mM_data := rfl
set_option maxRecDepth 10000 in
theorem j_M_uses : rx_MT[253]? = some mM_uses := rfl
set_option maxRecDepth 10000 in
theorem j_M_stores : rx_MT[254]? = some mM_stores := rfl
set_option maxRecDepth 10000 in
theorem j_M_shutsAll : rx_MT[255]? = some mM_shutsAll := rfl
set_option maxRecDepth 10000 in
theorem j_M_news : rx_MT[256]? = some mM_news := rfl
set_option maxRecDepth 10000 in
theorem j_M_isWild : rx_MT[257]? = some mM_isWild := rfl
set_option maxRecDepth 10000 in
theorem j_M_format : rx_MT[258]? = some mM_format := rfl
set_option maxRecDepth 10000 in
theorem j_M_maps : rx_MT[259]? = some mM_maps := rfl
set_option maxRecDepth 10000 in
theorem j_M_scratch : rx_MT[260]? = some mM_scratch := rfl
set_option maxRecDepth 10000 in
theorem j_M_finds : rx_MT[261]? = some mM_finds := rfl
set_option maxRecDepth 10000 in
theorem j_M_fits : rx_MT[262]? = some mM_fits := rfl
set_option maxRecDepth 10000 in
theorem j_M_same : rx_MT[263]? = some mM_same := rfl
set_option maxRecDepth 10000 in
theorem j_M_scratches : rx_MT[264]? = some mM_scratches := rfl
set_option maxRecDepth 10000 in
theorem j_M_freesChain : rx_MT[265]? = some mM_freesChain := rfl
set_option maxRecDepth 10000 in
theorem j_M_givesBack : rx_MT[266]? = some mM_givesBack := rfl
set_option maxRecDepth 10000 in
theorem j_M_renames : rx_MT[267]? = some mM_renames := rfl
set_option maxRecDepth 10000 in
theorem j_M_blockOf : rx_MT[268]? = some mM_blockOf := rfl
set_option maxRecDepth 10000 in
theorem j_M_numbers : rx_MT[269]? = some mM_numbers := rfl
set_option maxRecDepth 10000 in
theorem j_M_numberNext : rx_MT[270]? = some mM_numberNext := rfl
set_option maxRecDepth 10000 in
theorem j_M_isDigit : rx_MT[271]? = some mM_isDigit := rfl
set_option maxRecDepth 10000 in
theorem j_M_begins3 : rx_MT[272]? = some mM_begins3 := rfl
set_option maxRecDepth 10000 in
theorem j_M_pointer : rx_MT[273]? = some mM_pointer := rfl
set_option maxRecDepth 10000 in
theorem j_M_allocates : rx_MT[274]? = some mM_allocates := rfl
set_option maxRecDepth 10000 in
theorem j_M_frees : rx_MT[275]? = some mM_frees := rfl
set_option maxRecDepth 10000 in
theorem j_M_memories : rx_MT[276]? = some mM_memories := rfl
set_option maxRecDepth 10000 in
theorem j_M_put : rx_MT[277]? = some mM_put := rfl
set_option maxRecDepth 10000 in
theorem j_M_get : rx_MT[278]? = some mM_get := rfl
set_option maxRecDepth 10000 in
theorem j_M_runs : rx_MT[279]? = some mM_runs := rfl
set_option maxRecDepth 10000 in
theorem j_M_step : rx_MT[280]? = some mM_step := rfl
set_option maxRecDepth 10000 in
theorem j_M_works : rx_MT[281]? = some mM_works := rfl
set_option maxRecDepth 10000 in
theorem j_M_howOf : rx_MT[282]? = some mM_howOf := rfl
set_option maxRecDepth 10000 in
theorem j_M_address : rx_MT[283]? = some mM_address := rfl
set_option maxRecDepth 10000 in
theorem j_M_byteNext : rx_MT[284]? = some mM_byteNext := rfl
set_option maxRecDepth 10000 in
theorem j_M_wordNext : rx_MT[285]? = some mM_wordNext := rfl
set_option maxRecDepth 10000 in
theorem j_M_storeTime : rx_MT[286]? = some mM_storeTime := rfl
set_option maxRecDepth 10000 in
theorem j_M_readTime : rx_MT[287]? = some mM_readTime := rfl
set_option maxRecDepth 10000 in
theorem j_M_marks : rx_MT[288]? = some mM_marks := rfl
set_option maxRecDepth 10000 in
theorem j_M_flag : rx_MT[289]? = some mM_flag := rfl
set_option maxRecDepth 10000 in
theorem j_M_adds : rx_MT[290]? = some mM_adds := rfl
set_option maxRecDepth 10000 in
theorem j_M_is : rx_MT[291]? = some mM_is := rfl
set_option maxRecDepth 10000 in
theorem j_M_compares : rx_MT[292]? = some mM_compares := rfl
set_option maxRecDepth 10000 in
theorem j_M_takesOff : rx_MT[293]? = some mM_takesOff := rfl
set_option maxRecDepth 10000 in
theorem j_M_twos : rx_MT[294]? = some mM_twos := rfl
set_option maxRecDepth 10000 in
theorem j_M_shifted : rx_MT[295]? = some mM_shifted := rfl
set_option maxRecDepth 10000 in
theorem j_M_takes2 : rx_MT[296]? = some mM_takes2 := rfl
set_option maxRecDepth 10000 in
theorem j_M_changes : rx_MT[297]? = some mM_changes := rfl
set_option maxRecDepth 10000 in
theorem j_M_keeps : rx_MT[298]? = some mM_keeps := rfl
set_option maxRecDepth 10000 in
theorem j_M_fetches : rx_MT[299]? = some mM_fetches := rfl
set_option maxRecDepth 10000 in
theorem j_M_zeros : rx_MT[300]? = some mM_zeros := rfl
set_option maxRecDepth 10000 in
theorem j_M_branch : rx_MT[301]? = some mM_branch := rfl
set_option maxRecDepth 10000 in
theorem j_M_tests : rx_MT[302]? = some mM_tests := rfl
set_option maxRecDepth 10000 in
theorem j_M_compared : rx_MT[303]? = some mM_compared := rfl
set_option maxRecDepth 10000 in
theorem j_M_push : rx_MT[304]? = some mM_push := rfl
set_option maxRecDepth 10000 in
theorem j_M_pull : rx_MT[305]? = some mM_pull := rfl
set_option maxRecDepth 10000 in
theorem j_M_jumps : rx_MT[306]? = some mM_jumps := rfl
set_option maxRecDepth 10000 in
theorem j_M_opens : rx_MT[307]? = some mM_opens := rfl
set_option maxRecDepth 10000 in
theorem j_M_shuts : rx_MT[308]? = some mM_shuts := rfl
set_option maxRecDepth 10000 in
theorem j_M_openMany : rx_MT[309]? = some mM_openMany := rfl
set_option maxRecDepth 10000 in
theorem j_M_opensList : rx_MT[310]? = some mM_opensList := rfl
set_option maxRecDepth 10000 in
theorem j_M_opensFile : rx_MT[311]? = some mM_opensFile := rfl
set_option maxRecDepth 10000 in
theorem j_M_opensNew : rx_MT[312]? = some mM_opensNew := rfl
set_option maxRecDepth 10000 in
theorem j_M_makesEntry : rx_MT[313]? = some mM_makesEntry := rfl
set_option maxRecDepth 10000 in
theorem j_M_lowest : rx_MT[314]? = some mM_lowest := rfl
set_option maxRecDepth 10000 in
theorem j_M_takesOne : rx_MT[315]? = some mM_takesOne := rfl
set_option maxRecDepth 10000 in
theorem j_M_trackOf : rx_MT[316]? = some mM_trackOf := rfl
set_option maxRecDepth 10000 in
theorem j_M_clears : rx_MT[317]? = some mM_clears := rfl
set_option maxRecDepth 10000 in
theorem j_M_opensOld : rx_MT[318]? = some mM_opensOld := rfl
set_option maxRecDepth 10000 in
theorem j_M_begun : rx_MT[319]? = some mM_begun := rfl
set_option maxRecDepth 10000 in
theorem j_M_close : rx_MT[320]? = some mM_close := rfl
set_option maxRecDepth 10000 in
theorem j_M_read : rx_MT[321]? = some mM_read := rfl
set_option maxRecDepth 10000 in
theorem j_M_givesMore : rx_MT[322]? = some mM_givesMore := rfl
set_option maxRecDepth 10000 in
theorem j_M_gives : rx_MT[323]? = some mM_gives := rfl
set_option maxRecDepth 10000 in
theorem j_M_givesStatus : rx_MT[324]? = some mM_givesStatus := rfl
set_option maxRecDepth 10000 in
theorem j_M_saysTwo : rx_MT[325]? = some mM_saysTwo := rfl
set_option maxRecDepth 10000 in
theorem j_M_says : rx_MT[326]? = some mM_says := rfl
set_option maxRecDepth 10000 in
theorem j_M_saysWords : rx_MT[327]? = some mM_saysWords := rfl
set_option maxRecDepth 10000 in
theorem j_M_says8 : rx_MT[328]? = some mM_says8 := rfl
set_option maxRecDepth 10000 in
theorem j_M_readsFile : rx_MT[329]? = some mM_readsFile := rfl
set_option maxRecDepth 10000 in
theorem j_M_readsList : rx_MT[330]? = some mM_readsList := rfl
set_option maxRecDepth 10000 in
theorem j_M_title : rx_MT[331]? = some mM_title := rfl
set_option maxRecDepth 10000 in
theorem j_M_next : rx_MT[332]? = some mM_next := rfl
set_option maxRecDepth 10000 in
theorem j_M_entryLine : rx_MT[333]? = some mM_entryLine := rfl
set_option maxRecDepth 10000 in
theorem j_M_saysNumber : rx_MT[334]? = some mM_saysNumber := rfl
set_option maxRecDepth 10000 in
theorem j_M_total : rx_MT[335]? = some mM_total := rfl
set_option maxRecDepth 10000 in
theorem j_M_readsBuffer : rx_MT[336]? = some mM_readsBuffer := rfl
set_option maxRecDepth 10000 in
theorem j_M_out : rx_MT[337]? = some mM_out := rfl
set_option maxRecDepth 10000 in
theorem j_M_write : rx_MT[338]? = some mM_write := rfl
set_option maxRecDepth 10000 in
theorem j_M_writesByte : rx_MT[339]? = some mM_writesByte := rfl
set_option maxRecDepth 10000 in
theorem j_M_goesOn : rx_MT[340]? = some mM_goesOn := rfl
set_option maxRecDepth 10000 in
theorem j_M_takesNext : rx_MT[341]? = some mM_takesNext := rfl
set_option maxRecDepth 10000 in
theorem j_M_isFull : rx_MT[342]? = some mM_isFull := rfl
set_option maxRecDepth 10000 in
theorem j_M_look : rx_MT[343]? = some mM_look := rfl
set_option maxRecDepth 10000 in
theorem j_M_bits : rx_MT[344]? = some mM_bits := rfl
set_option maxRecDepth 10000 in
theorem j_M_isBit : rx_MT[345]? = some mM_isBit := rfl
set_option maxRecDepth 10000 in
theorem j_M_turn : rx_MT[346]? = some mM_turn := rfl
set_option maxRecDepth 10000 in
theorem j_M_protect : rx_MT[347]? = some mM_protect := rfl
set_option maxRecDepth 10000 in
theorem j_M_memory : rx_MT[348]? = some mM_memory := rfl
set_option maxRecDepth 10000 in
theorem j_M_power : rx_MT[349]? = some mM_power := rfl
set_option maxRecDepth 10000 in
theorem j_M_init : rx_MT[350]? = some mM_init := rfl
theorem w_0_19 : rx_who 0 (.invokevirtual 19) 3 = some mDisk_readBlock := rx_whoV (j := 71) (pos := 4064) (by decide +kernel) j_Disk_readBlock rfl
theorem w_0_23 : rx_who 0 (.invokevirtual 23) 3 = some mDisk_writeBlock := rx_whoV (j := 60) (pos := 3208) (by decide +kernel) j_Disk_writeBlock rfl
theorem w_0_26 : rx_who 0 (.invokestatic 26) 3 = some mArr_fill := rx_whoS (j := 52) (pos := 3179) (by decide +kernel) j_Arr_fill rfl
theorem w_0_32 : rx_who 0 (.invokevirtual 32) 3 = some mBlockMap_freeAll := rx_whoV (j := 53) (pos := 3182) (by decide +kernel) j_BlockMap_freeAll rfl
theorem w_0_35 : rx_who 0 (.invokevirtual 35) 3 = some mBlockMap_takeBlock := rx_whoV (j := 55) (pos := 3189) (by decide +kernel) j_BlockMap_takeBlock rfl
theorem w_0_39 : rx_who 0 (.invokevirtual 39) 3 = some mPattern_putInto := rx_whoV (j := 57) (pos := 3196) (by decide +kernel) j_Pattern_putInto rfl
theorem w_0_51 : rx_who 0 (.invokestatic 51) 3 = some mDisk_sectorsOf := rx_whoS (j := 54) (pos := 3186) (by decide +kernel) j_Disk_sectorsOf rfl
theorem w_0_58 : rx_who 0 (.invokestatic 58) 3 = some mDisk_isLegal := rx_whoS (j := 56) (pos := 3193) (by decide +kernel) j_Disk_isLegal rfl
theorem w_0_62 : rx_who 0 (.invokevirtual 62) 3 = some mBlockMap_pickOf := rx_whoV (j := 153) (pos := 5158) (by decide +kernel) j_BlockMap_pickOf rfl
theorem w_0_65 : rx_who 0 (.invokevirtual 65) 3 = some mBlockMap_pick := rx_whoV (j := 156) (pos := 5206) (by decide +kernel) j_BlockMap_pick rfl
theorem w_0_69 : rx_who 0 (.invokevirtual 69) 3 = some mBlockMap_isFree := rx_whoV (j := 95) (pos := 5162) (by decide +kernel) j_BlockMap_isFree rfl
theorem w_1_21 : rx_who 1 (.invokespecial 21) 3 = some mPattern_init := rx_whoI (j := 7) (pos := 2074) (n := true) (by decide +kernel) j_Pattern_init rfl
theorem w_1_26 : rx_who 1 (.invokestatic 26) 3 = some mArr_fill := rx_whoS (j := 52) (pos := 5102) (by decide +kernel) j_Arr_fill rfl
theorem w_1_77 : rx_who 1 (.invokevirtual 77) 3 = some mChannel_add := rx_whoV (j := 192) (pos := 6120) (by decide +kernel) j_Channel_add rfl
theorem w_2_11 : rx_who 2 (.invokespecial 11) 3 = some mPattern_init := rx_whoI (j := 7) (pos := 2190) (n := true) (by decide +kernel) j_Pattern_init rfl
theorem w_2_59 : rx_who 2 (.invokevirtual 59) 3 = some mPattern_fitAll := rx_whoV (j := 12) (pos := 2191) (by decide +kernel) j_Pattern_fitAll rfl
theorem w_2_68 : rx_who 2 (.invokevirtual 68) 3 = some mStatus_begin := rx_whoV (j := 21) (pos := 3045) (by decide +kernel) j_Status_begin rfl
theorem w_2_73 : rx_who 2 (.invokevirtual 73) 3 = some mStatus_set := rx_whoV (j := 22) (pos := 3053) (by decide +kernel) j_Status_set rfl
theorem w_2_77 : rx_who 2 (.invokevirtual 77) 3 = some mTape_byteAt := rx_whoV (j := 23) (pos := 3054) (by decide +kernel) j_Tape_byteAt rfl
theorem w_2_81 : rx_who 2 (.invokevirtual 81) 3 = some mCommands_newDisk := rx_whoV (j := 24) (pos := 3058) (by decide +kernel) j_Commands_newDisk rfl
theorem w_2_85 : rx_who 2 (.invokevirtual 85) 3 = some mCommands_scratch := rx_whoV (j := 67) (pos := 3239) (by decide +kernel) j_Commands_scratch rfl
theorem w_2_88 : rx_who 2 (.invokevirtual 88) 3 = some mCommands_rename := rx_whoV (j := 87) (pos := 4089) (by decide +kernel) j_Commands_rename rfl
theorem w_2_91 : rx_who 2 (.invokevirtual 91) 3 = some mCommands_initialise := rx_whoV (j := 89) (pos := 4098) (by decide +kernel) j_Commands_initialise rfl
theorem w_2_94 : rx_who 2 (.invokevirtual 94) 3 = some mCommands_unknown := rx_whoV (j := 90) (pos := 4103) (by decide +kernel) j_Commands_unknown rfl
theorem w_2_97 : rx_who 2 (.invokevirtual 97) 3 = some mCommands_validate := rx_whoV (j := 91) (pos := 4107) (by decide +kernel) j_Commands_validate rfl
theorem w_2_100 : rx_who 2 (.invokevirtual 100) 3 = some mCommands_user := rx_whoV (j := 96) (pos := 4134) (by decide +kernel) j_Commands_user rfl
theorem w_2_103 : rx_who 2 (.invokevirtual 103) 3 = some mCommands_block := rx_whoV (j := 103) (pos := 4165) (by decide +kernel) j_Commands_block rfl
theorem w_2_106 : rx_who 2 (.invokevirtual 106) 3 = some mCommands_program := rx_whoV (j := 107) (pos := 4183) (by decide +kernel) j_Commands_program rfl
theorem w_2_109 : rx_who 2 (.invokevirtual 109) 3 = some mTape_find := rx_whoV (j := 25) (pos := 3062) (by decide +kernel) j_Tape_find rfl
theorem w_2_113 : rx_who 2 (.invokevirtual 113) 3 = some mPattern_take := rx_whoV (j := 26) (pos := 3067) (by decide +kernel) j_Pattern_take rfl
theorem w_2_117 : rx_who 2 (.invokevirtual 117) 3 = some mPattern_isEmpty := rx_whoV (j := 27) (pos := 3073) (by decide +kernel) j_Pattern_isEmpty rfl
theorem w_2_121 : rx_who 2 (.invokevirtual 121) 3 = some mPattern_isWild := rx_whoV (j := 28) (pos := 3077) (by decide +kernel) j_Pattern_isWild rfl
theorem w_2_124 : rx_who 2 (.invokevirtual 124) 3 = some mCommands_formatAll := rx_whoV (j := 29) (pos := 3081) (by decide +kernel) j_Commands_formatAll rfl
theorem w_2_127 : rx_who 2 (.invokevirtual 127) 3 = some mDisk_hasId := rx_whoV (j := 42) (pos := 3136) (by decide +kernel) j_Disk_hasId rfl
theorem w_2_132 : rx_who 2 (.invokevirtual 132) 3 = some mDisk_takeId := rx_whoV (j := 43) (pos := 3140) (by decide +kernel) j_Disk_takeId rfl
theorem w_2_135 : rx_who 2 (.invokevirtual 135) 3 = some mBlockMap_begin := rx_whoV (j := 51) (pos := 3175) (by decide +kernel) j_BlockMap_begin rfl
theorem w_2_140 : rx_who 2 (.invokevirtual 140) 3 = some mBlockMap_store := rx_whoV (j := 59) (pos := 3204) (by decide +kernel) j_BlockMap_store rfl
theorem w_2_143 : rx_who 2 (.invokevirtual 143) 3 = some mDirectory_writeEmpty := rx_whoV (j := 66) (pos := 3233) (by decide +kernel) j_Directory_writeEmpty rfl
theorem w_2_148 : rx_who 2 (.invokevirtual 148) 3 = some mDos_dropAll := rx_whoV (j := 30) (pos := 3085) (by decide +kernel) j_Dos_dropAll rfl
theorem w_2_151 : rx_who 2 (.invokevirtual 151) 3 = some mDisk_format := rx_whoV (j := 31) (pos := 3089) (by decide +kernel) j_Disk_format rfl
theorem w_2_154 : rx_who 2 (.invokevirtual 154) 3 = some mDisk_setId := rx_whoV (j := 41) (pos := 3132) (by decide +kernel) j_Disk_setId rfl
theorem w_2_158 : rx_who 2 (.invokevirtual 158) 3 = some mDirectory_rewind := rx_whoV (j := 68) (pos := 4003) (by decide +kernel) j_Directory_rewind rfl
theorem w_2_161 : rx_who 2 (.invokevirtual 161) 3 = some mDirectory_find := rx_whoV (j := 70) (pos := 4011) (by decide +kernel) j_Directory_find rfl
theorem w_2_168 : rx_who 2 (.invokevirtual 168) 3 = some mDos_scratchFound := rx_whoV (j := 80) (pos := 4056) (by decide +kernel) j_Dos_scratchFound rfl
theorem w_2_171 : rx_who 2 (.invokevirtual 171) 3 = some mDirectory_changeName := rx_whoV (j := 88) (pos := 4093) (by decide +kernel) j_Directory_changeName rfl
theorem w_2_175 : rx_who 2 (.invokevirtual 175) 3 = some mBlockMap_load := rx_whoV (j := 81) (pos := 4102) (by decide +kernel) j_BlockMap_load rfl
theorem w_2_178 : rx_who 2 (.invokevirtual 178) 3 = some mBlockMap_freeAll := rx_whoV (j := 53) (pos := 4111) (by decide +kernel) j_BlockMap_freeAll rfl
theorem w_2_181 : rx_who 2 (.invokevirtual 181) 3 = some mBlockMap_takeBlock := rx_whoV (j := 55) (pos := 4112) (by decide +kernel) j_BlockMap_takeBlock rfl
theorem w_2_184 : rx_who 2 (.invokevirtual 184) 3 = some mCommands_takeDirectory := rx_whoV (j := 92) (pos := 4113) (by decide +kernel) j_Commands_takeDirectory rfl
theorem w_2_187 : rx_who 2 (.invokevirtual 187) 3 = some mDirectory_isClosed := rx_whoV (j := 93) (pos := 4119) (by decide +kernel) j_Directory_isClosed rfl
theorem w_2_190 : rx_who 2 (.invokevirtual 190) 3 = some mDirectory_firstTrack := rx_whoV (j := 82) (pos := 4123) (by decide +kernel) j_Directory_firstTrack rfl
theorem w_2_193 : rx_who 2 (.invokevirtual 193) 3 = some mDirectory_firstSector := rx_whoV (j := 83) (pos := 4124) (by decide +kernel) j_Directory_firstSector rfl
theorem w_2_196 : rx_who 2 (.invokevirtual 196) 3 = some mCommands_takeChain := rx_whoV (j := 94) (pos := 4125) (by decide +kernel) j_Commands_takeChain rfl
theorem w_2_199 : rx_who 2 (.invokevirtual 199) 3 = some mDirectory_changeType := rx_whoV (j := 86) (pos := 4133) (by decide +kernel) j_Directory_changeType rfl
theorem w_2_202 : rx_who 2 (.invokestatic 202) 3 = some mDisk_isLegal := rx_whoS (j := 56) (pos := 4117) (by decide +kernel) j_Disk_isLegal rfl
theorem w_2_210 : rx_who 2 (.invokevirtual 210) 3 = some mDisk_readBlock := rx_whoV (j := 71) (pos := 4118) (by decide +kernel) j_Disk_readBlock rfl
theorem w_2_214 : rx_who 2 (.invokevirtual 214) 3 = some mBlockMap_isFree := rx_whoV (j := 95) (pos := 4129) (by decide +kernel) j_BlockMap_isFree rfl
theorem w_2_217 : rx_who 2 (.invokevirtual 217) 3 = some mCommands_moveBlock := rx_whoV (j := 97) (pos := 4138) (by decide +kernel) j_Commands_moveBlock rfl
theorem w_2_221 : rx_who 2 (.invokevirtual 221) 3 = some mCommands_restart := rx_whoV (j := 102) (pos := 4160) (by decide +kernel) j_Commands_restart rfl
theorem w_2_224 : rx_who 2 (.invokevirtual 224) 3 = some mDisk_dropId := rx_whoV (j := 44) (pos := 4164) (by decide +kernel) j_Disk_dropId rfl
theorem w_2_227 : rx_who 2 (.invokevirtual 227) 3 = some mTape_startNumbers := rx_whoV (j := 98) (pos := 4142) (by decide +kernel) j_Tape_startNumbers rfl
theorem w_2_230 : rx_who 2 (.invokevirtual 230) 3 = some mTape_nextNumber := rx_whoV (j := 99) (pos := 4147) (by decide +kernel) j_Tape_nextNumber rfl
theorem w_2_233 : rx_who 2 (.invokevirtual 233) 3 = some mDos_buffer := rx_whoV (j := 101) (pos := 4155) (by decide +kernel) j_Dos_buffer rfl
theorem w_2_240 : rx_who 2 (.invokevirtual 240) 3 = some mDisk_writeBlock := rx_whoV (j := 60) (pos := 4159) (by decide +kernel) j_Disk_writeBlock rfl
theorem w_2_246 : rx_who 2 (.invokevirtual 246) 3 = some mCommands_setPlace := rx_whoV (j := 104) (pos := 4169) (by decide +kernel) j_Commands_setPlace rfl
theorem w_2_249 : rx_who 2 (.invokevirtual 249) 3 = some mCommands_allocate := rx_whoV (j := 105) (pos := 4173) (by decide +kernel) j_Commands_allocate rfl
theorem w_2_252 : rx_who 2 (.invokevirtual 252) 3 = some mCommands_tellNextFree := rx_whoV (j := 106) (pos := 4177) (by decide +kernel) j_Commands_tellNextFree rfl
theorem w_2_255 : rx_who 2 (.invokevirtual 255) 3 = some mBlockMap_giveBack := rx_whoV (j := 85) (pos := 4182) (by decide +kernel) j_BlockMap_giveBack rfl
theorem w_2_258 : rx_who 2 (.invokestatic 258) 3 = some mDisk_sectorsOf := rx_whoS (j := 54) (pos := 4181) (by decide +kernel) j_Disk_sectorsOf rfl
theorem w_2_261 : rx_who 2 (.invokevirtual 261) 3 = some mCommands_argument := rx_whoV (j := 108) (pos := 4187) (by decide +kernel) j_Commands_argument rfl
theorem w_2_264 : rx_who 2 (.invokevirtual 264) 3 = some mProcessor_set := rx_whoV (j := 109) (pos := 4192) (by decide +kernel) j_Processor_set rfl
theorem w_2_268 : rx_who 2 (.invokevirtual 268) 3 = some mProcessor_get := rx_whoV (j := 110) (pos := 4196) (by decide +kernel) j_Processor_get rfl
theorem w_2_271 : rx_who 2 (.invokevirtual 271) 3 = some mStatus_addReply := rx_whoV (j := 111) (pos := 4200) (by decide +kernel) j_Status_addReply rfl
theorem w_2_275 : rx_who 2 (.invokevirtual 275) 3 = some mProcessor_run := rx_whoV (j := 112) (pos := 4204) (by decide +kernel) j_Processor_run rfl
theorem w_3_23 : rx_who 3 (.invokevirtual 23) 3 = some mDirectory_goTo := rx_whoV (j := 69) (pos := 4007) (by decide +kernel) j_Directory_goTo rfl
theorem w_3_47 : rx_who 3 (.invokevirtual 47) 3 = some mDisk_readBlock := rx_whoV (j := 71) (pos := 4015) (by decide +kernel) j_Disk_readBlock rfl
theorem w_3_51 : rx_who 3 (.invokevirtual 51) 3 = some mDirectory_isWanted := rx_whoV (j := 73) (pos := 4026) (by decide +kernel) j_Directory_isWanted rfl
theorem w_3_55 : rx_who 3 (.invokevirtual 55) 3 = some mDirectory_isLast := rx_whoV (j := 78) (pos := 4046) (by decide +kernel) j_Directory_isLast rfl
theorem w_3_59 : rx_who 3 (.invokestatic 59) 3 = some mDisk_isLegal := rx_whoS (j := 56) (pos := 4054) (by decide +kernel) j_Disk_isLegal rfl
theorem w_3_63 : rx_who 3 (.invokevirtual 63) 3 = some mStatus_set := rx_whoV (j := 22) (pos := 4055) (by decide +kernel) j_Status_set rfl
theorem w_3_69 : rx_who 3 (.invokevirtual 69) 3 = some mDirectory_isFull := rx_whoV (j := 79) (pos := 4050) (by decide +kernel) j_Directory_isFull rfl
theorem w_3_72 : rx_who 3 (.invokevirtual 72) 3 = some mDirectory_base := rx_whoV (j := 74) (pos := 4030) (by decide +kernel) j_Directory_base rfl
theorem w_3_76 : rx_who 3 (.invokevirtual 76) 3 = some mDirectory_type := rx_whoV (j := 75) (pos := 4034) (by decide +kernel) j_Directory_type rfl
theorem w_3_79 : rx_who 3 (.invokevirtual 79) 3 = some mPattern_isSame := rx_whoV (j := 76) (pos := 4038) (by decide +kernel) j_Pattern_isSame rfl
theorem w_3_85 : rx_who 3 (.invokevirtual 85) 3 = some mPattern_fits := rx_whoV (j := 77) (pos := 4042) (by decide +kernel) j_Pattern_fits rfl
theorem w_3_88 : rx_who 3 (.invokevirtual 88) 3 = some mDisk_writeBlock := rx_whoV (j := 60) (pos := 3238) (by decide +kernel) j_Disk_writeBlock rfl
theorem w_3_91 : rx_who 3 (.invokevirtual 91) 3 = some mPattern_putInto := rx_whoV (j := 57) (pos := 4097) (by decide +kernel) j_Pattern_putInto rfl
theorem w_3_99 : rx_who 3 (.invokestatic 99) 3 = some mArr_fill := rx_whoS (j := 52) (pos := 3237) (by decide +kernel) j_Arr_fill rfl
theorem w_4_50 : rx_who 4 (.invokespecial 50) 3 = some mRing_init := rx_whoI (j := 4) (pos := 1109) (n := false) (by decide +kernel) j_Ring_init rfl
theorem w_4_53 : rx_who 4 (.invokevirtual 53) 3 = some mDisk_dropId := rx_whoV (j := 44) (pos := 3144) (by decide +kernel) j_Disk_dropId rfl
theorem w_4_56 : rx_who 4 (.invokevirtual 56) 3 = some mRing_onesAhead := rx_whoV (j := 45) (pos := 3148) (by decide +kernel) j_Ring_onesAhead rfl
theorem w_4_60 : rx_who 4 (.invokevirtual 60) 3 = some mRing_startRound := rx_whoV (j := 46) (pos := 3152) (by decide +kernel) j_Ring_startRound rfl
theorem w_4_64 : rx_who 4 (.invokevirtual 64) 3 = some mRing_nextFirst := rx_whoV (j := 47) (pos := 3156) (by decide +kernel) j_Ring_nextFirst rfl
theorem w_4_68 : rx_who 4 (.invokevirtual 68) 3 = some mDisk_hasId := rx_whoV (j := 42) (pos := 3160) (by decide +kernel) j_Disk_hasId rfl
theorem w_4_72 : rx_who 4 (.invokevirtual 72) 3 = some mRing_goTo := rx_whoV (j := 33) (pos := 3098) (by decide +kernel) j_Ring_goTo rfl
theorem w_4_75 : rx_who 4 (.invokevirtual 75) 3 = some mRing_next := rx_whoV (j := 48) (pos := 3161) (by decide +kernel) j_Ring_next rfl
theorem w_4_78 : rx_who 4 (.invokestatic 78) 3 = some mDisk_decode := rx_whoS (j := 49) (pos := 3165) (by decide +kernel) j_Disk_decode rfl
theorem w_4_82 : rx_who 4 (.invokevirtual 82) 3 = some mDisk_isHeader := rx_whoV (j := 50) (pos := 3170) (by decide +kernel) j_Disk_isHeader rfl
theorem w_4_85 : rx_who 4 (.invokevirtual 85) 3 = some mDisk_setId := rx_whoV (j := 41) (pos := 3174) (by decide +kernel) j_Disk_setId rfl
theorem w_4_88 : rx_who 4 (.invokevirtual 88) 3 = some mStatus_set := rx_whoV (j := 22) (pos := 3097) (by decide +kernel) j_Status_set rfl
theorem w_4_94 : rx_who 4 (.invokevirtual 94) 3 = some mDisk_ring := rx_whoV (j := 32) (pos := 3093) (by decide +kernel) j_Disk_ring rfl
theorem w_4_98 : rx_who 4 (.invokevirtual 98) 3 = some mDisk_takeId := rx_whoV (j := 43) (pos := 3212) (by decide +kernel) j_Disk_takeId rfl
theorem w_4_104 : rx_who 4 (.invokevirtual 104) 3 = some mDisk_seek := rx_whoV (j := 61) (pos := 3213) (by decide +kernel) j_Disk_seek rfl
theorem w_4_108 : rx_who 4 (.invokevirtual 108) 3 = some mRing_gatherFromFirst := rx_whoV (j := 64) (pos := 3226) (by decide +kernel) j_Ring_gatherFromFirst rfl
theorem w_4_112 : rx_who 4 (.invokevirtual 112) 3 = some mDisk_dataFault := rx_whoV (j := 72) (pos := 4019) (by decide +kernel) j_Disk_dataFault rfl
theorem w_4_125 : rx_who 4 (.invokevirtual 125) 3 = some mDisk_codeData := rx_whoV (j := 34) (pos := 3102) (by decide +kernel) j_Disk_codeData rfl
theorem w_4_128 : rx_who 4 (.invokevirtual 128) 3 = some mRing_skip := rx_whoV (j := 63) (pos := 3221) (by decide +kernel) j_Ring_skip rfl
theorem w_4_131 : rx_who 4 (.invokevirtual 131) 3 = some mRing_putMarked := rx_whoV (j := 37) (pos := 3115) (by decide +kernel) j_Ring_putMarked rfl
theorem w_4_134 : rx_who 4 (.invokestatic 134) 3 = some mDisk_areSame := rx_whoS (j := 65) (pos := 3230) (by decide +kernel) j_Disk_areSame rfl
theorem w_4_140 : rx_who 4 (.invokevirtual 140) 3 = some mDisk_fillHeader := rx_whoV (j := 36) (pos := 3111) (by decide +kernel) j_Disk_fillHeader rfl
theorem w_4_144 : rx_who 4 (.invokestatic 144) 3 = some mDisk_encode := rx_whoS (j := 35) (pos := 3106) (by decide +kernel) j_Disk_encode rfl
theorem w_4_148 : rx_who 4 (.invokevirtual 148) 3 = some mRing_putGap := rx_whoV (j := 39) (pos := 3123) (by decide +kernel) j_Ring_putGap rfl
theorem w_4_151 : rx_who 4 (.invokevirtual 151) 3 = some mRing_putGapToEnd := rx_whoV (j := 40) (pos := 3127) (by decide +kernel) j_Ring_putGapToEnd rfl
theorem w_4_157 : rx_who 4 (.invokevirtual 157) 3 = some mRing_holds := rx_whoV (j := 62) (pos := 3217) (by decide +kernel) j_Ring_holds rfl
theorem w_5_25 : rx_who 5 (.invokespecial 25) 3 = some mPattern_init := rx_whoI (j := 7) (pos := 1233) (n := true) (by decide +kernel) j_Pattern_init rfl
theorem w_5_44 : rx_who 5 (.invokespecial 44) 3 = some mBlockMap_init := rx_whoI (j := 8) (pos := 2006) (n := false) (by decide +kernel) j_BlockMap_init rfl
theorem w_5_53 : rx_who 5 (.invokespecial 53) 3 = some mDirectory_init := rx_whoI (j := 9) (pos := 2030) (n := false) (by decide +kernel) j_Directory_init rfl
theorem w_5_60 : rx_who 5 (.invokespecial 60) 3 = some mChannel_init := rx_whoI (j := 10) (pos := 2069) (n := true) (by decide +kernel) j_Channel_init rfl
theorem w_5_65 : rx_who 5 (.invokevirtual 65) 3 = some mDos_closeChannel := rx_whoV (j := 137) (pos := 5075) (by decide +kernel) j_Dos_closeChannel rfl
theorem w_5_69 : rx_who 5 (.invokevirtual 69) 3 = some mDos_dropAll := rx_whoV (j := 30) (pos := 5223) (by decide +kernel) j_Dos_dropAll rfl
theorem w_5_82 : rx_who 5 (.invokevirtual 82) 3 = some mDisk_writeBlock := rx_whoV (j := 60) (pos := 5079) (by decide +kernel) j_Disk_writeBlock rfl
theorem w_5_86 : rx_who 5 (.invokevirtual 86) 3 = some mDos_goToEntryOf := rx_whoV (j := 138) (pos := 5080) (by decide +kernel) j_Dos_goToEntryOf rfl
theorem w_5_93 : rx_who 5 (.invokevirtual 93) 3 = some mDirectory_changeToClosed := rx_whoV (j := 139) (pos := 5085) (by decide +kernel) j_Directory_changeToClosed rfl
theorem w_5_108 : rx_who 5 (.invokevirtual 108) 3 = some mDirectory_goTo := rx_whoV (j := 69) (pos := 5084) (by decide +kernel) j_Directory_goTo rfl
theorem w_5_112 : rx_who 5 (.invokevirtual 112) 3 = some mDos_countOpen := rx_whoV (j := 140) (pos := 5089) (by decide +kernel) j_Dos_countOpen rfl
theorem w_5_116 : rx_who 5 (.invokevirtual 116) 3 = some mStatus_set := rx_whoV (j := 22) (pos := 4078) (by decide +kernel) j_Status_set rfl
theorem w_5_122 : rx_who 5 (.invokevirtual 122) 3 = some mTape_byteAt := rx_whoV (j := 23) (pos := 5093) (by decide +kernel) j_Tape_byteAt rfl
theorem w_5_127 : rx_who 5 (.invokevirtual 127) 3 = some mDos_openBuffer := rx_whoV (j := 141) (pos := 5094) (by decide +kernel) j_Dos_openBuffer rfl
theorem w_5_131 : rx_who 5 (.invokevirtual 131) 3 = some mDos_openList := rx_whoV (j := 143) (pos := 5103) (by decide +kernel) j_Dos_openList rfl
theorem w_5_134 : rx_who 5 (.invokevirtual 134) 3 = some mDos_parseFile := rx_whoV (j := 145) (pos := 5115) (by decide +kernel) j_Dos_parseFile rfl
theorem w_5_140 : rx_who 5 (.invokevirtual 140) 3 = some mDos_openToRead := rx_whoV (j := 148) (pos := 5129) (by decide +kernel) j_Dos_openToRead rfl
theorem w_5_143 : rx_who 5 (.invokevirtual 143) 3 = some mDos_openToWrite := rx_whoV (j := 150) (pos := 5144) (by decide +kernel) j_Dos_openToWrite rfl
theorem w_5_149 : rx_who 5 (.invokevirtual 149) 3 = some mChannel_begin := rx_whoV (j := 142) (pos := 5098) (by decide +kernel) j_Channel_begin rfl
theorem w_5_153 : rx_who 5 (.invokevirtual 153) 3 = some mPattern_take := rx_whoV (j := 26) (pos := 5107) (by decide +kernel) j_Pattern_take rfl
theorem w_5_157 : rx_who 5 (.invokevirtual 157) 3 = some mPattern_isEmpty := rx_whoV (j := 27) (pos := 5108) (by decide +kernel) j_Pattern_isEmpty rfl
theorem w_5_161 : rx_who 5 (.invokevirtual 161) 3 = some mPattern_fitAll := rx_whoV (j := 12) (pos := 5109) (by decide +kernel) j_Pattern_fitAll rfl
theorem w_5_167 : rx_who 5 (.invokevirtual 167) 3 = some mPattern_copyFrom := rx_whoV (j := 144) (pos := 5110) (by decide +kernel) j_Pattern_copyFrom rfl
theorem w_5_175 : rx_who 5 (.invokevirtual 175) 3 = some mTape_find := rx_whoV (j := 25) (pos := 5119) (by decide +kernel) j_Tape_find rfl
theorem w_5_179 : rx_who 5 (.invokevirtual 179) 3 = some mDos_sortTold := rx_whoV (j := 146) (pos := 5120) (by decide +kernel) j_Dos_sortTold rfl
theorem w_5_185 : rx_who 5 (.invokevirtual 185) 3 = some mDos_wayTold := rx_whoV (j := 147) (pos := 5124) (by decide +kernel) j_Dos_wayTold rfl
theorem w_5_188 : rx_who 5 (.invokevirtual 188) 3 = some mPattern_isWild := rx_whoV (j := 28) (pos := 5128) (by decide +kernel) j_Pattern_isWild rfl
theorem w_5_191 : rx_who 5 (.invokevirtual 191) 3 = some mDirectory_rewind := rx_whoV (j := 68) (pos := 5133) (by decide +kernel) j_Directory_rewind rfl
theorem w_5_194 : rx_who 5 (.invokevirtual 194) 3 = some mDirectory_find := rx_whoV (j := 70) (pos := 5134) (by decide +kernel) j_Directory_find rfl
theorem w_5_200 : rx_who 5 (.invokevirtual 200) 3 = some mDirectory_isClosed := rx_whoV (j := 93) (pos := 5135) (by decide +kernel) j_Directory_isClosed rfl
theorem w_5_203 : rx_who 5 (.invokevirtual 203) 3 = some mDirectory_type := rx_whoV (j := 75) (pos := 5136) (by decide +kernel) j_Directory_type rfl
theorem w_5_206 : rx_who 5 (.invokevirtual 206) 3 = some mDirectory_firstTrack := rx_whoV (j := 82) (pos := 4065) (by decide +kernel) j_Directory_firstTrack rfl
theorem w_5_209 : rx_who 5 (.invokevirtual 209) 3 = some mDirectory_firstSector := rx_whoV (j := 83) (pos := 4069) (by decide +kernel) j_Directory_firstSector rfl
theorem w_5_212 : rx_who 5 (.invokestatic 212) 3 = some mDisk_isLegal := rx_whoS (j := 56) (pos := 4077) (by decide +kernel) j_Disk_isLegal rfl
theorem w_5_216 : rx_who 5 (.invokevirtual 216) 3 = some mDisk_readBlock := rx_whoV (j := 71) (pos := 4083) (by decide +kernel) j_Disk_readBlock rfl
theorem w_5_219 : rx_who 5 (.invokevirtual 219) 3 = some mChannel_unfold := rx_whoV (j := 149) (pos := 5137) (by decide +kernel) j_Channel_unfold rfl
theorem w_5_222 : rx_who 5 (.invokevirtual 222) 3 = some mDos_scratchFound := rx_whoV (j := 80) (pos := 5148) (by decide +kernel) j_Dos_scratchFound rfl
theorem w_5_225 : rx_who 5 (.invokevirtual 225) 3 = some mDos_findRoom := rx_whoV (j := 151) (pos := 5149) (by decide +kernel) j_Dos_findRoom rfl
theorem w_5_228 : rx_who 5 (.invokevirtual 228) 3 = some mDos_startFile := rx_whoV (j := 155) (pos := 5168) (by decide +kernel) j_Dos_startFile rfl
theorem w_5_231 : rx_who 5 (.invokevirtual 231) 3 = some mBlockMap_load := rx_whoV (j := 81) (pos := 4060) (by decide +kernel) j_BlockMap_load rfl
theorem w_5_234 : rx_who 5 (.invokevirtual 234) 3 = some mDos_giveBackChain := rx_whoV (j := 84) (pos := 4073) (by decide +kernel) j_Dos_giveBackChain rfl
theorem w_5_239 : rx_who 5 (.invokevirtual 239) 3 = some mBlockMap_store := rx_whoV (j := 59) (pos := 4084) (by decide +kernel) j_BlockMap_store rfl
theorem w_5_242 : rx_who 5 (.invokevirtual 242) 3 = some mDirectory_changeType := rx_whoV (j := 86) (pos := 4085) (by decide +kernel) j_Directory_changeType rfl
theorem w_5_245 : rx_who 5 (.invokevirtual 245) 3 = some mBlockMap_giveBack := rx_whoV (j := 85) (pos := 4079) (by decide +kernel) j_BlockMap_giveBack rfl
theorem w_5_249 : rx_who 5 (.invokevirtual 249) 3 = some mDirectory_isFull := rx_whoV (j := 79) (pos := 5153) (by decide +kernel) j_Directory_isFull rfl
theorem w_5_252 : rx_who 5 (.invokevirtual 252) 3 = some mBlockMap_pickForDirectory := rx_whoV (j := 152) (pos := 5154) (by decide +kernel) j_BlockMap_pickForDirectory rfl
theorem w_5_257 : rx_who 5 (.invokevirtual 257) 3 = some mDirectory_writeEmpty := rx_whoV (j := 66) (pos := 5163) (by decide +kernel) j_Directory_writeEmpty rfl
theorem w_5_260 : rx_who 5 (.invokevirtual 260) 3 = some mDirectory_lengthen := rx_whoV (j := 154) (pos := 5164) (by decide +kernel) j_Directory_lengthen rfl
theorem w_5_263 : rx_who 5 (.invokevirtual 263) 3 = some mBlockMap_pick := rx_whoV (j := 156) (pos := 5172) (by decide +kernel) j_BlockMap_pick rfl
theorem w_5_266 : rx_who 5 (.invokevirtual 266) 3 = some mDirectory_changeToNew := rx_whoV (j := 157) (pos := 5178) (by decide +kernel) j_Directory_changeToNew rfl
theorem w_5_270 : rx_who 5 (.invokevirtual 270) 3 = some mChannel_beginBlock := rx_whoV (j := 158) (pos := 5182) (by decide +kernel) j_Channel_beginBlock rfl
theorem w_5_277 : rx_who 5 (.invokevirtual 277) 3 = some mChannel_keepEntry := rx_whoV (j := 159) (pos := 5186) (by decide +kernel) j_Channel_keepEntry rfl
theorem w_5_284 : rx_who 5 (.invokevirtual 284) 3 = some mDos_nextByte := rx_whoV (j := 188) (pos := 6088) (by decide +kernel) j_Dos_nextByte rfl
theorem w_5_293 : rx_who 5 (.invokevirtual 293) 3 = some mDos_makeLine := rx_whoV (j := 189) (pos := 6092) (by decide +kernel) j_Dos_makeLine rfl
theorem w_5_296 : rx_who 5 (.invokevirtual 296) 3 = some mDos_readNext := rx_whoV (j := 199) (pos := 6135) (by decide +kernel) j_Dos_readNext rfl
theorem w_5_299 : rx_who 5 (.invokevirtual 299) 3 = some mChannel_startLine := rx_whoV (j := 190) (pos := 6096) (by decide +kernel) j_Channel_startLine rfl
theorem w_5_305 : rx_who 5 (.invokevirtual 305) 3 = some mDos_addTitle := rx_whoV (j := 191) (pos := 6100) (by decide +kernel) j_Dos_addTitle rfl
theorem w_5_308 : rx_who 5 (.invokevirtual 308) 3 = some mDos_addEntry := rx_whoV (j := 193) (pos := 6108) (by decide +kernel) j_Dos_addEntry rfl
theorem w_5_311 : rx_who 5 (.invokevirtual 311) 3 = some mDos_addFree := rx_whoV (j := 197) (pos := 6127) (by decide +kernel) j_Dos_addFree rfl
theorem w_5_314 : rx_who 5 (.invokevirtual 314) 3 = some mChannel_add := rx_whoV (j := 192) (pos := 6104) (by decide +kernel) j_Channel_add rfl
theorem w_5_318 : rx_who 5 (.invokevirtual 318) 3 = some mDirectory_count := rx_whoV (j := 194) (pos := 6112) (by decide +kernel) j_Directory_count rfl
theorem w_5_320 : rx_who 5 (.invokevirtual 320) 3 = some mChannel_addNumber := rx_whoV (j := 195) (pos := 6116) (by decide +kernel) j_Channel_addNumber rfl
theorem w_5_323 : rx_who 5 (.invokevirtual 323) 3 = some mDirectory_nameByte := rx_whoV (j := 196) (pos := 6121) (by decide +kernel) j_Directory_nameByte rfl
theorem w_5_328 : rx_who 5 (.invokevirtual 328) 3 = some mStr_charAt := rx_whoV (j := 178) (pos := 6126) (by decide +kernel) j_Str_charAt rfl
theorem w_5_334 : rx_who 5 (.invokevirtual 334) 3 = some mBlockMap_freeSum := rx_whoV (j := 198) (pos := 6131) (by decide +kernel) j_BlockMap_freeSum rfl
theorem w_5_337 : rx_who 5 (.invokevirtual 337) 3 = some mDos_addToFile := rx_whoV (j := 162) (pos := 5198) (by decide +kernel) j_Dos_addToFile rfl
theorem w_5_341 : rx_who 5 (.invokevirtual 341) 3 = some mBlockMap_pickBehind := rx_whoV (j := 163) (pos := 5202) (by decide +kernel) j_BlockMap_pickBehind rfl
theorem w_5_344 : rx_who 5 (.invokevirtual 344) 3 = some mDos_goToNextBlock := rx_whoV (j := 164) (pos := 5207) (by decide +kernel) j_Dos_goToNextBlock rfl
theorem w_5_347 : rx_who 5 (.invokevirtual 347) 3 = some mDos_giveUpFile := rx_whoV (j := 165) (pos := 5211) (by decide +kernel) j_Dos_giveUpFile rfl
theorem w_6_23 : rx_who 6 (.invokevirtual 23) 3 = some mTape_byteAt := rx_whoV (j := 23) (pos := 3072) (by decide +kernel) j_Tape_byteAt rfl
theorem w_6_35 : rx_who 6 (.invokevirtual 35) 3 = some mPattern_padded := rx_whoV (j := 58) (pos := 3200) (by decide +kernel) j_Pattern_padded rfl
theorem w_7_13 : rx_who 7 (.invokestatic 13) 3 = some mArr_fill := rx_whoS (j := 52) (pos := 6188) (by decide +kernel) j_Arr_fill rfl
theorem w_7_19 : rx_who 7 (.invokevirtual 19) 3 = some mProcessor_begin := rx_whoV (j := 113) (pos := 4208) (by decide +kernel) j_Processor_begin rfl
theorem w_7_45 : rx_who 7 (.invokevirtual 45) 3 = some mProcessor_get := rx_whoV (j := 110) (pos := 4212) (by decide +kernel) j_Processor_get rfl
theorem w_7_58 : rx_who 7 (.invokevirtual 58) 3 = some mProcessor_locate := rx_whoV (j := 114) (pos := 4219) (by decide +kernel) j_Processor_locate rfl
theorem w_7_61 : rx_who 7 (.invokevirtual 61) 3 = some mProcessor_perform := rx_whoV (j := 119) (pos := 5000) (by decide +kernel) j_Processor_perform rfl
theorem w_7_72 : rx_who 7 (.invokevirtual 72) 3 = some mProcessor_useValue := rx_whoV (j := 120) (pos := 5004) (by decide +kernel) j_Processor_useValue rfl
theorem w_7_75 : rx_who 7 (.invokevirtual 75) 3 = some mProcessor_set := rx_whoV (j := 109) (pos := 5036) (by decide +kernel) j_Processor_set rfl
theorem w_7_78 : rx_who 7 (.invokevirtual 78) 3 = some mProcessor_changeValue := rx_whoV (j := 128) (pos := 5037) (by decide +kernel) j_Processor_changeValue rfl
theorem w_7_82 : rx_who 7 (.invokevirtual 82) 3 = some mProcessor_branch := rx_whoV (j := 129) (pos := 5041) (by decide +kernel) j_Processor_branch rfl
theorem w_7_85 : rx_who 7 (.invokevirtual 85) 3 = some mProcessor_move := rx_whoV (j := 130) (pos := 5045) (by decide +kernel) j_Processor_move rfl
theorem w_7_88 : rx_who 7 (.invokevirtual 88) 3 = some mProcessor_changeFlag := rx_whoV (j := 131) (pos := 5049) (by decide +kernel) j_Processor_changeFlag rfl
theorem w_7_91 : rx_who 7 (.invokevirtual 91) 3 = some mProcessor_stack := rx_whoV (j := 132) (pos := 5053) (by decide +kernel) j_Processor_stack rfl
theorem w_7_94 : rx_who 7 (.invokevirtual 94) 3 = some mProcessor_fetch := rx_whoV (j := 115) (pos := 4223) (by decide +kernel) j_Processor_fetch rfl
theorem w_7_98 : rx_who 7 (.invokevirtual 98) 3 = some mProcessor_fetchTwo := rx_whoV (j := 116) (pos := 4227) (by decide +kernel) j_Processor_fetchTwo rfl
theorem w_7_101 : rx_who 7 (.invokevirtual 101) 3 = some mProcessor_indexed := rx_whoV (j := 117) (pos := 4231) (by decide +kernel) j_Processor_indexed rfl
theorem w_7_104 : rx_who 7 (.invokevirtual 104) 3 = some mProcessor_pair := rx_whoV (j := 118) (pos := 4235) (by decide +kernel) j_Processor_pair rfl
theorem w_7_108 : rx_who 7 (.invokevirtual 108) 3 = some mProcessor_marked := rx_whoV (j := 121) (pos := 5008) (by decide +kernel) j_Processor_marked rfl
theorem w_7_111 : rx_who 7 (.invokevirtual 111) 3 = some mProcessor_add := rx_whoV (j := 122) (pos := 5012) (by decide +kernel) j_Processor_add rfl
theorem w_7_114 : rx_who 7 (.invokevirtual 114) 3 = some mProcessor_subtract := rx_whoV (j := 126) (pos := 5028) (by decide +kernel) j_Processor_subtract rfl
theorem w_7_117 : rx_who 7 (.invokevirtual 117) 3 = some mProcessor_flag := rx_whoV (j := 125) (pos := 5024) (by decide +kernel) j_Processor_flag rfl
theorem w_7_120 : rx_who 7 (.invokevirtual 120) 3 = some mProcessor_compare := rx_whoV (j := 127) (pos := 5032) (by decide +kernel) j_Processor_compare rfl
theorem w_7_123 : rx_who 7 (.invokevirtual 123) 3 = some mProcessor_has := rx_whoV (j := 123) (pos := 5016) (by decide +kernel) j_Processor_has rfl
theorem w_7_127 : rx_who 7 (.invokevirtual 127) 3 = some mProcessor_addBinary := rx_whoV (j := 124) (pos := 5020) (by decide +kernel) j_Processor_addBinary rfl
theorem w_7_130 : rx_who 7 (.invokevirtual 130) 3 = some mProcessor_pull := rx_whoV (j := 134) (pos := 5061) (by decide +kernel) j_Processor_pull rfl
theorem w_7_133 : rx_who 7 (.invokevirtual 133) 3 = some mProcessor_push := rx_whoV (j := 133) (pos := 5057) (by decide +kernel) j_Processor_push rfl
theorem w_7_136 : rx_who 7 (.invokevirtual 136) 3 = some mProcessor_pullTwo := rx_whoV (j := 135) (pos := 5065) (by decide +kernel) j_Processor_pullTwo rfl
theorem w_8_28 : rx_who 8 (.invokevirtual 28) 3 = some mRing_eight := rx_whoV (j := 205) (pos := 6162) (by decide +kernel) j_Ring_eight rfl
theorem w_8_32 : rx_who 8 (.invokevirtual 32) 3 = some mRing_put := rx_whoV (j := 38) (pos := 3119) (by decide +kernel) j_Ring_put rfl
theorem w_8_39 : rx_who 8 (.invokevirtual 39) 3 = some mRing_putGap := rx_whoV (j := 39) (pos := 3131) (by decide +kernel) j_Ring_putGap rfl
theorem w_8_56 : rx_who 8 (.invokevirtual 56) 3 = some mRing_next := rx_whoV (j := 48) (pos := 3225) (by decide +kernel) j_Ring_next rfl
theorem w_9_22 : rx_who 9 (.invokevirtual 22) 3 = some mStatus_set := rx_whoV (j := 22) (pos := 3049) (by decide +kernel) j_Status_set rfl
theorem w_9_48 : rx_who 9 (.invokevirtual 48) 3 = some mStatus_replyByte := rx_whoV (j := 170) (pos := 5233) (by decide +kernel) j_Status_replyByte rfl
theorem w_9_52 : rx_who 9 (.invokevirtual 52) 3 = some mStatus_textByte := rx_whoV (j := 171) (pos := 5237) (by decide +kernel) j_Status_textByte rfl
theorem w_9_55 : rx_who 9 (.invokevirtual 55) 3 = some mStatus_spell := rx_whoV (j := 172) (pos := 6001) (by decide +kernel) j_Status_spell rfl
theorem w_9_58 : rx_who 9 (.invokevirtual 58) 3 = some mStatus_addTwoDigits := rx_whoV (j := 173) (pos := 6005) (by decide +kernel) j_Status_addTwoDigits rfl
theorem w_9_62 : rx_who 9 (.invokevirtual 62) 3 = some mStatus_add := rx_whoV (j := 174) (pos := 6009) (by decide +kernel) j_Status_add rfl
theorem w_9_65 : rx_who 9 (.invokevirtual 65) 3 = some mStatus_words := rx_whoV (j := 175) (pos := 6013) (by decide +kernel) j_Status_words rfl
theorem w_9_69 : rx_who 9 (.invokevirtual 69) 3 = some mStr_length := rx_whoV (j := 176) (pos := 6036) (by decide +kernel) j_Str_length rfl
theorem w_9_73 : rx_who 9 (.invokevirtual 73) 3 = some mStr_charAt := rx_whoV (j := 178) (pos := 6046) (by decide +kernel) j_Str_charAt rfl
theorem w_10_28 : rx_who 10 (.invokevirtual 28) 3 = some mTape_find := rx_whoV (j := 25) (pos := 4146) (by decide +kernel) j_Tape_find rfl
theorem w_10_34 : rx_who 10 (.invokevirtual 34) 3 = some mTape_byteAt := rx_whoV (j := 23) (pos := 4151) (by decide +kernel) j_Tape_byteAt rfl
theorem w_10_38 : rx_who 10 (.invokestatic 38) 3 = some mTape_isDigit := rx_whoS (j := 100) (pos := 4152) (by decide +kernel) j_Tape_isDigit rfl
theorem w_11_9 : rx_who 11 (.invokespecial 9) 3 = some mTape_init := rx_whoI (j := 1) (pos := 1031) (n := true) (by decide +kernel) j_Tape_init rfl
theorem w_11_18 : rx_who 11 (.invokespecial 18) 3 = some mStatus_init := rx_whoI (j := 2) (pos := 1054) (n := true) (by decide +kernel) j_Status_init rfl
theorem w_11_25 : rx_who 11 (.invokespecial 25) 3 = some mDisk_init := rx_whoI (j := 3) (pos := 1098) (n := false) (by decide +kernel) j_Disk_init rfl
theorem w_11_34 : rx_who 11 (.invokespecial 34) 3 = some mProcessor_init := rx_whoI (j := 5) (pos := 1181) (n := true) (by decide +kernel) j_Processor_init rfl
theorem w_11_41 : rx_who 11 (.invokespecial 41) 3 = some mDos_init := rx_whoI (j := 6) (pos := 1225) (n := false) (by decide +kernel) j_Dos_init rfl
theorem w_11_50 : rx_who 11 (.invokespecial 50) 3 = some mCommands_init := rx_whoI (j := 11) (pos := 2185) (n := false) (by decide +kernel) j_Commands_init rfl
theorem w_11_72 : rx_who 11 (.invokevirtual 72) 3 = some mTape_add := rx_whoV (j := 14) (pos := 3018) (by decide +kernel) j_Tape_add rfl
theorem w_11_76 : rx_who 11 (.invokevirtual 76) 3 = some mX_sendText := rx_whoV (j := 16) (pos := 3026) (by decide +kernel) j_X_sendText rfl
theorem w_11_80 : rx_who 11 (.invokevirtual 80) 3 = some mCommands_run := rx_whoV (j := 20) (pos := 3041) (by decide +kernel) j_Commands_run rfl
theorem w_11_87 : rx_who 11 (.invokevirtual 87) 3 = some mStatus_begin := rx_whoV (j := 21) (pos := 5069) (by decide +kernel) j_Status_begin rfl
theorem w_11_90 : rx_who 11 (.invokevirtual 90) 3 = some mStatus_set := rx_whoV (j := 22) (pos := 5070) (by decide +kernel) j_Status_set rfl
theorem w_11_94 : rx_who 11 (.invokevirtual 94) 3 = some mDos_openChannel := rx_whoV (j := 136) (pos := 5071) (by decide +kernel) j_Dos_openChannel rfl
theorem w_11_98 : rx_who 11 (.invokevirtual 98) 3 = some mDos_sendBytes := rx_whoV (j := 161) (pos := 5194) (by decide +kernel) j_Dos_sendBytes rfl
theorem w_11_101 : rx_who 11 (.invokestatic 101) 3 = some mX_isChannel := rx_whoS (j := 17) (pos := 3030) (by decide +kernel) j_X_isChannel rfl
theorem w_11_105 : rx_who 11 (.invokevirtual 105) 3 = some mDos_closeAll := rx_whoV (j := 167) (pos := 5219) (by decide +kernel) j_Dos_closeAll rfl
theorem w_11_108 : rx_who 11 (.invokevirtual 108) 3 = some mDos_closeChannel := rx_whoV (j := 137) (pos := 5224) (by decide +kernel) j_Dos_closeChannel rfl
theorem w_11_111 : rx_who 11 (.invokevirtual 111) 3 = some mStatus_receive := rx_whoV (j := 169) (pos := 5229) (by decide +kernel) j_Status_receive rfl
theorem w_11_118 : rx_who 11 (.invokevirtual 118) 3 = some mDos_receive := rx_whoV (j := 187) (pos := 6084) (by decide +kernel) j_Dos_receive rfl
theorem w_11_134 : rx_who 11 (.invokevirtual 134) 3 = some mDos_countOpen := rx_whoV (j := 140) (pos := 6148) (by decide +kernel) j_Dos_countOpen rfl
theorem w_11_158 : rx_who 11 (.invokevirtual 158) 3 = some mDisk_ring := rx_whoV (j := 32) (pos := 6153) (by decide +kernel) j_Disk_ring rfl
theorem w_11_162 : rx_who 11 (.invokevirtual 162) 3 = some mRing_hasBit := rx_whoV (j := 203) (pos := 6154) (by decide +kernel) j_Ring_hasBit rfl
theorem w_11_167 : rx_who 11 (.invokevirtual 167) 3 = some mRing_word := rx_whoV (j := 204) (pos := 6158) (by decide +kernel) j_Ring_word rfl
theorem w_11_170 : rx_who 11 (.invokevirtual 170) 3 = some mRing_flip := rx_whoV (j := 207) (pos := 6170) (by decide +kernel) j_Ring_flip rfl
theorem w_11_177 : rx_who 11 (.invokevirtual 177) 3 = some mDos_dropAll := rx_whoV (j := 30) (pos := 6182) (by decide +kernel) j_Dos_dropAll rfl
theorem w_11_180 : rx_who 11 (.invokevirtual 180) 3 = some mDisk_dropId := rx_whoV (j := 44) (pos := 6183) (by decide +kernel) j_Disk_dropId rfl
theorem w_11_183 : rx_who 11 (.invokevirtual 183) 3 = some mProcessor_reset := rx_whoV (j := 210) (pos := 6184) (by decide +kernel) j_Processor_reset rfl
theorem w_11_186 : rx_who 11 (.invokevirtual 186) 3 = some mProcessor_get := rx_whoV (j := 110) (pos := 6193) (by decide +kernel) j_Processor_get rfl
theorem w_11_189 : rx_who 11 (.invokevirtual 189) 3 = some mTape_has := rx_whoV (j := 18) (pos := 3033) (by decide +kernel) j_Tape_has rfl
theorem w_11_192 : rx_who 11 (.invokevirtual 192) 3 = some mTape_send := rx_whoV (j := 19) (pos := 3037) (by decide +kernel) j_Tape_send rfl
theorem w_12_1 : rx_who 12 (.invokestatic 1) 3 = some mM_sectorsOf := rx_whoS (j := 242) (pos := 7072) (by decide +kernel) j_M_sectorsOf rfl
theorem w_12_21 : rx_who 12 (.invokestatic 21) 3 = some mM_bytesOf := rx_whoS (j := 225) (pos := 7007) (by decide +kernel) j_M_bytesOf rfl
theorem w_12_46 : rx_who 12 (.invokevirtual 46) 3 = some mM_bitAt := rx_whoV (j := 226) (pos := 7010) (by decide +kernel) j_M_bitAt rfl
theorem w_12_56 : rx_who 12 (.invokevirtual 56) 3 = some mM_goes := rx_whoV (j := 228) (pos := 7018) (by decide +kernel) j_M_goes rfl
theorem w_12_60 : rx_who 12 (.invokevirtual 60) 3 = some mM_along := rx_whoV (j := 227) (pos := 7014) (by decide +kernel) j_M_along rfl
theorem w_12_68 : rx_who 12 (.invokestatic 68) 3 = some mM_groupOf := rx_whoS (j := 233) (pos := 7037) (by decide +kernel) j_M_groupOf rfl
theorem w_12_77 : rx_who 12 (.invokevirtual 77) 3 = some mM_group := rx_whoV (j := 231) (pos := 7030) (by decide +kernel) j_M_group rfl
theorem w_12_80 : rx_who 12 (.invokestatic 80) 3 = some mM_valueOf := rx_whoS (j := 232) (pos := 7034) (by decide +kernel) j_M_valueOf rfl
theorem w_12_83 : rx_who 12 (.invokevirtual 83) 3 = some mM_codes := rx_whoV (j := 238) (pos := 7056) (by decide +kernel) j_M_codes rfl
theorem w_12_87 : rx_who 12 (.invokevirtual 87) 3 = some mM_round := rx_whoV (j := 224) (pos := 7003) (by decide +kernel) j_M_round rfl
theorem w_12_96 : rx_who 12 (.invokevirtual 96) 3 = some mM_header := rx_whoV (j := 237) (pos := 7052) (by decide +kernel) j_M_header rfl
theorem w_12_100 : rx_who 12 (.invokevirtual 100) 3 = some mM_comes := rx_whoV (j := 229) (pos := 7022) (by decide +kernel) j_M_comes rfl
theorem w_12_107 : rx_who 12 (.invokevirtual 107) 3 = some mM_takeId := rx_whoV (j := 223) (pos := 6239) (by decide +kernel) j_M_takeId rfl
theorem w_12_110 : rx_who 12 (.invokevirtual 110) 3 = some mM_seek := rx_whoV (j := 236) (pos := 7048) (by decide +kernel) j_M_seek rfl
theorem w_12_113 : rx_who 12 (.invokevirtual 113) 3 = some mM_fault := rx_whoV (j := 219) (pos := 6223) (by decide +kernel) j_M_fault rfl
theorem w_12_117 : rx_who 12 (.invokevirtual 117) 3 = some mM_gets := rx_whoV (j := 239) (pos := 7060) (by decide +kernel) j_M_gets rfl
theorem w_12_121 : rx_who 12 (.invokevirtual 121) 3 = some mM_reads := rx_whoV (j := 230) (pos := 7026) (by decide +kernel) j_M_reads rfl
theorem w_12_128 : rx_who 12 (.invokevirtual 128) 3 = some mM_setBit := rx_whoV (j := 251) (pos := 7106) (by decide +kernel) j_M_setBit rfl
theorem w_12_134 : rx_who 12 (.invokevirtual 134) 3 = some mM_lays := rx_whoV (j := 250) (pos := 7102) (by decide +kernel) j_M_lays rfl
theorem w_12_138 : rx_who 12 (.invokevirtual 138) 3 = some mM_data := rx_whoV (j := 252) (pos := 7110) (by decide +kernel) j_M_data rfl
theorem w_12_148 : rx_who 12 (.invokevirtual 148) 3 = some mM_readBlock := rx_whoV (j := 235) (pos := 7044) (by decide +kernel) j_M_readBlock rfl
theorem w_12_152 : rx_who 12 (.invokevirtual 152) 3 = some mM_writeBlock := rx_whoV (j := 249) (pos := 7098) (by decide +kernel) j_M_writeBlock rfl
theorem w_12_161 : rx_who 12 (.invokestatic 161) 3 = some mM_isLegal := rx_whoS (j := 244) (pos := 7079) (by decide +kernel) j_M_isLegal rfl
theorem w_12_165 : rx_who 12 (.invokevirtual 165) 3 = some mM_isFree := rx_whoV (j := 245) (pos := 7082) (by decide +kernel) j_M_isFree rfl
theorem w_12_168 : rx_who 12 (.invokestatic 168) 3 = some mM_trackOf := rx_whoS (j := 316) (pos := 8121) (by decide +kernel) j_M_trackOf rfl
theorem w_12_171 : rx_who 12 (.invokevirtual 171) 3 = some mM_lowest := rx_whoV (j := 314) (pos := 8113) (by decide +kernel) j_M_lowest rfl
theorem w_12_174 : rx_who 12 (.invokevirtual 174) 3 = some mM_takes := rx_whoV (j := 243) (pos := 7075) (by decide +kernel) j_M_takes rfl
theorem w_12_177 : rx_who 12 (.invokevirtual 177) 3 = some mM_takesOne := rx_whoV (j := 315) (pos := 8117) (by decide +kernel) j_M_takesOne rfl
theorem w_12_180 : rx_who 12 (.invokevirtual 180) 3 = some mM_loads := rx_whoV (j := 234) (pos := 7040) (by decide +kernel) j_M_loads rfl
theorem w_12_183 : rx_who 12 (.invokevirtual 183) 3 = some mM_givesBack := rx_whoV (j := 266) (pos := 7164) (by decide +kernel) j_M_givesBack rfl
theorem w_12_189 : rx_who 12 (.invokevirtual 189) 3 = some mM_stores := rx_whoV (j := 254) (pos := 7118) (by decide +kernel) j_M_stores rfl
theorem w_12_204 : rx_who 12 (.invokestatic 204) 3 = some mM_fits := rx_whoS (j := 262) (pos := 7150) (by decide +kernel) j_M_fits rfl
theorem w_12_208 : rx_who 12 (.invokestatic 208) 3 = some mM_same := rx_whoS (j := 263) (pos := 7153) (by decide +kernel) j_M_same rfl
theorem w_12_220 : rx_who 12 (.invokevirtual 220) 3 = some mM_freesChain := rx_whoV (j := 265) (pos := 7160) (by decide +kernel) j_M_freesChain rfl
theorem w_12_223 : rx_who 12 (.invokevirtual 223) 3 = some mM_changesType := rx_whoV (j := 248) (pos := 7094) (by decide +kernel) j_M_changesType rfl
theorem w_12_239 : rx_who 12 (.invokevirtual 239) 3 = some mM_sets := rx_whoV (j := 218) (pos := 6219) (by decide +kernel) j_M_sets rfl
theorem w_12_257 : rx_who 12 (.invokevirtual 257) 3 = some mM_types := rx_whoV (j := 213) (pos := 6198) (by decide +kernel) j_M_types rfl
theorem w_12_263 : rx_who 12 (.invokevirtual 263) 3 = some mM_sends := rx_whoV (j := 215) (pos := 6207) (by decide +kernel) j_M_sends rfl
theorem w_12_266 : rx_who 12 (.invokevirtual 266) 3 = some mM_commands := rx_whoV (j := 216) (pos := 6211) (by decide +kernel) j_M_commands rfl
theorem w_12_269 : rx_who 12 (.invokevirtual 269) 3 = some mM_begins := rx_whoV (j := 217) (pos := 6215) (by decide +kernel) j_M_begins rfl
theorem w_12_272 : rx_who 12 (.invokevirtual 272) 3 = some mM_ends := rx_whoV (j := 220) (pos := 6227) (by decide +kernel) j_M_ends rfl
theorem w_12_275 : rx_who 12 (.invokevirtual 275) 3 = some mM_opens := rx_whoV (j := 307) (pos := 8085) (by decide +kernel) j_M_opens rfl
theorem w_12_278 : rx_who 12 (.invokevirtual 278) 3 = some mM_shuts := rx_whoV (j := 308) (pos := 8089) (by decide +kernel) j_M_shuts rfl
theorem w_12_281 : rx_who 12 (.invokevirtual 281) 3 = some mM_openMany := rx_whoV (j := 309) (pos := 8093) (by decide +kernel) j_M_openMany rfl
theorem w_12_290 : rx_who 12 (.invokevirtual 290) 3 = some mM_opensList := rx_whoV (j := 310) (pos := 8097) (by decide +kernel) j_M_opensList rfl
theorem w_12_293 : rx_who 12 (.invokevirtual 293) 3 = some mM_opensFile := rx_whoV (j := 311) (pos := 8101) (by decide +kernel) j_M_opensFile rfl
theorem w_12_311 : rx_who 12 (.invokevirtual 311) 3 = some mM_opensNew := rx_whoV (j := 312) (pos := 8105) (by decide +kernel) j_M_opensNew rfl
theorem w_12_315 : rx_who 12 (.invokevirtual 315) 3 = some mM_opensOld := rx_whoV (j := 318) (pos := 8128) (by decide +kernel) j_M_opensOld rfl
theorem w_12_325 : rx_who 12 (.invokevirtual 325) 3 = some mM_finds := rx_whoV (j := 261) (pos := 7146) (by decide +kernel) j_M_finds rfl
theorem w_12_329 : rx_who 12 (.invokevirtual 329) 3 = some mM_begun := rx_whoV (j := 319) (pos := 8132) (by decide +kernel) j_M_begun rfl
theorem w_12_332 : rx_who 12 (.invokevirtual 332) 3 = some mM_isWild := rx_whoV (j := 257) (pos := 7130) (by decide +kernel) j_M_isWild rfl
theorem w_12_335 : rx_who 12 (.invokevirtual 335) 3 = some mM_scratches := rx_whoV (j := 264) (pos := 7156) (by decide +kernel) j_M_scratches rfl
theorem w_12_338 : rx_who 12 (.invokevirtual 338) 3 = some mM_makesEntry := rx_whoV (j := 313) (pos := 8109) (by decide +kernel) j_M_makesEntry rfl
theorem w_12_365 : rx_who 12 (.invokevirtual 365) 3 = some mM_clears := rx_whoV (j := 317) (pos := 8124) (by decide +kernel) j_M_clears rfl
theorem w_12_377 : rx_who 12 (.invokevirtual 377) 3 = some mM_givesMore := rx_whoV (j := 322) (pos := 8144) (by decide +kernel) j_M_givesMore rfl
theorem w_12_380 : rx_who 12 (.invokevirtual 380) 3 = some mM_givesStatus := rx_whoV (j := 324) (pos := 8152) (by decide +kernel) j_M_givesStatus rfl
theorem w_12_383 : rx_who 12 (.invokevirtual 383) 3 = some mM_readsFile := rx_whoV (j := 329) (pos := 8210) (by decide +kernel) j_M_readsFile rfl
theorem w_12_386 : rx_who 12 (.invokevirtual 386) 3 = some mM_readsList := rx_whoV (j := 330) (pos := 8214) (by decide +kernel) j_M_readsList rfl
theorem w_12_389 : rx_who 12 (.invokevirtual 389) 3 = some mM_readsBuffer := rx_whoV (j := 336) (pos := 8239) (by decide +kernel) j_M_readsBuffer rfl
theorem w_12_395 : rx_who 12 (.invokevirtual 395) 3 = some mM_gives := rx_whoV (j := 323) (pos := 8148) (by decide +kernel) j_M_gives rfl
theorem w_12_406 : rx_who 12 (.invokevirtual 406) 3 = some mM_says := rx_whoV (j := 326) (pos := 8160) (by decide +kernel) j_M_says rfl
theorem w_12_411 : rx_who 12 (.invokevirtual 411) 3 = some mM_says8 := rx_whoV (j := 328) (pos := 8169) (by decide +kernel) j_M_says8 rfl
theorem w_12_487 : rx_who 12 (.invokevirtual 487) 3 = some mM_saysTwo := rx_whoV (j := 325) (pos := 8156) (by decide +kernel) j_M_saysTwo rfl
theorem w_12_490 : rx_who 12 (.invokevirtual 490) 3 = some mM_saysWords := rx_whoV (j := 327) (pos := 8164) (by decide +kernel) j_M_saysWords rfl
theorem w_12_496 : rx_who 12 (.invokevirtual 496) 3 = some mM_title := rx_whoV (j := 331) (pos := 8218) (by decide +kernel) j_M_title rfl
theorem w_12_499 : rx_who 12 (.invokevirtual 499) 3 = some mM_next := rx_whoV (j := 332) (pos := 8222) (by decide +kernel) j_M_next rfl
theorem w_12_514 : rx_who 12 (.invokevirtual 514) 3 = some mM_entryLine := rx_whoV (j := 333) (pos := 8226) (by decide +kernel) j_M_entryLine rfl
theorem w_12_517 : rx_who 12 (.invokevirtual 517) 3 = some mM_total := rx_whoV (j := 335) (pos := 8234) (by decide +kernel) j_M_total rfl
theorem w_12_520 : rx_who 12 (.invokevirtual 520) 3 = some mM_saysNumber := rx_whoV (j := 334) (pos := 8230) (by decide +kernel) j_M_saysNumber rfl
theorem w_12_525 : rx_who 12 (.invokevirtual 525) 3 = some mM_writesByte := rx_whoV (j := 339) (pos := 9011) (by decide +kernel) j_M_writesByte rfl
theorem w_12_528 : rx_who 12 (.invokevirtual 528) 3 = some mM_goesOn := rx_whoV (j := 340) (pos := 9015) (by decide +kernel) j_M_goesOn rfl
theorem w_12_531 : rx_who 12 (.invokevirtual 531) 3 = some mM_takesNext := rx_whoV (j := 341) (pos := 9019) (by decide +kernel) j_M_takesNext rfl
theorem w_12_534 : rx_who 12 (.invokevirtual 534) 3 = some mM_isFull := rx_whoV (j := 342) (pos := 9023) (by decide +kernel) j_M_isFull rfl
theorem w_12_537 : rx_who 12 (.invokevirtual 537) 3 = some mM_does := rx_whoV (j := 221) (pos := 6231) (by decide +kernel) j_M_does rfl
theorem w_12_540 : rx_who 12 (.invokevirtual 540) 3 = some mM_again := rx_whoV (j := 222) (pos := 6235) (by decide +kernel) j_M_again rfl
theorem w_12_543 : rx_who 12 (.invokevirtual 543) 3 = some mM_validates := rx_whoV (j := 240) (pos := 7064) (by decide +kernel) j_M_validates rfl
theorem w_12_546 : rx_who 12 (.invokevirtual 546) 3 = some mM_shutsAll := rx_whoV (j := 255) (pos := 7122) (by decide +kernel) j_M_shutsAll rfl
theorem w_12_549 : rx_who 12 (.invokevirtual 549) 3 = some mM_news := rx_whoV (j := 256) (pos := 7126) (by decide +kernel) j_M_news rfl
theorem w_12_552 : rx_who 12 (.invokevirtual 552) 3 = some mM_scratch := rx_whoV (j := 260) (pos := 7142) (by decide +kernel) j_M_scratch rfl
theorem w_12_555 : rx_who 12 (.invokevirtual 555) 3 = some mM_renames := rx_whoV (j := 267) (pos := 7168) (by decide +kernel) j_M_renames rfl
theorem w_12_558 : rx_who 12 (.invokevirtual 558) 3 = some mM_blockOf := rx_whoV (j := 268) (pos := 7172) (by decide +kernel) j_M_blockOf rfl
theorem w_12_562 : rx_who 12 (.invokevirtual 562) 3 = some mM_begins3 := rx_whoV (j := 272) (pos := 7187) (by decide +kernel) j_M_begins3 rfl
theorem w_12_566 : rx_who 12 (.invokevirtual 566) 3 = some mM_pointer := rx_whoV (j := 273) (pos := 7191) (by decide +kernel) j_M_pointer rfl
theorem w_12_569 : rx_who 12 (.invokevirtual 569) 3 = some mM_allocates := rx_whoV (j := 274) (pos := 7195) (by decide +kernel) j_M_allocates rfl
theorem w_12_572 : rx_who 12 (.invokevirtual 572) 3 = some mM_frees := rx_whoV (j := 275) (pos := 7199) (by decide +kernel) j_M_frees rfl
theorem w_12_575 : rx_who 12 (.invokevirtual 575) 3 = some mM_memories := rx_whoV (j := 276) (pos := 7203) (by decide +kernel) j_M_memories rfl
theorem w_12_578 : rx_who 12 (.invokevirtual 578) 3 = some mM_format := rx_whoV (j := 258) (pos := 7134) (by decide +kernel) j_M_format rfl
theorem w_12_581 : rx_who 12 (.invokevirtual 581) 3 = some mM_maps := rx_whoV (j := 259) (pos := 7138) (by decide +kernel) j_M_maps rfl
theorem w_12_584 : rx_who 12 (.invokevirtual 584) 3 = some mM_freesAll := rx_whoV (j := 241) (pos := 7068) (by decide +kernel) j_M_freesAll rfl
theorem w_12_590 : rx_who 12 (.invokevirtual 590) 3 = some mM_entries := rx_whoV (j := 246) (pos := 7086) (by decide +kernel) j_M_entries rfl
theorem w_12_593 : rx_who 12 (.invokevirtual 593) 3 = some mM_used := rx_whoV (j := 247) (pos := 7090) (by decide +kernel) j_M_used rfl
theorem w_12_596 : rx_who 12 (.invokevirtual 596) 3 = some mM_uses := rx_whoV (j := 253) (pos := 7114) (by decide +kernel) j_M_uses rfl
theorem w_12_605 : rx_who 12 (.invokestatic 605) 3 = some mM_isDigit := rx_whoS (j := 271) (pos := 7184) (by decide +kernel) j_M_isDigit rfl
theorem w_12_608 : rx_who 12 (.invokevirtual 608) 3 = some mM_numbers := rx_whoV (j := 269) (pos := 7176) (by decide +kernel) j_M_numbers rfl
theorem w_12_611 : rx_who 12 (.invokevirtual 611) 3 = some mM_numberNext := rx_whoV (j := 270) (pos := 7180) (by decide +kernel) j_M_numberNext rfl
theorem w_12_617 : rx_who 12 (.invokevirtual 617) 3 = some mM_put := rx_whoV (j := 277) (pos := 7207) (by decide +kernel) j_M_put rfl
theorem w_12_620 : rx_who 12 (.invokevirtual 620) 3 = some mM_get := rx_whoV (j := 278) (pos := 7211) (by decide +kernel) j_M_get rfl
theorem w_12_623 : rx_who 12 (.invokevirtual 623) 3 = some mM_runs := rx_whoV (j := 279) (pos := 7215) (by decide +kernel) j_M_runs rfl
theorem w_12_650 : rx_who 12 (.invokevirtual 650) 3 = some mM_step := rx_whoV (j := 280) (pos := 7219) (by decide +kernel) j_M_step rfl
theorem w_12_653 : rx_who 12 (.invokevirtual 653) 3 = some mM_byteNext := rx_whoV (j := 284) (pos := 7234) (by decide +kernel) j_M_byteNext rfl
theorem w_12_656 : rx_who 12 (.invokevirtual 656) 3 = some mM_flag := rx_whoV (j := 289) (pos := 8013) (by decide +kernel) j_M_flag rfl
theorem w_12_663 : rx_who 12 (.invokevirtual 663) 3 = some mM_wordNext := rx_whoV (j := 285) (pos := 7238) (by decide +kernel) j_M_wordNext rfl
theorem w_12_666 : rx_who 12 (.invokevirtual 666) 3 = some mM_is := rx_whoV (j := 291) (pos := 8021) (by decide +kernel) j_M_is rfl
theorem w_12_669 : rx_who 12 (.invokevirtual 669) 3 = some mM_marks := rx_whoV (j := 288) (pos := 8009) (by decide +kernel) j_M_marks rfl
theorem w_12_672 : rx_who 12 (.invokestatic 672) 3 = some mM_howOf := rx_whoS (j := 282) (pos := 7227) (by decide +kernel) j_M_howOf rfl
theorem w_12_675 : rx_who 12 (.invokevirtual 675) 3 = some mM_address := rx_whoV (j := 283) (pos := 7230) (by decide +kernel) j_M_address rfl
theorem w_12_678 : rx_who 12 (.invokestatic 678) 3 = some mM_storeTime := rx_whoS (j := 286) (pos := 8002) (by decide +kernel) j_M_storeTime rfl
theorem w_12_681 : rx_who 12 (.invokevirtual 681) 3 = some mM_readTime := rx_whoV (j := 287) (pos := 8005) (by decide +kernel) j_M_readTime rfl
theorem w_12_684 : rx_who 12 (.invokevirtual 684) 3 = some mM_adds := rx_whoV (j := 290) (pos := 8017) (by decide +kernel) j_M_adds rfl
theorem w_12_687 : rx_who 12 (.invokevirtual 687) 3 = some mM_compares := rx_whoV (j := 292) (pos := 8025) (by decide +kernel) j_M_compares rfl
theorem w_12_690 : rx_who 12 (.invokevirtual 690) 3 = some mM_takesOff := rx_whoV (j := 293) (pos := 8029) (by decide +kernel) j_M_takesOff rfl
theorem w_12_693 : rx_who 12 (.invokevirtual 693) 3 = some mM_shifted := rx_whoV (j := 295) (pos := 8037) (by decide +kernel) j_M_shifted rfl
theorem w_12_696 : rx_who 12 (.invokevirtual 696) 3 = some mM_works := rx_whoV (j := 281) (pos := 7223) (by decide +kernel) j_M_works rfl
theorem w_12_699 : rx_who 12 (.invokevirtual 699) 3 = some mM_twos := rx_whoV (j := 294) (pos := 8033) (by decide +kernel) j_M_twos rfl
theorem w_12_702 : rx_who 12 (.invokevirtual 702) 3 = some mM_zeros := rx_whoV (j := 300) (pos := 8057) (by decide +kernel) j_M_zeros rfl
theorem w_12_704 : rx_who 12 (.invokevirtual 704) 3 = some mM_takes2 := rx_whoV (j := 296) (pos := 8041) (by decide +kernel) j_M_takes2 rfl
theorem w_12_707 : rx_who 12 (.invokevirtual 707) 3 = some mM_changes := rx_whoV (j := 297) (pos := 8045) (by decide +kernel) j_M_changes rfl
theorem w_12_710 : rx_who 12 (.invokevirtual 710) 3 = some mM_keeps := rx_whoV (j := 298) (pos := 8049) (by decide +kernel) j_M_keeps rfl
theorem w_12_713 : rx_who 12 (.invokevirtual 713) 3 = some mM_fetches := rx_whoV (j := 299) (pos := 8053) (by decide +kernel) j_M_fetches rfl
theorem w_12_716 : rx_who 12 (.invokevirtual 716) 3 = some mM_branch := rx_whoV (j := 301) (pos := 8061) (by decide +kernel) j_M_branch rfl
theorem w_12_720 : rx_who 12 (.invokevirtual 720) 3 = some mM_tests := rx_whoV (j := 302) (pos := 8065) (by decide +kernel) j_M_tests rfl
theorem w_12_723 : rx_who 12 (.invokevirtual 723) 3 = some mM_compared := rx_whoV (j := 303) (pos := 8069) (by decide +kernel) j_M_compared rfl
theorem w_12_726 : rx_who 12 (.invokevirtual 726) 3 = some mM_push := rx_whoV (j := 304) (pos := 8073) (by decide +kernel) j_M_push rfl
theorem w_12_729 : rx_who 12 (.invokevirtual 729) 3 = some mM_pull := rx_whoV (j := 305) (pos := 8077) (by decide +kernel) j_M_pull rfl
theorem w_12_732 : rx_who 12 (.invokevirtual 732) 3 = some mM_jumps := rx_whoV (j := 306) (pos := 8081) (by decide +kernel) j_M_jumps rfl
theorem w_12_735 : rx_who 12 (.invokestatic 735) 3 = some mM_isBit := rx_whoS (j := 345) (pos := 9035) (by decide +kernel) j_M_isBit rfl
theorem w_16_335 : rx_who 16 (.invokevirtual 335) 3 = some mStr_coder := rx_whoV (j := 177) (pos := 6040) (by decide +kernel) j_Str_coder rfl
theorem w_16_492 : rx_who 16 (.invokevirtual 492) 3 = some mStr_isLatin1 := rx_whoV (j := 179) (pos := 6050) (by decide +kernel) j_Str_isLatin1 rfl
theorem w_16_495 : rx_who 16 (.invokestatic 495) 3 = some mLat_charAt := rx_whoS (j := 180) (pos := 6054) (by decide +kernel) j_Lat_charAt rfl
theorem w_16_498 : rx_who 16 (.invokestatic 498) 3 = some mU16_charAt := rx_whoS (j := 183) (pos := 6065) (by decide +kernel) j_U16_charAt rfl
theorem w_16_1059 : rx_who 16 (.invokestatic 1059) 3 = some mPre_checkIndex := rx_whoS (j := 182) (pos := 6062) (by decide +kernel) j_Pre_checkIndex rfl
theorem w_17_9 : rx_who 17 (.invokestatic 9) 3 = some mStr_checkIndex := rx_whoS (j := 181) (pos := 6057) (by decide +kernel) j_Str_checkIndex rfl
theorem w_18_48 : rx_who 18 (.invokestatic 48) 3 = some mU16_length := rx_whoS (j := 185) (pos := 6071) (by decide +kernel) j_U16_length rfl
theorem w_18_67 : rx_who 18 (.invokestatic 67) 3 = some mU16_checkIndex := rx_whoS (j := 184) (pos := 6068) (by decide +kernel) j_U16_checkIndex rfl
theorem w_18_71 : rx_who 18 (.invokestatic 71) 3 = some mU16_getChar := rx_whoS (j := 186) (pos := 6075) (by decide +kernel) j_U16_getChar rfl
theorem w_18_414 : rx_who 18 (.invokestatic 414) 3 = some mStr_checkIndex := rx_whoS (j := 181) (pos := 6074) (by decide +kernel) j_Str_checkIndex rfl
