section
-- ===== PART A: goes FIRST, ahead of the names: the tables' words, and 'selects' of the private methods out of them =====
/-- a private method of a class that the tables say can be made, by its rows of tables_1 -/
def lw_okq (q : MethodName × Nat) : Prop := (q.1.cls ≠ "java/lang/invoke/MethodHandle" ∧ q.1.cls ≠ "java/lang/invoke/VarHandle") ∧ Cond.instantiable q.1.cls q.2 ∈ tables_1 ∧ Cond.privateMethod q.1 ∈ tables_1 ∧ Cond.instanceMethod q.1 ∈ tables_1
theorem lw_p0 : lw_okq (⟨"RecordBridge", "failed", "(I)I"⟩, 14) := ⟨⟨by decide +kernel, by decide +kernel⟩, List.mem_of_getElem? (i := 20) (by decide +kernel), List.mem_of_getElem? (i := 197) (by decide +kernel), List.mem_of_getElem? (i := 198) (by decide +kernel)⟩
theorem lw_p1 : lw_okq (⟨"RecordBridge", "lost", "(I)J"⟩, 14) := ⟨⟨by decide +kernel, by decide +kernel⟩, List.mem_of_getElem? (i := 20) (by decide +kernel), List.mem_of_getElem? (i := 296) (by decide +kernel), List.mem_of_getElem? (i := 297) (by decide +kernel)⟩
theorem lw_p2 : lw_okq (⟨"RecordBridge", "freeTwin", "(LRecordBridge$Row;)I"⟩, 14) := ⟨⟨by decide +kernel, by decide +kernel⟩, List.mem_of_getElem? (i := 20) (by decide +kernel), List.mem_of_getElem? (i := 342) (by decide +kernel), List.mem_of_getElem? (i := 343) (by decide +kernel)⟩
theorem lw_p3 : lw_okq (⟨"RecordBridge", "newKind", "(ZI)I"⟩, 14) := ⟨⟨by decide +kernel, by decide +kernel⟩, List.mem_of_getElem? (i := 20) (by decide +kernel), List.mem_of_getElem? (i := 356) (by decide +kernel), List.mem_of_getElem? (i := 357) (by decide +kernel)⟩
theorem lw_p4 : lw_okq (⟨"RecordBridge", "findKind", "(I)LRecordBridge$Kind;"⟩, 14) := ⟨⟨by decide +kernel, by decide +kernel⟩, List.mem_of_getElem? (i := 20) (by decide +kernel), List.mem_of_getElem? (i := 440) (by decide +kernel), List.mem_of_getElem? (i := 441) (by decide +kernel)⟩
theorem lw_p5 : lw_okq (⟨"RecordBridge", "hasRoomForChange", "(LRecordBridge$Kind;I)Z"⟩, 14) := ⟨⟨by decide +kernel, by decide +kernel⟩, List.mem_of_getElem? (i := 20) (by decide +kernel), List.mem_of_getElem? (i := 478) (by decide +kernel), List.mem_of_getElem? (i := 479) (by decide +kernel)⟩
theorem lw_p6 : lw_okq (⟨"RecordBridge$Edition", "exchange", "(II)V"⟩, 5) := ⟨⟨by decide +kernel, by decide +kernel⟩, List.mem_of_getElem? (i := 366) (by decide +kernel), List.mem_of_getElem? (i := 513) (by decide +kernel), List.mem_of_getElem? (i := 514) (by decide +kernel)⟩
theorem lw_p7 : lw_okq (⟨"RecordBridge", "addConstant", "(LRecordBridge$Kind;I)V"⟩, 14) := ⟨⟨by decide +kernel, by decide +kernel⟩, List.mem_of_getElem? (i := 20) (by decide +kernel), List.mem_of_getElem? (i := 525) (by decide +kernel), List.mem_of_getElem? (i := 526) (by decide +kernel)⟩
theorem lw_p8 : lw_okq (⟨"RecordBridge", "start", "(LRecordBridge$Kind;)V"⟩, 14) := ⟨⟨by decide +kernel, by decide +kernel⟩, List.mem_of_getElem? (i := 20) (by decide +kernel), List.mem_of_getElem? (i := 618) (by decide +kernel), List.mem_of_getElem? (i := 619) (by decide +kernel)⟩
theorem lw_p9 : lw_okq (⟨"RecordBridge", "leaveTrace", "(I)V"⟩, 14) := ⟨⟨by decide +kernel, by decide +kernel⟩, List.mem_of_getElem? (i := 20) (by decide +kernel), List.mem_of_getElem? (i := 622) (by decide +kernel), List.mem_of_getElem? (i := 623) (by decide +kernel)⟩
theorem lw_p10 : lw_okq (⟨"RecordBridge", "finish", "(LRecordBridge$Kind;)I"⟩, 14) := ⟨⟨by decide +kernel, by decide +kernel⟩, List.mem_of_getElem? (i := 20) (by decide +kernel), List.mem_of_getElem? (i := 642) (by decide +kernel), List.mem_of_getElem? (i := 643) (by decide +kernel)⟩
theorem lw_p11 : lw_okq (⟨"RecordBridge$Draft", "rowOf", "(LRecordBridge$Edition;I)LRecordBridge$Row;"⟩, 4) := ⟨⟨by decide +kernel, by decide +kernel⟩, List.mem_of_getElem? (i := 68) (by decide +kernel), List.mem_of_getElem? (i := 650) (by decide +kernel), List.mem_of_getElem? (i := 651) (by decide +kernel)⟩
theorem lw_p12 : lw_okq (⟨"RecordBridge$Draft", "isFalling", "(LRecordBridge$Edition;)Z"⟩, 4) := ⟨⟨by decide +kernel, by decide +kernel⟩, List.mem_of_getElem? (i := 68) (by decide +kernel), List.mem_of_getElem? (i := 662) (by decide +kernel), List.mem_of_getElem? (i := 663) (by decide +kernel)⟩
theorem lw_p13 : lw_okq (⟨"RecordBridge$Draft", "exchange", "(LRecordBridge$Edition;)V"⟩, 4) := ⟨⟨by decide +kernel, by decide +kernel⟩, List.mem_of_getElem? (i := 68) (by decide +kernel), List.mem_of_getElem? (i := 669) (by decide +kernel), List.mem_of_getElem? (i := 670) (by decide +kernel)⟩
theorem lw_p14 : lw_okq (⟨"RecordBridge$Draft", "hasEveryPart", "(LRecordBridge$Edition;)Z"⟩, 4) := ⟨⟨by decide +kernel, by decide +kernel⟩, List.mem_of_getElem? (i := 68) (by decide +kernel), List.mem_of_getElem? (i := 674) (by decide +kernel), List.mem_of_getElem? (i := 675) (by decide +kernel)⟩
theorem lw_p15 : lw_okq (⟨"RecordBridge$Draft", "measureThing", "(J)V"⟩, 4) := ⟨⟨by decide +kernel, by decide +kernel⟩, List.mem_of_getElem? (i := 68) (by decide +kernel), List.mem_of_getElem? (i := 684) (by decide +kernel), List.mem_of_getElem? (i := 685) (by decide +kernel)⟩
def lw_privs_1 : List (MethodName × Nat) := [(⟨"RecordBridge", "failed", "(I)I"⟩, 14), (⟨"RecordBridge", "lost", "(I)J"⟩, 14), (⟨"RecordBridge", "freeTwin", "(LRecordBridge$Row;)I"⟩, 14), (⟨"RecordBridge", "newKind", "(ZI)I"⟩, 14), (⟨"RecordBridge", "findKind", "(I)LRecordBridge$Kind;"⟩, 14), (⟨"RecordBridge", "hasRoomForChange", "(LRecordBridge$Kind;I)Z"⟩, 14), (⟨"RecordBridge$Edition", "exchange", "(II)V"⟩, 5), (⟨"RecordBridge", "addConstant", "(LRecordBridge$Kind;I)V"⟩, 14), (⟨"RecordBridge", "start", "(LRecordBridge$Kind;)V"⟩, 14), (⟨"RecordBridge", "leaveTrace", "(I)V"⟩, 14), (⟨"RecordBridge", "finish", "(LRecordBridge$Kind;)I"⟩, 14), (⟨"RecordBridge$Draft", "rowOf", "(LRecordBridge$Edition;I)LRecordBridge$Row;"⟩, 4), (⟨"RecordBridge$Draft", "isFalling", "(LRecordBridge$Edition;)Z"⟩, 4), (⟨"RecordBridge$Draft", "exchange", "(LRecordBridge$Edition;)V"⟩, 4), (⟨"RecordBridge$Draft", "hasEveryPart", "(LRecordBridge$Edition;)Z"⟩, 4), (⟨"RecordBridge$Draft", "measureThing", "(J)V"⟩, 4)]
theorem lw_r1 : ∀ q ∈ lw_privs_1, lw_okq q := List.forall_mem_cons.mpr ⟨lw_p0, List.forall_mem_cons.mpr ⟨lw_p1, List.forall_mem_cons.mpr ⟨lw_p2, List.forall_mem_cons.mpr ⟨lw_p3, List.forall_mem_cons.mpr ⟨lw_p4, List.forall_mem_cons.mpr ⟨lw_p5, List.forall_mem_cons.mpr ⟨lw_p6, List.forall_mem_cons.mpr ⟨lw_p7, List.forall_mem_cons.mpr ⟨lw_p8, List.forall_mem_cons.mpr ⟨lw_p9, List.forall_mem_cons.mpr ⟨lw_p10, List.forall_mem_cons.mpr ⟨lw_p11, List.forall_mem_cons.mpr ⟨lw_p12, List.forall_mem_cons.mpr ⟨lw_p13, List.forall_mem_cons.mpr ⟨lw_p14, List.forall_mem_cons.mpr ⟨lw_p15, fun _ h => absurd h List.not_mem_nil⟩⟩⟩⟩⟩⟩⟩⟩⟩⟩⟩⟩⟩⟩⟩⟩
theorem lw_p16 : lw_okq (⟨"RecordBridge$Comparer", "compareParts", "(LRecordBridge$Value;LRecordBridge$Value;)I"⟩, 1) := ⟨⟨by decide +kernel, by decide +kernel⟩, List.mem_of_getElem? (i := 89) (by decide +kernel), List.mem_of_getElem? (i := 755) (by decide +kernel), List.mem_of_getElem? (i := 756) (by decide +kernel)⟩
theorem lw_p17 : lw_okq (⟨"RecordBridge$Comparer", "compareAny", "(IJJ)I"⟩, 1) := ⟨⟨by decide +kernel, by decide +kernel⟩, List.mem_of_getElem? (i := 89) (by decide +kernel), List.mem_of_getElem? (i := 759) (by decide +kernel), List.mem_of_getElem? (i := 760) (by decide +kernel)⟩
theorem lw_p18 : lw_okq (⟨"RecordBridge$Comparer", "compareRows", "(LRecordBridge$Row;LRecordBridge$Row;)I"⟩, 1) := ⟨⟨by decide +kernel, by decide +kernel⟩, List.mem_of_getElem? (i := 89) (by decide +kernel), List.mem_of_getElem? (i := 766) (by decide +kernel), List.mem_of_getElem? (i := 767) (by decide +kernel)⟩
theorem lw_p19 : lw_okq (⟨"RecordBridge$Comparer", "hashAny", "(IJ)I"⟩, 1) := ⟨⟨by decide +kernel, by decide +kernel⟩, List.mem_of_getElem? (i := 89) (by decide +kernel), List.mem_of_getElem? (i := 786) (by decide +kernel), List.mem_of_getElem? (i := 787) (by decide +kernel)⟩
theorem lw_p20 : lw_okq (⟨"RecordBridge$Comparer", "hashRow", "(LRecordBridge$Row;)I"⟩, 1) := ⟨⟨by decide +kernel, by decide +kernel⟩, List.mem_of_getElem? (i := 89) (by decide +kernel), List.mem_of_getElem? (i := 791) (by decide +kernel), List.mem_of_getElem? (i := 792) (by decide +kernel)⟩
theorem lw_p21 : lw_okq (⟨"RecordBridge", "weigh", "(LRecordBridge$Value;)I"⟩, 14) := ⟨⟨by decide +kernel, by decide +kernel⟩, List.mem_of_getElem? (i := 20) (by decide +kernel), List.mem_of_getElem? (i := 802) (by decide +kernel), List.mem_of_getElem? (i := 803) (by decide +kernel)⟩
theorem lw_p22 : lw_okq (⟨"RecordBridge", "weighConstant", "(LRecordBridge$Value;)I"⟩, 14) := ⟨⟨by decide +kernel, by decide +kernel⟩, List.mem_of_getElem? (i := 20) (by decide +kernel), List.mem_of_getElem? (i := 806) (by decide +kernel), List.mem_of_getElem? (i := 807) (by decide +kernel)⟩
theorem lw_p23 : lw_okq (⟨"RecordBridge", "weighFirstBody", "(LRecordBridge$Value;)I"⟩, 14) := ⟨⟨by decide +kernel, by decide +kernel⟩, List.mem_of_getElem? (i := 20) (by decide +kernel), List.mem_of_getElem? (i := 810) (by decide +kernel), List.mem_of_getElem? (i := 811) (by decide +kernel)⟩
theorem lw_p24 : lw_okq (⟨"RecordBridge", "weighSecondBody", "(LRecordBridge$Value;)I"⟩, 14) := ⟨⟨by decide +kernel, by decide +kernel⟩, List.mem_of_getElem? (i := 20) (by decide +kernel), List.mem_of_getElem? (i := 814) (by decide +kernel), List.mem_of_getElem? (i := 815) (by decide +kernel)⟩
theorem lw_p25 : lw_okq (⟨"RecordBridge", "weighLastBody", "(LRecordBridge$Value;)I"⟩, 14) := ⟨⟨by decide +kernel, by decide +kernel⟩, List.mem_of_getElem? (i := 20) (by decide +kernel), List.mem_of_getElem? (i := 818) (by decide +kernel), List.mem_of_getElem? (i := 819) (by decide +kernel)⟩
theorem lw_p26 : lw_okq (⟨"RecordBridge", "weighRecord", "(LRecordBridge$Value;)I"⟩, 14) := ⟨⟨by decide +kernel, by decide +kernel⟩, List.mem_of_getElem? (i := 20) (by decide +kernel), List.mem_of_getElem? (i := 822) (by decide +kernel), List.mem_of_getElem? (i := 823) (by decide +kernel)⟩
theorem lw_p27 : lw_okq (⟨"RecordBridge", "weighLent", "()I"⟩, 14) := ⟨⟨by decide +kernel, by decide +kernel⟩, List.mem_of_getElem? (i := 20) (by decide +kernel), List.mem_of_getElem? (i := 826) (by decide +kernel), List.mem_of_getElem? (i := 827) (by decide +kernel)⟩
theorem lw_p28 : lw_okq (⟨"RecordBridge$Scribe", "writeValue", "(LRecordBridge$Value;)V"⟩, 3) := ⟨⟨by decide +kernel, by decide +kernel⟩, List.mem_of_getElem? (i := 99) (by decide +kernel), List.mem_of_getElem? (i := 842) (by decide +kernel), List.mem_of_getElem? (i := 843) (by decide +kernel)⟩
theorem lw_p29 : lw_okq (⟨"RecordBridge$Scribe", "writeRecord", "(LRecordBridge$Value;)V"⟩, 3) := ⟨⟨by decide +kernel, by decide +kernel⟩, List.mem_of_getElem? (i := 99) (by decide +kernel), List.mem_of_getElem? (i := 857) (by decide +kernel), List.mem_of_getElem? (i := 858) (by decide +kernel)⟩
theorem lw_p30 : lw_okq (⟨"RecordBridge$Scribe", "writeAny", "(IJ)V"⟩, 3) := ⟨⟨by decide +kernel, by decide +kernel⟩, List.mem_of_getElem? (i := 99) (by decide +kernel), List.mem_of_getElem? (i := 861) (by decide +kernel), List.mem_of_getElem? (i := 862) (by decide +kernel)⟩
theorem lw_p31 : lw_okq (⟨"RecordBridge$Scribe", "writeRow", "(LRecordBridge$Row;)V"⟩, 3) := ⟨⟨by decide +kernel, by decide +kernel⟩, List.mem_of_getElem? (i := 99) (by decide +kernel), List.mem_of_getElem? (i := 867) (by decide +kernel), List.mem_of_getElem? (i := 868) (by decide +kernel)⟩
def lw_privs_2 : List (MethodName × Nat) := [(⟨"RecordBridge$Comparer", "compareParts", "(LRecordBridge$Value;LRecordBridge$Value;)I"⟩, 1), (⟨"RecordBridge$Comparer", "compareAny", "(IJJ)I"⟩, 1), (⟨"RecordBridge$Comparer", "compareRows", "(LRecordBridge$Row;LRecordBridge$Row;)I"⟩, 1), (⟨"RecordBridge$Comparer", "hashAny", "(IJ)I"⟩, 1), (⟨"RecordBridge$Comparer", "hashRow", "(LRecordBridge$Row;)I"⟩, 1), (⟨"RecordBridge", "weigh", "(LRecordBridge$Value;)I"⟩, 14), (⟨"RecordBridge", "weighConstant", "(LRecordBridge$Value;)I"⟩, 14), (⟨"RecordBridge", "weighFirstBody", "(LRecordBridge$Value;)I"⟩, 14), (⟨"RecordBridge", "weighSecondBody", "(LRecordBridge$Value;)I"⟩, 14), (⟨"RecordBridge", "weighLastBody", "(LRecordBridge$Value;)I"⟩, 14), (⟨"RecordBridge", "weighRecord", "(LRecordBridge$Value;)I"⟩, 14), (⟨"RecordBridge", "weighLent", "()I"⟩, 14), (⟨"RecordBridge$Scribe", "writeValue", "(LRecordBridge$Value;)V"⟩, 3), (⟨"RecordBridge$Scribe", "writeRecord", "(LRecordBridge$Value;)V"⟩, 3), (⟨"RecordBridge$Scribe", "writeAny", "(IJ)V"⟩, 3), (⟨"RecordBridge$Scribe", "writeRow", "(LRecordBridge$Row;)V"⟩, 3)]
theorem lw_r2 : ∀ q ∈ lw_privs_2, lw_okq q := List.forall_mem_cons.mpr ⟨lw_p16, List.forall_mem_cons.mpr ⟨lw_p17, List.forall_mem_cons.mpr ⟨lw_p18, List.forall_mem_cons.mpr ⟨lw_p19, List.forall_mem_cons.mpr ⟨lw_p20, List.forall_mem_cons.mpr ⟨lw_p21, List.forall_mem_cons.mpr ⟨lw_p22, List.forall_mem_cons.mpr ⟨lw_p23, List.forall_mem_cons.mpr ⟨lw_p24, List.forall_mem_cons.mpr ⟨lw_p25, List.forall_mem_cons.mpr ⟨lw_p26, List.forall_mem_cons.mpr ⟨lw_p27, List.forall_mem_cons.mpr ⟨lw_p28, List.forall_mem_cons.mpr ⟨lw_p29, List.forall_mem_cons.mpr ⟨lw_p30, List.forall_mem_cons.mpr ⟨lw_p31, fun _ h => absurd h List.not_mem_nil⟩⟩⟩⟩⟩⟩⟩⟩⟩⟩⟩⟩⟩⟩⟩⟩
theorem lw_p32 : lw_okq (⟨"RecordBridgeModel", "fails", "(I)I"⟩, 46) := ⟨⟨by decide +kernel, by decide +kernel⟩, List.mem_of_getElem? (i := 898) (by decide +kernel), List.mem_of_getElem? (i := 1050) (by decide +kernel), List.mem_of_getElem? (i := 1051) (by decide +kernel)⟩
theorem lw_p33 : lw_okq (⟨"RecordBridgeModel", "newRow", "(II)I"⟩, 46) := ⟨⟨by decide +kernel, by decide +kernel⟩, List.mem_of_getElem? (i := 898) (by decide +kernel), List.mem_of_getElem? (i := 1054) (by decide +kernel), List.mem_of_getElem? (i := 1055) (by decide +kernel)⟩
theorem lw_p34 : lw_okq (⟨"RecordBridgeModel", "isRow", "(I)Z"⟩, 46) := ⟨⟨by decide +kernel, by decide +kernel⟩, List.mem_of_getElem? (i := 898) (by decide +kernel), List.mem_of_getElem? (i := 1063) (by decide +kernel), List.mem_of_getElem? (i := 1064) (by decide +kernel)⟩
theorem lw_p35 : lw_okq (⟨"RecordBridgeModel", "failsLong", "(I)J"⟩, 46) := ⟨⟨by decide +kernel, by decide +kernel⟩, List.mem_of_getElem? (i := 898) (by decide +kernel), List.mem_of_getElem? (i := 1108) (by decide +kernel), List.mem_of_getElem? (i := 1109) (by decide +kernel)⟩
theorem lw_p36 : lw_okq (⟨"RecordBridgeModel", "isValue", "(I)Z"⟩, 46) := ⟨⟨by decide +kernel, by decide +kernel⟩, List.mem_of_getElem? (i := 898) (by decide +kernel), List.mem_of_getElem? (i := 1116) (by decide +kernel), List.mem_of_getElem? (i := 1117) (by decide +kernel)⟩
theorem lw_p37 : lw_okq (⟨"RecordBridgeModel", "twinOf", "(I)I"⟩, 46) := ⟨⟨by decide +kernel, by decide +kernel⟩, List.mem_of_getElem? (i := 898) (by decide +kernel), List.mem_of_getElem? (i := 1139) (by decide +kernel), List.mem_of_getElem? (i := 1140) (by decide +kernel)⟩
theorem lw_p38 : lw_okq (⟨"RecordBridgeModel", "newKind", "(ZI)I"⟩, 46) := ⟨⟨by decide +kernel, by decide +kernel⟩, List.mem_of_getElem? (i := 898) (by decide +kernel), List.mem_of_getElem? (i := 1147) (by decide +kernel), List.mem_of_getElem? (i := 1148) (by decide +kernel)⟩
theorem lw_p39 : lw_okq (⟨"RecordBridgeModel", "isKind", "(I)Z"⟩, 46) := ⟨⟨by decide +kernel, by decide +kernel⟩, List.mem_of_getElem? (i := 898) (by decide +kernel), List.mem_of_getElem? (i := 1159) (by decide +kernel), List.mem_of_getElem? (i := 1160) (by decide +kernel)⟩
theorem lw_p40 : lw_okq (⟨"RecordBridgeModel", "placeOf", "(II)I"⟩, 46) := ⟨⟨by decide +kernel, by decide +kernel⟩, List.mem_of_getElem? (i := 898) (by decide +kernel), List.mem_of_getElem? (i := 1163) (by decide +kernel), List.mem_of_getElem? (i := 1164) (by decide +kernel)⟩
theorem lw_p41 : lw_okq (⟨"RecordBridgeModel", "newestOf", "(I)I"⟩, 46) := ⟨⟨by decide +kernel, by decide +kernel⟩, List.mem_of_getElem? (i := 898) (by decide +kernel), List.mem_of_getElem? (i := 1171) (by decide +kernel), List.mem_of_getElem? (i := 1172) (by decide +kernel)⟩
theorem lw_p42 : lw_okq (⟨"RecordBridgeModel", "newConstant", "(II)I"⟩, 46) := ⟨⟨by decide +kernel, by decide +kernel⟩, List.mem_of_getElem? (i := 898) (by decide +kernel), List.mem_of_getElem? (i := 1175) (by decide +kernel), List.mem_of_getElem? (i := 1176) (by decide +kernel)⟩
theorem lw_p43 : lw_okq (⟨"RecordBridgeModel", "newValue", "(I)I"⟩, 46) := ⟨⟨by decide +kernel, by decide +kernel⟩, List.mem_of_getElem? (i := 898) (by decide +kernel), List.mem_of_getElem? (i := 1179) (by decide +kernel), List.mem_of_getElem? (i := 1180) (by decide +kernel)⟩
theorem lw_p44 : lw_okq (⟨"RecordBridgeModel", "starts", "(I)Z"⟩, 46) := ⟨⟨by decide +kernel, by decide +kernel⟩, List.mem_of_getElem? (i := 898) (by decide +kernel), List.mem_of_getElem? (i := 1203) (by decide +kernel), List.mem_of_getElem? (i := 1204) (by decide +kernel)⟩
theorem lw_p45 : lw_okq (⟨"RecordBridgeModel", "traced", "(I)V"⟩, 46) := ⟨⟨by decide +kernel, by decide +kernel⟩, List.mem_of_getElem? (i := 898) (by decide +kernel), List.mem_of_getElem? (i := 1207) (by decide +kernel), List.mem_of_getElem? (i := 1208) (by decide +kernel)⟩
theorem lw_p46 : lw_okq (⟨"RecordBridgeModel", "finish", "(I)I"⟩, 46) := ⟨⟨by decide +kernel, by decide +kernel⟩, List.mem_of_getElem? (i := 898) (by decide +kernel), List.mem_of_getElem? (i := 1211) (by decide +kernel), List.mem_of_getElem? (i := 1212) (by decide +kernel)⟩
theorem lw_p47 : lw_okq (⟨"RecordBridgeModel", "isTwinned", "(II)Z"⟩, 46) := ⟨⟨by decide +kernel, by decide +kernel⟩, List.mem_of_getElem? (i := 898) (by decide +kernel), List.mem_of_getElem? (i := 1215) (by decide +kernel), List.mem_of_getElem? (i := 1216) (by decide +kernel)⟩
def lw_privs_3 : List (MethodName × Nat) := [(⟨"RecordBridgeModel", "fails", "(I)I"⟩, 46), (⟨"RecordBridgeModel", "newRow", "(II)I"⟩, 46), (⟨"RecordBridgeModel", "isRow", "(I)Z"⟩, 46), (⟨"RecordBridgeModel", "failsLong", "(I)J"⟩, 46), (⟨"RecordBridgeModel", "isValue", "(I)Z"⟩, 46), (⟨"RecordBridgeModel", "twinOf", "(I)I"⟩, 46), (⟨"RecordBridgeModel", "newKind", "(ZI)I"⟩, 46), (⟨"RecordBridgeModel", "isKind", "(I)Z"⟩, 46), (⟨"RecordBridgeModel", "placeOf", "(II)I"⟩, 46), (⟨"RecordBridgeModel", "newestOf", "(I)I"⟩, 46), (⟨"RecordBridgeModel", "newConstant", "(II)I"⟩, 46), (⟨"RecordBridgeModel", "newValue", "(I)I"⟩, 46), (⟨"RecordBridgeModel", "starts", "(I)Z"⟩, 46), (⟨"RecordBridgeModel", "traced", "(I)V"⟩, 46), (⟨"RecordBridgeModel", "finish", "(I)I"⟩, 46), (⟨"RecordBridgeModel", "isTwinned", "(II)Z"⟩, 46)]
theorem lw_r3 : ∀ q ∈ lw_privs_3, lw_okq q := List.forall_mem_cons.mpr ⟨lw_p32, List.forall_mem_cons.mpr ⟨lw_p33, List.forall_mem_cons.mpr ⟨lw_p34, List.forall_mem_cons.mpr ⟨lw_p35, List.forall_mem_cons.mpr ⟨lw_p36, List.forall_mem_cons.mpr ⟨lw_p37, List.forall_mem_cons.mpr ⟨lw_p38, List.forall_mem_cons.mpr ⟨lw_p39, List.forall_mem_cons.mpr ⟨lw_p40, List.forall_mem_cons.mpr ⟨lw_p41, List.forall_mem_cons.mpr ⟨lw_p42, List.forall_mem_cons.mpr ⟨lw_p43, List.forall_mem_cons.mpr ⟨lw_p44, List.forall_mem_cons.mpr ⟨lw_p45, List.forall_mem_cons.mpr ⟨lw_p46, List.forall_mem_cons.mpr ⟨lw_p47, fun _ h => absurd h List.not_mem_nil⟩⟩⟩⟩⟩⟩⟩⟩⟩⟩⟩⟩⟩⟩⟩⟩
theorem lw_p48 : lw_okq (⟨"RecordBridgeModel", "breaks", "(II)Z"⟩, 46) := ⟨⟨by decide +kernel, by decide +kernel⟩, List.mem_of_getElem? (i := 898) (by decide +kernel), List.mem_of_getElem? (i := 1219) (by decide +kernel), List.mem_of_getElem? (i := 1220) (by decide +kernel)⟩
theorem lw_p49 : lw_okq (⟨"RecordBridgeModel", "counts", "(J)V"⟩, 46) := ⟨⟨by decide +kernel, by decide +kernel⟩, List.mem_of_getElem? (i := 898) (by decide +kernel), List.mem_of_getElem? (i := 1223) (by decide +kernel), List.mem_of_getElem? (i := 1224) (by decide +kernel)⟩
theorem lw_p50 : lw_okq (⟨"RecordBridgeModel", "isConstant", "(I)Z"⟩, 46) := ⟨⟨by decide +kernel, by decide +kernel⟩, List.mem_of_getElem? (i := 898) (by decide +kernel), List.mem_of_getElem? (i := 1235) (by decide +kernel), List.mem_of_getElem? (i := 1236) (by decide +kernel)⟩
theorem lw_p51 : lw_okq (⟨"RecordBridgeModel", "partsOf", "(I)I"⟩, 46) := ⟨⟨by decide +kernel, by decide +kernel⟩, List.mem_of_getElem? (i := 898) (by decide +kernel), List.mem_of_getElem? (i := 1239) (by decide +kernel), List.mem_of_getElem? (i := 1240) (by decide +kernel)⟩
theorem lw_p52 : lw_okq (⟨"RecordBridgeModel", "editionOf", "(I)I"⟩, 46) := ⟨⟨by decide +kernel, by decide +kernel⟩, List.mem_of_getElem? (i := 898) (by decide +kernel), List.mem_of_getElem? (i := 1243) (by decide +kernel), List.mem_of_getElem? (i := 1244) (by decide +kernel)⟩
theorem lw_p53 : lw_okq (⟨"RecordBridgeModel", "toldPart", "(II)J"⟩, 46) := ⟨⟨by decide +kernel, by decide +kernel⟩, List.mem_of_getElem? (i := 898) (by decide +kernel), List.mem_of_getElem? (i := 1247) (by decide +kernel), List.mem_of_getElem? (i := 1248) (by decide +kernel)⟩
theorem lw_p54 : lw_okq (⟨"RecordBridgeModel", "laneOf", "(II)I"⟩, 46) := ⟨⟨by decide +kernel, by decide +kernel⟩, List.mem_of_getElem? (i := 898) (by decide +kernel), List.mem_of_getElem? (i := 1251) (by decide +kernel), List.mem_of_getElem? (i := 1252) (by decide +kernel)⟩
theorem lw_p55 : lw_okq (⟨"RecordBridgeModel", "ordered", "(II)I"⟩, 46) := ⟨⟨by decide +kernel, by decide +kernel⟩, List.mem_of_getElem? (i := 898) (by decide +kernel), List.mem_of_getElem? (i := 1276) (by decide +kernel), List.mem_of_getElem? (i := 1277) (by decide +kernel)⟩
theorem lw_p56 : lw_okq (⟨"RecordBridgeModel", "meet", "(II)I"⟩, 46) := ⟨⟨by decide +kernel, by decide +kernel⟩, List.mem_of_getElem? (i := 898) (by decide +kernel), List.mem_of_getElem? (i := 1280) (by decide +kernel), List.mem_of_getElem? (i := 1281) (by decide +kernel)⟩
theorem lw_p57 : lw_okq (⟨"RecordBridgeModel", "push", "(II)V"⟩, 46) := ⟨⟨by decide +kernel, by decide +kernel⟩, List.mem_of_getElem? (i := 898) (by decide +kernel), List.mem_of_getElem? (i := 1287) (by decide +kernel), List.mem_of_getElem? (i := 1288) (by decide +kernel)⟩
theorem lw_p58 : lw_okq (⟨"RecordBridgeModel", "step", "()I"⟩, 46) := ⟨⟨by decide +kernel, by decide +kernel⟩, List.mem_of_getElem? (i := 898) (by decide +kernel), List.mem_of_getElem? (i := 1291) (by decide +kernel), List.mem_of_getElem? (i := 1292) (by decide +kernel)⟩
theorem lw_p59 : lw_okq (⟨"RecordBridgeModel", "numbers", "(II)I"⟩, 46) := ⟨⟨by decide +kernel, by decide +kernel⟩, List.mem_of_getElem? (i := 898) (by decide +kernel), List.mem_of_getElem? (i := 1301) (by decide +kernel), List.mem_of_getElem? (i := 1302) (by decide +kernel)⟩
theorem lw_p60 : lw_okq (⟨"RecordBridgeModel", "constantHash", "(I)I"⟩, 46) := ⟨⟨by decide +kernel, by decide +kernel⟩, List.mem_of_getElem? (i := 898) (by decide +kernel), List.mem_of_getElem? (i := 1313) (by decide +kernel), List.mem_of_getElem? (i := 1314) (by decide +kernel)⟩
theorem lw_p61 : lw_okq (⟨"RecordBridgeModel", "hashPart", "(I)V"⟩, 46) := ⟨⟨by decide +kernel, by decide +kernel⟩, List.mem_of_getElem? (i := 898) (by decide +kernel), List.mem_of_getElem? (i := 1317) (by decide +kernel), List.mem_of_getElem? (i := 1318) (by decide +kernel)⟩
theorem lw_p62 : lw_okq (⟨"RecordBridgeModel", "adds", "(I)V"⟩, 46) := ⟨⟨by decide +kernel, by decide +kernel⟩, List.mem_of_getElem? (i := 898) (by decide +kernel), List.mem_of_getElem? (i := 1324) (by decide +kernel), List.mem_of_getElem? (i := 1325) (by decide +kernel)⟩
theorem lw_p63 : lw_okq (⟨"RecordBridgeModel", "addsThing", "(I)V"⟩, 46) := ⟨⟨by decide +kernel, by decide +kernel⟩, List.mem_of_getElem? (i := 898) (by decide +kernel), List.mem_of_getElem? (i := 1328) (by decide +kernel), List.mem_of_getElem? (i := 1329) (by decide +kernel)⟩
def lw_privs_4 : List (MethodName × Nat) := [(⟨"RecordBridgeModel", "breaks", "(II)Z"⟩, 46), (⟨"RecordBridgeModel", "counts", "(J)V"⟩, 46), (⟨"RecordBridgeModel", "isConstant", "(I)Z"⟩, 46), (⟨"RecordBridgeModel", "partsOf", "(I)I"⟩, 46), (⟨"RecordBridgeModel", "editionOf", "(I)I"⟩, 46), (⟨"RecordBridgeModel", "toldPart", "(II)J"⟩, 46), (⟨"RecordBridgeModel", "laneOf", "(II)I"⟩, 46), (⟨"RecordBridgeModel", "ordered", "(II)I"⟩, 46), (⟨"RecordBridgeModel", "meet", "(II)I"⟩, 46), (⟨"RecordBridgeModel", "push", "(II)V"⟩, 46), (⟨"RecordBridgeModel", "step", "()I"⟩, 46), (⟨"RecordBridgeModel", "numbers", "(II)I"⟩, 46), (⟨"RecordBridgeModel", "constantHash", "(I)I"⟩, 46), (⟨"RecordBridgeModel", "hashPart", "(I)V"⟩, 46), (⟨"RecordBridgeModel", "adds", "(I)V"⟩, 46), (⟨"RecordBridgeModel", "addsThing", "(I)V"⟩, 46)]
theorem lw_r4 : ∀ q ∈ lw_privs_4, lw_okq q := List.forall_mem_cons.mpr ⟨lw_p48, List.forall_mem_cons.mpr ⟨lw_p49, List.forall_mem_cons.mpr ⟨lw_p50, List.forall_mem_cons.mpr ⟨lw_p51, List.forall_mem_cons.mpr ⟨lw_p52, List.forall_mem_cons.mpr ⟨lw_p53, List.forall_mem_cons.mpr ⟨lw_p54, List.forall_mem_cons.mpr ⟨lw_p55, List.forall_mem_cons.mpr ⟨lw_p56, List.forall_mem_cons.mpr ⟨lw_p57, List.forall_mem_cons.mpr ⟨lw_p58, List.forall_mem_cons.mpr ⟨lw_p59, List.forall_mem_cons.mpr ⟨lw_p60, List.forall_mem_cons.mpr ⟨lw_p61, List.forall_mem_cons.mpr ⟨lw_p62, List.forall_mem_cons.mpr ⟨lw_p63, fun _ h => absurd h List.not_mem_nil⟩⟩⟩⟩⟩⟩⟩⟩⟩⟩⟩⟩⟩⟩⟩⟩
theorem lw_p64 : lw_okq (⟨"RecordBridgeModel", "rowHash", "(I)I"⟩, 46) := ⟨⟨by decide +kernel, by decide +kernel⟩, List.mem_of_getElem? (i := 898) (by decide +kernel), List.mem_of_getElem? (i := 1332) (by decide +kernel), List.mem_of_getElem? (i := 1333) (by decide +kernel)⟩
theorem lw_p65 : lw_okq (⟨"RecordBridgeModel", "constantWeight", "(I)I"⟩, 46) := ⟨⟨by decide +kernel, by decide +kernel⟩, List.mem_of_getElem? (i := 898) (by decide +kernel), List.mem_of_getElem? (i := 1340) (by decide +kernel), List.mem_of_getElem? (i := 1341) (by decide +kernel)⟩
theorem lw_p66 : lw_okq (⟨"RecordBridgeModel", "recordWeight", "(I)I"⟩, 46) := ⟨⟨by decide +kernel, by decide +kernel⟩, List.mem_of_getElem? (i := 898) (by decide +kernel), List.mem_of_getElem? (i := 1344) (by decide +kernel), List.mem_of_getElem? (i := 1345) (by decide +kernel)⟩
theorem lw_p67 : lw_okq (⟨"RecordBridgeModel", "saysThing", "(I)V"⟩, 46) := ⟨⟨by decide +kernel, by decide +kernel⟩, List.mem_of_getElem? (i := 898) (by decide +kernel), List.mem_of_getElem? (i := 1352) (by decide +kernel), List.mem_of_getElem? (i := 1353) (by decide +kernel)⟩
theorem lw_p68 : lw_okq (⟨"RecordBridgeModel", "says", "(I)V"⟩, 46) := ⟨⟨by decide +kernel, by decide +kernel⟩, List.mem_of_getElem? (i := 898) (by decide +kernel), List.mem_of_getElem? (i := 1356) (by decide +kernel), List.mem_of_getElem? (i := 1357) (by decide +kernel)⟩
theorem lw_p69 : lw_okq (⟨"RecordBridgeModel", "saysNumber", "(J)V"⟩, 46) := ⟨⟨by decide +kernel, by decide +kernel⟩, List.mem_of_getElem? (i := 898) (by decide +kernel), List.mem_of_getElem? (i := 1360) (by decide +kernel), List.mem_of_getElem? (i := 1361) (by decide +kernel)⟩
theorem lw_p70 : lw_okq (⟨"RecordBridgeModel", "saysNext", "(I)V"⟩, 46) := ⟨⟨by decide +kernel, by decide +kernel⟩, List.mem_of_getElem? (i := 898) (by decide +kernel), List.mem_of_getElem? (i := 1366) (by decide +kernel), List.mem_of_getElem? (i := 1367) (by decide +kernel)⟩
theorem lw_p71 : lw_okq (⟨"RecordBridgeModel", "saysCell", "(IJ)V"⟩, 46) := ⟨⟨by decide +kernel, by decide +kernel⟩, List.mem_of_getElem? (i := 898) (by decide +kernel), List.mem_of_getElem? (i := 1370) (by decide +kernel), List.mem_of_getElem? (i := 1371) (by decide +kernel)⟩
theorem lw_p72 : lw_okq (⟨"RecordBridgeModel", "saysRow", "(I)V"⟩, 46) := ⟨⟨by decide +kernel, by decide +kernel⟩, List.mem_of_getElem? (i := 898) (by decide +kernel), List.mem_of_getElem? (i := 1374) (by decide +kernel), List.mem_of_getElem? (i := 1375) (by decide +kernel)⟩
def lw_privs_5 : List (MethodName × Nat) := [(⟨"RecordBridgeModel", "rowHash", "(I)I"⟩, 46), (⟨"RecordBridgeModel", "constantWeight", "(I)I"⟩, 46), (⟨"RecordBridgeModel", "recordWeight", "(I)I"⟩, 46), (⟨"RecordBridgeModel", "saysThing", "(I)V"⟩, 46), (⟨"RecordBridgeModel", "says", "(I)V"⟩, 46), (⟨"RecordBridgeModel", "saysNumber", "(J)V"⟩, 46), (⟨"RecordBridgeModel", "saysNext", "(I)V"⟩, 46), (⟨"RecordBridgeModel", "saysCell", "(IJ)V"⟩, 46), (⟨"RecordBridgeModel", "saysRow", "(I)V"⟩, 46)]
theorem lw_r5 : ∀ q ∈ lw_privs_5, lw_okq q := List.forall_mem_cons.mpr ⟨lw_p64, List.forall_mem_cons.mpr ⟨lw_p65, List.forall_mem_cons.mpr ⟨lw_p66, List.forall_mem_cons.mpr ⟨lw_p67, List.forall_mem_cons.mpr ⟨lw_p68, List.forall_mem_cons.mpr ⟨lw_p69, List.forall_mem_cons.mpr ⟨lw_p70, List.forall_mem_cons.mpr ⟨lw_p71, List.forall_mem_cons.mpr ⟨lw_p72, fun _ h => absurd h List.not_mem_nil⟩⟩⟩⟩⟩⟩⟩⟩⟩
def lw_privs : List (MethodName × Nat) := lw_privs_1 ++ (lw_privs_2 ++ (lw_privs_3 ++ (lw_privs_4 ++ (lw_privs_5))))
def lw_tbl : List Cond := k2_sels lw_privs ++ tables_1
theorem lw_privs_ok : ∀ q ∈ lw_privs, lw_okq q := by
  show ∀ q ∈ lw_privs_1 ++ (lw_privs_2 ++ (lw_privs_3 ++ (lw_privs_4 ++ (lw_privs_5)))), lw_okq q
  exact List.forall_mem_append.mpr ⟨lw_r1, List.forall_mem_append.mpr ⟨lw_r2, List.forall_mem_append.mpr ⟨lw_r3, List.forall_mem_append.mpr ⟨lw_r4, lw_r5⟩⟩⟩⟩
/-- the streams that the claim lets the run draw from -/
abbrev lw_cs : List Choice := [Jvm.Choice.named "NaN.bits", Jvm.Choice.named "NaN.copy"]
theorem lw_bits : nanBits ∈ lw_cs := by first | decide | exact List.mem_cons_self | simp [lw_cs, nanBits]
end
section
def RX0 : String := "RecordBridge$Comparer"
def TX0 : u_T := fun k => match k with
  | _ => ("RecordBridge$Comparer", "store", "LRecordBridge$Store;", true)
def tyX0 : Nat → FieldType := fun k => match k with
  | _ => .object "RecordBridge$Store"
abbrev wsX00 : List Cond := u_ws RX0 TX0 1
theorem nmX0 : ∀ a, a < 1 → ∀ b, b < 1 → a ≠ b → (TX0 a).2.1 ≠ (TX0 b).2.1 := by decide +kernel
theorem tyX0_ok : ∀ k, k < 1 → parseFieldDescriptor (TX0 k).2.2.1 = some (tyX0 k) := by decide +kernel
abbrev cX0_init : ByteArray := prog_2_method_1_code
def yX0_init : MethodName := ⟨RX0, "<init>", "(LRecordBridge$Store;)V"⟩
abbrev cX0_compareValues : ByteArray := prog_2_method_2_code
def yX0_compareValues : MethodName := ⟨RX0, "compareValues", "(LRecordBridge$Value;LRecordBridge$Value;)I"⟩
abbrev cX0_hashValue : ByteArray := prog_2_method_3_code
def yX0_hashValue : MethodName := ⟨RX0, "hashValue", "(LRecordBridge$Value;)I"⟩
abbrev cX0_compareParts : ByteArray := prog_2_method_4_code
def yX0_compareParts : MethodName := ⟨RX0, "compareParts", "(LRecordBridge$Value;LRecordBridge$Value;)I"⟩
abbrev cX0_compareAny : ByteArray := prog_2_method_5_code
def yX0_compareAny : MethodName := ⟨RX0, "compareAny", "(IJJ)I"⟩
abbrev cX0_compareRows : ByteArray := prog_2_method_6_code
def yX0_compareRows : MethodName := ⟨RX0, "compareRows", "(LRecordBridge$Row;LRecordBridge$Row;)I"⟩
abbrev cX0_hashAny : ByteArray := prog_2_method_7_code
def yX0_hashAny : MethodName := ⟨RX0, "hashAny", "(IJ)I"⟩
abbrev cX0_hashRow : ByteArray := prog_2_method_8_code
def yX0_hashRow : MethodName := ⟨RX0, "hashRow", "(LRecordBridge$Row;)I"⟩
abbrev cX0_lesserFirst : ByteArray := prog_2_method_9_code
def yX0_lesserFirst : MethodName := ⟨RX0, "lesserFirst", "(JJ)I"⟩
abbrev cX0_nothingFirst : ByteArray := prog_2_method_10_code
def yX0_nothingFirst : MethodName := ⟨RX0, "nothingFirst", "(ZZ)I"⟩
def RX1 : String := "RecordBridge$Draft"
def TX1 : u_T := fun k => match k with
  | 0 => ("RecordBridge$Draft", "store", "LRecordBridge$Store;", true)
  | 1 => ("RecordBridge$Draft", "parts", "[J", true)
  | 2 => ("RecordBridge$Draft", "size", "I", false)
  | _ => ("RecordBridge$Draft", "deep", "I", false)
def tyX1 : Nat → FieldType := fun k => match k with
  | 0 => .object "RecordBridge$Store"
  | 1 => .array .long
  | 2 => .int
  | _ => .int
abbrev wsX10 : List Cond := u_ws RX1 TX1 4
theorem nmX1 : ∀ a, a < 4 → ∀ b, b < 4 → a ≠ b → (TX1 a).2.1 ≠ (TX1 b).2.1 := by decide +kernel
theorem tyX1_ok : ∀ k, k < 4 → parseFieldDescriptor (TX1 k).2.2.1 = some (tyX1 k) := by decide +kernel
abbrev cX1_init : ByteArray := prog_3_method_1_code
def yX1_init : MethodName := ⟨RX1, "<init>", "(LRecordBridge$Store;)V"⟩
abbrev cX1_takeTray : ByteArray := prog_3_method_2_code
def yX1_takeTray : MethodName := ⟨RX1, "takeTray", "(LRecordBridge$Tray;LRecordBridge$Edition;)I"⟩
abbrev cX1_takeValue : ByteArray := prog_3_method_3_code
def yX1_takeValue : MethodName := ⟨RX1, "takeValue", "(LRecordBridge$Value;LRecordBridge$Edition;)I"⟩
abbrev cX1_countTwins : ByteArray := prog_3_method_4_code
def yX1_countTwins : MethodName := ⟨RX1, "countTwins", "(LRecordBridge$Edition;I)I"⟩
abbrev cX1_obeys : ByteArray := prog_3_method_5_code
def yX1_obeys : MethodName := ⟨RX1, "obeys", "(LRecordBridge$Edition;I)Z"⟩
abbrev cX1_measure : ByteArray := prog_3_method_6_code
def yX1_measure : MethodName := ⟨RX1, "measure", "(LRecordBridge$Edition;)V"⟩
abbrev cX1_settle : ByteArray := prog_3_method_7_code
def yX1_settle : MethodName := ⟨RX1, "settle", "(LRecordBridge$Edition;I)[J"⟩
abbrev cX1_rowOf : ByteArray := prog_3_method_8_code
def yX1_rowOf : MethodName := ⟨RX1, "rowOf", "(LRecordBridge$Edition;I)LRecordBridge$Row;"⟩
abbrev cX1_needsTwin : ByteArray := prog_3_method_9_code
def yX1_needsTwin : MethodName := ⟨RX1, "needsTwin", "(LRecordBridge$Row;I)Z"⟩
abbrev cX1_isFalling : ByteArray := prog_3_method_10_code
def yX1_isFalling : MethodName := ⟨RX1, "isFalling", "(LRecordBridge$Edition;)Z"⟩
abbrev cX1_exchange : ByteArray := prog_3_method_11_code
def yX1_exchange : MethodName := ⟨RX1, "exchange", "(LRecordBridge$Edition;)V"⟩
abbrev cX1_hasEveryPart : ByteArray := prog_3_method_12_code
def yX1_hasEveryPart : MethodName := ⟨RX1, "hasEveryPart", "(LRecordBridge$Edition;)Z"⟩
abbrev cX1_measureThing : ByteArray := prog_3_method_13_code
def yX1_measureThing : MethodName := ⟨RX1, "measureThing", "(J)V"⟩
def RX2 : String := "RecordBridge$Edition"
def TX2 : u_T := fun k => match k with
  | 0 => ("RecordBridge$Edition", "number", "I", true)
  | 1 => ("RecordBridge$Edition", "labels", "[I", true)
  | 2 => ("RecordBridge$Edition", "lanes", "[I", true)
  | 3 => ("RecordBridge$Edition", "members", "[I", true)
  | _ => ("RecordBridge$Edition", "count", "I", false)
def tyX2 : Nat → FieldType := fun k => match k with
  | 0 => .int
  | 1 => .array .int
  | 2 => .array .int
  | 3 => .array .int
  | _ => .int
abbrev wsX20 : List Cond := u_ws RX2 TX2 5
theorem nmX2 : ∀ a, a < 5 → ∀ b, b < 5 → a ≠ b → (TX2 a).2.1 ≠ (TX2 b).2.1 := by decide +kernel
theorem tyX2_ok : ∀ k, k < 5 → parseFieldDescriptor (TX2 k).2.2.1 = some (tyX2 k) := by decide +kernel
abbrev cX2_init : ByteArray := prog_4_method_1_code
def yX2_init : MethodName := ⟨RX2, "<init>", "(II)V"⟩
abbrev cX2_init_ : ByteArray := prog_4_method_2_code
def yX2_init_ : MethodName := ⟨RX2, "<init>", "(ILRecordBridge$Edition;)V"⟩
abbrev cX2_isFull : ByteArray := prog_4_method_3_code
def yX2_isFull : MethodName := ⟨RX2, "isFull", "()Z"⟩
abbrev cX2_find : ByteArray := prog_4_method_4_code
def yX2_find : MethodName := ⟨RX2, "find", "(I)I"⟩
abbrev cX2_add : ByteArray := prog_4_method_5_code
def yX2_add : MethodName := ⟨RX2, "add", "(II)V"⟩
abbrev cX2_drop : ByteArray := prog_4_method_6_code
def yX2_drop : MethodName := ⟨RX2, "drop", "(I)V"⟩
abbrev cX2_changeLane : ByteArray := prog_4_method_7_code
def yX2_changeLane : MethodName := ⟨RX2, "changeLane", "(II)V"⟩
abbrev cX2_reverse : ByteArray := prog_4_method_8_code
def yX2_reverse : MethodName := ⟨RX2, "reverse", "()V"⟩
abbrev cX2_exchange : ByteArray := prog_4_method_9_code
def yX2_exchange : MethodName := ⟨RX2, "exchange", "(II)V"⟩
def RX3 : String := "RecordBridge$Kind"
def TX3 : u_T := fun k => match k with
  | 0 => ("RecordBridge$Kind", "number", "I", true)
  | 1 => ("RecordBridge$Kind", "isConstants", "Z", true)
  | 2 => ("RecordBridge$Kind", "trait", "I", true)
  | 3 => ("RecordBridge$Kind", "editions", "[LRecordBridge$Edition;", true)
  | 4 => ("RecordBridge$Kind", "editionCount", "I", false)
  | 5 => ("RecordBridge$Kind", "isStarted", "Z", false)
  | _ => ("RecordBridge$Kind", "made", "I", false)
def tyX3 : Nat → FieldType := fun k => match k with
  | 0 => .int
  | 1 => .boolean
  | 2 => .int
  | 3 => .array (.object "RecordBridge$Edition")
  | 4 => .int
  | 5 => .boolean
  | _ => .int
abbrev wsX30 : List Cond := u_ws RX3 TX3 7
theorem nmX3 : ∀ a, a < 7 → ∀ b, b < 7 → a ≠ b → (TX3 a).2.1 ≠ (TX3 b).2.1 := by decide +kernel
theorem tyX3_ok : ∀ k, k < 7 → parseFieldDescriptor (TX3 k).2.2.1 = some (tyX3 k) := by decide +kernel
abbrev cX3_init : ByteArray := prog_5_method_1_code
def yX3_init : MethodName := ⟨RX3, "<init>", "(IZI)V"⟩
abbrev cX3_newest : ByteArray := prog_5_method_2_code
def yX3_newest : MethodName := ⟨RX3, "newest", "()LRecordBridge$Edition;"⟩
abbrev cX3_takesLane : ByteArray := prog_5_method_3_code
def yX3_takesLane : MethodName := ⟨RX3, "takesLane", "(I)Z"⟩
abbrev cX3_hasRoomForEdition : ByteArray := prog_5_method_4_code
def yX3_hasRoomForEdition : MethodName := ⟨RX3, "hasRoomForEdition", "()Z"⟩
abbrev cX3_addEdition : ByteArray := prog_5_method_5_code
def yX3_addEdition : MethodName := ⟨RX3, "addEdition", "()LRecordBridge$Edition;"⟩
def RX4 : String := "RecordBridge$Lanes"
def TX4 : u_T := fun k => match k with
  | _ => ("", "", "", false)
def tyX4 : Nat → FieldType := fun k => match k with
  | _ => .int
abbrev wsX40 : List Cond := u_ws RX4 TX4 0
theorem nmX4 : ∀ a, a < 0 → ∀ b, b < 0 → a ≠ b → (TX4 a).2.1 ≠ (TX4 b).2.1 := by decide +kernel
theorem tyX4_ok : ∀ k, k < 0 → parseFieldDescriptor (TX4 k).2.2.1 = some (tyX4 k) := by decide +kernel
abbrev cX4_isNumber : ByteArray := prog_6_method_2_code
def yX4_isNumber : MethodName := ⟨RX4, "isNumber", "(I)Z"⟩
abbrev cX4_isLane : ByteArray := prog_6_method_3_code
def yX4_isLane : MethodName := ⟨RX4, "isLane", "(I)Z"⟩
abbrev cX4_isWhole : ByteArray := prog_6_method_4_code
def yX4_isWhole : MethodName := ⟨RX4, "isWhole", "(I)Z"⟩
abbrev cX4_isWidened : ByteArray := prog_6_method_5_code
def yX4_isWidened : MethodName := ⟨RX4, "isWidened", "(II)Z"⟩
abbrev cX4_come : ByteArray := prog_6_method_6_code
def yX4_come : MethodName := ⟨RX4, "come", "(IJ)J"⟩
abbrev cX4_widen : ByteArray := prog_6_method_7_code
def yX4_widen : MethodName := ⟨RX4, "widen", "(IIJ)J"⟩
abbrev cX4_tell : ByteArray := prog_6_method_8_code
def yX4_tell : MethodName := ⟨RX4, "tell", "(IJ)J"⟩
abbrev cX4_rank : ByteArray := prog_6_method_9_code
def yX4_rank : MethodName := ⟨RX4, "rank", "(IJ)J"⟩
abbrev cX4_hashNumber : ByteArray := prog_6_method_10_code
def yX4_hashNumber : MethodName := ⟨RX4, "hashNumber", "(IJ)I"⟩
abbrev cX4_floatBits : ByteArray := prog_6_method_11_code
def yX4_floatBits : MethodName := ⟨RX4, "floatBits", "(J)J"⟩
abbrev cX4_doubleBits : ByteArray := prog_6_method_12_code
def yX4_doubleBits : MethodName := ⟨RX4, "doubleBits", "(J)J"⟩
abbrev cX4_roundedBits : ByteArray := prog_6_method_13_code
def yX4_roundedBits : MethodName := ⟨RX4, "roundedBits", "(JII)J"⟩
abbrev cX4_topBit : ByteArray := prog_6_method_14_code
def yX4_topBit : MethodName := ⟨RX4, "topBit", "(J)I"⟩
abbrev cX4_roundedOff : ByteArray := prog_6_method_15_code
def yX4_roundedOff : MethodName := ⟨RX4, "roundedOff", "(JI)J"⟩
abbrev cX4_doubleOfFloat : ByteArray := prog_6_method_16_code
def yX4_doubleOfFloat : MethodName := ⟨RX4, "doubleOfFloat", "(J)J"⟩
def RX5 : String := "RecordBridge$Row"
def TX5 : u_T := fun k => match k with
  | 0 => ("RecordBridge$Row", "number", "I", true)
  | 1 => ("RecordBridge$Row", "lane", "I", true)
  | 2 => ("RecordBridge$Row", "cells", "[J", true)
  | _ => ("RecordBridge$Row", "isKept", "Z", true)
def tyX5 : Nat → FieldType := fun k => match k with
  | 0 => .int
  | 1 => .int
  | 2 => .array .long
  | _ => .boolean
abbrev wsX50 : List Cond := u_ws RX5 TX5 4
theorem nmX5 : ∀ a, a < 4 → ∀ b, b < 4 → a ≠ b → (TX5 a).2.1 ≠ (TX5 b).2.1 := by decide +kernel
theorem tyX5_ok : ∀ k, k < 4 → parseFieldDescriptor (TX5 k).2.2.1 = some (tyX5 k) := by decide +kernel
abbrev cX5_init : ByteArray := prog_7_method_1_code
def yX5_init : MethodName := ⟨RX5, "<init>", "(II[JZ)V"⟩
abbrev cX5_hasCell : ByteArray := prog_7_method_2_code
def yX5_hasCell : MethodName := ⟨RX5, "hasCell", "(I)Z"⟩
abbrev cX5_hasRun : ByteArray := prog_7_method_3_code
def yX5_hasRun : MethodName := ⟨RX5, "hasRun", "(II)Z"⟩
def RX6 : String := "RecordBridge$Scribe"
def TX6 : u_T := fun k => match k with
  | 0 => ("RecordBridge$Scribe", "store", "LRecordBridge$Store;", true)
  | 1 => ("RecordBridge$Scribe", "shown", "LRecordBridge$Text;", false)
  | _ => ("RecordBridge$Scribe", "next", "LRecordBridge$Text;", false)
def tyX6 : Nat → FieldType := fun k => match k with
  | 0 => .object "RecordBridge$Store"
  | 1 => .object "RecordBridge$Text"
  | _ => .object "RecordBridge$Text"
abbrev wsX60 : List Cond := u_ws RX6 TX6 3
theorem nmX6 : ∀ a, a < 3 → ∀ b, b < 3 → a ≠ b → (TX6 a).2.1 ≠ (TX6 b).2.1 := by decide +kernel
theorem tyX6_ok : ∀ k, k < 3 → parseFieldDescriptor (TX6 k).2.2.1 = some (tyX6 k) := by decide +kernel
abbrev cX6_init : ByteArray := prog_8_method_1_code
def yX6_init : MethodName := ⟨RX6, "<init>", "(LRecordBridge$Store;)V"⟩
abbrev cX6_writes : ByteArray := prog_8_method_2_code
def yX6_writes : MethodName := ⟨RX6, "writes", "(LRecordBridge$Value;)Z"⟩
abbrev cX6_writeValue : ByteArray := prog_8_method_3_code
def yX6_writeValue : MethodName := ⟨RX6, "writeValue", "(LRecordBridge$Value;)V"⟩
abbrev cX6_writeRecord : ByteArray := prog_8_method_4_code
def yX6_writeRecord : MethodName := ⟨RX6, "writeRecord", "(LRecordBridge$Value;)V"⟩
abbrev cX6_writeAny : ByteArray := prog_8_method_5_code
def yX6_writeAny : MethodName := ⟨RX6, "writeAny", "(IJ)V"⟩
abbrev cX6_writeRow : ByteArray := prog_8_method_6_code
def yX6_writeRow : MethodName := ⟨RX6, "writeRow", "(LRecordBridge$Row;)V"⟩
def RX7 : String := "RecordBridge$Store"
def TX7 : u_T := fun k => match k with
  | 0 => ("RecordBridge$Store", "rows", "[LRecordBridge$Row;", true)
  | 1 => ("RecordBridge$Store", "values", "[LRecordBridge$Value;", true)
  | 2 => ("RecordBridge$Store", "rowCount", "I", false)
  | _ => ("RecordBridge$Store", "valueCount", "I", false)
def tyX7 : Nat → FieldType := fun k => match k with
  | 0 => .array (.object "RecordBridge$Row")
  | 1 => .array (.object "RecordBridge$Value")
  | 2 => .int
  | _ => .int
abbrev wsX70 : List Cond := u_ws RX7 TX7 4
theorem nmX7 : ∀ a, a < 4 → ∀ b, b < 4 → a ≠ b → (TX7 a).2.1 ≠ (TX7 b).2.1 := by decide +kernel
theorem tyX7_ok : ∀ k, k < 4 → parseFieldDescriptor (TX7 k).2.2.1 = some (tyX7 k) := by decide +kernel
abbrev cX7_init : ByteArray := prog_9_method_1_code
def yX7_init : MethodName := ⟨RX7, "<init>", "()V"⟩
abbrev cX7_findRow : ByteArray := prog_9_method_2_code
def yX7_findRow : MethodName := ⟨RX7, "findRow", "(J)LRecordBridge$Row;"⟩
abbrev cX7_findValue : ByteArray := prog_9_method_3_code
def yX7_findValue : MethodName := ⟨RX7, "findValue", "(J)LRecordBridge$Value;"⟩
abbrev cX7_hasRoomForRows : ByteArray := prog_9_method_4_code
def yX7_hasRoomForRows : MethodName := ⟨RX7, "hasRoomForRows", "(I)Z"⟩
abbrev cX7_hasRoomForValues : ByteArray := prog_9_method_5_code
def yX7_hasRoomForValues : MethodName := ⟨RX7, "hasRoomForValues", "(I)Z"⟩
abbrev cX7_addRow : ByteArray := prog_9_method_6_code
def yX7_addRow : MethodName := ⟨RX7, "addRow", "(IIZ)LRecordBridge$Row;"⟩
abbrev cX7_addTwin : ByteArray := prog_9_method_7_code
def yX7_addTwin : MethodName := ⟨RX7, "addTwin", "(LRecordBridge$Row;Z)LRecordBridge$Row;"⟩
abbrev cX7_addValue : ByteArray := prog_9_method_8_code
def yX7_addValue : MethodName := ⟨RX7, "addValue", "(LRecordBridge$Value;)I"⟩
def RX8 : String := "RecordBridge$Text"
def TX8 : u_T := fun k => match k with
  | 0 => ("RecordBridge$Text", "bytes", "[B", true)
  | 1 => ("RecordBridge$Text", "digits", "[C", true)
  | 2 => ("RecordBridge$Text", "count", "I", false)
  | _ => ("RecordBridge$Text", "isOver", "Z", false)
def tyX8 : Nat → FieldType := fun k => match k with
  | 0 => .array .byte
  | 1 => .array .char
  | 2 => .int
  | _ => .boolean
abbrev wsX80 : List Cond := u_ws RX8 TX8 4
theorem nmX8 : ∀ a, a < 4 → ∀ b, b < 4 → a ≠ b → (TX8 a).2.1 ≠ (TX8 b).2.1 := by decide +kernel
theorem tyX8_ok : ∀ k, k < 4 → parseFieldDescriptor (TX8 k).2.2.1 = some (tyX8 k) := by decide +kernel
abbrev cX8_init : ByteArray := prog_10_method_1_code
def yX8_init : MethodName := ⟨RX8, "<init>", "()V"⟩
abbrev cX8_clear : ByteArray := prog_10_method_2_code
def yX8_clear : MethodName := ⟨RX8, "clear", "()V"⟩
abbrev cX8_addSign : ByteArray := prog_10_method_3_code
def yX8_addSign : MethodName := ⟨RX8, "addSign", "(C)V"⟩
abbrev cX8_addNumber : ByteArray := prog_10_method_4_code
def yX8_addNumber : MethodName := ⟨RX8, "addNumber", "(J)V"⟩
def RX9 : String := "RecordBridge$Tray"
def TX9 : u_T := fun k => match k with
  | 0 => ("RecordBridge$Tray", "lanes", "[I", true)
  | _ => ("RecordBridge$Tray", "things", "[J", true)
def tyX9 : Nat → FieldType := fun k => match k with
  | 0 => .array .int
  | _ => .array .long
abbrev wsX90 : List Cond := u_ws RX9 TX9 2
theorem nmX9 : ∀ a, a < 2 → ∀ b, b < 2 → a ≠ b → (TX9 a).2.1 ≠ (TX9 b).2.1 := by decide +kernel
theorem tyX9_ok : ∀ k, k < 2 → parseFieldDescriptor (TX9 k).2.2.1 = some (tyX9 k) := by decide +kernel
abbrev cX9_init : ByteArray := prog_11_method_1_code
def yX9_init : MethodName := ⟨RX9, "<init>", "()V"⟩
abbrev cX9_place : ByteArray := prog_11_method_2_code
def yX9_place : MethodName := ⟨RX9, "place", "(IIJ)V"⟩
abbrev cX9_empty : ByteArray := prog_11_method_3_code
def yX9_empty : MethodName := ⟨RX9, "empty", "(I)V"⟩
abbrev cX9_emptyAll : ByteArray := prog_11_method_4_code
def yX9_emptyAll : MethodName := ⟨RX9, "emptyAll", "()V"⟩
abbrev cX9_faultFor : ByteArray := prog_11_method_5_code
def yX9_faultFor : MethodName := ⟨RX9, "faultFor", "(II)I"⟩
abbrev cX9_widenedTo : ByteArray := prog_11_method_6_code
def yX9_widenedTo : MethodName := ⟨RX9, "widenedTo", "(II)J"⟩
def RX10 : String := "RecordBridge$Value"
def TX10 : u_T := fun k => match k with
  | 0 => ("RecordBridge$Value", "number", "I", true)
  | 1 => ("RecordBridge$Value", "kind", "LRecordBridge$Kind;", true)
  | 2 => ("RecordBridge$Value", "edition", "LRecordBridge$Edition;", true)
  | 3 => ("RecordBridge$Value", "manieth", "I", true)
  | 4 => ("RecordBridge$Value", "label", "I", true)
  | 5 => ("RecordBridge$Value", "parts", "[J", true)
  | 6 => ("RecordBridge$Value", "size", "I", true)
  | _ => ("RecordBridge$Value", "deep", "I", true)
def tyX10 : Nat → FieldType := fun k => match k with
  | 0 => .int
  | 1 => .object "RecordBridge$Kind"
  | 2 => .object "RecordBridge$Edition"
  | 3 => .int
  | 4 => .int
  | 5 => .array .long
  | 6 => .int
  | _ => .int
abbrev wsX100 : List Cond := u_ws RX10 TX10 8
theorem nmX10 : ∀ a, a < 8 → ∀ b, b < 8 → a ≠ b → (TX10 a).2.1 ≠ (TX10 b).2.1 := by decide +kernel
theorem tyX10_ok : ∀ k, k < 8 → parseFieldDescriptor (TX10 k).2.2.1 = some (tyX10 k) := by decide +kernel
abbrev cX10_init : ByteArray := prog_12_method_1_code
def yX10_init : MethodName := ⟨RX10, "<init>", "(ILRecordBridge$Kind;I[JII)V"⟩
abbrev cX10_hasPart : ByteArray := prog_12_method_2_code
def yX10_hasPart : MethodName := ⟨RX10, "hasPart", "(I)Z"⟩
abbrev cX10_tellPart : ByteArray := prog_12_method_3_code
def yX10_tellPart : MethodName := ⟨RX10, "tellPart", "(I)J"⟩
def RX11 : String := "RecordBridge"
def TX11 : u_T := fun k => match k with
  | 0 => ("RecordBridge", "store", "LRecordBridge$Store;", true)
  | 1 => ("RecordBridge", "tray", "LRecordBridge$Tray;", true)
  | 2 => ("RecordBridge", "draft", "LRecordBridge$Draft;", true)
  | 3 => ("RecordBridge", "comparer", "LRecordBridge$Comparer;", true)
  | 4 => ("RecordBridge", "scribe", "LRecordBridge$Scribe;", true)
  | 5 => ("RecordBridge", "kindTable", "[LRecordBridge$Kind;", true)
  | 6 => ("RecordBridge", "familyKinds", "[I", true)
  | 7 => ("RecordBridge", "familySealed", "[Z", true)
  | 8 => ("RecordBridge", "kindCount", "I", false)
  | 9 => ("RecordBridge", "familyCount", "I", false)
  | 10 => ("RecordBridge", "startedCount", "I", false)
  | 11 => ("RecordBridge", "traced", "I", false)
  | 12 => ("RecordBridge", "latestFault", "I", false)
  | _ => ("RecordBridge", "faultCount", "I", false)
def tyX11 : Nat → FieldType := fun k => match k with
  | 0 => .object "RecordBridge$Store"
  | 1 => .object "RecordBridge$Tray"
  | 2 => .object "RecordBridge$Draft"
  | 3 => .object "RecordBridge$Comparer"
  | 4 => .object "RecordBridge$Scribe"
  | 5 => .array (.object "RecordBridge$Kind")
  | 6 => .array .int
  | 7 => .array .boolean
  | 8 => .int
  | 9 => .int
  | 10 => .int
  | 11 => .int
  | 12 => .int
  | _ => .int
abbrev wsX110 : List Cond := u_ws RX11 TX11 14
theorem nmX11 : ∀ a, a < 14 → ∀ b, b < 14 → a ≠ b → (TX11 a).2.1 ≠ (TX11 b).2.1 := by decide +kernel
theorem tyX11_ok : ∀ k, k < 14 → parseFieldDescriptor (TX11 k).2.2.1 = some (tyX11 k) := by decide +kernel
abbrev cX11_init : ByteArray := prog_1_method_1_code
def yX11_init : MethodName := ⟨RX11, "<init>", "()V"⟩
abbrev cX11_row : ByteArray := prog_1_method_2_code
def yX11_row : MethodName := ⟨RX11, "row", "(II)I"⟩
abbrev cX11_put : ByteArray := prog_1_method_3_code
def yX11_put : MethodName := ⟨RX11, "put", "(IIIJ)I"⟩
abbrev cX11_get : ByteArray := prog_1_method_4_code
def yX11_get : MethodName := ⟨RX11, "get", "(III)J"⟩
abbrev cX11_lay : ByteArray := prog_1_method_5_code
def yX11_lay : MethodName := ⟨RX11, "lay", "(III)I"⟩
abbrev cX11_at : ByteArray := prog_1_method_6_code
def yX11_at : MethodName := ⟨RX11, "at", "(II)I"⟩
abbrev cX11_length : ByteArray := prog_1_method_7_code
def yX11_length : MethodName := ⟨RX11, "length", "(II)I"⟩
abbrev cX11_copy : ByteArray := prog_1_method_8_code
def yX11_copy : MethodName := ⟨RX11, "copy", "(IIIII)I"⟩
abbrev cX11_twin : ByteArray := prog_1_method_9_code
def yX11_twin : MethodName := ⟨RX11, "twin", "(I)I"⟩
abbrev cX11_record : ByteArray := prog_1_method_10_code
def yX11_record : MethodName := ⟨RX11, "record", "(I)I"⟩
abbrev cX11_constants : ByteArray := prog_1_method_11_code
def yX11_constants : MethodName := ⟨RX11, "constants", "(I)I"⟩
abbrev cX11_more : ByteArray := prog_1_method_12_code
def yX11_more : MethodName := ⟨RX11, "more", "(III)I"⟩
abbrev cX11_edition : ByteArray := prog_1_method_13_code
def yX11_edition : MethodName := ⟨RX11, "edition", "(IIII)I"⟩
abbrev cX11_family : ByteArray := prog_1_method_14_code
def yX11_family : MethodName := ⟨RX11, "family", "(IZ)I"⟩
abbrev cX11_info : ByteArray := prog_1_method_15_code
def yX11_info : MethodName := ⟨RX11, "info", "(II)I"⟩
abbrev cX11_give : ByteArray := prog_1_method_16_code
def yX11_give : MethodName := ⟨RX11, "give", "(IIJ)I"⟩
abbrev cX11_hand : ByteArray := prog_1_method_17_code
def yX11_hand : MethodName := ⟨RX11, "hand", "(IIZ)I"⟩
abbrev cX11_make : ByteArray := prog_1_method_18_code
def yX11_make : MethodName := ⟨RX11, "make", "(I)I"⟩
abbrev cX11_named : ByteArray := prog_1_method_19_code
def yX11_named : MethodName := ⟨RX11, "named", "(II)I"⟩
abbrev cX11_part : ByteArray := prog_1_method_20_code
def yX11_part : MethodName := ⟨RX11, "part", "(II)J"⟩
abbrev cX11_accessor : ByteArray := prog_1_method_21_code
def yX11_accessor : MethodName := ⟨RX11, "accessor", "(II)J"⟩
abbrev cX11_of : ByteArray := prog_1_method_22_code
def yX11_of : MethodName := ⟨RX11, "of", "(II)I"⟩
abbrev cX11_array : ByteArray := prog_1_method_23_code
def yX11_array : MethodName := ⟨RX11, "array", "(IIZ)I"⟩
abbrev cX11_match : ByteArray := prog_1_method_24_code
def yX11_match : MethodName := ⟨RX11, "match", "(II)I"⟩
abbrev cX11_equal : ByteArray := prog_1_method_25_code
def yX11_equal : MethodName := ⟨RX11, "equal", "(II)I"⟩
abbrev cX11_order : ByteArray := prog_1_method_26_code
def yX11_order : MethodName := ⟨RX11, "order", "(II)I"⟩
abbrev cX11_hash : ByteArray := prog_1_method_27_code
def yX11_hash : MethodName := ⟨RX11, "hash", "(I)J"⟩
abbrev cX11_weight : ByteArray := prog_1_method_28_code
def yX11_weight : MethodName := ⟨RX11, "weight", "(I)I"⟩
abbrev cX11_show : ByteArray := prog_1_method_29_code
def yX11_show : MethodName := ⟨RX11, "show", "(I)I"⟩
abbrev cX11_byteAt : ByteArray := prog_1_method_30_code
def yX11_byteAt : MethodName := ⟨RX11, "byteAt", "(I)I"⟩
abbrev cX11_carry : ByteArray := prog_1_method_31_code
def yX11_carry : MethodName := ⟨RX11, "carry", "(I)I"⟩
abbrev cX11_trace : ByteArray := prog_1_method_32_code
def yX11_trace : MethodName := ⟨RX11, "trace", "()I"⟩
abbrev cX11_fault : ByteArray := prog_1_method_33_code
def yX11_fault : MethodName := ⟨RX11, "fault", "()I"⟩
abbrev cX11_told : ByteArray := prog_1_method_34_code
def yX11_told : MethodName := ⟨RX11, "told", "(I)I"⟩
abbrev cX11_failed : ByteArray := prog_1_method_35_code
def yX11_failed : MethodName := ⟨RX11, "failed", "(I)I"⟩
abbrev cX11_lost : ByteArray := prog_1_method_36_code
def yX11_lost : MethodName := ⟨RX11, "lost", "(I)J"⟩
abbrev cX11_leaveTrace : ByteArray := prog_1_method_37_code
def yX11_leaveTrace : MethodName := ⟨RX11, "leaveTrace", "(I)V"⟩
abbrev cX11_isWithin : ByteArray := prog_1_method_38_code
def yX11_isWithin : MethodName := ⟨RX11, "isWithin", "(III)Z"⟩
abbrev cX11_isLabel : ByteArray := prog_1_method_39_code
def yX11_isLabel : MethodName := ⟨RX11, "isLabel", "(I)Z"⟩
abbrev cX11_isPlace : ByteArray := prog_1_method_40_code
def yX11_isPlace : MethodName := ⟨RX11, "isPlace", "(I)Z"⟩
abbrev cX11_oneIf : ByteArray := prog_1_method_41_code
def yX11_oneIf : MethodName := ⟨RX11, "oneIf", "(Z)I"⟩
abbrev cX11_numberFault : ByteArray := prog_1_method_42_code
def yX11_numberFault : MethodName := ⟨RX11, "numberFault", "(LRecordBridge$Row;III)I"⟩
abbrev cX11_thingFault : ByteArray := prog_1_method_43_code
def yX11_thingFault : MethodName := ⟨RX11, "thingFault", "(LRecordBridge$Row;I)I"⟩
abbrev cX11_freeTwin : ByteArray := prog_1_method_44_code
def yX11_freeTwin : MethodName := ⟨RX11, "freeTwin", "(LRecordBridge$Row;)I"⟩
abbrev cX11_findKind : ByteArray := prog_1_method_45_code
def yX11_findKind : MethodName := ⟨RX11, "findKind", "(I)LRecordBridge$Kind;"⟩
abbrev cX11_newKind : ByteArray := prog_1_method_46_code
def yX11_newKind : MethodName := ⟨RX11, "newKind", "(ZI)I"⟩
abbrev cX11_isChange : ByteArray := prog_1_method_47_code
def yX11_isChange : MethodName := ⟨RX11, "isChange", "(LRecordBridge$Kind;III)Z"⟩
abbrev cX11_hasRoomForChange : ByteArray := prog_1_method_48_code
def yX11_hasRoomForChange : MethodName := ⟨RX11, "hasRoomForChange", "(LRecordBridge$Kind;I)Z"⟩
abbrev cX11_change : ByteArray := prog_1_method_49_code
def yX11_change : MethodName := ⟨RX11, "change", "(LRecordBridge$Edition;III)V"⟩
abbrev cX11_start : ByteArray := prog_1_method_50_code
def yX11_start : MethodName := ⟨RX11, "start", "(LRecordBridge$Kind;)V"⟩
abbrev cX11_addConstant : ByteArray := prog_1_method_51_code
def yX11_addConstant : MethodName := ⟨RX11, "addConstant", "(LRecordBridge$Kind;I)V"⟩
abbrev cX11_finish : ByteArray := prog_1_method_52_code
def yX11_finish : MethodName := ⟨RX11, "finish", "(LRecordBridge$Kind;)I"⟩
abbrev cX11_weigh : ByteArray := prog_1_method_53_code
def yX11_weigh : MethodName := ⟨RX11, "weigh", "(LRecordBridge$Value;)I"⟩
abbrev cX11_weighRecord : ByteArray := prog_1_method_54_code
def yX11_weighRecord : MethodName := ⟨RX11, "weighRecord", "(LRecordBridge$Value;)I"⟩
abbrev cX11_weighLent : ByteArray := prog_1_method_55_code
def yX11_weighLent : MethodName := ⟨RX11, "weighLent", "()I"⟩
abbrev cX11_weighConstant : ByteArray := prog_1_method_56_code
def yX11_weighConstant : MethodName := ⟨RX11, "weighConstant", "(LRecordBridge$Value;)I"⟩
abbrev cX11_weighFirstBody : ByteArray := prog_1_method_57_code
def yX11_weighFirstBody : MethodName := ⟨RX11, "weighFirstBody", "(LRecordBridge$Value;)I"⟩
abbrev cX11_weighSecondBody : ByteArray := prog_1_method_58_code
def yX11_weighSecondBody : MethodName := ⟨RX11, "weighSecondBody", "(LRecordBridge$Value;)I"⟩
abbrev cX11_weighLastBody : ByteArray := prog_1_method_59_code
def yX11_weighLastBody : MethodName := ⟨RX11, "weighLastBody", "(LRecordBridge$Value;)I"⟩
def RX12 : String := "RecordBridgeModel"
def TX12 : u_T := fun k => match k with
  | 0 => ("RecordBridgeModel", "fault", "I", false)
  | 1 => ("RecordBridgeModel", "faults", "I", false)
  | 2 => ("RecordBridgeModel", "trace", "I", false)
  | 3 => ("RecordBridgeModel", "rows", "I", false)
  | 4 => ("RecordBridgeModel", "rowLane", "[I", true)
  | 5 => ("RecordBridgeModel", "rowSize", "[I", true)
  | 6 => ("RecordBridgeModel", "rowKept", "[Z", true)
  | 7 => ("RecordBridgeModel", "cell", "[J", true)
  | 8 => ("RecordBridgeModel", "hands", "[J", true)
  | 9 => ("RecordBridgeModel", "kinds", "I", false)
  | 10 => ("RecordBridgeModel", "isConstants", "[Z", true)
  | 11 => ("RecordBridgeModel", "ruleOf", "[I", true)
  | 12 => ("RecordBridgeModel", "isStarted", "[Z", true)
  | 13 => ("RecordBridgeModel", "newest", "[I", true)
  | 14 => ("RecordBridgeModel", "madeOf", "[I", true)
  | 15 => ("RecordBridgeModel", "many", "[I", true)
  | 16 => ("RecordBridgeModel", "word", "[I", true)
  | 17 => ("RecordBridgeModel", "lane", "[I", true)
  | 18 => ("RecordBridgeModel", "constant", "[I", true)
  | 19 => ("RecordBridgeModel", "families", "I", false)
  | 20 => ("RecordBridgeModel", "familyOf", "[I", true)
  | 21 => ("RecordBridgeModel", "sealed", "[Z", true)
  | 22 => ("RecordBridgeModel", "trayLane", "[I", true)
  | 23 => ("RecordBridgeModel", "tray", "[J", true)
  | 24 => ("RecordBridgeModel", "values", "I", false)
  | 25 => ("RecordBridgeModel", "valueKind", "[I", true)
  | 26 => ("RecordBridgeModel", "valueEdition", "[I", true)
  | 27 => ("RecordBridgeModel", "manieth", "[I", true)
  | 28 => ("RecordBridgeModel", "size", "[I", true)
  | 29 => ("RecordBridgeModel", "deep", "[I", true)
  | 30 => ("RecordBridgeModel", "valueWord", "[I", true)
  | 31 => ("RecordBridgeModel", "parts", "[J", true)
  | 32 => ("RecordBridgeModel", "part", "[J", true)
  | 33 => ("RecordBridgeModel", "sum", "I", false)
  | 34 => ("RecordBridgeModel", "most", "I", false)
  | 35 => ("RecordBridgeModel", "pile", "I", false)
  | 36 => ("RecordBridgeModel", "goA", "[I", true)
  | 37 => ("RecordBridgeModel", "goB", "[I", true)
  | 38 => ("RecordBridgeModel", "goPart", "[I", true)
  | 39 => ("RecordBridgeModel", "goCell", "[I", true)
  | 40 => ("RecordBridgeModel", "goSum", "[I", true)
  | 41 => ("RecordBridgeModel", "goRow", "[I", true)
  | 42 => ("RecordBridgeModel", "draft", "[B", true)
  | 43 => ("RecordBridgeModel", "drafted", "I", false)
  | 44 => ("RecordBridgeModel", "text", "[B", true)
  | _ => ("RecordBridgeModel", "shown", "I", false)
def tyX12 : Nat → FieldType := fun k => match k with
  | 0 => .int
  | 1 => .int
  | 2 => .int
  | 3 => .int
  | 4 => .array .int
  | 5 => .array .int
  | 6 => .array .boolean
  | 7 => .array .long
  | 8 => .array .long
  | 9 => .int
  | 10 => .array .boolean
  | 11 => .array .int
  | 12 => .array .boolean
  | 13 => .array .int
  | 14 => .array .int
  | 15 => .array .int
  | 16 => .array .int
  | 17 => .array .int
  | 18 => .array .int
  | 19 => .int
  | 20 => .array .int
  | 21 => .array .boolean
  | 22 => .array .int
  | 23 => .array .long
  | 24 => .int
  | 25 => .array .int
  | 26 => .array .int
  | 27 => .array .int
  | 28 => .array .int
  | 29 => .array .int
  | 30 => .array .int
  | 31 => .array .long
  | 32 => .array .long
  | 33 => .int
  | 34 => .int
  | 35 => .int
  | 36 => .array .int
  | 37 => .array .int
  | 38 => .array .int
  | 39 => .array .int
  | 40 => .array .int
  | 41 => .array .int
  | 42 => .array .byte
  | 43 => .int
  | 44 => .array .byte
  | _ => .int
abbrev wsX120 : List Cond := u_ws RX12 TX12 46
theorem nmX12 : ∀ a, a < 46 → ∀ b, b < 46 → a ≠ b → (TX12 a).2.1 ≠ (TX12 b).2.1 := by decide +kernel
theorem tyX12_ok : ∀ k, k < 46 → parseFieldDescriptor (TX12 k).2.2.1 = some (tyX12 k) := by decide +kernel
abbrev cX12_init : ByteArray := prog_14_method_1_code
def yX12_init : MethodName := ⟨RX12, "<init>", "()V"⟩
abbrev cX12_in : ByteArray := prog_14_method_2_code
def yX12_in : MethodName := ⟨RX12, "in", "(III)Z"⟩
abbrev cX12_lost : ByteArray := prog_14_method_3_code
def yX12_lost : MethodName := ⟨RX12, "lost", "()J"⟩
abbrev cX12_fails : ByteArray := prog_14_method_4_code
def yX12_fails : MethodName := ⟨RX12, "fails", "(I)I"⟩
abbrev cX12_failsLong : ByteArray := prog_14_method_5_code
def yX12_failsLong : MethodName := ⟨RX12, "failsLong", "(I)J"⟩
abbrev cX12_traced : ByteArray := prog_14_method_6_code
def yX12_traced : MethodName := ⟨RX12, "traced", "(I)V"⟩
abbrev cX12_comes : ByteArray := prog_14_method_7_code
def yX12_comes : MethodName := ⟨RX12, "comes", "(IJ)J"⟩
abbrev cX12_isWidened : ByteArray := prog_14_method_8_code
def yX12_isWidened : MethodName := ⟨RX12, "isWidened", "(II)Z"⟩
abbrev cX12_widened : ByteArray := prog_14_method_9_code
def yX12_widened : MethodName := ⟨RX12, "widened", "(IIJ)J"⟩
abbrev cX12_compared : ByteArray := prog_14_method_10_code
def yX12_compared : MethodName := ⟨RX12, "compared", "(IJJ)I"⟩
abbrev cX12_isRow : ByteArray := prog_14_method_11_code
def yX12_isRow : MethodName := ⟨RX12, "isRow", "(I)Z"⟩
abbrev cX12_newRow : ByteArray := prog_14_method_12_code
def yX12_newRow : MethodName := ⟨RX12, "newRow", "(II)I"⟩
abbrev cX12_twinOf : ByteArray := prog_14_method_13_code
def yX12_twinOf : MethodName := ⟨RX12, "twinOf", "(I)I"⟩
abbrev cX12_row : ByteArray := prog_14_method_14_code
def yX12_row : MethodName := ⟨RX12, "row", "(II)I"⟩
abbrev cX12_put : ByteArray := prog_14_method_15_code
def yX12_put : MethodName := ⟨RX12, "put", "(IIIJ)I"⟩
abbrev cX12_get : ByteArray := prog_14_method_16_code
def yX12_get : MethodName := ⟨RX12, "get", "(III)J"⟩
abbrev cX12_lay : ByteArray := prog_14_method_17_code
def yX12_lay : MethodName := ⟨RX12, "lay", "(III)I"⟩
abbrev cX12_at : ByteArray := prog_14_method_18_code
def yX12_at : MethodName := ⟨RX12, "at", "(II)I"⟩
abbrev cX12_length : ByteArray := prog_14_method_19_code
def yX12_length : MethodName := ⟨RX12, "length", "(II)I"⟩
abbrev cX12_isBeyond : ByteArray := prog_14_method_20_code
def yX12_isBeyond : MethodName := ⟨RX12, "isBeyond", "(III)Z"⟩
abbrev cX12_copy : ByteArray := prog_14_method_21_code
def yX12_copy : MethodName := ⟨RX12, "copy", "(IIIII)I"⟩
abbrev cX12_twin : ByteArray := prog_14_method_22_code
def yX12_twin : MethodName := ⟨RX12, "twin", "(I)I"⟩
abbrev cX12_isKind : ByteArray := prog_14_method_23_code
def yX12_isKind : MethodName := ⟨RX12, "isKind", "(I)Z"⟩
abbrev cX12_newKind : ByteArray := prog_14_method_24_code
def yX12_newKind : MethodName := ⟨RX12, "newKind", "(ZI)I"⟩
abbrev cX12_record : ByteArray := prog_14_method_25_code
def yX12_record : MethodName := ⟨RX12, "record", "(I)I"⟩
abbrev cX12_constants : ByteArray := prog_14_method_26_code
def yX12_constants : MethodName := ⟨RX12, "constants", "(I)I"⟩
abbrev cX12_placeOf : ByteArray := prog_14_method_27_code
def yX12_placeOf : MethodName := ⟨RX12, "placeOf", "(II)I"⟩
abbrev cX12_newestOf : ByteArray := prog_14_method_28_code
def yX12_newestOf : MethodName := ⟨RX12, "newestOf", "(I)I"⟩
abbrev cX12_more : ByteArray := prog_14_method_29_code
def yX12_more : MethodName := ⟨RX12, "more", "(III)I"⟩
abbrev cX12_newConstant : ByteArray := prog_14_method_30_code
def yX12_newConstant : MethodName := ⟨RX12, "newConstant", "(II)I"⟩
abbrev cX12_starts : ByteArray := prog_14_method_31_code
def yX12_starts : MethodName := ⟨RX12, "starts", "(I)Z"⟩
abbrev cX12_edition : ByteArray := prog_14_method_32_code
def yX12_edition : MethodName := ⟨RX12, "edition", "(IIII)I"⟩
abbrev cX12_family : ByteArray := prog_14_method_33_code
def yX12_family : MethodName := ⟨RX12, "family", "(IZ)I"⟩
abbrev cX12_info : ByteArray := prog_14_method_34_code
def yX12_info : MethodName := ⟨RX12, "info", "(II)I"⟩
abbrev cX12_give : ByteArray := prog_14_method_35_code
def yX12_give : MethodName := ⟨RX12, "give", "(IIJ)I"⟩
abbrev cX12_hand : ByteArray := prog_14_method_36_code
def yX12_hand : MethodName := ⟨RX12, "hand", "(IIZ)I"⟩
abbrev cX12_isValue : ByteArray := prog_14_method_37_code
def yX12_isValue : MethodName := ⟨RX12, "isValue", "(I)Z"⟩
abbrev cX12_isConstant : ByteArray := prog_14_method_38_code
def yX12_isConstant : MethodName := ⟨RX12, "isConstant", "(I)Z"⟩
abbrev cX12_editionOf : ByteArray := prog_14_method_39_code
def yX12_editionOf : MethodName := ⟨RX12, "editionOf", "(I)I"⟩
abbrev cX12_laneOf : ByteArray := prog_14_method_40_code
def yX12_laneOf : MethodName := ⟨RX12, "laneOf", "(II)I"⟩
abbrev cX12_partsOf : ByteArray := prog_14_method_41_code
def yX12_partsOf : MethodName := ⟨RX12, "partsOf", "(I)I"⟩
abbrev cX12_newValue : ByteArray := prog_14_method_42_code
def yX12_newValue : MethodName := ⟨RX12, "newValue", "(I)I"⟩
abbrev cX12_isTwinned : ByteArray := prog_14_method_43_code
def yX12_isTwinned : MethodName := ⟨RX12, "isTwinned", "(II)Z"⟩
abbrev cX12_breaks : ByteArray := prog_14_method_44_code
def yX12_breaks : MethodName := ⟨RX12, "breaks", "(II)Z"⟩
abbrev cX12_counts : ByteArray := prog_14_method_45_code
def yX12_counts : MethodName := ⟨RX12, "counts", "(J)V"⟩
abbrev cX12_finish : ByteArray := prog_14_method_46_code
def yX12_finish : MethodName := ⟨RX12, "finish", "(I)I"⟩
abbrev cX12_make : ByteArray := prog_14_method_47_code
def yX12_make : MethodName := ⟨RX12, "make", "(I)I"⟩
abbrev cX12_named : ByteArray := prog_14_method_48_code
def yX12_named : MethodName := ⟨RX12, "named", "(II)I"⟩
abbrev cX12_toldPart : ByteArray := prog_14_method_49_code
def yX12_toldPart : MethodName := ⟨RX12, "toldPart", "(II)J"⟩
abbrev cX12_part : ByteArray := prog_14_method_50_code
def yX12_part : MethodName := ⟨RX12, "part", "(II)J"⟩
abbrev cX12_accessor : ByteArray := prog_14_method_51_code
def yX12_accessor : MethodName := ⟨RX12, "accessor", "(II)J"⟩
abbrev cX12_of : ByteArray := prog_14_method_52_code
def yX12_of : MethodName := ⟨RX12, "of", "(II)I"⟩
abbrev cX12_array : ByteArray := prog_14_method_53_code
def yX12_array : MethodName := ⟨RX12, "array", "(IIZ)I"⟩
abbrev cX12_match : ByteArray := prog_14_method_54_code
def yX12_match : MethodName := ⟨RX12, "match", "(II)I"⟩
abbrev cX12_push : ByteArray := prog_14_method_55_code
def yX12_push : MethodName := ⟨RX12, "push", "(II)V"⟩
abbrev cX12_sign : ByteArray := prog_14_method_56_code
def yX12_sign : MethodName := ⟨RX12, "sign", "(II)I"⟩
abbrev cX12_meet : ByteArray := prog_14_method_57_code
def yX12_meet : MethodName := ⟨RX12, "meet", "(II)I"⟩
abbrev cX12_numbers : ByteArray := prog_14_method_58_code
def yX12_numbers : MethodName := ⟨RX12, "numbers", "(II)I"⟩
abbrev cX12_step : ByteArray := prog_14_method_59_code
def yX12_step : MethodName := ⟨RX12, "step", "()I"⟩
abbrev cX12_ordered : ByteArray := prog_14_method_60_code
def yX12_ordered : MethodName := ⟨RX12, "ordered", "(II)I"⟩
abbrev cX12_equal : ByteArray := prog_14_method_61_code
def yX12_equal : MethodName := ⟨RX12, "equal", "(II)I"⟩
abbrev cX12_order : ByteArray := prog_14_method_62_code
def yX12_order : MethodName := ⟨RX12, "order", "(II)I"⟩
abbrev cX12_numberHash : ByteArray := prog_14_method_63_code
def yX12_numberHash : MethodName := ⟨RX12, "numberHash", "(IJ)I"⟩
abbrev cX12_constantHash : ByteArray := prog_14_method_64_code
def yX12_constantHash : MethodName := ⟨RX12, "constantHash", "(I)I"⟩
abbrev cX12_rowHash : ByteArray := prog_14_method_65_code
def yX12_rowHash : MethodName := ⟨RX12, "rowHash", "(I)I"⟩
abbrev cX12_adds : ByteArray := prog_14_method_66_code
def yX12_adds : MethodName := ⟨RX12, "adds", "(I)V"⟩
abbrev cX12_addsThing : ByteArray := prog_14_method_67_code
def yX12_addsThing : MethodName := ⟨RX12, "addsThing", "(I)V"⟩
abbrev cX12_hashPart : ByteArray := prog_14_method_68_code
def yX12_hashPart : MethodName := ⟨RX12, "hashPart", "(I)V"⟩
abbrev cX12_hash : ByteArray := prog_14_method_69_code
def yX12_hash : MethodName := ⟨RX12, "hash", "(I)J"⟩
abbrev cX12_constantWeight : ByteArray := prog_14_method_70_code
def yX12_constantWeight : MethodName := ⟨RX12, "constantWeight", "(I)I"⟩
abbrev cX12_recordWeight : ByteArray := prog_14_method_71_code
def yX12_recordWeight : MethodName := ⟨RX12, "recordWeight", "(I)I"⟩
abbrev cX12_weight : ByteArray := prog_14_method_72_code
def yX12_weight : MethodName := ⟨RX12, "weight", "(I)I"⟩
abbrev cX12_says : ByteArray := prog_14_method_73_code
def yX12_says : MethodName := ⟨RX12, "says", "(I)V"⟩
abbrev cX12_saysNumber : ByteArray := prog_14_method_74_code
def yX12_saysNumber : MethodName := ⟨RX12, "saysNumber", "(J)V"⟩
abbrev cX12_saysCell : ByteArray := prog_14_method_75_code
def yX12_saysCell : MethodName := ⟨RX12, "saysCell", "(IJ)V"⟩
abbrev cX12_saysThing : ByteArray := prog_14_method_76_code
def yX12_saysThing : MethodName := ⟨RX12, "saysThing", "(I)V"⟩
abbrev cX12_saysRow : ByteArray := prog_14_method_77_code
def yX12_saysRow : MethodName := ⟨RX12, "saysRow", "(I)V"⟩
abbrev cX12_saysNext : ByteArray := prog_14_method_78_code
def yX12_saysNext : MethodName := ⟨RX12, "saysNext", "(I)V"⟩
abbrev cX12_show : ByteArray := prog_14_method_79_code
def yX12_show : MethodName := ⟨RX12, "show", "(I)I"⟩
abbrev cX12_byteAt : ByteArray := prog_14_method_80_code
def yX12_byteAt : MethodName := ⟨RX12, "byteAt", "(I)I"⟩
abbrev cX12_carry : ByteArray := prog_14_method_81_code
def yX12_carry : MethodName := ⟨RX12, "carry", "(I)I"⟩
abbrev cX12_trace : ByteArray := prog_14_method_82_code
def yX12_trace : MethodName := ⟨RX12, "trace", "()I"⟩
abbrev cX12_fault : ByteArray := prog_14_method_83_code
def yX12_fault : MethodName := ⟨RX12, "fault", "()I"⟩
abbrev cX12_told : ByteArray := prog_14_method_84_code
def yX12_told : MethodName := ⟨RX12, "told", "(I)I"⟩
def RJx8e188 : String := "java/lang/Cloneable"
def RJxe99ae : String := "java/lang/Double"
abbrev cJxe99ae_isNaN_b9ae7 : ByteArray := prog_16_method_6_code
def yJxe99ae_isNaN_b9ae7 : MethodName := ⟨RJxe99ae, "isNaN", "(D)Z"⟩
abbrev cJxe99ae_doubleToLongBits_ccdee : ByteArray := prog_16_method_23_code
def yJxe99ae_doubleToLongBits_ccdee : MethodName := ⟨RJxe99ae, "doubleToLongBits", "(D)J"⟩
def RJxf58ca : String := "java/lang/Float"
abbrev cJxf58ca_isNaN_12338 : ByteArray := prog_17_method_6_code
def yJxf58ca_isNaN_12338 : MethodName := ⟨RJxf58ca, "isNaN", "(F)Z"⟩
abbrev cJxf58ca_floatToIntBits_5c35a : ByteArray := prog_17_method_24_code
def yJxf58ca_floatToIntBits_5c35a : MethodName := ⟨RJxf58ca, "floatToIntBits", "(F)I"⟩
def RJ6 : String := "java/lang/Integer"
abbrev cJ6_bitCount_0f7a4 : ByteArray := prog_18_method_49_code
def yJ6_bitCount_0f7a4 : MethodName := ⟨RJ6, "bitCount", "(I)I"⟩
def RJ9 : String := "java/lang/Math"
abbrev cJ9_max_7cf53 : ByteArray := prog_19_method_65_code
def yJ9_max_7cf53 : MethodName := ⟨RJ9, "max", "(II)I"⟩
def RJ10 : String := "java/lang/System"
def RL : String := "RecordBridgeLaw"
abbrev cL_law : ByteArray := code
def yL_law : MethodName := ⟨RL, "law", "([I)Z"⟩
abbrev vwCl : List vw_C := [(RX0, TX0, 1), (RX1, TX1, 4), (RX2, TX2, 5), (RX3, TX3, 7), (RX5, TX5, 4), (RX6, TX6, 3), (RX7, TX7, 4), (RX8, TX8, 4), (RX9, TX9, 2), (RX10, TX10, 8), (RX11, TX11, 14), (RX12, TX12, 46)]
end
section
/-! A SMALLER MACHINE: names for addresses, a heap of named cells, judged by what the kit's rows say of W. -/
abbrev Nm : Type := Nat × Nat × Nat
abbrev MV : Type := Int32 ⊕ Int64 ⊕ UInt32 ⊕ UInt64 ⊕ Option Nm
abbrev jI (x : Int32) : MV := .inl x
abbrev jL (x : Int64) : MV := .inr (.inl x)
abbrev jF (x : UInt32) : MV := .inr (.inr (.inl x))
abbrev jD (x : UInt64) : MV := .inr (.inr (.inr (.inl x)))
abbrev jR (x : Option Nm) : MV := .inr (.inr (.inr (.inr x)))
/-- a cell: an object (number of its kind, fields) or an array (type, elements) -/
abbrev MC : Type := (Nat × List MV) ⊕ (FieldType × List MV)
abbrev MH : Type := Nm → Option MC
abbrev AD : Type := Nm → Option Nat
abbrev scr : Nm := (0, 0, 0)
def hset (h : MH) (n : Nm) (c : MC) : MH := fun k => if k = n then some c else h k
def adset (ad : AD) (n : Nm) (a : Nat) : AD := fun k => if k = n then some a else ad k
def VR (ad : AD) : MV → Value → Prop
  | .inl x, w => w = .int x
  | .inr (.inl x), w => w = .long x
  | .inr (.inr (.inl x)), w => w = .float x
  | .inr (.inr (.inr (.inl x))), w => w = .double x
  | .inr (.inr (.inr (.inr none))), w => w = .null
  | .inr (.inr (.inr (.inr (some n)))), w => ∃ a, ad n = some a ∧ w = .ref a
def cat2 : MV → Bool
  | .inr (.inl _) => true
  | .inr (.inr (.inr (.inl _))) => true
  | _ => false
abbrev DD : Type := (Nat → ClassId) × (Nat → Nat → Nat) × (FieldType → ClassId)
/-- the tables' words that go over a call as they stand -/
def gTbl : List Cond := lw_tbl.filter goodWord
/-- those that don't -/
def NG : List Cond := [.arrayOver (.object "RecordBridge$Row"), .arrayOver (.object "RecordBridge$Value"), .arrayOver (.object "RecordBridge$Kind"), .arrayOver (.object "RecordBridge$Edition"), .castable "[I" "java/lang/Cloneable", .methodLinkNest "RecordBridge$Comparer" 109 ⟨"RecordBridge", "oneIf", "(Z)I"⟩ "RecordBridge"]
abbrev aTys : List FieldType := [.int, .long, .boolean, .byte, .char, .object "RecordBridge$Row", .object "RecordBridge$Value", .object "RecordBridge$Kind", .object "RecordBridge$Edition"]
def CR (D : DD) (ad : AD) (a : Nat) (c : MC) (H : Heap) : Prop := match c with
  | .inl o => ∃ (r : vw_C) (V : Nat → Value), vwCl[o.1]? = some r ∧ o.2.length = r.2.2 ∧ t_OB a (D.1 o.1) r.2.2 (D.2.1 o.1) H V ∧ ∀ i v, o.2[i]? = some v → VR ad v (V i)
  | .inr o => o.1 ∈ aTys ∧ ∃ f : Nat → Value, H[a]? = some (arrV (D.2.2 o.1) o.2.length f) ∧ ∀ i v, o.2[i]? = some v → VR ad v (f i)
def KK (D : DD) (U : State) : Prop := (∀ (c : Nat) (q : vw_C), vwCl[c]? = some q → u_Kn U q.1 q.2.1 q.2.2 (D.1 c) (D.2.1 c)) ∧ (∀ ty ∈ aTys, ArrOfT U (D.2.2 ty) ty ∧ va_RA U (D.2.2 ty) ty) ∧ ∀ w ∈ NG, va_Nw w U
def HR (D : DD) (B0 : Heap) (ad : AD) (h : MH) (H : Heap) : Prop :=
  B0.size ≤ H.size ∧ (∀ q, q < B0.size → H[q]? = B0[q]?) ∧ (∀ n, h n = none ↔ (ad n = none ∨ n = scr)) ∧ (∀ n n' a, ad n = some a → ad n' = some a → n = n') ∧ ((∀ n a, ad n = some a → n ≠ scr → B0.size ≤ a) ∧ ∀ a, ad scr = some a → a < B0.size) ∧ ∀ n c a, h n = some c → ad n = some a → CR D ad a c H
def LR (ad : AD) (nL : Nat) (ls : List (Option MV)) (arr : Array Slot) : Prop :=
  ∃ lv : List (Nat × Value), lv_has arr nL lv ∧ ∀ i v, ls[i]? = some (some v) → ∃ w, (i, w) ∈ lv ∧ VR ad v w
def SR (ad : AD) : List MV → List Value → Prop
  | [], ws => ws = []
  | v :: vs, ws => ∃ w ws', ws = w :: ws' ∧ VR ad v w ∧ SR ad vs ws'
def OVR (ad : AD) : Option MV → Option Value → Prop
  | none, w => w = none
  | some v, w => ∃ x, w = some x ∧ VR ad v x
def AdLe (ad ad' : AD) : Prop := ∀ n a, ad n = some a → ad' n = some a
/-- a method: its name, code, locals, answer; the last: the script, of the law alone -/
abbrev MU : Type := MethodName × ByteArray × Nat × Option FieldType × Option (Nat × (Nat → Int32))
def SCX (o : Option (Nat × (Nat → Int32))) (B0 : Heap) (ad0 : AD) (s : State) : Prop := match o with
  | none => True
  | some q => ∃ b, ad0 scr = some b ∧ va_X b q.1 q.2 s B0 ∧ b < B0.size
/-- which instruction ends a method, with which answer -/
def RI (ret : Option FieldType) (i : Instr) (v : Option MV) : Prop :=
  (i = .ireturn ∧ ∃ x ty, v = some (jI x) ∧ ret = some ty ∧ narrow ty (.int x) = .int x) ∨
  (i = .lreturn ∧ ∃ x, v = some (jL x) ∧ ret = some .long) ∨
  (i = .areturn ∧ ∃ o rt, v = some (jR o) ∧ ret = some rt ∧ ((∃ n, rt = .object n) ∨ ∃ t, rt = .array t)) ∨
  (i = .return_ ∧ v = none ∧ ret = none)
def CX (μ : MU) (d : Nat) (D : DD) (p : Program) (R : Room) (s : State) (m : MethodId) (args : Array Value) (meth : Method) (c : Code) : Prop :=
  p.tables.exec = Jvm.exec ∧ c.code = μ.2.1 ∧ c.maxLocals = μ.2.2.1 ∧ meth.sig.returnType = μ.2.2.2.1 ∧ s.vm.findClass μ.1.cls = some m.cls ∧ (∀ w ∈ gTbl, w.before args s = true) ∧ meth.locks = false ∧ (μ.1.name = "<init>" → meth.name = "<init>") ∧ KK D s ∧ d ≤ R.frames ∧ 80 * d ≤ R.locals
def RO (μ : MU) (D : DD) (B0 : Heap) (ad0 : AD) (p : Program) (l : Launch) (e : Env) (R : Room) (s : State) (m : MethodId) (args : Array Value) (below : List Frame) (meth : Method) (c : Code) (Q : Option MV → MH → Prop) (Z : State → Prop) : Prop :=
  ∀ (ad : AD) (h : MH) (H : Heap) (locs : List Loc) (cells slots : Nat) (v : Option MV) (w : Option Value) (i : Instr) (pc : Nat) (lsR : Array Slot),
    HR D B0 ad h H → AdLe ad0 ad → (∀ q ∈ locs, B0.size ≤ q.base) → cells ≤ R.cells → slots ≤ R.slots → Q v h → OVR ad v w → RI μ.2.2.2.1 i v → decode μ.2.1 pc = .ok (i, 1) →
    W p l e R s m args below meth c H locs cells slots Z (F0 m pc lsR w.toList)
/-- THE JUDGEMENT: from pc on, with these locals, this stack, this heap and the room u, the method comes to its end with Q -/
def T (μ : MU) (d : Nat) (pc : Nat) (ls : List (Option MV)) (st : List MV) (h : MH) (u : Nat) (Q : Option MV → MH → Prop) : Prop :=
  ∀ (p : Program) (l : Launch) (e : Env) (R : Room) (s : State) (m : MethodId) (args : Array Value) (below : List Frame) (meth : Method) (c : Code) (D : DD) (B0 : Heap) (ad0 : AD) (Z : State → Prop),
    CX μ d D p R s m args meth c → SCX μ.2.2.2.2 B0 ad0 s → RO μ D B0 ad0 p l e R s m args below meth c Q Z →
    ∀ (ad : AD) (H : Heap) (locs : List Loc) (cells slots : Nat) (lsR : Array Slot) (stR : List Value),
      HR D B0 ad h H → AdLe ad0 ad → (∀ q ∈ locs, B0.size ≤ q.base) → cells + u ≤ R.cells → slots + u ≤ R.slots → LR ad μ.2.2.1 ls lsR → SR ad st stR →
      W p l e R s m args below meth c H locs cells slots Z (F0 m pc lsR stR)
abbrev rmOf (d u : Nat) : Room := { frames := d, cells := u, slots := u, locals := 80 * d }
abbrev wsOf (μ : MU) : List Cond := .code μ.1 μ.2.1 μ.2.2.1 μ.2.2.2.1 :: gTbl
def Ct (μ : MU) (d u : Nat) (av : List MV) (h : MH) (Q : Option MV → MH → Prop) : Prop :=
  ∀ (l : Launch) (D : DD) (B0 : Heap) (ad : AD), Met l μ.1 (wsOf μ) (rmOf d u)
    (fun a U => SR ad av a.toList ∧ HR D B0 ad h U.heap ∧ KK D U)
    (fun _ _ o t => ∃ (v : Option MV) (h' : MH) (ad' : AD) (w : Option Value), Q v h' ∧ AdLe ad ad' ∧ HR D B0 ad' h' t.heap ∧ OVR ad' v w ∧ o = .returned w) u u (fun q => B0.size ≤ q)
/-- a call with the room u: what is left behind it goes on -/
def inv (d : Nat) (μ : MU) (av : List MV) (h : MH) (u : Nat) (K : Option MV → MH → Nat → Prop) : Prop := ∃ u1, u1 ≤ u ∧ Ct μ d u1 av h (fun v h' => K v h' (u - u1))

theorem AdLe.rf (ad : AD) : AdLe ad ad := fun _ _ h => h
theorem AdLe.tr {a b c : AD} (h : AdLe a b) (k : AdLe b c) : AdLe a c := fun n x q => k n x (h n x q)
theorem VR.mono {ad ad' : AD} (h : AdLe ad ad') {v : MV} {w : Value} (k : VR ad v w) : VR ad' v w := by
  match v, k with
  | .inl x, k => exact k
  | .inr (.inl x), k => exact k
  | .inr (.inr (.inl x)), k => exact k
  | .inr (.inr (.inr (.inl x))), k => exact k
  | .inr (.inr (.inr (.inr none))), k => exact k
  | .inr (.inr (.inr (.inr (some n)))), ⟨a, k1, k2⟩ => exact ⟨a, h n a k1, k2⟩
theorem VR.cat {ad : AD} {v : MV} {w : Value} (k : VR ad v w) : w.category = if cat2 v then 2 else 1 := by
  match v, k with
  | .inl x, k => cases k; rfl
  | .inr (.inl x), k => cases k; rfl
  | .inr (.inr (.inl x)), k => cases k; rfl
  | .inr (.inr (.inr (.inl x))), k => cases k; rfl
  | .inr (.inr (.inr (.inr none))), k => cases k; rfl
  | .inr (.inr (.inr (.inr (some n)))), ⟨a, k1, k2⟩ => cases k2; rfl
theorem SR.mono {ad ad' : AD} (h : AdLe ad ad') : ∀ {st : List MV} {ws : List Value}, SR ad st ws → SR ad' st ws
  | [], _, k => k
  | _ :: _, _, ⟨w, ws', e, k1, k2⟩ => ⟨w, ws', e, k1.mono h, SR.mono h k2⟩
theorem OVR.mono {ad ad' : AD} (h : AdLe ad ad') : ∀ {v : Option MV} {w : Option Value}, OVR ad v w → OVR ad' v w
  | none, _, k => k
  | some _, _, ⟨x, e, k⟩ => ⟨x, e, k.mono h⟩
theorem LR.mono {ad ad' : AD} (h : AdLe ad ad') {nL : Nat} {ls : List (Option MV)} {arr : Array Slot} (k : LR ad nL ls arr) : LR ad' nL ls arr := by
  obtain ⟨lv, h1, h2⟩ := k
  refine ⟨lv, h1, fun i v hv => ?_⟩
  obtain ⟨w, a, b⟩ := h2 i v hv
  exact ⟨w, a, b.mono h⟩
theorem SR.len {ad : AD} : ∀ {st : List MV} {ws : List Value}, SR ad st ws → ws.length = st.length
  | [], _, k => by cases k; rfl
  | _ :: st, _, ⟨w, ws', e, _, k2⟩ => by subst e; simp [SR.len k2]
theorem SR.catSum {ad : AD} : ∀ {st : List MV} {ws : List Value}, SR ad st ws → (ws.map fun v => v.category).sum ≤ 2 * st.length
  | [], _, k => by cases k; simp
  | v :: st, _, ⟨w, ws', e, k1, k2⟩ => by
    subst e
    have := SR.catSum k2
    have h2 := k1.cat
    simp only [List.map_cons, List.sum_cons, List.length_cons]
    split at h2 <;> omega
theorem SR.app {ad : AD} : ∀ {a b : List MV} {x y : List Value}, SR ad a x → SR ad b y → SR ad (a ++ b) (x ++ y)
  | [], _, _, _, h, k => by cases h; exact k
  | _ :: _, _, _, _, ⟨w, ws', e, h1, h2⟩, k => by subst e; exact ⟨w, ws' ++ _, rfl, h1, SR.app h2 k⟩
theorem SR.split {ad : AD} : ∀ {a b : List MV} {z : List Value}, SR ad (a ++ b) z → ∃ x y, z = x ++ y ∧ SR ad a x ∧ SR ad b y
  | [], _, z, h => ⟨[], z, rfl, rfl, h⟩
  | _ :: a, _, _, ⟨w, ws', e, h1, h2⟩ => by
    obtain ⟨x, y, e2, k1, k2⟩ := SR.split (a := a) h2
    exact ⟨w :: x, y, by rw [e, e2]; rfl, ⟨w, x, rfl, h1, k1⟩, k2⟩
theorem SR.rev {ad : AD} : ∀ {a : List MV} {x : List Value}, SR ad a x → SR ad a.reverse x.reverse
  | [], _, h => by cases h; rfl
  | v :: a, _, ⟨w, ws', e, h1, h2⟩ => by
    subst e
    rw [List.reverse_cons, List.reverse_cons]
    exact SR.app (SR.rev h2) ⟨w, [], rfl, h1, rfl⟩
theorem KK.same {D : DD} {u U : State} (hvm : u.vm = U.vm) (h : KK D u) : KK D U :=
  ⟨fun c q hq => u_Kn_moved (hvm ▸ Vm.Alike.refl u.vm) (h.1 c q hq), fun ty ht => ⟨arrOfT_moved (hvm ▸ Vm.Alike.refl u.vm) (h.2.1 ty ht).1, (h.2.1 ty ht).2.moved (hvm ▸ Vm.Alike.refl u.vm)⟩, fun w hw => by
    have h1 := h.2.2 w hw
    simp only [NG, List.mem_cons, List.not_mem_nil, or_false] at hw
    rcases hw with rfl | rfl | rfl | rfl | rfl | rfl
    · exact va_AO.moved (hvm ▸ Vm.Alike.refl u.vm) h1
    · exact va_AO.moved (hvm ▸ Vm.Alike.refl u.vm) h1
    · exact va_AO.moved (hvm ▸ Vm.Alike.refl u.vm) h1
    · exact va_AO.moved (hvm ▸ Vm.Alike.refl u.vm) h1
    · exact va_Nw.same rfl hvm h1
    · exact va_Nw.same rfl hvm h1⟩
theorem KK.moved {D : DD} {u U : State} (hW : u.WarmedH U.vm) (h : KK D u) : KK D U :=
  ⟨fun c q hq => u_Kn_moved hW.alike (h.1 c q hq), fun ty ht => ⟨arrOfT_moved hW.alike (h.2.1 ty ht).1, (h.2.1 ty ht).2.moved hW.alike⟩, fun w hw => by
    have h1 := h.2.2 w hw
    simp only [NG, List.mem_cons, List.not_mem_nil, or_false] at hw
    rcases hw with rfl | rfl | rfl | rfl | rfl | rfl
    · exact va_AO.moved hW.alike h1
    · exact va_AO.moved hW.alike h1
    · exact va_AO.moved hW.alike h1
    · exact va_AO.moved hW.alike h1
    · exact va_Nw.warmC hW h1
    · exact va_Nw.warmM hW h1⟩
theorem CR.kept {D : DD} {ad : AD} {a : Nat} {c : MC} {H H1 : Heap} (h : CR D ad a c H) (hq : H1[a]? = H[a]?) : CR D ad a c H1 := by
  cases c with
  | inl o => obtain ⟨r, V, h1, h2, h3, h4⟩ := h; exact ⟨r, V, h1, h2, h3.kept hq, h4⟩
  | inr o => obtain ⟨h0, f, h1, h2⟩ := h; exact ⟨h0, f, hq.trans h1, h2⟩
theorem CR.mono {D : DD} {ad ad' : AD} (hle : AdLe ad ad') {a : Nat} {c : MC} {H : Heap} (h : CR D ad a c H) : CR D ad' a c H := by
  cases c with
  | inl o => obtain ⟨r, V, h1, h2, h3, h4⟩ := h; exact ⟨r, V, h1, h2, h3, fun i v hv => (h4 i v hv).mono hle⟩
  | inr o => obtain ⟨h0, f, h1, h2⟩ := h; exact ⟨h0, f, h1, fun i v hv => (h2 i v hv).mono hle⟩
theorem CR.lt {D : DD} {ad : AD} {a : Nat} {c : MC} {H : Heap} (h : CR D ad a c H) : a < H.size := by
  cases c with
  | inl o => obtain ⟨r, V, h1, h2, ⟨cell, h3, -⟩, h4⟩ := h; exact (Array.getElem?_eq_some_iff.mp h3).1
  | inr o => obtain ⟨h0, f, h1, h2⟩ := h; exact (Array.getElem?_eq_some_iff.mp h1).1
theorem HR.at {D : DD} {B0 : Heap} {ad : AD} {h : MH} {H : Heap} (k : HR D B0 ad h H) {n : Nm} {c : MC} (hn : h n = some c) : ∃ a, ad n = some a ∧ CR D ad a c H := by
  cases ha : ad n with
  | none => rw [(k.2.2.1 n).mpr (Or.inl ha)] at hn; cases hn
  | some a => exact ⟨a, rfl, k.2.2.2.2.2 n c a hn ha⟩
theorem HR.ns {D : DD} {B0 : Heap} {ad : AD} {h : MH} {H : Heap} (k : HR D B0 ad h H) {n : Nm} {c : MC} (hn : h n = some c) : n ≠ scr := fun e => by rw [(k.2.2.1 n).mpr (Or.inr e)] at hn; cases hn
theorem HR.fr {D : DD} {B0 : Heap} {ad : AD} {h : MH} {H : Heap} (k : HR D B0 ad h H) {n : Nm} (hn : h n = none) (hs : n ≠ scr) : ad n = none := ((k.2.2.1 n).mp hn).elim id (fun e => absurd e hs)
/-- one cell is written -/
theorem HR.set {D : DD} {B0 : Heap} {ad : AD} {h : MH} {H H1 : Heap} (k : HR D B0 ad h H) {n : Nm} {c c' : MC} {a : Nat} (hn : h n = some c) (ha : ad n = some a) (hz : H1.size = H.size) (oq : ∀ q, q ≠ a → H1[q]? = H[q]?) (hc : CR D ad a c' H1) : HR D B0 ad (hset h n c') H1 := by
  have hs := k.ns hn
  obtain ⟨k1, k2, k3, k4, k5, k6⟩ := k
  refine ⟨by omega, fun q hq => ?_, fun m => ?_, k4, k5, fun m c2 a2 hm ha2 => ?_⟩
  · have := k5.1 n a ha hs
    rw [oq q (by omega)]
    exact k2 q hq
  · unfold hset
    by_cases e : m = n
    · subst e
      rw [if_pos rfl, ha]
      simp [hs]
    · rw [if_neg e]; exact k3 m
  · unfold hset at hm
    by_cases e : m = n
    · subst e
      rw [if_pos rfl] at hm
      cases hm
      cases ha.symm.trans ha2
      exact hc
    · rw [if_neg e] at hm
      refine (k6 m c2 a2 hm ha2).kept (oq a2 (fun q => e ?_))
      subst q
      exact k4 m n a2 ha2 ha
theorem adset_le {ad : AD} {n : Nm} {a : Nat} (h : ad n = none) : AdLe ad (adset ad n a) := fun m b hm => by
  unfold adset
  by_cases e : m = n
  · subst e; rw [h] at hm; cases hm
  · rw [if_neg e]; exact hm
/-- one cell is made -/
theorem HR.push {D : DD} {B0 : Heap} {ad : AD} {h : MH} {H H1 : Heap} (k : HR D B0 ad h H) {n : Nm} {c : MC} (hn : h n = none) (hs : n ≠ scr) (hz : H1.size = H.size + 1) (oq : ∀ q, q < H.size → H1[q]? = H[q]?) (hc : CR D (adset ad n H.size) H.size c H1) : HR D B0 (adset ad n H.size) (hset h n c) H1 := by
  obtain ⟨k1, k2, k3, k4, ⟨k5, k7⟩, k6⟩ := k
  have hadn : ad n = none := ((k3 n).mp hn).elim id (fun e => absurd e hs)
  have hlt : ∀ m b, ad m = some b → b < H.size := by
    intro m b hb
    by_cases hms : m = scr
    · subst hms; exact Nat.lt_of_lt_of_le (k7 b hb) k1
    cases hm : h m with
    | none => rcases (k3 m).mp hm with q | q; rw [q] at hb; cases hb; exact absurd q hms
    | some c2 => exact (k6 m c2 b hm hb).lt
  refine ⟨by omega, fun q hq => ?_, fun m => ?_, fun m m' b h1 h2 => ?_, ⟨fun m b h1 h2 => ?_, fun b h1 => ?_⟩, fun m c2 b h1 h2 => ?_⟩
  · rw [oq q (by omega)]; exact k2 q hq
  · unfold hset adset
    by_cases e : m = n
    · rw [if_pos e, if_pos e]; simp [e, hs]
    · rw [if_neg e, if_neg e]; exact k3 m
  · unfold adset at h1 h2
    by_cases e : m = n
    · rw [if_pos e] at h1
      cases h1
      by_cases e' : m' = n
      · rw [e, e']
      · rw [if_neg e'] at h2
        exact absurd (hlt m' _ h2) (by omega)
    · rw [if_neg e] at h1
      by_cases e' : m' = n
      · rw [if_pos e'] at h2
        cases h2
        exact absurd (hlt m _ h1) (by omega)
      · rw [if_neg e'] at h2
        exact k4 m m' b h1 h2
  · unfold adset at h1
    by_cases e : m = n
    · rw [if_pos e] at h1; cases h1; exact k1
    · rw [if_neg e] at h1; exact k5 m b h1 h2
  · unfold adset at h1
    rw [if_neg (fun e => hs e.symm)] at h1
    exact k7 b h1
  · unfold hset at h1
    unfold adset at h2
    by_cases e : m = n
    · rw [if_pos e] at h1 h2
      cases h1; cases h2
      exact hc
    · rw [if_neg e] at h1 h2
      exact ((k6 m c2 b h1 h2).kept (oq b (hlt m b h2))).mono (adset_le hadn)
end
section
/-! THE RULES: an instruction, a row -/
theorem LR.get {ad : AD} {nL : Nat} {ls : List (Option MV)} {arr : Array Slot} (h : LR ad nL ls arr) {i : Nat} {v : MV} (hi : ls[i]? = some (some v)) : ∃ w, arr[i]? = some (.val w) ∧ VR ad v w := by
  obtain ⟨lv, h1, h2⟩ := h
  obtain ⟨w, a, b⟩ := h2 i v hi
  exact ⟨w, h1.2.2 _ a, b⟩
def clob (ls : List (Option MV)) (i : Nat) : List (Option MV) := match i with
  | 0 => ls
  | j + 1 => match ls[j]? with
    | some (some x) => if cat2 x then ls.set j none else ls
    | _ => ls
def st1 (ls : List (Option MV)) (i : Nat) (v : MV) : List (Option MV) := (clob ls i).set i (some v)
def st2 (ls : List (Option MV)) (i : Nat) (v : MV) : List (Option MV) := ((clob ls i).set i (some v)).set (i + 1) none
theorem set_some {l : List (Option MV)} {i j : Nat} {v : Option MV} {x : MV} (h : (l.set i v)[j]? = some (some x)) : (j = i ∧ v = some x) ∨ (j ≠ i ∧ l[j]? = some (some x)) := by
  rw [List.getElem?_set] at h
  by_cases e : i = j
  · rw [if_pos e] at h
    split at h
    · exact Or.inl ⟨e.symm, Option.some.inj h⟩
    · cases h
  · rw [if_neg e] at h
    exact Or.inr ⟨fun q => e q.symm, h⟩
theorem clob_at {ls : List (Option MV)} {i j : Nat} {x : MV} (h : (clob ls i)[j]? = some (some x)) : ls[j]? = some (some x) ∧ ¬ (j + 1 = i ∧ cat2 x = true) := by
  cases i with
  | zero => exact ⟨h, fun q => by omega⟩
  | succ i =>
    unfold clob at h
    simp only at h
    split at h
    · rename_i y hy
      split at h
      · rename_i hc
        rcases set_some h with ⟨e1, e2⟩ | ⟨e1, e2⟩
        · cases e2
        · exact ⟨e2, fun q => by omega⟩
      · rename_i hc
        refine ⟨h, fun q => ?_⟩
        have : j = i := by omega
        subst this
        rw [hy] at h
        cases h
        exact hc q.2
    · rename_i hy
      refine ⟨h, fun q => ?_⟩
      have : j = i := by omega
      subst this
      exact hy x h
theorem st1_ok {ad : AD} {ls : List (Option MV)} {lv : List (Nat × Value)} (h : ∀ i v, ls[i]? = some (some v) → ∃ w, (i, w) ∈ lv ∧ VR ad v w) {i : Nat} {v : MV} {w : Value} (hv : VR ad v w) :
    ∀ j x, (st1 ls i v)[j]? = some (some x) → ∃ y, (j, y) ∈ ((i, w) :: lv.filter (fun q => !(q.1 == i) && !(q.1 + 1 == i && q.2.category == 2))) ∧ VR ad x y := by
  intro j x hj
  rcases set_some hj with ⟨e1, e2⟩ | ⟨e1, e2⟩
  · cases e2
    subst e1
    exact ⟨w, List.mem_cons_self, hv⟩
  · obtain ⟨h1, h2⟩ := clob_at e2
    obtain ⟨y, h3, h4⟩ := h j x h1
    refine ⟨y, List.mem_cons_of_mem _ (List.mem_filter.mpr ⟨h3, ?_⟩), h4⟩
    have hc := h4.cat
    simp only [Bool.and_eq_true, Bool.not_eq_true', beq_eq_false_iff_ne, ne_eq, Bool.and_eq_false_iff]
    refine ⟨e1, ?_⟩
    by_cases e : j + 1 = i
    · right
      have : ¬ cat2 x = true := fun q => h2 ⟨e, q⟩
      rw [if_neg this] at hc
      simp [hc]
    · left; exact e
theorem st2_ok {ad : AD} {ls : List (Option MV)} {lv : List (Nat × Value)} (h : ∀ i v, ls[i]? = some (some v) → ∃ w, (i, w) ∈ lv ∧ VR ad v w) {i : Nat} {v : MV} {w : Value} (hv : VR ad v w) :
    ∀ j x, (st2 ls i v)[j]? = some (some x) → ∃ y, (j, y) ∈ ((i, w) :: lv.filter (fun q => !(q.1 == i) && (!(q.1 == i + 1) && !(q.1 + 1 == i && q.2.category == 2)))) ∧ VR ad x y := by
  intro j x hj
  rcases set_some hj with ⟨e1, e2⟩ | ⟨e0, hj⟩
  · cases e2
  rcases set_some hj with ⟨e1, e2⟩ | ⟨e1, e2⟩
  · cases e2
    subst e1
    exact ⟨w, List.mem_cons_self, hv⟩
  · obtain ⟨h1, h2⟩ := clob_at e2
    obtain ⟨y, h3, h4⟩ := h j x h1
    refine ⟨y, List.mem_cons_of_mem _ (List.mem_filter.mpr ⟨h3, ?_⟩), h4⟩
    have hc := h4.cat
    simp only [Bool.and_eq_true, Bool.not_eq_true', beq_eq_false_iff_ne, ne_eq, Bool.and_eq_false_iff]
    refine ⟨e1, e0, ?_⟩
    by_cases e : j + 1 = i
    · right
      have : ¬ cat2 x = true := fun q => h2 ⟨e, q⟩
      rw [if_neg this] at hc
      simp [hc]
    · left; exact e
section Rules
variable {μ : MU} {d pc : Nat} {ls : List (Option MV)} {st : List MV} {h : MH} {u : Nat} {Q : Option MV → MH → Prop}
theorem T_iadd  {y : Int32} {x : Int32} (hd : decode μ.2.1 pc = .ok (.iadd, 1))  (k : T μ d (pc + 1) ls (jI (x + y) :: st) h u Q) : T μ d pc ls (jI y :: jI x :: st) h u Q := by
  intro p l e R s m args below meth c D B0 ad0 Z C S0 O ad H locs cells slots lsR stR hH hA hL hc hs hl hst
  obtain ⟨w0, t0, e0, v0, hst⟩ := hst
  obtain ⟨w1, t1, e1, v1, hst⟩ := hst
  subst e0; cases v0
  subst e1; cases v1
  exact lv_iadd C.1 C.2.1 hd  (k p l e R s m args below meth c D B0 ad0 Z C S0 O ad H locs cells slots lsR _ hH hA hL hc hs hl ⟨_, _, rfl, rfl, hst⟩)
theorem T_isub  {y : Int32} {x : Int32} (hd : decode μ.2.1 pc = .ok (.isub, 1))  (k : T μ d (pc + 1) ls (jI (x - y) :: st) h u Q) : T μ d pc ls (jI y :: jI x :: st) h u Q := by
  intro p l e R s m args below meth c D B0 ad0 Z C S0 O ad H locs cells slots lsR stR hH hA hL hc hs hl hst
  obtain ⟨w0, t0, e0, v0, hst⟩ := hst
  obtain ⟨w1, t1, e1, v1, hst⟩ := hst
  subst e0; cases v0
  subst e1; cases v1
  exact lv_isub C.1 C.2.1 hd  (k p l e R s m args below meth c D B0 ad0 Z C S0 O ad H locs cells slots lsR _ hH hA hL hc hs hl ⟨_, _, rfl, rfl, hst⟩)
theorem T_imul  {y : Int32} {x : Int32} (hd : decode μ.2.1 pc = .ok (.imul, 1))  (k : T μ d (pc + 1) ls (jI (x * y) :: st) h u Q) : T μ d pc ls (jI y :: jI x :: st) h u Q := by
  intro p l e R s m args below meth c D B0 ad0 Z C S0 O ad H locs cells slots lsR stR hH hA hL hc hs hl hst
  obtain ⟨w0, t0, e0, v0, hst⟩ := hst
  obtain ⟨w1, t1, e1, v1, hst⟩ := hst
  subst e0; cases v0
  subst e1; cases v1
  exact lv_imul C.1 C.2.1 hd  (k p l e R s m args below meth c D B0 ad0 Z C S0 O ad H locs cells slots lsR _ hH hA hL hc hs hl ⟨_, _, rfl, rfl, hst⟩)
theorem T_iand  {y : Int32} {x : Int32} (hd : decode μ.2.1 pc = .ok (.iand, 1))  (k : T μ d (pc + 1) ls (jI (x &&& y) :: st) h u Q) : T μ d pc ls (jI y :: jI x :: st) h u Q := by
  intro p l e R s m args below meth c D B0 ad0 Z C S0 O ad H locs cells slots lsR stR hH hA hL hc hs hl hst
  obtain ⟨w0, t0, e0, v0, hst⟩ := hst
  obtain ⟨w1, t1, e1, v1, hst⟩ := hst
  subst e0; cases v0
  subst e1; cases v1
  exact lv_iand C.1 C.2.1 hd  (k p l e R s m args below meth c D B0 ad0 Z C S0 O ad H locs cells slots lsR _ hH hA hL hc hs hl ⟨_, _, rfl, rfl, hst⟩)
theorem T_ior  {y : Int32} {x : Int32} (hd : decode μ.2.1 pc = .ok (.ior, 1))  (k : T μ d (pc + 1) ls (jI (x ||| y) :: st) h u Q) : T μ d pc ls (jI y :: jI x :: st) h u Q := by
  intro p l e R s m args below meth c D B0 ad0 Z C S0 O ad H locs cells slots lsR stR hH hA hL hc hs hl hst
  obtain ⟨w0, t0, e0, v0, hst⟩ := hst
  obtain ⟨w1, t1, e1, v1, hst⟩ := hst
  subst e0; cases v0
  subst e1; cases v1
  exact lv_ior C.1 C.2.1 hd  (k p l e R s m args below meth c D B0 ad0 Z C S0 O ad H locs cells slots lsR _ hH hA hL hc hs hl ⟨_, _, rfl, rfl, hst⟩)
theorem T_ixor  {y : Int32} {x : Int32} (hd : decode μ.2.1 pc = .ok (.ixor, 1))  (k : T μ d (pc + 1) ls (jI (x ^^^ y) :: st) h u Q) : T μ d pc ls (jI y :: jI x :: st) h u Q := by
  intro p l e R s m args below meth c D B0 ad0 Z C S0 O ad H locs cells slots lsR stR hH hA hL hc hs hl hst
  obtain ⟨w0, t0, e0, v0, hst⟩ := hst
  obtain ⟨w1, t1, e1, v1, hst⟩ := hst
  subst e0; cases v0
  subst e1; cases v1
  exact lv_ixor C.1 C.2.1 hd  (k p l e R s m args below meth c D B0 ad0 Z C S0 O ad H locs cells slots lsR _ hH hA hL hc hs hl ⟨_, _, rfl, rfl, hst⟩)
theorem T_ishl  {y : Int32} {x : Int32} (hd : decode μ.2.1 pc = .ok (.ishl, 1))  (k : T μ d (pc + 1) ls (jI (x <<< (y &&& 31)) :: st) h u Q) : T μ d pc ls (jI y :: jI x :: st) h u Q := by
  intro p l e R s m args below meth c D B0 ad0 Z C S0 O ad H locs cells slots lsR stR hH hA hL hc hs hl hst
  obtain ⟨w0, t0, e0, v0, hst⟩ := hst
  obtain ⟨w1, t1, e1, v1, hst⟩ := hst
  subst e0; cases v0
  subst e1; cases v1
  exact lv_ishl C.1 C.2.1 hd  (k p l e R s m args below meth c D B0 ad0 Z C S0 O ad H locs cells slots lsR _ hH hA hL hc hs hl ⟨_, _, rfl, rfl, hst⟩)
theorem T_ishr  {y : Int32} {x : Int32} (hd : decode μ.2.1 pc = .ok (.ishr, 1))  (k : T μ d (pc + 1) ls (jI (x >>> (y &&& 31)) :: st) h u Q) : T μ d pc ls (jI y :: jI x :: st) h u Q := by
  intro p l e R s m args below meth c D B0 ad0 Z C S0 O ad H locs cells slots lsR stR hH hA hL hc hs hl hst
  obtain ⟨w0, t0, e0, v0, hst⟩ := hst
  obtain ⟨w1, t1, e1, v1, hst⟩ := hst
  subst e0; cases v0
  subst e1; cases v1
  exact lv_ishr C.1 C.2.1 hd  (k p l e R s m args below meth c D B0 ad0 Z C S0 O ad H locs cells slots lsR _ hH hA hL hc hs hl ⟨_, _, rfl, rfl, hst⟩)
theorem T_iushr  {y : Int32} {x : Int32} (hd : decode μ.2.1 pc = .ok (.iushr, 1))  (k : T μ d (pc + 1) ls (jI ((x.toUInt32 >>> (y.toUInt32 &&& Int32.toUInt32 31)).toInt32) :: st) h u Q) : T μ d pc ls (jI y :: jI x :: st) h u Q := by
  intro p l e R s m args below meth c D B0 ad0 Z C S0 O ad H locs cells slots lsR stR hH hA hL hc hs hl hst
  obtain ⟨w0, t0, e0, v0, hst⟩ := hst
  obtain ⟨w1, t1, e1, v1, hst⟩ := hst
  subst e0; cases v0
  subst e1; cases v1
  exact lv_iushr C.1 C.2.1 hd rfl (k p l e R s m args below meth c D B0 ad0 Z C S0 O ad H locs cells slots lsR _ hH hA hL hc hs hl ⟨_, _, rfl, rfl, hst⟩)
theorem T_idiv  {y : Int32} {x : Int32} (hd : decode μ.2.1 pc = .ok (.idiv, 1)) (hne : ¬ y = 0) (k : T μ d (pc + 1) ls (jI (x / y) :: st) h u Q) : T μ d pc ls (jI y :: jI x :: st) h u Q := by
  intro p l e R s m args below meth c D B0 ad0 Z C S0 O ad H locs cells slots lsR stR hH hA hL hc hs hl hst
  obtain ⟨w0, t0, e0, v0, hst⟩ := hst
  obtain ⟨w1, t1, e1, v1, hst⟩ := hst
  subst e0; cases v0
  subst e1; cases v1
  exact lv_idiv C.1 C.2.1 hd hne (k p l e R s m args below meth c D B0 ad0 Z C S0 O ad H locs cells slots lsR _ hH hA hL hc hs hl ⟨_, _, rfl, rfl, hst⟩)
theorem T_ladd  {y : Int64} {x : Int64} (hd : decode μ.2.1 pc = .ok (.ladd, 1))  (k : T μ d (pc + 1) ls (jL (x + y) :: st) h u Q) : T μ d pc ls (jL y :: jL x :: st) h u Q := by
  intro p l e R s m args below meth c D B0 ad0 Z C S0 O ad H locs cells slots lsR stR hH hA hL hc hs hl hst
  obtain ⟨w0, t0, e0, v0, hst⟩ := hst
  obtain ⟨w1, t1, e1, v1, hst⟩ := hst
  subst e0; cases v0
  subst e1; cases v1
  exact lv_ladd C.1 C.2.1 hd  (k p l e R s m args below meth c D B0 ad0 Z C S0 O ad H locs cells slots lsR _ hH hA hL hc hs hl ⟨_, _, rfl, rfl, hst⟩)
theorem T_lsub  {y : Int64} {x : Int64} (hd : decode μ.2.1 pc = .ok (.lsub, 1))  (k : T μ d (pc + 1) ls (jL (x - y) :: st) h u Q) : T μ d pc ls (jL y :: jL x :: st) h u Q := by
  intro p l e R s m args below meth c D B0 ad0 Z C S0 O ad H locs cells slots lsR stR hH hA hL hc hs hl hst
  obtain ⟨w0, t0, e0, v0, hst⟩ := hst
  obtain ⟨w1, t1, e1, v1, hst⟩ := hst
  subst e0; cases v0
  subst e1; cases v1
  exact lv_lsub C.1 C.2.1 hd  (k p l e R s m args below meth c D B0 ad0 Z C S0 O ad H locs cells slots lsR _ hH hA hL hc hs hl ⟨_, _, rfl, rfl, hst⟩)
theorem T_lmul  {y : Int64} {x : Int64} (hd : decode μ.2.1 pc = .ok (.lmul, 1))  (k : T μ d (pc + 1) ls (jL (x * y) :: st) h u Q) : T μ d pc ls (jL y :: jL x :: st) h u Q := by
  intro p l e R s m args below meth c D B0 ad0 Z C S0 O ad H locs cells slots lsR stR hH hA hL hc hs hl hst
  obtain ⟨w0, t0, e0, v0, hst⟩ := hst
  obtain ⟨w1, t1, e1, v1, hst⟩ := hst
  subst e0; cases v0
  subst e1; cases v1
  exact lv_lmul C.1 C.2.1 hd  (k p l e R s m args below meth c D B0 ad0 Z C S0 O ad H locs cells slots lsR _ hH hA hL hc hs hl ⟨_, _, rfl, rfl, hst⟩)
theorem T_land  {y : Int64} {x : Int64} (hd : decode μ.2.1 pc = .ok (.land, 1))  (k : T μ d (pc + 1) ls (jL (x &&& y) :: st) h u Q) : T μ d pc ls (jL y :: jL x :: st) h u Q := by
  intro p l e R s m args below meth c D B0 ad0 Z C S0 O ad H locs cells slots lsR stR hH hA hL hc hs hl hst
  obtain ⟨w0, t0, e0, v0, hst⟩ := hst
  obtain ⟨w1, t1, e1, v1, hst⟩ := hst
  subst e0; cases v0
  subst e1; cases v1
  exact lv_land C.1 C.2.1 hd  (k p l e R s m args below meth c D B0 ad0 Z C S0 O ad H locs cells slots lsR _ hH hA hL hc hs hl ⟨_, _, rfl, rfl, hst⟩)
theorem T_lor  {y : Int64} {x : Int64} (hd : decode μ.2.1 pc = .ok (.lor, 1))  (k : T μ d (pc + 1) ls (jL (x ||| y) :: st) h u Q) : T μ d pc ls (jL y :: jL x :: st) h u Q := by
  intro p l e R s m args below meth c D B0 ad0 Z C S0 O ad H locs cells slots lsR stR hH hA hL hc hs hl hst
  obtain ⟨w0, t0, e0, v0, hst⟩ := hst
  obtain ⟨w1, t1, e1, v1, hst⟩ := hst
  subst e0; cases v0
  subst e1; cases v1
  exact lv_lor C.1 C.2.1 hd  (k p l e R s m args below meth c D B0 ad0 Z C S0 O ad H locs cells slots lsR _ hH hA hL hc hs hl ⟨_, _, rfl, rfl, hst⟩)
theorem T_lxor  {y : Int64} {x : Int64} (hd : decode μ.2.1 pc = .ok (.lxor, 1))  (k : T μ d (pc + 1) ls (jL (x ^^^ y) :: st) h u Q) : T μ d pc ls (jL y :: jL x :: st) h u Q := by
  intro p l e R s m args below meth c D B0 ad0 Z C S0 O ad H locs cells slots lsR stR hH hA hL hc hs hl hst
  obtain ⟨w0, t0, e0, v0, hst⟩ := hst
  obtain ⟨w1, t1, e1, v1, hst⟩ := hst
  subst e0; cases v0
  subst e1; cases v1
  exact lv_lxor C.1 C.2.1 hd  (k p l e R s m args below meth c D B0 ad0 Z C S0 O ad H locs cells slots lsR _ hH hA hL hc hs hl ⟨_, _, rfl, rfl, hst⟩)
theorem T_ldiv  {y : Int64} {x : Int64} (hd : decode μ.2.1 pc = .ok (.ldiv, 1)) (hne : ¬ y = 0) (k : T μ d (pc + 1) ls (jL (x / y) :: st) h u Q) : T μ d pc ls (jL y :: jL x :: st) h u Q := by
  intro p l e R s m args below meth c D B0 ad0 Z C S0 O ad H locs cells slots lsR stR hH hA hL hc hs hl hst
  obtain ⟨w0, t0, e0, v0, hst⟩ := hst
  obtain ⟨w1, t1, e1, v1, hst⟩ := hst
  subst e0; cases v0
  subst e1; cases v1
  exact lv_ldiv C.1 C.2.1 hd hne (k p l e R s m args below meth c D B0 ad0 Z C S0 O ad H locs cells slots lsR _ hH hA hL hc hs hl ⟨_, _, rfl, rfl, hst⟩)
theorem T_lrem  {y : Int64} {x : Int64} (hd : decode μ.2.1 pc = .ok (.lrem, 1)) (hne : ¬ y = 0) (k : T μ d (pc + 1) ls (jL (x - x / y * y) :: st) h u Q) : T μ d pc ls (jL y :: jL x :: st) h u Q := by
  intro p l e R s m args below meth c D B0 ad0 Z C S0 O ad H locs cells slots lsR stR hH hA hL hc hs hl hst
  obtain ⟨w0, t0, e0, v0, hst⟩ := hst
  obtain ⟨w1, t1, e1, v1, hst⟩ := hst
  subst e0; cases v0
  subst e1; cases v1
  exact lv_lrem C.1 C.2.1 hd hne (k p l e R s m args below meth c D B0 ad0 Z C S0 O ad H locs cells slots lsR _ hH hA hL hc hs hl ⟨_, _, rfl, rfl, hst⟩)
theorem T_lneg  {x : Int64} (hd : decode μ.2.1 pc = .ok (.lneg, 1))  (k : T μ d (pc + 1) ls (jL (-x) :: st) h u Q) : T μ d pc ls (jL x :: st) h u Q := by
  intro p l e R s m args below meth c D B0 ad0 Z C S0 O ad H locs cells slots lsR stR hH hA hL hc hs hl hst
  obtain ⟨w0, t0, e0, v0, hst⟩ := hst
  subst e0; cases v0
  exact lv_lneg C.1 C.2.1 hd  (k p l e R s m args below meth c D B0 ad0 Z C S0 O ad H locs cells slots lsR _ hH hA hL hc hs hl ⟨_, _, rfl, rfl, hst⟩)
theorem T_lshl  {y : Int32} {x : Int64} (hd : decode μ.2.1 pc = .ok (.lshl, 1))  (k : T μ d (pc + 1) ls (jL (x <<< (y.toInt64 &&& 63)) :: st) h u Q) : T μ d pc ls (jI y :: jL x :: st) h u Q := by
  intro p l e R s m args below meth c D B0 ad0 Z C S0 O ad H locs cells slots lsR stR hH hA hL hc hs hl hst
  obtain ⟨w0, t0, e0, v0, hst⟩ := hst
  obtain ⟨w1, t1, e1, v1, hst⟩ := hst
  subst e0; cases v0
  subst e1; cases v1
  exact lv_lshl C.1 C.2.1 hd rfl (k p l e R s m args below meth c D B0 ad0 Z C S0 O ad H locs cells slots lsR _ hH hA hL hc hs hl ⟨_, _, rfl, rfl, hst⟩)
theorem T_lushr  {y : Int32} {x : Int64} (hd : decode μ.2.1 pc = .ok (.lushr, 1))  (k : T μ d (pc + 1) ls (jL ((x.toUInt64 >>> (y.toInt64.toUInt64 &&& Int64.toUInt64 63)).toInt64) :: st) h u Q) : T μ d pc ls (jI y :: jL x :: st) h u Q := by
  intro p l e R s m args below meth c D B0 ad0 Z C S0 O ad H locs cells slots lsR stR hH hA hL hc hs hl hst
  obtain ⟨w0, t0, e0, v0, hst⟩ := hst
  obtain ⟨w1, t1, e1, v1, hst⟩ := hst
  subst e0; cases v0
  subst e1; cases v1
  exact lv_lushr C.1 C.2.1 hd rfl (k p l e R s m args below meth c D B0 ad0 Z C S0 O ad H locs cells slots lsR _ hH hA hL hc hs hl ⟨_, _, rfl, rfl, hst⟩)
theorem T_i2l  {x : Int32} (hd : decode μ.2.1 pc = .ok (.i2l, 1))  (k : T μ d (pc + 1) ls (jL (x.toInt64) :: st) h u Q) : T μ d pc ls (jI x :: st) h u Q := by
  intro p l e R s m args below meth c D B0 ad0 Z C S0 O ad H locs cells slots lsR stR hH hA hL hc hs hl hst
  obtain ⟨w0, t0, e0, v0, hst⟩ := hst
  subst e0; cases v0
  exact lv_i2l C.1 C.2.1 hd rfl (k p l e R s m args below meth c D B0 ad0 Z C S0 O ad H locs cells slots lsR _ hH hA hL hc hs hl ⟨_, _, rfl, rfl, hst⟩)
theorem T_l2i  {x : Int64} (hd : decode μ.2.1 pc = .ok (.l2i, 1))  (k : T μ d (pc + 1) ls (jI (x.toInt32) :: st) h u Q) : T μ d pc ls (jL x :: st) h u Q := by
  intro p l e R s m args below meth c D B0 ad0 Z C S0 O ad H locs cells slots lsR stR hH hA hL hc hs hl hst
  obtain ⟨w0, t0, e0, v0, hst⟩ := hst
  subst e0; cases v0
  exact lv_l2i C.1 C.2.1 hd rfl (k p l e R s m args below meth c D B0 ad0 Z C S0 O ad H locs cells slots lsR _ hH hA hL hc hs hl ⟨_, _, rfl, rfl, hst⟩)
theorem T_i2b  {x : Int32} (hd : decode μ.2.1 pc = .ok (.i2b, 1))  (k : T μ d (pc + 1) ls (jI (x.toInt8.toInt32) :: st) h u Q) : T μ d pc ls (jI x :: st) h u Q := by
  intro p l e R s m args below meth c D B0 ad0 Z C S0 O ad H locs cells slots lsR stR hH hA hL hc hs hl hst
  obtain ⟨w0, t0, e0, v0, hst⟩ := hst
  subst e0; cases v0
  exact lv_i2b C.1 C.2.1 hd rfl (k p l e R s m args below meth c D B0 ad0 Z C S0 O ad H locs cells slots lsR _ hH hA hL hc hs hl ⟨_, _, rfl, rfl, hst⟩)
theorem T_i2s  {x : Int32} (hd : decode μ.2.1 pc = .ok (.i2s, 1))  (k : T μ d (pc + 1) ls (jI (x.toInt16.toInt32) :: st) h u Q) : T μ d pc ls (jI x :: st) h u Q := by
  intro p l e R s m args below meth c D B0 ad0 Z C S0 O ad H locs cells slots lsR stR hH hA hL hc hs hl hst
  obtain ⟨w0, t0, e0, v0, hst⟩ := hst
  subst e0; cases v0
  exact lv_i2s C.1 C.2.1 hd rfl (k p l e R s m args below meth c D B0 ad0 Z C S0 O ad H locs cells slots lsR _ hH hA hL hc hs hl ⟨_, _, rfl, rfl, hst⟩)
theorem T_i2c  {x : Int32} (hd : decode μ.2.1 pc = .ok (.i2c, 1))  (k : T μ d (pc + 1) ls (jI ((x.toUInt32 % 65536).toInt32) :: st) h u Q) : T μ d pc ls (jI x :: st) h u Q := by
  intro p l e R s m args below meth c D B0 ad0 Z C S0 O ad H locs cells slots lsR stR hH hA hL hc hs hl hst
  obtain ⟨w0, t0, e0, v0, hst⟩ := hst
  subst e0; cases v0
  exact lv_i2c C.1 C.2.1 hd rfl (k p l e R s m args below meth c D B0 ad0 Z C S0 O ad H locs cells slots lsR _ hH hA hL hc hs hl ⟨_, _, rfl, rfl, hst⟩)
theorem T_l2f  {x : Int64} (hd : decode μ.2.1 pc = .ok (.l2f, 1))  (k : T μ d (pc + 1) ls (jF (FP.l2f x) :: st) h u Q) : T μ d pc ls (jL x :: st) h u Q := by
  intro p l e R s m args below meth c D B0 ad0 Z C S0 O ad H locs cells slots lsR stR hH hA hL hc hs hl hst
  obtain ⟨w0, t0, e0, v0, hst⟩ := hst
  subst e0; cases v0
  exact lv_l2f C.1 C.2.1 hd  (k p l e R s m args below meth c D B0 ad0 Z C S0 O ad H locs cells slots lsR _ hH hA hL hc hs hl ⟨_, _, rfl, rfl, hst⟩)
theorem T_l2d  {x : Int64} (hd : decode μ.2.1 pc = .ok (.l2d, 1))  (k : T μ d (pc + 1) ls (jD (FP.l2d x) :: st) h u Q) : T μ d pc ls (jL x :: st) h u Q := by
  intro p l e R s m args below meth c D B0 ad0 Z C S0 O ad H locs cells slots lsR stR hH hA hL hc hs hl hst
  obtain ⟨w0, t0, e0, v0, hst⟩ := hst
  subst e0; cases v0
  exact lv_l2d C.1 C.2.1 hd  (k p l e R s m args below meth c D B0 ad0 Z C S0 O ad H locs cells slots lsR _ hH hA hL hc hs hl ⟨_, _, rfl, rfl, hst⟩)
theorem T_f2d  {x : UInt32} (hd : decode μ.2.1 pc = .ok (.f2d, 1)) (hne : vf_n64 (FP.f2d x)) (k : T μ d (pc + 1) ls (jD (FP.f2d x) :: st) h u Q) : T μ d pc ls (jF x :: st) h u Q := by
  intro p l e R s m args below meth c D B0 ad0 Z C S0 O ad H locs cells slots lsR stR hH hA hL hc hs hl hst
  obtain ⟨w0, t0, e0, v0, hst⟩ := hst
  subst e0; cases v0
  exact lv_f2d C.1 C.2.1 hd hne (k p l e R s m args below meth c D B0 ad0 Z C S0 O ad H locs cells slots lsR _ hH hA hL hc hs hl ⟨_, _, rfl, rfl, hst⟩)
theorem T_lcmp  {y : Int64} {x : Int64} (hd : decode μ.2.1 pc = .ok (.lcmp, 1))  (k : T μ d (pc + 1) ls (jI (lg_cmp x y) :: st) h u Q) : T μ d pc ls (jL y :: jL x :: st) h u Q := by
  intro p l e R s m args below meth c D B0 ad0 Z C S0 O ad H locs cells slots lsR stR hH hA hL hc hs hl hst
  obtain ⟨w0, t0, e0, v0, hst⟩ := hst
  obtain ⟨w1, t1, e1, v1, hst⟩ := hst
  subst e0; cases v0
  subst e1; cases v1
  exact W.lcmp C.1 C.2.1 hd  (k p l e R s m args below meth c D B0 ad0 Z C S0 O ad H locs cells slots lsR _ hH hA hL hc hs hl ⟨_, _, rfl, rfl, hst⟩)
theorem T_fcmp {op : CmpOp} {y : UInt32} {x : UInt32} (hd : decode μ.2.1 pc = .ok (.fcmp op, 1))  (k : T μ d (pc + 1) ls (jI (Op.cmpValue (FP.fcmp x y) op) :: st) h u Q) : T μ d pc ls (jF y :: jF x :: st) h u Q := by
  intro p l e R s m args below meth c D B0 ad0 Z C S0 O ad H locs cells slots lsR stR hH hA hL hc hs hl hst
  obtain ⟨w0, t0, e0, v0, hst⟩ := hst
  obtain ⟨w1, t1, e1, v1, hst⟩ := hst
  subst e0; cases v0
  subst e1; cases v1
  exact lv_fcmp C.1 C.2.1 hd  (k p l e R s m args below meth c D B0 ad0 Z C S0 O ad H locs cells slots lsR _ hH hA hL hc hs hl ⟨_, _, rfl, rfl, hst⟩)
theorem T_dcmp {op : CmpOp} {y : UInt64} {x : UInt64} (hd : decode μ.2.1 pc = .ok (.dcmp op, 1))  (k : T μ d (pc + 1) ls (jI (Op.cmpValue (FP.dcmp x y) op) :: st) h u Q) : T μ d pc ls (jD y :: jD x :: st) h u Q := by
  intro p l e R s m args below meth c D B0 ad0 Z C S0 O ad H locs cells slots lsR stR hH hA hL hc hs hl hst
  obtain ⟨w0, t0, e0, v0, hst⟩ := hst
  obtain ⟨w1, t1, e1, v1, hst⟩ := hst
  subst e0; cases v0
  subst e1; cases v1
  exact lv_dcmp C.1 C.2.1 hd  (k p l e R s m args below meth c D B0 ad0 Z C S0 O ad H locs cells slots lsR _ hH hA hL hc hs hl ⟨_, _, rfl, rfl, hst⟩)
theorem T_iconst {n : Int} {v : Int32}  (hd : decode μ.2.1 pc = .ok (.iconst n, 1)) (hv : Int32.ofInt n = v) (k : T μ d (pc + 1) ls (jI (v) :: st) h u Q) : T μ d pc ls (st) h u Q := by
  intro p l e R s m args below meth c D B0 ad0 Z C S0 O ad H locs cells slots lsR stR hH hA hL hc hs hl hst
  exact lv_iconst C.1 C.2.1 hd hv (k p l e R s m args below meth c D B0 ad0 Z C S0 O ad H locs cells slots lsR _ hH hA hL hc hs hl ⟨_, _, rfl, rfl, hst⟩)
theorem T_bipush {n : Int} {v : Int32}  (hd : decode μ.2.1 pc = .ok (.bipush n, 2)) (hv : (Int8.ofInt n).toInt32 = v) (k : T μ d (pc + 2) ls (jI (v) :: st) h u Q) : T μ d pc ls (st) h u Q := by
  intro p l e R s m args below meth c D B0 ad0 Z C S0 O ad H locs cells slots lsR stR hH hA hL hc hs hl hst
  exact lv_bipush C.1 C.2.1 hd hv (k p l e R s m args below meth c D B0 ad0 Z C S0 O ad H locs cells slots lsR _ hH hA hL hc hs hl ⟨_, _, rfl, rfl, hst⟩)
theorem T_sipush {n : Int} {v : Int32}  (hd : decode μ.2.1 pc = .ok (.sipush n, 3)) (hv : (Int16.ofInt n).toInt32 = v) (k : T μ d (pc + 3) ls (jI (v) :: st) h u Q) : T μ d pc ls (st) h u Q := by
  intro p l e R s m args below meth c D B0 ad0 Z C S0 O ad H locs cells slots lsR stR hH hA hL hc hs hl hst
  exact lv_sipush C.1 C.2.1 hd hv (k p l e R s m args below meth c D B0 ad0 Z C S0 O ad H locs cells slots lsR _ hH hA hL hc hs hl ⟨_, _, rfl, rfl, hst⟩)
theorem T_lconst {n : Fin 2} {v : Int64}  (hd : decode μ.2.1 pc = .ok (.lconst n, 1)) (hv : Int64.ofNat (n : Nat) = v) (k : T μ d (pc + 1) ls (jL (v) :: st) h u Q) : T μ d pc ls (st) h u Q := by
  intro p l e R s m args below meth c D B0 ad0 Z C S0 O ad H locs cells slots lsR stR hH hA hL hc hs hl hst
  exact lv_lconst C.1 C.2.1 hd hv (k p l e R s m args below meth c D B0 ad0 Z C S0 O ad H locs cells slots lsR _ hH hA hL hc hs hl ⟨_, _, rfl, rfl, hst⟩)
theorem T_ldc {i : Nat} {v : Int32} (hd : decode μ.2.1 pc = .ok (.ldc i, 2)) (hw : Cond.constant μ.1.cls i v ∈ gTbl) (k : T μ d (pc + 2) ls (jI v :: st) h u Q) : T μ d pc ls st h u Q := by
  intro p l e R s m args below meth c D B0 ad0 Z C S0 O ad H locs cells slots lsR stR hH hA hL hc hs hl hst
  exact lv_ldc C.1 C.2.1 C.2.2.2.2.1 (C.2.2.2.2.2.1 _ hw) hd (k p l e R s m args below meth c D B0 ad0 Z C S0 O ad H locs cells slots lsR _ hH hA hL hc hs hl ⟨_, _, rfl, rfl, hst⟩)
theorem T_ldcw {i : Nat} {v : Int32} (hd : decode μ.2.1 pc = .ok (.ldc_w i, 3)) (hw : Cond.constant μ.1.cls i v ∈ gTbl) (k : T μ d (pc + 3) ls (jI v :: st) h u Q) : T μ d pc ls st h u Q := by
  intro p l e R s m args below meth c D B0 ad0 Z C S0 O ad H locs cells slots lsR stR hH hA hL hc hs hl hst
  exact lv_ldcw C.1 C.2.1 C.2.2.2.2.1 (C.2.2.2.2.2.1 _ hw) hd (k p l e R s m args below meth c D B0 ad0 Z C S0 O ad H locs cells slots lsR _ hH hA hL hc hs hl ⟨_, _, rfl, rfl, hst⟩)
theorem T_ldc2 {i : Nat} {v : Int64} (hd : decode μ.2.1 pc = .ok (.ldc2_w i, 3)) (hw : Cond.constantLong μ.1.cls i v ∈ gTbl) (k : T μ d (pc + 3) ls (jL v :: st) h u Q) : T μ d pc ls st h u Q := by
  intro p l e R s m args below meth c D B0 ad0 Z C S0 O ad H locs cells slots lsR stR hH hA hL hc hs hl hst
  exact lv_ldc2 C.1 C.2.1 C.2.2.2.2.1 (C.2.2.2.2.2.1 _ hw) hd (k p l e R s m args below meth c D B0 ad0 Z C S0 O ad H locs cells slots lsR _ hH hA hL hc hs hl ⟨_, _, rfl, rfl, hst⟩)
theorem T_iload_n {j : Fin 4} {i : Nat} {x : Int32} (hd : decode μ.2.1 pc = .ok (.iload_n j, 1)) (hi : (j : Nat) = i) (hx : ls[i]? = some (some (jI x))) (k : T μ d (pc + 1) ls (jI x :: st) h u Q) : T μ d pc ls st h u Q := by
  intro p l e R s m args below meth c D B0 ad0 Z C S0 O ad H locs cells slots lsR stR hH hA hL hc hs hl hst
  obtain ⟨w, hw, hv⟩ := hl.get hx
  cases hv
  exact lv_iload_n C.1 C.2.1 hd hi hw (k p l e R s m args below meth c D B0 ad0 Z C S0 O ad H locs cells slots lsR _ hH hA hL hc hs hl ⟨_, _, rfl, rfl, hst⟩)
theorem T_iload {i : Nat} {x : Int32} (hd : decode μ.2.1 pc = .ok (.iload i, 2)) (hx : ls[i]? = some (some (jI x))) (k : T μ d (pc + 2) ls (jI x :: st) h u Q) : T μ d pc ls st h u Q := by
  intro p l e R s m args below meth c D B0 ad0 Z C S0 O ad H locs cells slots lsR stR hH hA hL hc hs hl hst
  obtain ⟨w, hw, hv⟩ := hl.get hx
  cases hv
  exact lv_iload C.1 C.2.1 hd hw (k p l e R s m args below meth c D B0 ad0 Z C S0 O ad H locs cells slots lsR _ hH hA hL hc hs hl ⟨_, _, rfl, rfl, hst⟩)
theorem T_lload_n {j : Fin 4} {i : Nat} {x : Int64} (hd : decode μ.2.1 pc = .ok (.lload_n j, 1)) (hi : (j : Nat) = i) (hx : ls[i]? = some (some (jL x))) (k : T μ d (pc + 1) ls (jL x :: st) h u Q) : T μ d pc ls st h u Q := by
  intro p l e R s m args below meth c D B0 ad0 Z C S0 O ad H locs cells slots lsR stR hH hA hL hc hs hl hst
  obtain ⟨w, hw, hv⟩ := hl.get hx
  cases hv
  exact lv_lload_n C.1 C.2.1 hd hi hw (k p l e R s m args below meth c D B0 ad0 Z C S0 O ad H locs cells slots lsR _ hH hA hL hc hs hl ⟨_, _, rfl, rfl, hst⟩)
theorem T_lload {i : Nat} {x : Int64} (hd : decode μ.2.1 pc = .ok (.lload i, 2)) (hx : ls[i]? = some (some (jL x))) (k : T μ d (pc + 2) ls (jL x :: st) h u Q) : T μ d pc ls st h u Q := by
  intro p l e R s m args below meth c D B0 ad0 Z C S0 O ad H locs cells slots lsR stR hH hA hL hc hs hl hst
  obtain ⟨w, hw, hv⟩ := hl.get hx
  cases hv
  exact lv_lload C.1 C.2.1 hd hw (k p l e R s m args below meth c D B0 ad0 Z C S0 O ad H locs cells slots lsR _ hH hA hL hc hs hl ⟨_, _, rfl, rfl, hst⟩)
theorem T_fload_n {j : Fin 4} {i : Nat} {x : UInt32} (hd : decode μ.2.1 pc = .ok (.fload_n j, 1)) (hi : (j : Nat) = i) (hx : ls[i]? = some (some (jF x))) (k : T μ d (pc + 1) ls (jF x :: st) h u Q) : T μ d pc ls st h u Q := by
  intro p l e R s m args below meth c D B0 ad0 Z C S0 O ad H locs cells slots lsR stR hH hA hL hc hs hl hst
  obtain ⟨w, hw, hv⟩ := hl.get hx
  cases hv
  exact lv_fload_n C.1 C.2.1 hd hi hw (k p l e R s m args below meth c D B0 ad0 Z C S0 O ad H locs cells slots lsR _ hH hA hL hc hs hl ⟨_, _, rfl, rfl, hst⟩)
theorem T_fload {i : Nat} {x : UInt32} (hd : decode μ.2.1 pc = .ok (.fload i, 2)) (hx : ls[i]? = some (some (jF x))) (k : T μ d (pc + 2) ls (jF x :: st) h u Q) : T μ d pc ls st h u Q := by
  intro p l e R s m args below meth c D B0 ad0 Z C S0 O ad H locs cells slots lsR stR hH hA hL hc hs hl hst
  obtain ⟨w, hw, hv⟩ := hl.get hx
  cases hv
  exact lv_fload C.1 C.2.1 hd hw (k p l e R s m args below meth c D B0 ad0 Z C S0 O ad H locs cells slots lsR _ hH hA hL hc hs hl ⟨_, _, rfl, rfl, hst⟩)
theorem T_dload_n {j : Fin 4} {i : Nat} {x : UInt64} (hd : decode μ.2.1 pc = .ok (.dload_n j, 1)) (hi : (j : Nat) = i) (hx : ls[i]? = some (some (jD x))) (k : T μ d (pc + 1) ls (jD x :: st) h u Q) : T μ d pc ls st h u Q := by
  intro p l e R s m args below meth c D B0 ad0 Z C S0 O ad H locs cells slots lsR stR hH hA hL hc hs hl hst
  obtain ⟨w, hw, hv⟩ := hl.get hx
  cases hv
  exact lv_dload_n C.1 C.2.1 hd hi hw (k p l e R s m args below meth c D B0 ad0 Z C S0 O ad H locs cells slots lsR _ hH hA hL hc hs hl ⟨_, _, rfl, rfl, hst⟩)
theorem T_dload {i : Nat} {x : UInt64} (hd : decode μ.2.1 pc = .ok (.dload i, 2)) (hx : ls[i]? = some (some (jD x))) (k : T μ d (pc + 2) ls (jD x :: st) h u Q) : T μ d pc ls st h u Q := by
  intro p l e R s m args below meth c D B0 ad0 Z C S0 O ad H locs cells slots lsR stR hH hA hL hc hs hl hst
  obtain ⟨w, hw, hv⟩ := hl.get hx
  cases hv
  exact lv_dload C.1 C.2.1 hd hw (k p l e R s m args below meth c D B0 ad0 Z C S0 O ad H locs cells slots lsR _ hH hA hL hc hs hl ⟨_, _, rfl, rfl, hst⟩)
theorem T_aload_n {j : Fin 4} {i : Nat} {o : Option Nm} (hd : decode μ.2.1 pc = .ok (.aload_n j, 1)) (hi : (j : Nat) = i) (hx : ls[i]? = some (some (jR o))) (k : T μ d (pc + 1) ls (jR o :: st) h u Q) : T μ d pc ls st h u Q := by
  intro p l e R s m args below meth c D B0 ad0 Z C S0 O ad H locs cells slots lsR stR hH hA hL hc hs hl hst
  obtain ⟨w, hw, hv⟩ := hl.get hx
  cases o with
  | none => cases hv; exact lv_aload_nN C.1 C.2.1 hd hi hw (k p l e R s m args below meth c D B0 ad0 Z C S0 O ad H locs cells slots lsR _ hH hA hL hc hs hl ⟨_, _, rfl, rfl, hst⟩)
  | some n => obtain ⟨a, ha, e⟩ := hv; subst e; exact lv_aload_n C.1 C.2.1 hd hi hw (k p l e R s m args below meth c D B0 ad0 Z C S0 O ad H locs cells slots lsR _ hH hA hL hc hs hl ⟨_, _, rfl, ⟨a, ha, rfl⟩, hst⟩)
theorem T_aload {i : Nat} {o : Option Nm} (hd : decode μ.2.1 pc = .ok (.aload i, 2))  (hx : ls[i]? = some (some (jR o))) (k : T μ d (pc + 2) ls (jR o :: st) h u Q) : T μ d pc ls st h u Q := by
  intro p l e R s m args below meth c D B0 ad0 Z C S0 O ad H locs cells slots lsR stR hH hA hL hc hs hl hst
  obtain ⟨w, hw, hv⟩ := hl.get hx
  cases o with
  | none => cases hv; exact lv_aloadN C.1 C.2.1 hd hw (k p l e R s m args below meth c D B0 ad0 Z C S0 O ad H locs cells slots lsR _ hH hA hL hc hs hl ⟨_, _, rfl, rfl, hst⟩)
  | some n => obtain ⟨a, ha, e⟩ := hv; subst e; exact lv_aload C.1 C.2.1 hd hw (k p l e R s m args below meth c D B0 ad0 Z C S0 O ad H locs cells slots lsR _ hH hA hL hc hs hl ⟨_, _, rfl, ⟨a, ha, rfl⟩, hst⟩)
theorem T_istore_n {j : Fin 4} {i : Nat} {x : Int32} {ls2 : List (Option MV)} (hd : decode μ.2.1 pc = .ok (.istore_n j, 1)) (hi : (j : Nat) = i) (hn : i < μ.2.2.1) (he : st1 ls i (jI x) = ls2) (k : T μ d (pc + 1) ls2 st h u Q) : T μ d pc ls (jI x :: st) h u Q := by
  intro p l e R s m args below meth c D B0 ad0 Z C S0 O ad H locs cells slots lsR stR hH hA hL hc hs hl hst
  obtain ⟨w0, t0, e0, v0, hst⟩ := hst
  subst e0; cases v0; subst he
  obtain ⟨lv, h1, h2⟩ := hl
  exact lv_istore_n C.1 C.2.1 hd hi h1 hn rfl (fun ls3 h3 => k p l e R s m args below meth c D B0 ad0 Z C S0 O ad H locs cells slots ls3 _ hH hA hL hc hs ⟨_, h3, st1_ok h2 rfl⟩ hst)
theorem T_istore {i : Nat} {x : Int32} {ls2 : List (Option MV)} (hd : decode μ.2.1 pc = .ok (.istore i, 2))  (hn : i < μ.2.2.1) (he : st1 ls i (jI x) = ls2) (k : T μ d (pc + 2) ls2 st h u Q) : T μ d pc ls (jI x :: st) h u Q := by
  intro p l e R s m args below meth c D B0 ad0 Z C S0 O ad H locs cells slots lsR stR hH hA hL hc hs hl hst
  obtain ⟨w0, t0, e0, v0, hst⟩ := hst
  subst e0; cases v0; subst he
  obtain ⟨lv, h1, h2⟩ := hl
  exact lv_istore C.1 C.2.1 hd h1 hn rfl (fun ls3 h3 => k p l e R s m args below meth c D B0 ad0 Z C S0 O ad H locs cells slots ls3 _ hH hA hL hc hs ⟨_, h3, st1_ok h2 rfl⟩ hst)
theorem T_lstore_n {j : Fin 4} {i : Nat} {x : Int64} {ls2 : List (Option MV)} (hd : decode μ.2.1 pc = .ok (.lstore_n j, 1)) (hi : (j : Nat) = i) (hn : i + 1 < μ.2.2.1) (he : st2 ls i (jL x) = ls2) (k : T μ d (pc + 1) ls2 st h u Q) : T μ d pc ls (jL x :: st) h u Q := by
  intro p l e R s m args below meth c D B0 ad0 Z C S0 O ad H locs cells slots lsR stR hH hA hL hc hs hl hst
  obtain ⟨w0, t0, e0, v0, hst⟩ := hst
  subst e0; cases v0; subst he
  obtain ⟨lv, h1, h2⟩ := hl
  exact lv_lstore_n C.1 C.2.1 hd hi h1 hn rfl (fun ls3 h3 => k p l e R s m args below meth c D B0 ad0 Z C S0 O ad H locs cells slots ls3 _ hH hA hL hc hs ⟨_, h3, st2_ok h2 rfl⟩ hst)
theorem T_lstore {i : Nat} {x : Int64} {ls2 : List (Option MV)} (hd : decode μ.2.1 pc = .ok (.lstore i, 2))  (hn : i + 1 < μ.2.2.1) (he : st2 ls i (jL x) = ls2) (k : T μ d (pc + 2) ls2 st h u Q) : T μ d pc ls (jL x :: st) h u Q := by
  intro p l e R s m args below meth c D B0 ad0 Z C S0 O ad H locs cells slots lsR stR hH hA hL hc hs hl hst
  obtain ⟨w0, t0, e0, v0, hst⟩ := hst
  subst e0; cases v0; subst he
  obtain ⟨lv, h1, h2⟩ := hl
  exact lv_lstore C.1 C.2.1 hd h1 hn rfl (fun ls3 h3 => k p l e R s m args below meth c D B0 ad0 Z C S0 O ad H locs cells slots ls3 _ hH hA hL hc hs ⟨_, h3, st2_ok h2 rfl⟩ hst)
theorem T_dstore_n {j : Fin 4} {i : Nat} {x : UInt64} {ls2 : List (Option MV)} (hd : decode μ.2.1 pc = .ok (.dstore_n j, 1)) (hi : (j : Nat) = i) (hn : i + 1 < μ.2.2.1) (he : st2 ls i (jD x) = ls2) (k : T μ d (pc + 1) ls2 st h u Q) : T μ d pc ls (jD x :: st) h u Q := by
  intro p l e R s m args below meth c D B0 ad0 Z C S0 O ad H locs cells slots lsR stR hH hA hL hc hs hl hst
  obtain ⟨w0, t0, e0, v0, hst⟩ := hst
  subst e0; cases v0; subst he
  obtain ⟨lv, h1, h2⟩ := hl
  exact lv_dstore_n C.1 C.2.1 hd hi h1 hn rfl (fun ls3 h3 => k p l e R s m args below meth c D B0 ad0 Z C S0 O ad H locs cells slots ls3 _ hH hA hL hc hs ⟨_, h3, st2_ok h2 rfl⟩ hst)
theorem T_dstore {i : Nat} {x : UInt64} {ls2 : List (Option MV)} (hd : decode μ.2.1 pc = .ok (.dstore i, 2))  (hn : i + 1 < μ.2.2.1) (he : st2 ls i (jD x) = ls2) (k : T μ d (pc + 2) ls2 st h u Q) : T μ d pc ls (jD x :: st) h u Q := by
  intro p l e R s m args below meth c D B0 ad0 Z C S0 O ad H locs cells slots lsR stR hH hA hL hc hs hl hst
  obtain ⟨w0, t0, e0, v0, hst⟩ := hst
  subst e0; cases v0; subst he
  obtain ⟨lv, h1, h2⟩ := hl
  exact lv_dstore C.1 C.2.1 hd h1 hn rfl (fun ls3 h3 => k p l e R s m args below meth c D B0 ad0 Z C S0 O ad H locs cells slots ls3 _ hH hA hL hc hs ⟨_, h3, st2_ok h2 rfl⟩ hst)
theorem T_astore_n {j : Fin 4} {i : Nat} {o : Option Nm} {ls2 : List (Option MV)} (hd : decode μ.2.1 pc = .ok (.astore_n j, 1)) (hi : (j : Nat) = i) (hn : i < μ.2.2.1) (he : st1 ls i (jR o) = ls2) (k : T μ d (pc + 1) ls2 st h u Q) : T μ d pc ls (jR o :: st) h u Q := by
  intro p l e R s m args below meth c D B0 ad0 Z C S0 O ad H locs cells slots lsR stR hH hA hL hc hs hl hst
  obtain ⟨w0, t0, e0, v0, hst⟩ := hst
  subst e0; subst he
  obtain ⟨lv, h1, h2⟩ := hl
  cases o with
  | none => cases v0; exact lv_astore_nN C.1 C.2.1 hd hi h1 hn rfl (fun ls3 h3 => k p l e R s m args below meth c D B0 ad0 Z C S0 O ad H locs cells slots ls3 _ hH hA hL hc hs ⟨_, h3, st1_ok h2 rfl⟩ hst)
  | some n => obtain ⟨a, ha, e⟩ := v0; subst e; exact lv_astore_n C.1 C.2.1 hd hi h1 hn rfl (fun ls3 h3 => k p l e R s m args below meth c D B0 ad0 Z C S0 O ad H locs cells slots ls3 _ hH hA hL hc hs ⟨_, h3, st1_ok h2 ⟨a, ha, rfl⟩⟩ hst)
theorem T_astore {i : Nat} {o : Option Nm} {ls2 : List (Option MV)} (hd : decode μ.2.1 pc = .ok (.astore i, 2))  (hn : i < μ.2.2.1) (he : st1 ls i (jR o) = ls2) (k : T μ d (pc + 2) ls2 st h u Q) : T μ d pc ls (jR o :: st) h u Q := by
  intro p l e R s m args below meth c D B0 ad0 Z C S0 O ad H locs cells slots lsR stR hH hA hL hc hs hl hst
  obtain ⟨w0, t0, e0, v0, hst⟩ := hst
  subst e0; subst he
  obtain ⟨lv, h1, h2⟩ := hl
  cases o with
  | none => cases v0; exact lv_astoreN C.1 C.2.1 hd h1 hn rfl (fun ls3 h3 => k p l e R s m args below meth c D B0 ad0 Z C S0 O ad H locs cells slots ls3 _ hH hA hL hc hs ⟨_, h3, st1_ok h2 rfl⟩ hst)
  | some n => obtain ⟨a, ha, e⟩ := v0; subst e; exact lv_astore C.1 C.2.1 hd h1 hn rfl (fun ls3 h3 => k p l e R s m args below meth c D B0 ad0 Z C S0 O ad H locs cells slots ls3 _ hH hA hL hc hs ⟨_, h3, st1_ok h2 ⟨a, ha, rfl⟩⟩ hst)
theorem T_iinc {i : Nat} {n : Int} {x v : Int32} {ls2 : List (Option MV)} (hd : decode μ.2.1 pc = .ok (.iinc i n, 3)) (hx : ls[i]? = some (some (jI x))) (hv : x + Int32.ofInt n = v) (hn : i < μ.2.2.1) (he : st1 ls i (jI v) = ls2) (k : T μ d (pc + 3) ls2 st h u Q) : T μ d pc ls st h u Q := by
  intro p l e R s m args below meth c D B0 ad0 Z C S0 O ad H locs cells slots lsR stR hH hA hL hc hs hl hst
  subst he
  obtain ⟨lv, h1, h2⟩ := hl
  obtain ⟨w, hw, hv2⟩ := h2 i _ hx
  cases hv2
  obtain ⟨q, hq⟩ := List.getElem?_of_mem hw
  exact lv_iinc C.1 C.2.1 hd h1 hq hv hn rfl (fun ls3 h3 => k p l e R s m args below meth c D B0 ad0 Z C S0 O ad H locs cells slots ls3 _ hH hA hL hc hs ⟨_, h3, st1_ok h2 rfl⟩ hst)
theorem T_if_eq {x : Int32} {off : Int} {tgt : Nat} (hd : decode μ.2.1 pc = .ok (.ifCond .eq off, 3)) (ht : (pc : Int) + off = (tgt : Int)) (kt : x = 0 → T μ d tgt ls st h u Q) (kf : ¬ x = 0 → T μ d (pc + 3) ls st h u Q) : T μ d pc ls (jI x :: st) h u Q := by
  intro p l e R s m args below meth c D B0 ad0 Z C S0 O ad H locs cells slots lsR stR hH hA hL hc hs hl hst
  obtain ⟨w0, t0, e0, v0, hst⟩ := hst
  subst e0; cases v0
  exact lv_if_eq C.1 C.2.1 hd ht (fun q => kt q p l e R s m args below meth c D B0 ad0 Z C S0 O ad H locs cells slots lsR _ hH hA hL hc hs hl hst) (fun q => kf q p l e R s m args below meth c D B0 ad0 Z C S0 O ad H locs cells slots lsR _ hH hA hL hc hs hl hst)
theorem T_icmp_eq {x y : Int32} {off : Int} {tgt : Nat} (hd : decode μ.2.1 pc = .ok (.if_icmp .eq off, 3)) (ht : (pc : Int) + off = (tgt : Int)) (kt : x = y → T μ d tgt ls st h u Q) (kf : ¬ x = y → T μ d (pc + 3) ls st h u Q) : T μ d pc ls (jI y :: jI x :: st) h u Q := by
  intro p l e R s m args below meth c D B0 ad0 Z C S0 O ad H locs cells slots lsR stR hH hA hL hc hs hl hst
  obtain ⟨w0, t0, e0, v0, hst⟩ := hst
  obtain ⟨w1, t1, e1, v1, hst⟩ := hst
  subst e0; cases v0
  subst e1; cases v1
  exact lv_icmp_eq C.1 C.2.1 hd ht (fun q => kt q p l e R s m args below meth c D B0 ad0 Z C S0 O ad H locs cells slots lsR _ hH hA hL hc hs hl hst) (fun q => kf q p l e R s m args below meth c D B0 ad0 Z C S0 O ad H locs cells slots lsR _ hH hA hL hc hs hl hst)
theorem T_if_ne {x : Int32} {off : Int} {tgt : Nat} (hd : decode μ.2.1 pc = .ok (.ifCond .ne off, 3)) (ht : (pc : Int) + off = (tgt : Int)) (kt : ¬ x = 0 → T μ d tgt ls st h u Q) (kf : x = 0 → T μ d (pc + 3) ls st h u Q) : T μ d pc ls (jI x :: st) h u Q := by
  intro p l e R s m args below meth c D B0 ad0 Z C S0 O ad H locs cells slots lsR stR hH hA hL hc hs hl hst
  obtain ⟨w0, t0, e0, v0, hst⟩ := hst
  subst e0; cases v0
  exact lv_if_ne C.1 C.2.1 hd ht (fun q => kt q p l e R s m args below meth c D B0 ad0 Z C S0 O ad H locs cells slots lsR _ hH hA hL hc hs hl hst) (fun q => kf q p l e R s m args below meth c D B0 ad0 Z C S0 O ad H locs cells slots lsR _ hH hA hL hc hs hl hst)
theorem T_icmp_ne {x y : Int32} {off : Int} {tgt : Nat} (hd : decode μ.2.1 pc = .ok (.if_icmp .ne off, 3)) (ht : (pc : Int) + off = (tgt : Int)) (kt : ¬ x = y → T μ d tgt ls st h u Q) (kf : x = y → T μ d (pc + 3) ls st h u Q) : T μ d pc ls (jI y :: jI x :: st) h u Q := by
  intro p l e R s m args below meth c D B0 ad0 Z C S0 O ad H locs cells slots lsR stR hH hA hL hc hs hl hst
  obtain ⟨w0, t0, e0, v0, hst⟩ := hst
  obtain ⟨w1, t1, e1, v1, hst⟩ := hst
  subst e0; cases v0
  subst e1; cases v1
  exact lv_icmp_ne C.1 C.2.1 hd ht (fun q => kt q p l e R s m args below meth c D B0 ad0 Z C S0 O ad H locs cells slots lsR _ hH hA hL hc hs hl hst) (fun q => kf q p l e R s m args below meth c D B0 ad0 Z C S0 O ad H locs cells slots lsR _ hH hA hL hc hs hl hst)
theorem T_if_lt {x : Int32} {off : Int} {tgt : Nat} (hd : decode μ.2.1 pc = .ok (.ifCond .lt off, 3)) (ht : (pc : Int) + off = (tgt : Int)) (kt : x < 0 → T μ d tgt ls st h u Q) (kf : ¬ x < 0 → T μ d (pc + 3) ls st h u Q) : T μ d pc ls (jI x :: st) h u Q := by
  intro p l e R s m args below meth c D B0 ad0 Z C S0 O ad H locs cells slots lsR stR hH hA hL hc hs hl hst
  obtain ⟨w0, t0, e0, v0, hst⟩ := hst
  subst e0; cases v0
  exact lv_if_lt C.1 C.2.1 hd ht (fun q => kt q p l e R s m args below meth c D B0 ad0 Z C S0 O ad H locs cells slots lsR _ hH hA hL hc hs hl hst) (fun q => kf q p l e R s m args below meth c D B0 ad0 Z C S0 O ad H locs cells slots lsR _ hH hA hL hc hs hl hst)
theorem T_icmp_lt {x y : Int32} {off : Int} {tgt : Nat} (hd : decode μ.2.1 pc = .ok (.if_icmp .lt off, 3)) (ht : (pc : Int) + off = (tgt : Int)) (kt : x < y → T μ d tgt ls st h u Q) (kf : ¬ x < y → T μ d (pc + 3) ls st h u Q) : T μ d pc ls (jI y :: jI x :: st) h u Q := by
  intro p l e R s m args below meth c D B0 ad0 Z C S0 O ad H locs cells slots lsR stR hH hA hL hc hs hl hst
  obtain ⟨w0, t0, e0, v0, hst⟩ := hst
  obtain ⟨w1, t1, e1, v1, hst⟩ := hst
  subst e0; cases v0
  subst e1; cases v1
  exact lv_icmp_lt C.1 C.2.1 hd ht (fun q => kt q p l e R s m args below meth c D B0 ad0 Z C S0 O ad H locs cells slots lsR _ hH hA hL hc hs hl hst) (fun q => kf q p l e R s m args below meth c D B0 ad0 Z C S0 O ad H locs cells slots lsR _ hH hA hL hc hs hl hst)
theorem T_if_ge {x : Int32} {off : Int} {tgt : Nat} (hd : decode μ.2.1 pc = .ok (.ifCond .ge off, 3)) (ht : (pc : Int) + off = (tgt : Int)) (kt : 0 ≤ x → T μ d tgt ls st h u Q) (kf : ¬ 0 ≤ x → T μ d (pc + 3) ls st h u Q) : T μ d pc ls (jI x :: st) h u Q := by
  intro p l e R s m args below meth c D B0 ad0 Z C S0 O ad H locs cells slots lsR stR hH hA hL hc hs hl hst
  obtain ⟨w0, t0, e0, v0, hst⟩ := hst
  subst e0; cases v0
  exact lv_if_ge C.1 C.2.1 hd ht (fun q => kt q p l e R s m args below meth c D B0 ad0 Z C S0 O ad H locs cells slots lsR _ hH hA hL hc hs hl hst) (fun q => kf q p l e R s m args below meth c D B0 ad0 Z C S0 O ad H locs cells slots lsR _ hH hA hL hc hs hl hst)
theorem T_icmp_ge {x y : Int32} {off : Int} {tgt : Nat} (hd : decode μ.2.1 pc = .ok (.if_icmp .ge off, 3)) (ht : (pc : Int) + off = (tgt : Int)) (kt : y ≤ x → T μ d tgt ls st h u Q) (kf : ¬ y ≤ x → T μ d (pc + 3) ls st h u Q) : T μ d pc ls (jI y :: jI x :: st) h u Q := by
  intro p l e R s m args below meth c D B0 ad0 Z C S0 O ad H locs cells slots lsR stR hH hA hL hc hs hl hst
  obtain ⟨w0, t0, e0, v0, hst⟩ := hst
  obtain ⟨w1, t1, e1, v1, hst⟩ := hst
  subst e0; cases v0
  subst e1; cases v1
  exact lv_icmp_ge C.1 C.2.1 hd ht (fun q => kt q p l e R s m args below meth c D B0 ad0 Z C S0 O ad H locs cells slots lsR _ hH hA hL hc hs hl hst) (fun q => kf q p l e R s m args below meth c D B0 ad0 Z C S0 O ad H locs cells slots lsR _ hH hA hL hc hs hl hst)
theorem T_if_gt {x : Int32} {off : Int} {tgt : Nat} (hd : decode μ.2.1 pc = .ok (.ifCond .gt off, 3)) (ht : (pc : Int) + off = (tgt : Int)) (kt : 0 < x → T μ d tgt ls st h u Q) (kf : ¬ 0 < x → T μ d (pc + 3) ls st h u Q) : T μ d pc ls (jI x :: st) h u Q := by
  intro p l e R s m args below meth c D B0 ad0 Z C S0 O ad H locs cells slots lsR stR hH hA hL hc hs hl hst
  obtain ⟨w0, t0, e0, v0, hst⟩ := hst
  subst e0; cases v0
  exact lv_if_gt C.1 C.2.1 hd ht (fun q => kt q p l e R s m args below meth c D B0 ad0 Z C S0 O ad H locs cells slots lsR _ hH hA hL hc hs hl hst) (fun q => kf q p l e R s m args below meth c D B0 ad0 Z C S0 O ad H locs cells slots lsR _ hH hA hL hc hs hl hst)
theorem T_icmp_gt {x y : Int32} {off : Int} {tgt : Nat} (hd : decode μ.2.1 pc = .ok (.if_icmp .gt off, 3)) (ht : (pc : Int) + off = (tgt : Int)) (kt : y < x → T μ d tgt ls st h u Q) (kf : ¬ y < x → T μ d (pc + 3) ls st h u Q) : T μ d pc ls (jI y :: jI x :: st) h u Q := by
  intro p l e R s m args below meth c D B0 ad0 Z C S0 O ad H locs cells slots lsR stR hH hA hL hc hs hl hst
  obtain ⟨w0, t0, e0, v0, hst⟩ := hst
  obtain ⟨w1, t1, e1, v1, hst⟩ := hst
  subst e0; cases v0
  subst e1; cases v1
  exact lv_icmp_gt C.1 C.2.1 hd ht (fun q => kt q p l e R s m args below meth c D B0 ad0 Z C S0 O ad H locs cells slots lsR _ hH hA hL hc hs hl hst) (fun q => kf q p l e R s m args below meth c D B0 ad0 Z C S0 O ad H locs cells slots lsR _ hH hA hL hc hs hl hst)
theorem T_if_le {x : Int32} {off : Int} {tgt : Nat} (hd : decode μ.2.1 pc = .ok (.ifCond .le off, 3)) (ht : (pc : Int) + off = (tgt : Int)) (kt : x ≤ 0 → T μ d tgt ls st h u Q) (kf : ¬ x ≤ 0 → T μ d (pc + 3) ls st h u Q) : T μ d pc ls (jI x :: st) h u Q := by
  intro p l e R s m args below meth c D B0 ad0 Z C S0 O ad H locs cells slots lsR stR hH hA hL hc hs hl hst
  obtain ⟨w0, t0, e0, v0, hst⟩ := hst
  subst e0; cases v0
  exact lv_if_le C.1 C.2.1 hd ht (fun q => kt q p l e R s m args below meth c D B0 ad0 Z C S0 O ad H locs cells slots lsR _ hH hA hL hc hs hl hst) (fun q => kf q p l e R s m args below meth c D B0 ad0 Z C S0 O ad H locs cells slots lsR _ hH hA hL hc hs hl hst)
theorem T_icmp_le {x y : Int32} {off : Int} {tgt : Nat} (hd : decode μ.2.1 pc = .ok (.if_icmp .le off, 3)) (ht : (pc : Int) + off = (tgt : Int)) (kt : x ≤ y → T μ d tgt ls st h u Q) (kf : ¬ x ≤ y → T μ d (pc + 3) ls st h u Q) : T μ d pc ls (jI y :: jI x :: st) h u Q := by
  intro p l e R s m args below meth c D B0 ad0 Z C S0 O ad H locs cells slots lsR stR hH hA hL hc hs hl hst
  obtain ⟨w0, t0, e0, v0, hst⟩ := hst
  obtain ⟨w1, t1, e1, v1, hst⟩ := hst
  subst e0; cases v0
  subst e1; cases v1
  exact lv_icmp_le C.1 C.2.1 hd ht (fun q => kt q p l e R s m args below meth c D B0 ad0 Z C S0 O ad H locs cells slots lsR _ hH hA hL hc hs hl hst) (fun q => kf q p l e R s m args below meth c D B0 ad0 Z C S0 O ad H locs cells slots lsR _ hH hA hL hc hs hl hst)
theorem T_goto {off : Int} {tgt : Nat} (hd : decode μ.2.1 pc = .ok (.goto off, 3)) (ht : (pc : Int) + off = (tgt : Int)) (k : T μ d tgt ls st h u Q) : T μ d pc ls st h u Q := by
  intro p l e R s m args below meth c D B0 ad0 Z C S0 O ad H locs cells slots lsR stR hH hA hL hc hs hl hst
  exact lv_goto C.1 C.2.1 hd ht (k p l e R s m args below meth c D B0 ad0 Z C S0 O ad H locs cells slots lsR _ hH hA hL hc hs hl hst)
theorem T_ifnull {o : Option Nm} {off : Int} {tgt : Nat} (hd : decode μ.2.1 pc = .ok (.ifnull off, 3)) (ht : (pc : Int) + off = (tgt : Int)) (kn : o = none → T μ d (tgt) ls st h u Q) (ks : ∀ n, o = some n → T μ d (pc + 3) ls st h u Q) : T μ d pc ls (jR o :: st) h u Q := by
  intro p l e R s m args below meth c D B0 ad0 Z C S0 O ad H locs cells slots lsR stR hH hA hL hc hs hl hst
  obtain ⟨w0, t0, e0, v0, hst⟩ := hst
  subst e0
  cases o with
  | none => cases v0; exact lv_ifnullN C.1 C.2.1 hd ht (kn rfl p l e R s m args below meth c D B0 ad0 Z C S0 O ad H locs cells slots lsR _ hH hA hL hc hs hl hst)
  | some n => obtain ⟨a, ha, e⟩ := v0; subst e; exact lv_ifnull C.1 C.2.1 hd (ks n rfl p l e R s m args below meth c D B0 ad0 Z C S0 O ad H locs cells slots lsR _ hH hA hL hc hs hl hst)
theorem T_ifnonnull {o : Option Nm} {off : Int} {tgt : Nat} (hd : decode μ.2.1 pc = .ok (.ifnonnull off, 3)) (ht : (pc : Int) + off = (tgt : Int)) (kn : o = none → T μ d (pc + 3) ls st h u Q) (ks : ∀ n, o = some n → T μ d (tgt) ls st h u Q) : T μ d pc ls (jR o :: st) h u Q := by
  intro p l e R s m args below meth c D B0 ad0 Z C S0 O ad H locs cells slots lsR stR hH hA hL hc hs hl hst
  obtain ⟨w0, t0, e0, v0, hst⟩ := hst
  subst e0
  cases o with
  | none => cases v0; exact lv_ifnonnullN C.1 C.2.1 hd (kn rfl p l e R s m args below meth c D B0 ad0 Z C S0 O ad H locs cells slots lsR _ hH hA hL hc hs hl hst)
  | some n => obtain ⟨a, ha, e⟩ := v0; subst e; exact lv_ifnonnull C.1 C.2.1 hd ht (ks n rfl p l e R s m args below meth c D B0 ad0 Z C S0 O ad H locs cells slots lsR _ hH hA hL hc hs hl hst)
theorem T_null (hd : decode μ.2.1 pc = .ok (.aconst_null, 1)) (k : T μ d (pc + 1) ls (jR none :: st) h u Q) : T μ d pc ls st h u Q := by
  intro p l e R s m args below meth c D B0 ad0 Z C S0 O ad H locs cells slots lsR stR hH hA hL hc hs hl hst
  exact lv_null C.1 C.2.1 hd (k p l e R s m args below meth c D B0 ad0 Z C S0 O ad H locs cells slots lsR _ hH hA hL hc hs hl ⟨_, _, rfl, rfl, hst⟩)
theorem T_tableIn {dflt lo hi : Int} {offs : Array Int} {len : Nat} {x : Int32} {off : Int} {tgt : Nat} (hd : decode μ.2.1 pc = .ok (.tableswitch dflt lo hi offs, len)) (h1 : ¬ x.toInt < lo) (h2 : ¬ hi < x.toInt) (ho : offs[(x.toInt - lo).toNat]? = some off) (ht : (pc : Int) + off = (tgt : Int)) (k : T μ d tgt ls st h u Q) : T μ d pc ls (jI x :: st) h u Q := by
  intro p l e R s m args below meth c D B0 ad0 Z C S0 O ad H locs cells slots lsR stR hH hA hL hc hs hl hst
  obtain ⟨w0, t0, e0, v0, hst⟩ := hst
  subst e0; cases v0
  exact lv_tableIn C.1 C.2.1 hd h1 h2 ho ht (k p l e R s m args below meth c D B0 ad0 Z C S0 O ad H locs cells slots lsR _ hH hA hL hc hs hl hst)
theorem T_tableOut {dflt lo hi : Int} {offs : Array Int} {len : Nat} {x : Int32} {tgt : Nat} (hd : decode μ.2.1 pc = .ok (.tableswitch dflt lo hi offs, len)) (hx : x.toInt < lo ∨ hi < x.toInt) (ht : (pc : Int) + dflt = (tgt : Int)) (k : T μ d tgt ls st h u Q) : T μ d pc ls (jI x :: st) h u Q := by
  intro p l e R s m args below meth c D B0 ad0 Z C S0 O ad H locs cells slots lsR stR hH hA hL hc hs hl hst
  obtain ⟨w0, t0, e0, v0, hst⟩ := hst
  subst e0; cases v0
  exact lv_tableOut C.1 C.2.1 hd hx ht (k p l e R s m args below meth c D B0 ad0 Z C S0 O ad H locs cells slots lsR _ hH hA hL hc hs hl hst)
theorem T_lookup {dflt : Int} {ps : Array (Int × Int)} {len : Nat} {x : Int32} {off : Int} {tgt : Nat} (hd : decode μ.2.1 pc = .ok (.lookupswitch dflt ps, len)) (hp : (ps.toList.zip (ps.toList.drop 1)).all (fun (a, next) => a.1 < next.1) = true) (ho : Op.lookupswitch.offset ps.toList dflt x.toInt = off) (ht : (pc : Int) + off = (tgt : Int)) (k : T μ d tgt ls st h u Q) : T μ d pc ls (jI x :: st) h u Q := by
  intro p l e R s m args below meth c D B0 ad0 Z C S0 O ad H locs cells slots lsR stR hH hA hL hc hs hl hst
  obtain ⟨w0, t0, e0, v0, hst⟩ := hst
  subst e0; cases v0
  exact lv_lookup C.1 C.2.1 hd hp ho ht (k p l e R s m args below meth c D B0 ad0 Z C S0 O ad H locs cells slots lsR _ hH hA hL hc hs hl hst)
theorem T_dup {v : MV} (hv : cat2 v = false) (hd : decode μ.2.1 pc = .ok (.dup, 1)) (k : T μ d (pc + 1) ls (v :: v :: st) h u Q) : T μ d pc ls (v :: st) h u Q := by
  intro p l e R s m args below meth c D B0 ad0 Z C S0 O ad H locs cells slots lsR stR hH hA hL hc hs hl hst
  obtain ⟨w0, t0, e0, v0, hst⟩ := hst
  subst e0
  have hca := v0.cat
  rw [hv] at hca
  exact lv_dup C.1 C.2.1 hd hca (k p l e R s m args below meth c D B0 ad0 Z C S0 O ad H locs cells slots lsR _ hH hA hL hc hs hl ⟨_, _, rfl, v0, _, _, rfl, v0, hst⟩)
theorem T_pop {v : MV} (hv : cat2 v = false) (hd : decode μ.2.1 pc = .ok (.pop, 1)) (k : T μ d (pc + 1) ls st h u Q) : T μ d pc ls (v :: st) h u Q := by
  intro p l e R s m args below meth c D B0 ad0 Z C S0 O ad H locs cells slots lsR stR hH hA hL hc hs hl hst
  obtain ⟨w0, t0, e0, v0, hst⟩ := hst
  subst e0
  have hca := v0.cat
  rw [hv] at hca
  exact lv_pop C.1 C.2.1 hd hca (k p l e R s m args below meth c D B0 ad0 Z C S0 O ad H locs cells slots lsR _ hH hA hL hc hs hl hst)
theorem T_dup2 {v w : MV} (hv : cat2 v = false) (hw : cat2 w = false) (hd : decode μ.2.1 pc = .ok (.dup2, 1)) (k : T μ d (pc + 1) ls (v :: w :: v :: w :: st) h u Q) : T μ d pc ls (v :: w :: st) h u Q := by
  intro p l e R s m args below meth c D B0 ad0 Z C S0 O ad H locs cells slots lsR stR hH hA hL hc hs hl hst
  obtain ⟨w0, t0, e0, v0, hst⟩ := hst
  obtain ⟨w1, t1, e1, v1, hst⟩ := hst
  subst e0; subst e1
  have hca := v0.cat
  rw [hv] at hca
  have hc1 := v1.cat
  rw [hw] at hc1
  exact lv_dup2_11 C.1 C.2.1 hd hca hc1 (k p l e R s m args below meth c D B0 ad0 Z C S0 O ad H locs cells slots lsR _ hH hA hL hc hs hl ⟨_, _, rfl, v0, _, _, rfl, v1, _, _, rfl, v0, _, _, rfl, v1, hst⟩)
theorem T_ireturn {x : Int32} {ty : FieldType} (hr : μ.2.2.2.1 = some ty) (hn : narrow ty (.int x) = .int x) (hd : decode μ.2.1 pc = .ok (.ireturn, 1)) (q : Q (some (jI x)) h) : T μ d pc ls [jI x] h u Q := by
  intro p l e R s m args below meth c D B0 ad0 Z C S0 O ad H locs cells slots lsR stR hH hA hL hc hs hl hst
  obtain ⟨w0, t0, e0, v0, hst⟩ := hst
  cases hst; subst e0; cases v0
  exact O ad h H locs cells slots (some (jI x)) (some (.int x)) .ireturn pc lsR hH hA hL (by omega) (by omega) q ⟨_, rfl, rfl⟩ (Or.inl ⟨rfl, x, ty, rfl, hr, hn⟩) hd
theorem T_lreturn {x : Int64} (hr : μ.2.2.2.1 = some .long) (hd : decode μ.2.1 pc = .ok (.lreturn, 1)) (q : Q (some (jL x)) h) : T μ d pc ls [jL x] h u Q := by
  intro p l e R s m args below meth c D B0 ad0 Z C S0 O ad H locs cells slots lsR stR hH hA hL hc hs hl hst
  obtain ⟨w0, t0, e0, v0, hst⟩ := hst
  cases hst; subst e0; cases v0
  exact O ad h H locs cells slots (some (jL x)) (some (.long x)) .lreturn pc lsR hH hA hL (by omega) (by omega) q ⟨_, rfl, rfl⟩ (Or.inr (Or.inl ⟨rfl, x, rfl, hr⟩)) hd
theorem T_areturn {o : Option Nm} {rt : FieldType} (hr : μ.2.2.2.1 = some rt) (hrt : (∃ n, rt = .object n) ∨ ∃ t, rt = .array t) (hd : decode μ.2.1 pc = .ok (.areturn, 1)) (q : Q (some (jR o)) h) : T μ d pc ls [jR o] h u Q := by
  intro p l e R s m args below meth c D B0 ad0 Z C S0 O ad H locs cells slots lsR stR hH hA hL hc hs hl hst
  obtain ⟨w0, t0, e0, v0, hst⟩ := hst
  cases hst; subst e0
  exact O ad h H locs cells slots (some (jR o)) (some w0) .areturn pc lsR hH hA hL (by omega) (by omega) q ⟨_, rfl, v0⟩ (Or.inr (Or.inr (Or.inl ⟨rfl, o, rt, rfl, hr, hrt⟩))) hd
theorem T_return (hr : μ.2.2.2.1 = none) (hd : decode μ.2.1 pc = .ok (.return_, 1)) (q : Q none h) : T μ d pc ls [] h u Q := by
  intro p l e R s m args below meth c D B0 ad0 Z C S0 O ad H locs cells slots lsR stR hH hA hL hc hs hl hst
  cases hst
  exact O ad h H locs cells slots none none .return_ pc lsR hH hA hL (by omega) (by omega) q rfl (Or.inr (Or.inr (Or.inr ⟨rfl, rfl, hr⟩))) hd
theorem T.mono {Q' : Option MV → MH → Prop} (hq : ∀ v h, Q v h → Q' v h) (k : T μ d pc ls st h u Q) : T μ d pc ls st h u Q' := by
  intro p l e R s m args below meth c D B0 ad0 Z C S0 O ad H locs cells slots lsR stR hH hA hL hc hs hl hst
  exact k p l e R s m args below meth c D B0 ad0 Z C S0 (fun ad h H locs cells slots v w i pc lsR a1 a2 a3 a4 a5 q a6 a7 a8 => O ad h H locs cells slots v w i pc lsR a1 a2 a3 a4 a5 (hq v h q) a6 a7 a8) ad H locs cells slots lsR stR hH hA hL hc hs hl hst
theorem T.roomy {u2 : Nat} (hu : u2 ≤ u) (k : T μ d pc ls st h u2 Q) : T μ d pc ls st h u Q := by
  intro p l e R s m args below meth c D B0 ad0 Z C S0 O ad H locs cells slots lsR stR hH hA hL hc hs hl hst
  exact k p l e R s m args below meth c D B0 ad0 Z C S0 O ad H locs cells slots lsR stR hH hA hL (by omega) (by omega) hl hst
end Rules
end
section
/-! THE RULES for cells -/
/-- a field, by the pool's number: its kind's number, its place, its type -/
def FA (own : String) (idx ci k : Nat) (ty : FieldType) (fin : Bool) (dcl : String) : Prop :=
  ∃ (Cn : String) (Tb : u_T) (N : Nat) (tyf : Nat → FieldType), vwCl[ci]? = some (Cn, Tb, N) ∧ (∀ w ∈ u_ws Cn Tb N, w ∈ gTbl) ∧ (∀ k, k < N → parseFieldDescriptor (Tb k).2.2.1 = some (tyf k)) ∧ (∀ a, a < N → ∀ b, b < N → a ≠ b → (Tb a).2.1 ≠ (Tb b).2.1) ∧ k < N ∧ Cond.fieldLink own idx (Tb k).1 (Tb k).2.1 (Tb k).2.2.1 ∈ gTbl ∧ tyf k = ty ∧ (Tb k).2.2.2 = fin ∧ (Tb k).1 = dcl
def dflt : FieldType → MV
  | .long => jL 0
  | .float => jF 0
  | .double => jD 0
  | .object _ => jR none
  | .array _ => jR none
  | _ => jI 0
theorem VR_dflt (ad : AD) (ty : FieldType) : VR ad (dflt ty) (defaultValue ty) := by cases ty <;> rfl
/-- what a field of this type may hold -/
def fitsV : FieldType → MV → Prop
  | .int, .inl _ => True
  | .boolean, .inl x => x = 0 ∨ x = 1
  | .long, .inr (.inl _) => True
  | .object _, .inr (.inr (.inr (.inr _))) => True
  | .array _, .inr (.inr (.inr (.inr _))) => True
  | _, _ => False
theorem fitsV_ok {ad : AD} {ty : FieldType} {v : MV} {w : Value} (hf : fitsV ty v) (hv : VR ad v w) : narrow ty w = w ∧ fits ty w = true := by
  match ty, v, hf, hv with
  | .int, .inl x, _, hv => cases hv; exact ⟨rfl, rfl⟩
  | .boolean, .inl x, hf, hv => cases hv; rcases hf with rfl | rfl <;> exact ⟨by decide, by decide⟩
  | .long, .inr (.inl x), _, hv => cases hv; exact ⟨rfl, rfl⟩
  | .object n, .inr (.inr (.inr (.inr none))), _, hv => cases hv; exact ⟨rfl, rfl⟩
  | .object n, .inr (.inr (.inr (.inr (some m)))), _, hv => obtain ⟨a, -, e⟩ := hv; subst e; exact ⟨rfl, rfl⟩
  | .array n, .inr (.inr (.inr (.inr none))), _, hv => cases hv; exact ⟨rfl, rfl⟩
  | .array n, .inr (.inr (.inr (.inr (some m)))), _, hv => obtain ⟨a, -, e⟩ := hv; subst e; exact ⟨rfl, rfl⟩
/-- a kind that an instruction makes -/
def NF (own : String) (idx ci : Nat) (fs : List MV) : Prop :=
  ∃ (Cn : String) (Tb : u_T) (N : Nat) (tyf : Nat → FieldType), vwCl[ci]? = some (Cn, Tb, N) ∧ (∀ w ∈ u_ws Cn Tb N, w ∈ gTbl) ∧ (∀ k, k < N → parseFieldDescriptor (Tb k).2.2.1 = some (tyf k)) ∧ Cond.classLink own idx Cn ∈ gTbl ∧ Cond.instantiable Cn N ∈ gTbl ∧ Cond.initialized Cn ∈ gTbl ∧ fs = (List.range N).map (fun k => dflt (tyf k))
theorem set_at {l : List MV} {i j : Nat} {v x : MV} (h : (l.set i v)[j]? = some x) : (j = i ∧ v = x) ∨ (j ≠ i ∧ l[j]? = some x) := by
  rw [List.getElem?_set] at h
  by_cases e : i = j
  · rw [if_pos e] at h
    split at h
    · exact Or.inl ⟨e.symm, Option.some.inj h⟩
    · cases h
  · rw [if_neg e] at h
    exact Or.inr ⟨fun q => e q.symm, h⟩
theorem VR_set {ad : AD} {l : List MV} {V : Nat → Value} (h : ∀ i v, l[i]? = some v → VR ad v (V i)) {k : Nat} {v : MV} {w : Value} (hv : VR ad v w) : ∀ i x, (l.set k v)[i]? = some x → VR ad x (updV V k w i) := by
  intro i x hx
  rcases set_at hx with ⟨e1, e2⟩ | ⟨e1, e2⟩
  · subst e1; subst e2; simpa [updV] using hv
  · simpa [updV, e1] using h i x e2
theorem KK.vaK {D : DD} {s : State} (h : KK D s) : va_K (D.1, D.2.1) vwCl [] s := ⟨h.1, fun k q hk => by simp at hk⟩
theorem clamp_lt {es : List MV} {i : Nat} {v : MV} (h : es[i]? = some v) : i < es.length := (List.getElem?_eq_some_iff.mp h).1
section Heap
variable {μ : MU} {d pc : Nat} {ls : List (Option MV)} {st : List MV} {h : MH} {u : Nat} {Q : Option MV → MH → Prop}
theorem T_getV {idx ci k : Nat} {ty : FieldType} {fin : Bool} {dcl : String} {n : Nm} {fs : List MV} {v : MV} (hf : FA μ.1.cls idx ci k ty fin dcl) (hd : decode μ.2.1 pc = .ok (.getfield idx, 3)) (hn : h n = some (.inl (ci, fs))) (hk : fs[k]? = some v) (kk : T μ d (pc + 3) ls (v :: st) h u Q) : T μ d pc ls (jR (some n) :: st) h u Q := by
  intro p l e R s m args below meth c D B0 ad0 Z C S0 O ad H locs cells slots lsR stR hH hA hL hc hs hl hst
  obtain ⟨w0, t0, e0, ⟨a0, ha0, v0⟩, hst⟩ := hst
  subst e0; subst v0
  obtain ⟨Cn, Tb, N, tyf, f1, f2, f3, f4, f5, f6, -⟩ := hf
  obtain ⟨a, ha, r, V, r1, r2, ⟨cell, q1, q2, q3, q4⟩, hV⟩ := hH.at hn
  cases ha0.symm.trans ha
  cases r1.symm.trans f1
  have hts := C.2.2.2.2.2.1
  obtain ⟨hS, hfc, kC, hkC, hkind⟩ := C.2.2.2.2.2.2.2.2.1.1 ci _ f1
  obtain ⟨cf, kf, fi, f, hi, hsl⟩ := hS k f5
  refine W.getf C.1 C.2.1 C.2.2.2.2.1 (hts _ f6) hi (u_facts hfc hkC (u_lays hts f2 f5) hi).1 q1 (by rw [q3]; exact fun h => by cases h) (v := V k) ?_ rfl rfl hd (kk p l e R s m args below meth c D B0 ad0 Z C S0 O ad H locs cells slots lsR _ hH hA hL hc hs hl ⟨_, _, rfl, hV k v hk, hst⟩)
  rw [hsl, q4 k f5]
theorem T_putV {idx ci k : Nat} {ty : FieldType} {dcl : String} {n : Nm} {fs : List MV} {v : MV} (hf : FA μ.1.cls idx ci k ty false dcl) (hd : decode μ.2.1 pc = .ok (.putfield idx, 3)) (hn : h n = some (.inl (ci, fs))) (hv : fitsV ty v) (kk : T μ d (pc + 3) ls st (hset h n (.inl (ci, fs.set k v))) u Q) : T μ d pc ls (v :: jR (some n) :: st) h u Q := by
  intro p l e R s m args below meth c D B0 ad0 Z C S0 O ad H locs cells slots lsR stR hH hA hL hc hs hl hst
  obtain ⟨w0, t0, e0, v0, hst⟩ := hst
  obtain ⟨w1, t1, e1, ⟨a0, ha0, v1⟩, hst⟩ := hst
  subst e0; subst e1; subst v1
  obtain ⟨Cn, Tb, N, tyf, f1, f2, f3, f4, f5, f6, f7, f8, f9⟩ := hf
  obtain ⟨a, ha, r, V, r1, r2, ⟨cell, q1, q2, q3, q4⟩, hV⟩ := hH.at hn
  cases ha0.symm.trans ha
  cases r1.symm.trans f1
  have hts := C.2.2.2.2.2.1
  have hK := C.2.2.2.2.2.2.2.2.1
  have hap := va_apart (own := μ.1.cls) hts f2 tyf f3 f4 hK.vaK f1
  obtain ⟨hS, hfc, kC, hkC, hkind⟩ := hK.1 ci _ f1
  obtain ⟨cf, kf, fi, f, hi, hsl⟩ := hS k f5
  have hlay := hts _ (f2 _ (u_in_lay f5))
  unfold u_lay at hlay
  have hst0 := (u_facts hfc hkC (u_lays hts f2 f5) hi).1
  have hft := fitsV_ok hv v0
  have hty := f3 k f5
  rw [f7] at hty
  rw [if_neg (by rw [f8]; decide)] at hlay
  have h6 := u_store hfc hkC hkind hlay hi hty hft.1 hft.2
  refine W.putK C.1 C.2.1 (f := f) ⟨C.2.2.2.2.1, hts _ f6, ⟨_, _, _, hi⟩, hst0⟩ (by rw [q2]; exact h6) q1 q3 (by rw [hsl]; exact k2_hasslot (q4 k f5)) rfl rfl hd fun H' e1 e2 e3 => ?_
  rw [hsl] at e1 ⊢
  exact kk p l e R s m args below meth c D B0 ad0 Z C S0 O ad H' _ cells slots lsR _ (hH.set hn ha e2 e3 ⟨_, updV V k w0, f1, by rw [List.length_set]; exact r2, ⟨_, e1, q2, q3, t_set q4 hap f5 w0⟩, VR_set hV v0⟩) hA (fun q hq => by rcases List.mem_append.mp hq with h9 | h9; exact hL q h9; cases List.mem_singleton.mp h9; exact hH.2.2.2.2.1.1 n a0 ha0 (hH.ns hn)) hc hs hl hst
theorem T_putF {idx ci k : Nat} {ty : FieldType} {dcl : String} {n : Nm} {fs : List MV} {v : MV} (hf : FA μ.1.cls idx ci k ty true dcl) (hin : μ.1.name = "<init>") (hdcl : dcl = μ.1.cls) (hd : decode μ.2.1 pc = .ok (.putfield idx, 3)) (hn : h n = some (.inl (ci, fs))) (hv : fitsV ty v) (kk : T μ d (pc + 3) ls st (hset h n (.inl (ci, fs.set k v))) u Q) : T μ d pc ls (v :: jR (some n) :: st) h u Q := by
  intro p l e R s m args below meth c D B0 ad0 Z C S0 O ad H locs cells slots lsR stR hH hA hL hc hs hl hst
  obtain ⟨w0, t0, e0, v0, hst⟩ := hst
  obtain ⟨w1, t1, e1, ⟨a0, ha0, v1⟩, hst⟩ := hst
  subst e0; subst e1; subst v1
  obtain ⟨Cn, Tb, N, tyf, f1, f2, f3, f4, f5, f6, f7, f8, f9⟩ := hf
  obtain ⟨a, ha, r, V, r1, r2, ⟨cell, q1, q2, q3, q4⟩, hV⟩ := hH.at hn
  cases ha0.symm.trans ha
  cases r1.symm.trans f1
  have hts := C.2.2.2.2.2.1
  have hK := C.2.2.2.2.2.2.2.2.1
  have hap := va_apart (own := μ.1.cls) hts f2 tyf f3 f4 hK.vaK f1
  obtain ⟨hS, hfc, kC, hkC, hkind⟩ := hK.1 ci _ f1
  obtain ⟨cf, kf, fi, f, hi, hsl⟩ := hS k f5
  have hlay := hts _ (f2 _ (u_in_lay f5))
  unfold u_lay at hlay
  have hst0 := (u_facts hfc hkC (u_lays hts f2 f5) hi).1
  have hft := fitsV_ok hv v0
  have hty := f3 k f5
  rw [f7] at hty
  rw [if_pos f8] at hlay
  have hcf : m.cls = cf := by
    obtain ⟨_, _, c', _, _, _, -, -, hf', -, -, -, hown2, -⟩ := Cond.laysFinal_spec hlay
    have e1 : c' = cf := by have := hi.symm.trans hf'; simp at this; exact this.1.symm
    rw [f9, hdcl] at hown2
    rw [← e1]; exact Option.some.inj (C.2.2.2.2.1.symm.trans hown2)
  have h6 := u_fits hfc hkC hkind (Or.inr hlay) hi hty hft.1 hft.2
  refine W.putFinK C.1 C.2.1 C.2.2.2.2.1 (hts _ f6) hi hst0 hcf (C.2.2.2.2.2.2.2.1 hin) (by rw [q2]; exact h6) q1 q3 (by rw [hsl]; exact k2_hasslot (q4 k f5)) rfl rfl hd fun H' e1 e2 e3 => ?_
  rw [hsl] at e1 ⊢
  exact kk p l e R s m args below meth c D B0 ad0 Z C S0 O ad H' _ cells slots lsR _ (hH.set hn ha e2 e3 ⟨_, updV V k w0, f1, by rw [List.length_set]; exact r2, ⟨_, e1, q2, q3, t_set q4 hap f5 w0⟩, VR_set hV v0⟩) hA (fun q hq => by rcases List.mem_append.mp hq with h9 | h9; exact hL q h9; cases List.mem_singleton.mp h9; exact hH.2.2.2.2.1.1 n a0 ha0 (hH.ns hn)) hc hs hl hst
theorem T_iaload {n : Nm} {es : List MV} {i : Int32} {v : MV} (hd : decode μ.2.1 pc = .ok (.iaload, 1)) (hn : h n = some (.inr (.int, es))) (hi : ¬ i < 0) (he : es[i.toNatClampNeg]? = some v) (kk : T μ d (pc + 1) ls (v :: st) h u Q) : T μ d pc ls (jI i :: jR (some n) :: st) h u Q := by
  intro p l e R s m args below meth c D B0 ad0 Z C S0 O ad H locs cells slots lsR stR hH hA hL hc hs hl hst
  obtain ⟨w0, t0, e0, v0, hst⟩ := hst
  obtain ⟨w1, t1, e1, ⟨a0, ha0, v1⟩, hst⟩ := hst
  subst e0; subst e1; subst v1; cases v0
  obtain ⟨a, ha, hty, f, q1, hV⟩ := hH.at hn
  cases ha0.symm.trans ha
  have hlt := clamp_lt he
  exact W.iald C.1 C.2.1 q1 ((C.2.2.2.2.2.2.2.2.1.2.1 _ hty).1 _ _) (fun q => by cases q) (by rw [arrV_size]; exact fun q => q.elim hi (Nat.not_le.mpr hlt)) (arrV_read _ _ hlt) rfl rfl hd (kk p l e R s m args below meth c D B0 ad0 Z C S0 O ad H locs cells slots lsR _ hH hA hL hc hs hl ⟨_, _, rfl, hV _ _ he, hst⟩)
theorem T_laload {n : Nm} {es : List MV} {i : Int32} {v : MV} (hd : decode μ.2.1 pc = .ok (.laload, 1)) (hn : h n = some (.inr (.long, es))) (hi : ¬ i < 0) (he : es[i.toNatClampNeg]? = some v) (kk : T μ d (pc + 1) ls (v :: st) h u Q) : T μ d pc ls (jI i :: jR (some n) :: st) h u Q := by
  intro p l e R s m args below meth c D B0 ad0 Z C S0 O ad H locs cells slots lsR stR hH hA hL hc hs hl hst
  obtain ⟨w0, t0, e0, v0, hst⟩ := hst
  obtain ⟨w1, t1, e1, ⟨a0, ha0, v1⟩, hst⟩ := hst
  subst e0; subst e1; subst v1; cases v0
  obtain ⟨a, ha, hty, f, q1, hV⟩ := hH.at hn
  cases ha0.symm.trans ha
  have hlt := clamp_lt he
  exact W.lald C.1 C.2.1 q1 ((C.2.2.2.2.2.2.2.2.1.2.1 _ hty).1 _ _) (fun q => by cases q) (by rw [arrV_size]; exact fun q => q.elim hi (Nat.not_le.mpr hlt)) (arrV_read _ _ hlt) rfl rfl hd (kk p l e R s m args below meth c D B0 ad0 Z C S0 O ad H locs cells slots lsR _ hH hA hL hc hs hl ⟨_, _, rfl, hV _ _ he, hst⟩)
theorem T_caload {n : Nm} {es : List MV} {i : Int32} {v : MV} (hd : decode μ.2.1 pc = .ok (.caload, 1)) (hn : h n = some (.inr (.char, es))) (hi : ¬ i < 0) (he : es[i.toNatClampNeg]? = some v) (kk : T μ d (pc + 1) ls (v :: st) h u Q) : T μ d pc ls (jI i :: jR (some n) :: st) h u Q := by
  intro p l e R s m args below meth c D B0 ad0 Z C S0 O ad H locs cells slots lsR stR hH hA hL hc hs hl hst
  obtain ⟨w0, t0, e0, v0, hst⟩ := hst
  obtain ⟨w1, t1, e1, ⟨a0, ha0, v1⟩, hst⟩ := hst
  subst e0; subst e1; subst v1; cases v0
  obtain ⟨a, ha, hty, f, q1, hV⟩ := hH.at hn
  cases ha0.symm.trans ha
  have hlt := clamp_lt he
  exact W.cald C.1 C.2.1 q1 ((C.2.2.2.2.2.2.2.2.1.2.1 _ hty).1 _ _) (fun q => by cases q) (by rw [arrV_size]; exact fun q => q.elim hi (Nat.not_le.mpr hlt)) (arrV_read _ _ hlt) rfl rfl hd (kk p l e R s m args below meth c D B0 ad0 Z C S0 O ad H locs cells slots lsR _ hH hA hL hc hs hl ⟨_, _, rfl, hV _ _ he, hst⟩)
theorem T_baloadB {n : Nm} {es : List MV} {i : Int32} {v : MV} (hd : decode μ.2.1 pc = .ok (.baload, 1)) (hn : h n = some (.inr (.byte, es))) (hi : ¬ i < 0) (he : es[i.toNatClampNeg]? = some v) (kk : T μ d (pc + 1) ls (v :: st) h u Q) : T μ d pc ls (jI i :: jR (some n) :: st) h u Q := by
  intro p l e R s m args below meth c D B0 ad0 Z C S0 O ad H locs cells slots lsR stR hH hA hL hc hs hl hst
  obtain ⟨w0, t0, e0, v0, hst⟩ := hst
  obtain ⟨w1, t1, e1, ⟨a0, ha0, v1⟩, hst⟩ := hst
  subst e0; subst e1; subst v1; cases v0
  obtain ⟨a, ha, hty, f, q1, hV⟩ := hH.at hn
  cases ha0.symm.trans ha
  have hlt := clamp_lt he
  exact W.bald C.1 C.2.1 q1 ((C.2.2.2.2.2.2.2.2.1.2.1 _ hty).1 _ _) (fun q => by cases q) (by rw [arrV_size]; exact fun q => q.elim hi (Nat.not_le.mpr hlt)) (arrV_read _ _ hlt) rfl rfl hd (kk p l e R s m args below meth c D B0 ad0 Z C S0 O ad H locs cells slots lsR _ hH hA hL hc hs hl ⟨_, _, rfl, hV _ _ he, hst⟩)
theorem T_baloadZ {n : Nm} {es : List MV} {i : Int32} {v : MV} (hd : decode μ.2.1 pc = .ok (.baload, 1)) (hn : h n = some (.inr (.boolean, es))) (hi : ¬ i < 0) (he : es[i.toNatClampNeg]? = some v) (kk : T μ d (pc + 1) ls (v :: st) h u Q) : T μ d pc ls (jI i :: jR (some n) :: st) h u Q := by
  intro p l e R s m args below meth c D B0 ad0 Z C S0 O ad H locs cells slots lsR stR hH hA hL hc hs hl hst
  obtain ⟨w0, t0, e0, v0, hst⟩ := hst
  obtain ⟨w1, t1, e1, ⟨a0, ha0, v1⟩, hst⟩ := hst
  subst e0; subst e1; subst v1; cases v0
  obtain ⟨a, ha, hty, f, q1, hV⟩ := hH.at hn
  cases ha0.symm.trans ha
  have hlt := clamp_lt he
  exact W.zald C.1 C.2.1 q1 ((C.2.2.2.2.2.2.2.2.1.2.1 _ hty).1 _ _) (fun q => by cases q) (by rw [arrV_size]; exact fun q => q.elim hi (Nat.not_le.mpr hlt)) (arrV_read _ _ hlt) rfl rfl hd (kk p l e R s m args below meth c D B0 ad0 Z C S0 O ad H locs cells slots lsR _ hH hA hL hc hs hl ⟨_, _, rfl, hV _ _ he, hst⟩)
theorem T_aaload {cn : String} {n : Nm} {es : List MV} {i : Int32} {v : MV} (hd : decode μ.2.1 pc = .ok (.aaload, 1)) (hn : h n = some (.inr (.object cn, es))) (hi : ¬ i < 0) (he : es[i.toNatClampNeg]? = some v) (kk : T μ d (pc + 1) ls (v :: st) h u Q) : T μ d pc ls (jI i :: jR (some n) :: st) h u Q := by
  intro p l e R s m args below meth c D B0 ad0 Z C S0 O ad H locs cells slots lsR stR hH hA hL hc hs hl hst
  obtain ⟨w0, t0, e0, v0, hst⟩ := hst
  obtain ⟨w1, t1, e1, ⟨a0, ha0, v1⟩, hst⟩ := hst
  subst e0; subst e1; subst v1; cases v0
  obtain ⟨a, ha, hty, f, q1, hV⟩ := hH.at hn
  cases ha0.symm.trans ha
  have hlt := clamp_lt he
  exact W.aald C.1 C.2.1 q1 ((C.2.2.2.2.2.2.2.2.1.2.1 _ hty).1 _ _) rfl (fun q => by cases q) (by rw [arrV_size]; exact fun q => q.elim hi (Nat.not_le.mpr hlt)) (arrV_read _ _ hlt) rfl rfl hd (kk p l e R s m args below meth c D B0 ad0 Z C S0 O ad H locs cells slots lsR _ hH hA hL hc hs hl ⟨_, _, rfl, hV _ _ he, hst⟩)
theorem T_alen {n : Nm} {ty : FieldType} {es : List MV} (hd : decode μ.2.1 pc = .ok (.arraylength, 1)) (hn : h n = some (.inr (ty, es))) (kk : T μ d (pc + 1) ls (jI (Int32.ofNat es.length) :: st) h u Q) : T μ d pc ls (jR (some n) :: st) h u Q := by
  intro p l e R s m args below meth c D B0 ad0 Z C S0 O ad H locs cells slots lsR stR hH hA hL hc hs hl hst
  obtain ⟨w1, t1, e1, ⟨a0, ha0, v1⟩, hst⟩ := hst
  subst e1; subst v1
  obtain ⟨a, ha, hty, f, q1, hV⟩ := hH.at hn
  cases ha0.symm.trans ha
  exact W.alen (n := Int32.ofNat es.length) C.1 C.2.1 q1 ((C.2.2.2.2.2.2.2.2.1.2.1 _ hty).1 _ _) (by rw [arrV_size]) rfl rfl hd (kk p l e R s m args below meth c D B0 ad0 Z C S0 O ad H locs cells slots lsR _ hH hA hL hc hs hl ⟨_, _, rfl, rfl, hst⟩)
theorem T_iastore {n : Nm} {es : List MV} {i : Int32} {x : Int32} (hd : decode μ.2.1 pc = .ok (.iastore, 1)) (hn : h n = some (.inr (.int, es))) (hi : ¬ i < 0) (hlt : i.toNatClampNeg < es.length) (kk : T μ d (pc + 1) ls st (hset h n (.inr (.int, es.set i.toNatClampNeg (jI (x))))) u Q) : T μ d pc ls (jI x :: jI i :: jR (some n) :: st) h u Q := by
  intro p l e R s m args below meth c D B0 ad0 Z C S0 O ad H locs cells slots lsR stR hH hA hL hc hs hl hst
  obtain ⟨w0, t0, e0, v0, hst⟩ := hst
  obtain ⟨w2, t2, e2, v2, hst⟩ := hst
  obtain ⟨w1, t1, e1, ⟨a0, ha0, v1⟩, hst⟩ := hst
  subst e0; subst e2; subst e1; subst v1; cases v0; cases v2
  obtain ⟨a, ha, hty, f, q1, hV⟩ := hH.at hn
  cases ha0.symm.trans ha
  refine W.iast C.1 C.2.1 q1 ((C.2.2.2.2.2.2.2.2.1.2.1 _ hty).1 _ _) (fun q => by cases q) (by rw [arrV_size]; exact fun q => q.elim hi (Nat.not_le.mpr hlt)) rfl rfl hd fun H' e1 e2 e3 => ?_
  rw [arrV_store] at e1
  exact kk p l e R s m args below meth c D B0 ad0 Z C S0 O ad H' _ cells slots lsR _ (hH.set hn ha e2 e3 ⟨hty, updV f i.toNatClampNeg (.int x), by rw [List.length_set]; exact e1, VR_set hV rfl⟩) hA (fun q hq => by rcases List.mem_append.mp hq with h9 | h9; exact hL q h9; cases List.mem_singleton.mp h9; exact hH.2.2.2.2.1.1 n a0 ha0 (hH.ns hn)) hc hs hl hst
theorem T_lastore {n : Nm} {es : List MV} {i : Int32} {x : Int64} (hd : decode μ.2.1 pc = .ok (.lastore, 1)) (hn : h n = some (.inr (.long, es))) (hi : ¬ i < 0) (hlt : i.toNatClampNeg < es.length) (kk : T μ d (pc + 1) ls st (hset h n (.inr (.long, es.set i.toNatClampNeg (jL (x))))) u Q) : T μ d pc ls (jL x :: jI i :: jR (some n) :: st) h u Q := by
  intro p l e R s m args below meth c D B0 ad0 Z C S0 O ad H locs cells slots lsR stR hH hA hL hc hs hl hst
  obtain ⟨w0, t0, e0, v0, hst⟩ := hst
  obtain ⟨w2, t2, e2, v2, hst⟩ := hst
  obtain ⟨w1, t1, e1, ⟨a0, ha0, v1⟩, hst⟩ := hst
  subst e0; subst e2; subst e1; subst v1; cases v0; cases v2
  obtain ⟨a, ha, hty, f, q1, hV⟩ := hH.at hn
  cases ha0.symm.trans ha
  refine W.last C.1 C.2.1 q1 ((C.2.2.2.2.2.2.2.2.1.2.1 _ hty).1 _ _) (fun q => by cases q) (by rw [arrV_size]; exact fun q => q.elim hi (Nat.not_le.mpr hlt)) rfl rfl hd fun H' e1 e2 e3 => ?_
  rw [arrV_store] at e1
  exact kk p l e R s m args below meth c D B0 ad0 Z C S0 O ad H' _ cells slots lsR _ (hH.set hn ha e2 e3 ⟨hty, updV f i.toNatClampNeg (.long x), by rw [List.length_set]; exact e1, VR_set hV rfl⟩) hA (fun q hq => by rcases List.mem_append.mp hq with h9 | h9; exact hL q h9; cases List.mem_singleton.mp h9; exact hH.2.2.2.2.1.1 n a0 ha0 (hH.ns hn)) hc hs hl hst
theorem T_bastoreB {n : Nm} {es : List MV} {i : Int32} {x : Int32} (hd : decode μ.2.1 pc = .ok (.bastore, 1)) (hn : h n = some (.inr (.byte, es))) (hi : ¬ i < 0) (hlt : i.toNatClampNeg < es.length) (kk : T μ d (pc + 1) ls st (hset h n (.inr (.byte, es.set i.toNatClampNeg (jI (x.toInt8.toInt32))))) u Q) : T μ d pc ls (jI x :: jI i :: jR (some n) :: st) h u Q := by
  intro p l e R s m args below meth c D B0 ad0 Z C S0 O ad H locs cells slots lsR stR hH hA hL hc hs hl hst
  obtain ⟨w0, t0, e0, v0, hst⟩ := hst
  obtain ⟨w2, t2, e2, v2, hst⟩ := hst
  obtain ⟨w1, t1, e1, ⟨a0, ha0, v1⟩, hst⟩ := hst
  subst e0; subst e2; subst e1; subst v1; cases v0; cases v2
  obtain ⟨a, ha, hty, f, q1, hV⟩ := hH.at hn
  cases ha0.symm.trans ha
  refine W.bast C.1 C.2.1 q1 ((C.2.2.2.2.2.2.2.2.1.2.1 _ hty).1 _ _) (fun q => by cases q) (by rw [arrV_size]; exact fun q => q.elim hi (Nat.not_le.mpr hlt)) rfl rfl hd fun H' e1 e2 e3 => ?_
  rw [arrV_store] at e1
  exact kk p l e R s m args below meth c D B0 ad0 Z C S0 O ad H' _ cells slots lsR _ (hH.set hn ha e2 e3 ⟨hty, updV f i.toNatClampNeg (.int x.toInt8.toInt32), by rw [List.length_set]; exact e1, VR_set hV rfl⟩) hA (fun q hq => by rcases List.mem_append.mp hq with h9 | h9; exact hL q h9; cases List.mem_singleton.mp h9; exact hH.2.2.2.2.1.1 n a0 ha0 (hH.ns hn)) hc hs hl hst
theorem T_bastoreZ {n : Nm} {es : List MV} {i : Int32} {x : Int32} (hd : decode μ.2.1 pc = .ok (.bastore, 1)) (hn : h n = some (.inr (.boolean, es))) (hi : ¬ i < 0) (hlt : i.toNatClampNeg < es.length) (kk : T μ d (pc + 1) ls st (hset h n (.inr (.boolean, es.set i.toNatClampNeg (jI (vp_nar .boolean x))))) u Q) : T μ d pc ls (jI x :: jI i :: jR (some n) :: st) h u Q := by
  intro p l e R s m args below meth c D B0 ad0 Z C S0 O ad H locs cells slots lsR stR hH hA hL hc hs hl hst
  obtain ⟨w0, t0, e0, v0, hst⟩ := hst
  obtain ⟨w2, t2, e2, v2, hst⟩ := hst
  obtain ⟨w1, t1, e1, ⟨a0, ha0, v1⟩, hst⟩ := hst
  subst e0; subst e2; subst e1; subst v1; cases v0; cases v2
  obtain ⟨a, ha, hty, f, q1, hV⟩ := hH.at hn
  cases ha0.symm.trans ha
  refine W.zast C.1 C.2.1 q1 ((C.2.2.2.2.2.2.2.2.1.2.1 _ hty).1 _ _) (fun q => by cases q) (by rw [arrV_size]; exact fun q => q.elim hi (Nat.not_le.mpr hlt)) rfl rfl hd fun H' e1 e2 e3 => ?_
  rw [arrV_store] at e1
  exact kk p l e R s m args below meth c D B0 ad0 Z C S0 O ad H' _ cells slots lsR _ (hH.set hn ha e2 e3 ⟨hty, updV f i.toNatClampNeg (.int (vp_nar .boolean x)), by rw [List.length_set]; exact e1, VR_set hV rfl⟩) hA (fun q hq => by rcases List.mem_append.mp hq with h9 | h9; exact hL q h9; cases List.mem_singleton.mp h9; exact hH.2.2.2.2.1.1 n a0 ha0 (hH.ns hn)) hc hs hl hst
theorem T_castore {n : Nm} {es : List MV} {i : Int32} {x : Int32} (hd : decode μ.2.1 pc = .ok (.castore, 1)) (hn : h n = some (.inr (.char, es))) (hi : ¬ i < 0) (hlt : i.toNatClampNeg < es.length) (kk : T μ d (pc + 1) ls st (hset h n (.inr (.char, es.set i.toNatClampNeg (jI (vp_nar .char x))))) u Q) : T μ d pc ls (jI x :: jI i :: jR (some n) :: st) h u Q := by
  intro p l e R s m args below meth c D B0 ad0 Z C S0 O ad H locs cells slots lsR stR hH hA hL hc hs hl hst
  obtain ⟨w0, t0, e0, v0, hst⟩ := hst
  obtain ⟨w2, t2, e2, v2, hst⟩ := hst
  obtain ⟨w1, t1, e1, ⟨a0, ha0, v1⟩, hst⟩ := hst
  subst e0; subst e2; subst e1; subst v1; cases v0; cases v2
  obtain ⟨a, ha, hty, f, q1, hV⟩ := hH.at hn
  cases ha0.symm.trans ha
  refine W.cast C.1 C.2.1 q1 ((C.2.2.2.2.2.2.2.2.1.2.1 _ hty).1 _ _) (fun q => by cases q) (by rw [arrV_size]; exact fun q => q.elim hi (Nat.not_le.mpr hlt)) rfl rfl hd fun H' e1 e2 e3 => ?_
  rw [arrV_store] at e1
  exact kk p l e R s m args below meth c D B0 ad0 Z C S0 O ad H' _ cells slots lsR _ (hH.set hn ha e2 e3 ⟨hty, updV f i.toNatClampNeg (.int (vp_nar .char x)), by rw [List.length_set]; exact e1, VR_set hV rfl⟩) hA (fun q hq => by rcases List.mem_append.mp hq with h9 | h9; exact hL q h9; cases List.mem_singleton.mp h9; exact hH.2.2.2.2.1.1 n a0 ha0 (hH.ns hn)) hc hs hl hst
theorem T_aastore {n m2 : Nm} {ci : Nat} {cn : String} {fs es : List MV} {i : Int32} (hd : decode μ.2.1 pc = .ok (.aastore, 1)) (hn : h n = some (.inr (.object cn, es))) (hm : h m2 = some (.inl (ci, fs))) (hcn : (vwCl[ci]?).map (fun q => q.1) = some cn) (hi : ¬ i < 0) (hlt : i.toNatClampNeg < es.length) (kk : T μ d (pc + 1) ls st (hset h n (.inr (.object cn, es.set i.toNatClampNeg (jR (some m2))))) u Q) : T μ d pc ls (jR (some m2) :: jI i :: jR (some n) :: st) h u Q := by
  intro p l e R s m args below meth c D B0 ad0 Z C S0 O ad H locs cells slots lsR stR hH hA hL hc hs hl hst
  obtain ⟨w0, t0, e0, ⟨av, hav, v0⟩, hst⟩ := hst
  obtain ⟨w2, t2, e2, v2, hst⟩ := hst
  obtain ⟨w1, t1, e1, ⟨a0, ha0, v1⟩, hst⟩ := hst
  subst e0; subst e2; subst e1; subst v1; subst v0; cases v2
  obtain ⟨a, ha, hty, f, q1, hV⟩ := hH.at hn
  cases ha0.symm.trans ha
  obtain ⟨bv, hbv, r, V, r1, r2, ⟨cellV, g1, g2, g3, -⟩, -⟩ := hH.at hm
  cases hav.symm.trans hbv
  have hK := C.2.2.2.2.2.2.2.2.1
  have hcls := (hK.1 ci r r1).2
  rw [r1] at hcn
  cases hcn
  obtain ⟨kA, comp, k1, k2, k3, -⟩ := (hK.2.1 _ hty).2
  cases k3.symm.trans hcls.1
  have hcl2 := hcls
  obtain ⟨kC, hkC, -⟩ := hcls.2
  refine W.aast C.1 C.2.1 q1 (fun q h => by cases h) (fun h => by cases h) k1 k2 rfl hkC ⟨hi, by rw [arrV_size]; exact hlt⟩ g1 (fun q h => by rw [g3] at h; cases h) (by rw [g2]; exact hkC) (by rw [g2]; exact va_assign hcl2) rfl rfl hd fun H' e1 e2 e3 => ?_
  rw [arrV_store] at e1
  exact kk p l e R s m args below meth c D B0 ad0 Z C S0 O ad H' _ cells slots lsR _ (hH.set hn ha e2 e3 ⟨hty, updV f i.toNatClampNeg (.ref av), by rw [List.length_set]; exact e1, VR_set hV ⟨av, hav, rfl⟩⟩) hA (fun q hq => by rcases List.mem_append.mp hq with h9 | h9; exact hL q h9; cases List.mem_singleton.mp h9; exact hH.2.2.2.2.1.1 n a0 ha0 (hH.ns hn)) hc hs hl hst
theorem T_new {idx ci : Nat} {fs : List MV} (n : Nm) (hf : NF μ.1.cls idx ci fs) (hd : decode μ.2.1 pc = .ok (.new idx, 3)) (hn : h n = none) (hns : n ≠ scr) (hu : fs.length + 1 ≤ u) (kk : T μ d (pc + 3) ls (jR (some n) :: st) (hset h n (.inl (ci, fs))) (u - (fs.length + 1)) Q) : T μ d pc ls st h u Q := by
  intro p l e R s m args below meth c D B0 ad0 Z C S0 O ad H locs cells slots lsR stR hH hA hL hc hs hl hst
  obtain ⟨Cn, Tb, N, tyf, f1, f2, f3, f4, f5, f6, f7⟩ := hf
  have hlen : fs.length = N := by rw [f7]; simp
  rw [hlen] at hu kk
  have hts := C.2.2.2.2.2.1
  have hKn := C.2.2.2.2.2.2.2.2.1.1 ci _ f1
  refine W.newcK C.1 C.2.1 C.2.2.2.2.1 (hts _ f4) (hts _ f5) (hts _ f6) rfl hd (by omega) (by omega) hKn.2.1 rfl fun H' kC hkC e1 z1 o1 => ?_
  have had : ad n = none := hH.fr hn hns
  have hself : adset ad n H.size n = some H.size := by simp [adset]
  refine kk p l e R s m args below meth c D B0 ad0 Z C S0 O (adset ad n H.size) H' locs (cells + 1) (slots + N) lsR _ (hH.push hn hns z1 o1 ⟨_, _, f1, hlen, u_born tyf hts f2 hKn hkC e1 f3, fun i v hv => ?_⟩) (hA.tr (adset_le had)) hL (by omega) (by omega) (hl.mono (adset_le had)) ⟨_, _, rfl, ⟨_, hself, rfl⟩, hst.mono (adset_le had)⟩
  rw [f7, List.getElem?_map] at hv
  cases hr : (List.range N)[i]? with
  | none => rw [hr] at hv; cases hv
  | some j =>
    rw [hr] at hv
    cases hv
    have hj : i < N := by simpa using (List.getElem?_eq_some_iff.mp hr).1
    rw [List.getElem?_range hj] at hr
    cases hr
    exact VR_dflt _ _
theorem T_newarray {atype : ArrayType} {ty : FieldType} {len : Int32} (n : Nm) (hd : decode μ.2.1 pc = .ok (.newarray atype, 2)) (hty : newarray.typeOf atype = ty) (hin : ty ∈ aTys) (hw : Cond.arrayClass ty ∈ gTbl) (hl0 : ¬ len < 0) (hb : len.toNatClampNeg ≤ 65536) (hn : h n = none) (hns : n ≠ scr) (hu : len.toNatClampNeg + 1 ≤ u) (kk : T μ d (pc + 2) ls (jR (some n) :: st) (hset h n (.inr (ty, List.replicate len.toNatClampNeg (dflt ty)))) (u - (len.toNatClampNeg + 1)) Q) : T μ d pc ls (jI len :: st) h u Q := by
  intro p l e R s m args below meth c D B0 ad0 Z C S0 O ad H locs cells slots lsR stR hH hA hL hc hs hl hst
  obtain ⟨w0, t0, e0, v0, hst⟩ := hst
  subst e0; cases v0
  subst hty
  have hts := C.2.2.2.2.2.1
  have hra := (C.2.2.2.2.2.2.2.2.1.2.1 _ hin).2
  have hcb : componentBytes (newarray.typeOf atype) ≤ 8 := by cases atype <;> decide
  have hcb2 : len.toNatClampNeg * componentBytes (newarray.typeOf atype) ≤ 65536 * 8 := Nat.mul_le_mul hb hcb
  refine va_newaK C.1 C.2.1 (hts _ hw) rfl hd rfl hl0 rfl (by omega) (by omega) (by omega) rfl fun H' cA e1 z1 o1 hAr hNm => ?_
  have hcA : cA = D.2.2 (newarray.typeOf atype) := by
    have hra2 : s.vm.findClass ("[" ++ (newarray.typeOf atype).toString) = some (D.2.2 (newarray.typeOf atype)) := by cases atype <;> exact hra
    exact Option.some.inj (hNm.symm.trans hra2)
  subst hcA
  have had : ad n = none := hH.fr hn hns
  have hself : adset ad n H.size n = some H.size := by simp [adset]
  refine kk p l e R s m args below meth c D B0 ad0 Z C S0 O (adset ad n H.size) H' locs (cells + 1) (slots + len.toNatClampNeg) lsR _ (hH.push hn hns z1 o1 ⟨hin, fun _ => defaultValue (newarray.typeOf atype), by rw [List.length_replicate]; exact e1, fun i v hv => ?_⟩) (hA.tr (adset_le had)) hL (by omega) (by omega) (hl.mono (adset_le had)) ⟨_, _, rfl, ⟨_, hself, rfl⟩, hst.mono (adset_le had)⟩
  rw [List.getElem?_replicate] at hv
  split at hv
  · cases hv; exact VR_dflt _ _
  · cases hv
theorem T_anewarray {idx : Nat} {cn : String} {len : Int32} (n : Nm) (hd : decode μ.2.1 pc = .ok (.anewarray idx, 3)) (hin : FieldType.object cn ∈ aTys) (hw : Cond.classLink μ.1.cls idx cn ∈ gTbl) (hw2 : Cond.arrayOver (.object cn) ∈ NG) (hl0 : ¬ len < 0) (hb : len.toNatClampNeg ≤ 65536) (hn : h n = none) (hns : n ≠ scr) (hu : len.toNatClampNeg + 1 ≤ u) (kk : T μ d (pc + 3) ls (jR (some n) :: st) (hset h n (.inr (.object cn, List.replicate len.toNatClampNeg (jR none)))) (u - (len.toNatClampNeg + 1)) Q) : T μ d pc ls (jI len :: st) h u Q := by
  intro p l e R s m args below meth c D B0 ad0 Z C S0 O ad H locs cells slots lsR stR hH hA hL hc hs hl hst
  obtain ⟨w0, t0, e0, v0, hst⟩ := hst
  subst e0; cases v0
  have hts := C.2.2.2.2.2.1
  obtain ⟨kA0, comp0, b1, b2, b3, b4⟩ := (C.2.2.2.2.2.2.2.2.1.2.1 _ hin).2
  refine W.anew C.1 C.2.1 C.2.2.2.2.1 (hts _ hw) (va_AO.use (C.2.2.2.2.2.2.2.2.1.2.2 _ hw2)) rfl hd rfl hl0 (by omega) (by omega) (by omega) fun cA kA comp f1 f2 f3 f4 => ?_
  have hcA : cA = D.2.2 (.object cn) := Option.some.inj (f1.symm.trans b4)
  subst hcA
  generalize hH1 : H.push ({ cls := D.2.2 (.object cn), slots := Array.replicate len.toNatClampNeg .null, vm := .none } : Cell) = H'
  have z1 : H'.size = H.size + 1 := by rw [← hH1, Array.size_push]
  have e1 : H'[H.size]? = some (arrV (D.2.2 (.object cn)) len.toNatClampNeg (fun _ => defaultValue (.object cn))) := by rw [← hH1, Array.getElem?_push_size, arrV_new]; rfl
  have o1 : ∀ q : Nat, q < H.size → H'[q]? = H[q]? := fun q hq => by rw [← hH1, Array.getElem?_push, if_neg (Nat.ne_of_lt hq)]
  have had : ad n = none := hH.fr hn hns
  have hself : adset ad n H.size n = some H.size := by simp [adset]
  refine kk p l e R s m args below meth c D B0 ad0 Z C S0 O (adset ad n H.size) H' locs (cells + 1) (slots + len.toNatClampNeg) lsR _ (hH.push hn hns z1 o1 ⟨hin, fun _ => defaultValue (.object cn), by rw [List.length_replicate]; exact e1, fun i v hv => ?_⟩) (hA.tr (adset_le had)) hL (by omega) (by omega) (hl.mono (adset_le had)) ⟨_, _, rfl, ⟨_, hself, rfl⟩, hst.mono (adset_le had)⟩
  rw [List.getElem?_replicate] at hv
  split at hv
  · cases hv; rfl
  · cases hv
theorem T_objInit {idx : Nat} {o : Option Nm} (hd : decode μ.2.1 pc = .ok (.invokespecial idx, 3)) (hw : Cond.methodLink μ.1.cls idx Lib.objectInit ∈ gTbl) (hw2 : Cond.instanceMethod Lib.objectInit ∈ gTbl) (hw3 : Cond.code Lib.objectInit ⟨#[0xb1]⟩ 1 none ∈ gTbl) {n : Nm} (ho : o = some n) (hln : st.length ≤ 4) (kk : T μ (d + 1) (pc + 3) ls st h u Q) : T μ (d + 1) pc ls (jR o :: st) h u Q := by
  intro p l e R s m args below meth c D B0 ad0 Z C S0 O ad H locs cells slots lsR stR hH hA hL hc hs hl hst
  subst ho
  obtain ⟨w1, t1, e1, ⟨a0, ha0, v1⟩, hst⟩ := hst
  subst e1; subst v1
  have hts := C.2.2.2.2.2.1
  obtain ⟨-, -, c3, -, -, -, -, -, -, c10, c11⟩ := id C
  have hsum := hst.catSum
  have hsz : lsR.size = c.maxLocals := by obtain ⟨lv, q, -⟩ := hl; rw [c3]; exact q.1
  exact W.objInit C.1 C.2.1 C.2.2.2.2.1 (hts _ hw) (hts _ hw2) (hts _ hw3) rfl hsz rfl hd (by omega) (by show 2 * 0 + _ + 12 ≤ _; omega) (kk p l e R s m args below meth c D B0 ad0 Z C S0 O ad H locs cells slots lsR _ hH hA hL hc hs hl hst)
theorem T_castI {idx : Nat} {n : Nm} {es : List MV} (hd : decode μ.2.1 pc = .ok (.checkcast idx, 3)) (hw : Cond.classLink μ.1.cls idx "[I" ∈ gTbl) (hn : h n = some (.inr (.int, es))) (kk : T μ d (pc + 3) ls (jR (some n) :: st) h u Q) : T μ d pc ls (jR (some n) :: st) h u Q := by
  intro p l e R s m args below meth c D B0 ad0 Z C S0 O ad H locs cells slots lsR stR hH hA hL hc hs hl hst
  obtain ⟨w1, t1, e1, ⟨a0, ha0, v1⟩, hst⟩ := hst
  subst e1; subst v1
  obtain ⟨a, ha, hty, f, q1, hV⟩ := hH.at hn
  cases ha0.symm.trans ha
  have hts := C.2.2.2.2.2.1
  have hnm : s.vm.findClass "[I" = some (D.2.2 .int) := (C.2.2.2.2.2.2.2.2.1.2.1 .int hty).2
  have k0 := kk p l e R s m args below meth c D B0 ad0 Z C S0 O ad H locs cells slots lsR _ hH hA hL hc hs hl ⟨_, _, rfl, ⟨a0, ha0, rfl⟩, hst⟩
  intro TT hT X
  obtain ⟨vm', X', st'⟩ := X.checkcastYes C.1 C.2.2.2.2.1 (hts _ hw) (by rw [hT]; exact q1) rfl hnm (va_asg _ _) (g := F0 m pc lsR (.ref a0 :: t1)) rfl rfl (by rw [C.2.1]; exact hd)
  obtain ⟨t, a1, b1⟩ := k0 (TT.setVm vm') hT X'
  exact ⟨t, st' t a1, b1⟩
theorem T_d2bits {idx : Nat} {b : UInt64} (hd : decode μ.2.1 pc = .ok (.invokestatic idx, 3)) (hw : Cond.methodLink μ.1.cls idx ⟨"java/lang/Double", "doubleToRawLongBits", "(D)J"⟩ ∈ gTbl) (hw2 : Cond.native ⟨"java/lang/Double", "doubleToRawLongBits", "(D)J"⟩ ∈ gTbl) (hw3 : Cond.static ⟨"java/lang/Double", "doubleToRawLongBits", "(D)J"⟩ ∈ gTbl) (hw4 : Cond.initialized "java/lang/Double" ∈ gTbl)  (hln : st.length ≤ 4) (kk : T μ (d + 1) (pc + 3) ls (jL (b.toInt64) :: st) h u Q) : T μ (d + 1) pc ls (jD b :: st) h u Q := by
  intro p l e R s m args below meth c D B0 ad0 Z C S0 O ad H locs cells slots lsR stR hH hA hL hc hs hl hst
  obtain ⟨w0, t0, e0, v0, hst⟩ := hst
  subst e0; cases v0
  have hts := C.2.2.2.2.2.1
  obtain ⟨-, -, c3, -, -, -, -, -, -, c10, c11⟩ := id C
  have hsum := hst.catSum
  have hsz : c.maxLocals = lsR.size := by obtain ⟨lv, q, -⟩ := hl; rw [c3]; exact q.1.symm
  exact vn_d2l C.1 C.2.1 hsz C.2.2.2.2.1 (hts _ hw) (hts _ hw2) (hts _ hw3) (hts _ hw4) (by omega) (by omega) hd (kk p l e R s m args below meth c D B0 ad0 Z C S0 O ad H locs cells slots lsR _ hH hA hL hc hs hl ⟨_, _, rfl, rfl, hst⟩)
theorem T_bits2d {idx : Nat} {b : Int64} (hd : decode μ.2.1 pc = .ok (.invokestatic idx, 3)) (hw : Cond.methodLink μ.1.cls idx ⟨"java/lang/Double", "longBitsToDouble", "(J)D"⟩ ∈ gTbl) (hw2 : Cond.native ⟨"java/lang/Double", "longBitsToDouble", "(J)D"⟩ ∈ gTbl) (hw3 : Cond.static ⟨"java/lang/Double", "longBitsToDouble", "(J)D"⟩ ∈ gTbl) (hw4 : Cond.initialized "java/lang/Double" ∈ gTbl) (hv : vn_snl2d b = false) (hln : st.length ≤ 4) (kk : T μ (d + 1) (pc + 3) ls (jD (b.toUInt64) :: st) h u Q) : T μ (d + 1) pc ls (jL b :: st) h u Q := by
  intro p l e R s m args below meth c D B0 ad0 Z C S0 O ad H locs cells slots lsR stR hH hA hL hc hs hl hst
  obtain ⟨w0, t0, e0, v0, hst⟩ := hst
  subst e0; cases v0
  have hts := C.2.2.2.2.2.1
  obtain ⟨-, -, c3, -, -, -, -, -, -, c10, c11⟩ := id C
  have hsum := hst.catSum
  have hsz : c.maxLocals = lsR.size := by obtain ⟨lv, q, -⟩ := hl; rw [c3]; exact q.1.symm
  exact vn_l2d C.1 C.2.1 hsz C.2.2.2.2.1 (hts _ hw) (hts _ hw2) (hts _ hw3) (hts _ hw4) hv (by omega) (by omega) hd (kk p l e R s m args below meth c D B0 ad0 Z C S0 O ad H locs cells slots lsR _ hH hA hL hc hs hl ⟨_, _, rfl, rfl, hst⟩)
theorem T_f2bits {idx : Nat} {b : UInt32} (hd : decode μ.2.1 pc = .ok (.invokestatic idx, 3)) (hw : Cond.methodLink μ.1.cls idx ⟨"java/lang/Float", "floatToRawIntBits", "(F)I"⟩ ∈ gTbl) (hw2 : Cond.native ⟨"java/lang/Float", "floatToRawIntBits", "(F)I"⟩ ∈ gTbl) (hw3 : Cond.static ⟨"java/lang/Float", "floatToRawIntBits", "(F)I"⟩ ∈ gTbl) (hw4 : Cond.initialized "java/lang/Float" ∈ gTbl)  (hln : st.length ≤ 4) (kk : T μ (d + 1) (pc + 3) ls (jI (b.toInt32) :: st) h u Q) : T μ (d + 1) pc ls (jF b :: st) h u Q := by
  intro p l e R s m args below meth c D B0 ad0 Z C S0 O ad H locs cells slots lsR stR hH hA hL hc hs hl hst
  obtain ⟨w0, t0, e0, v0, hst⟩ := hst
  subst e0; cases v0
  have hts := C.2.2.2.2.2.1
  obtain ⟨-, -, c3, -, -, -, -, -, -, c10, c11⟩ := id C
  have hsum := hst.catSum
  have hsz : c.maxLocals = lsR.size := by obtain ⟨lv, q, -⟩ := hl; rw [c3]; exact q.1.symm
  exact vn_f2i C.1 C.2.1 hsz C.2.2.2.2.1 (hts _ hw) (hts _ hw2) (hts _ hw3) (hts _ hw4) (by omega) (by omega) hd (kk p l e R s m args below meth c D B0 ad0 Z C S0 O ad H locs cells slots lsR _ hH hA hL hc hs hl ⟨_, _, rfl, rfl, hst⟩)
theorem T_bits2f {idx : Nat} {b : Int32} (hd : decode μ.2.1 pc = .ok (.invokestatic idx, 3)) (hw : Cond.methodLink μ.1.cls idx ⟨"java/lang/Float", "intBitsToFloat", "(I)F"⟩ ∈ gTbl) (hw2 : Cond.native ⟨"java/lang/Float", "intBitsToFloat", "(I)F"⟩ ∈ gTbl) (hw3 : Cond.static ⟨"java/lang/Float", "intBitsToFloat", "(I)F"⟩ ∈ gTbl) (hw4 : Cond.initialized "java/lang/Float" ∈ gTbl) (hv : vn_sni2f b = false) (hln : st.length ≤ 4) (kk : T μ (d + 1) (pc + 3) ls (jF (b.toUInt32) :: st) h u Q) : T μ (d + 1) pc ls (jI b :: st) h u Q := by
  intro p l e R s m args below meth c D B0 ad0 Z C S0 O ad H locs cells slots lsR stR hH hA hL hc hs hl hst
  obtain ⟨w0, t0, e0, v0, hst⟩ := hst
  subst e0; cases v0
  have hts := C.2.2.2.2.2.1
  obtain ⟨-, -, c3, -, -, -, -, -, -, c10, c11⟩ := id C
  have hsum := hst.catSum
  have hsz : c.maxLocals = lsR.size := by obtain ⟨lv, q, -⟩ := hl; rw [c3]; exact q.1.symm
  exact vn_i2f C.1 C.2.1 hsz C.2.2.2.2.1 (hts _ hw) (hts _ hw2) (hts _ hw3) (hts _ hw4) hv (by omega) (by omega) hd (kk p l e R s m args below meth c D B0 ad0 Z C S0 O ad H locs cells slots lsR _ hH hA hL hc hs hl ⟨_, _, rfl, rfl, hst⟩)
end Heap
end
section
/-! CALLS, and a method's contract out of its walk -/
/-- what the tables say of a method that is called -/
def MF (ν : MU) (n : Nat) : Prop := Cond.code ν.1 ν.2.1 ν.2.2.1 ν.2.2.2.1 ∈ gTbl ∧ Cond.initialized ν.1.cls ∈ gTbl ∧ (ν.1.cls ≠ "java/lang/invoke/MethodHandle" ∧ ν.1.cls ≠ "java/lang/invoke/VarHandle" ∧ (parseMethodDescriptor ν.1.desc).map (fun d => d.parameters.length) = some n) ∧ ν.2.2.1 ≤ 40
theorem gTbl_good {ν : MU} (h : Cond.code ν.1 ν.2.1 ν.2.2.1 ν.2.2.2.1 ∈ gTbl) : GoodIn gTbl (wsOf ν) := by
  intro w hw
  rcases List.mem_cons.mp hw with rfl | hw
  · exact ⟨h, good_of_word (List.mem_filter.mp h).2⟩
  · exact ⟨hw, good_of_word (List.mem_filter.mp hw).2⟩
theorem Ct_blind (ad : AD) (av : List MV) (D : DD) (B0 : Heap) (h : MH) : FrameBlind (fun a U => SR ad av a.toList ∧ HR D B0 ad h U.heap ∧ KK D U) :=
  fun a U g mk q => ⟨q.1, q.2.1, KK.same (u := U) (U := U.calling g mk a) (show U.vm = (U.calling g mk a).vm from rfl) q.2.2⟩
section Calls5
variable {p : Program} {l : Launch} {e : Env} {R : Room} {s : State} {m : MethodId} {args : Array Value} {below : List Frame} {meth : Method} {c : Code} {H : Heap} {locs : List Loc} {cells slots : Nat} {Z : State → Prop}
/-- behind a call: the walk goes on -/
theorem call_on {μ : MU} {d pc : Nat} {ls : List (Option MV)} {rest : List MV} {u u1 : Nat} {Q : Option MV → MH → Prop} {D : DD} {B0 : Heap} {ad0 ad : AD} {lsR : Array Slot} {stR restR : List Value} {a : Array Value}
    (C : CX μ (d + 1) D p R s m args meth c) (S0 : SCX μ.2.2.2.2 B0 ad0 s) (O : RO μ D B0 ad0 p l e R s m args below meth c Q Z) (hA : AdLe ad0 ad) (hL : ∀ q ∈ locs, B0.size ≤ q.base) (hu : u1 ≤ u) (hc : cells + u ≤ R.cells) (hs : slots + u ≤ R.slots) (hl : LR ad μ.2.2.1 ls lsR) (hst : SR ad rest restR)
    (hr : va_Run p l e R s m args below meth c H locs cells slots u1 u1 (F0 m pc lsR stR) restR ((fun (_ : Array Value) (_ : State) o t => ∃ (v : Option MV) (h' : MH) (ad' : AD) (w : Option Value), (T μ (d + 1) (pc + 3) ls (v.toList ++ rest) h' (u - u1) Q) ∧ AdLe ad ad' ∧ HR D B0 ad' h' t.heap ∧ OVR ad' v w ∧ o = .returned w) a) (fun q => B0.size ≤ q)) :
    W p l e R s m args below meth c H locs cells slots Z (F0 m pc lsR stR) := by
  intro TT hT X
  obtain ⟨v, st₀, t, T', L, h0, X', hL2, e1, e2, ⟨v1, h', ad', w, hK, hle, hHR, hov, ho⟩, st⟩ := hr TT hT X
  cases ho
  have hst2 : SR ad' (v1.toList ++ rest) (v.toList ++ restR) := by
    match v1, v, hov with
    | none, _, hov => cases hov; exact hst.mono hle
    | some x, _, ⟨y, e, hv⟩ => cases e; exact ⟨y, restR, rfl, hv, hst.mono hle⟩
  rw [← e1] at hHR
  obtain ⟨t2, a1, b1⟩ := hK p l e R s m args below meth c D B0 ad0 Z C S0 O ad' T'.heap (locs ++ L) (cells + u1) (slots + u1) lsR _ hHR (hA.tr hle) (fun q hq => by
    rcases List.mem_append.mp hq with h9 | h9
    · exact hL q h9
    · exact hL2 q h9) (by omega) (by omega) (hl.mono hle) hst2 T' rfl X'
  exact ⟨t2, st t2 a1, b1⟩
end Calls5
section Calls6
variable {μ ν : MU} {d pc : Nat} {ls : List (Option MV)} {st : List MV} {h : MH} {u : Nat} {Q : Option MV → MH → Prop}
theorem T_invS {idx n : Nat} {av rest : List MV} (hd : decode μ.2.1 pc = .ok (.invokestatic idx, 3)) (hm : MF ν n) (hw : Cond.methodLink μ.1.cls idx ν.1 ∈ gTbl) (hw2 : Cond.static ν.1 ∈ gTbl) (hn : av.length = n) (hr : rest.length ≤ 4) (he : st = av.reverse ++ rest)
    (k : inv d ν av h u (fun v h' u' => T μ (d + 1) (pc + 3) ls (v.toList ++ rest) h' u' Q)) : T μ (d + 1) pc ls st h u Q := by
  intro p l e R s m args below meth c D B0 ad0 Z C S0 O ad H locs cells slots lsR stR hH hA hL hc hs hl hst
  subst he
  obtain ⟨x, y, hxy, hst1, hst2⟩ := hst.split
  subst hxy
  obtain ⟨u1, hu, hC⟩ := k
  obtain ⟨m1, m2, m3, m4⟩ := hm
  obtain ⟨c1, c2, c3, c4, c5, c6, c7, c8, c9, c10, c11⟩ := id C
  have hsz : lsR.size = μ.2.2.1 := by obtain ⟨lv, q, -⟩ := hl; exact q.1
  have hrv := hst1.rev
  rw [List.reverse_reverse] at hrv
  have hsum := hst2.catSum
  have hav : x.reverse.length = n := by rw [SR.len hrv, hn]
  refine call_on (a := x.reverse.toArray) C S0 O hA hL hu hc hs hl hst2 (va_runS (As := x.reverse) (rest := y) (n := n) (S := ⟨c1, c2, c3, c5, c6⟩) (hC l D B0 ad) ⟨callB_of n c6 (gTbl_good m1) rfl rfl rfl (c6 _ m2) (c6 _ hw) m3 ⟨c10, ?_⟩, c6 _ hw2⟩ ⟨Ct_blind _ _ _ _ _, fun U hU hW => ⟨hrv, by rw [hU]; exact hH, c9.moved hW⟩⟩ rfl hav hsz (by rw [List.reverse_reverse]) ?_ hd ⟨by omega, by omega⟩)
  · show 8 + (ν.2.2.1 + 11) + 80 * d ≤ R.locals
    omega
  · exact lv_room (by omega)
theorem T_invV {idx n ci : Nat} {av rest fs : List MV} {nm : Nm} (hd : decode μ.2.1 pc = .ok (.invokevirtual idx, 3)) (hm : MF ν n) (hw : Cond.methodLink μ.1.cls idx ν.1 ∈ gTbl) (hw2 : Cond.instanceMethod ν.1 ∈ gTbl) (hw3 : Cond.selects ν.1.cls ν.1 ν.1 ∈ gTbl) (hci : (vwCl[ci]?).map (fun q => q.1) = some ν.1.cls) (hn : av.length = n) (hr : rest.length ≤ 4) (ho : h nm = some (.inl (ci, fs))) (he : st = av.reverse ++ jR (some nm) :: rest)
    (k : inv d ν (jR (some nm) :: av) h u (fun v h' u' => T μ (d + 1) (pc + 3) ls (v.toList ++ rest) h' u' Q)) : T μ (d + 1) pc ls st h u Q := by
  intro p l e R s m args below meth c D B0 ad0 Z C S0 O ad H locs cells slots lsR stR hH hA hL hc hs hl hst
  subst he
  obtain ⟨x, y, hxy, hst1, hst2⟩ := hst.split
  subst hxy
  obtain ⟨w0, y0, e0, ⟨a0, ha0, v0⟩, hst2⟩ := hst2
  subst e0; subst v0
  obtain ⟨u1, hu, hC⟩ := k
  obtain ⟨m1, m2, m3, m4⟩ := hm
  obtain ⟨c1, c2, c3, c4, c5, c6, c7, c8, c9, c10, c11⟩ := id C
  have hsz : lsR.size = μ.2.2.1 := by obtain ⟨lv, q, -⟩ := hl; exact q.1
  have hrv := hst1.rev
  rw [List.reverse_reverse] at hrv
  have hsum := hst2.catSum
  have hav : x.reverse.length = n := by rw [SR.len hrv, hn]
  obtain ⟨a, ha, r, V, r1, r2, ⟨cell, q1, q2, q3, q4⟩, hV⟩ := hH.at ho
  cases ha0.symm.trans ha
  have hcls := (c9.1 ci r r1).2.1
  rw [r1] at hci
  have hci : r.1 = ν.1.cls := Option.some.inj hci
  rw [hci] at hcls
  refine call_on (a := (Value.ref a0 :: x.reverse).toArray) C S0 O hA hL hu hc hs hl hst2 (va_runV (As := x.reverse) (rest := y0) (b := a0) (C := ν.1.cls) (n := n) (S := ⟨c1, c2, c3, c5, c6⟩) (hC l D B0 ad) ⟨callB_of n c6 (gTbl_good m1) rfl rfl rfl (c6 _ m2) (c6 _ hw) m3 ⟨c10, ?_⟩, c6 _ hw2, c6 _ hw3⟩ ⟨Ct_blind _ _ _ _ _, ⟨cell, q1, by rw [q3]; rfl, by rw [q2]; exact hcls⟩, fun U hU hW => ⟨⟨_, _, rfl, ⟨a0, ha0, rfl⟩, hrv⟩, by rw [hU]; exact hH, c9.moved hW⟩⟩ rfl hav hsz (by rw [List.reverse_reverse]) ?_ hd ⟨by omega, by omega⟩)
  · show 8 + (ν.2.2.1 + 11) + 80 * d ≤ R.locals
    omega
  · exact lv_room (by omega)
theorem T_invI {idx n : Nat} {av rest : List MV} {nm : Nm} (hd : decode μ.2.1 pc = .ok (.invokespecial idx, 3)) (hm : MF ν n) (hret : ν.2.2.2.1 = none) (hin : ν.1.name = "<init>") (hw : Cond.methodLink μ.1.cls idx ν.1 ∈ gTbl) (hw2 : Cond.instanceMethod ν.1 ∈ gTbl) (hn : av.length = n) (hr : rest.length ≤ 4) (he : st = av.reverse ++ jR (some nm) :: rest)
    (k : inv d ν (jR (some nm) :: av) h u (fun v h' u' => T μ (d + 1) (pc + 3) ls (v.toList ++ rest) h' u' Q)) : T μ (d + 1) pc ls st h u Q := by
  intro p l e R s m args below meth c D B0 ad0 Z C S0 O ad H locs cells slots lsR stR hH hA hL hc hs hl hst
  subst he
  obtain ⟨x, y, hxy, hst1, hst2⟩ := hst.split
  subst hxy
  obtain ⟨w0, y0, e0, ⟨a0, ha0, v0⟩, hst2⟩ := hst2
  subst e0; subst v0
  obtain ⟨u1, hu, hC⟩ := k
  obtain ⟨ν1, ν2, ν3, ν4, ν5⟩ := ν
  dsimp only at hret
  subst hret
  obtain ⟨m1, m2, m3, m4⟩ := hm
  obtain ⟨c1, c2, c3, c4, c5, c6, c7, c8, c9, c10, c11⟩ := id C
  have hsz : lsR.size = μ.2.2.1 := by obtain ⟨lv, q, -⟩ := hl; exact q.1
  have hrv := hst1.rev
  rw [List.reverse_reverse] at hrv
  have hsum := hst2.catSum
  have hav : x.reverse.length = n := by rw [SR.len hrv, hn]
  refine call_on (a := (Value.ref a0 :: x.reverse).toArray) C S0 O hA hL hu hc hs hl hst2 (va_runI (As := x.reverse) (rest := y0) (b := a0) (n := n) (S := ⟨c1, c2, c3, c5, c6⟩) (hC l D B0 ad) ⟨callB_of n c6 (gTbl_good m1) rfl rfl rfl (c6 _ m2) (c6 _ hw) m3 ⟨c10, ?_⟩, hin, c6 _ hw2⟩ ⟨Ct_blind _ _ _ _ _, fun U hU hW => ⟨⟨_, _, rfl, ⟨a0, ha0, rfl⟩, hrv⟩, by rw [hU]; exact hH, c9.moved hW⟩⟩ rfl hav hsz (by rw [List.reverse_reverse]) ?_ hd ⟨by omega, by omega⟩)
  · show 8 + (ν3 + 11) + 80 * d ≤ R.locals
    have m4 : ν3 ≤ 40 := m4
    omega
  · exact lv_room (by omega)
theorem T_invN {idx n : Nat} {av rest : List MV} (hd : decode μ.2.1 pc = .ok (.invokestatic idx, 3)) (hm : MF ν n) {host : String} (hw : Cond.methodLinkNest μ.1.cls idx ν.1 host ∈ NG) (hw2 : Cond.static ν.1 ∈ gTbl) (hn : av.length = n) (hr : rest.length ≤ 4) (he : st = av.reverse ++ rest)
    (k : inv d ν av h u (fun v h' u' => T μ (d + 1) (pc + 3) ls (v.toList ++ rest) h' u' Q)) : T μ (d + 1) pc ls st h u Q := by
  intro p l e R s m args below meth c D B0 ad0 Z C S0 O ad H locs cells slots lsR stR hH hA hL hc hs hl hst
  subst he
  obtain ⟨x, y, hxy, hst1, hst2⟩ := hst.split
  subst hxy
  obtain ⟨u1, hu, hC⟩ := k
  obtain ⟨m1, m2, m3, m4⟩ := hm
  obtain ⟨c1, c2, c3, c4, c5, c6, c7, c8, c9, c10, c11⟩ := id C
  have hsz : lsR.size = μ.2.2.1 := by obtain ⟨lv, q, -⟩ := hl; exact q.1
  have hrv := hst1.rev
  rw [List.reverse_reverse] at hrv
  have hsum := hst2.catSum
  have hav : x.reverse.length = n := by rw [SR.len hrv, hn]
  refine call_on (a := x.reverse.toArray) C S0 O hA hL hu hc hs hl hst2 (va_runSN (As := x.reverse) (rest := y) (n := n) (S := ⟨c1, c2, c3, c5, c6⟩) (hC l D B0 ad) ⟨va_cnB n c6 (gTbl_good m1) rfl rfl rfl (c9.2.2 _ hw) (c6 _ m2) m3 ⟨c10, ?_⟩, c6 _ hw2, trivial⟩ ⟨Ct_blind _ _ _ _ _, fun U hU hW => ⟨hrv, by rw [hU]; exact hH, c9.moved hW⟩⟩ rfl hav hsz (by rw [List.reverse_reverse]) ?_ hd ⟨by omega, by omega⟩)
  · show 8 + (ν.2.2.1 + 11) + 80 * d ≤ R.locals
    omega
  · exact lv_room (by omega)
/-- the locals at a method's entry -/
def entL : List MV → List (Option MV)
  | [] => []
  | v :: vs => if cat2 v then some v :: none :: entL vs else some v :: entL vs
theorem entL_ok {ad : AD} : ∀ {av : List MV} {vs : List Value} (o : Nat), SR ad av vs → ∀ i v, (entL av)[i]? = some (some v) → ∃ w, (o + i, w) ∈ lv_args o vs ∧ VR ad v w
  | [], _, o, _, i, v, hv => by simp [entL] at hv
  | x :: av, _, o, ⟨w, vs', e, h1, h2⟩, i, v, hv => by
    subst e
    have hc := h1.cat
    unfold entL at hv
    by_cases hx : cat2 x = true
    · rw [if_pos hx] at hv hc
      match i, hv with
      | 0, hv => cases hv; exact ⟨w, by simp [lv_args], h1⟩
      | 1, hv => cases hv
      | i + 2, hv =>
        obtain ⟨y, a, b⟩ := entL_ok (o + 2) h2 i v (by simpa using hv)
        refine ⟨y, ?_, b⟩
        unfold lv_args
        rw [if_pos hc]
        exact List.mem_cons_of_mem _ (by rw [show o + (i + 2) = o + 2 + i by omega]; exact a)
    · rw [if_neg hx] at hv hc
      match i, hv with
      | 0, hv => cases hv; exact ⟨w, by simp [lv_args], h1⟩
      | i + 1, hv =>
        obtain ⟨y, a, b⟩ := entL_ok (o + 1) h2 i v (by simpa using hv)
        refine ⟨y, ?_, b⟩
        unfold lv_args
        rw [if_neg (by omega)]
        exact List.mem_cons_of_mem _ (by rw [show o + (i + 1) = o + 1 + i by omega]; exact a)
theorem entL_len {ad : AD} : ∀ {av : List MV} {vs : List Value}, SR ad av vs → (lg_sl vs).length = (entL av).length
  | [], _, h => by cases h; rfl
  | x :: av, _, ⟨w, vs', e, h1, h2⟩ => by
    subst e
    have ih := entL_len h2
    have hc := h1.cat
    unfold entL lg_sl
    rw [List.flatMap_cons]
    unfold lg_sl at ih
    by_cases hx : cat2 x = true
    · rw [if_pos hx] at hc ⊢
      rw [if_pos hc]
      simp [ih]
    · rw [if_neg hx] at hc ⊢
      rw [if_neg (by omega)]
      simp [ih]
/-- a method's contract out of its walk from the entry on -/
theorem Ct.of {av : List MV} {ls : List (Option MV)} (hp : plainName μ.1.cls = true) (hno : μ.2.2.2.2 = none) (hlen : ls.length ≤ μ.2.2.1) (hls : entL av ++ List.replicate (ls.length - (entL av).length) none = ls) (k : T μ d 0 ls [] h u Q) : Ct μ d u av h Q := by
  intro l D B0 ad
  refine Met.ofW (cc := μ.2.1) (maxL := μ.2.2.1) (ret := μ.2.2.2.1) hp rfl ?_
  intro p e s m args below meth c s₁ B hml hv
  obtain ⟨h1, h2, h3⟩ := hv
  have hlocks := B.notSynchronized
  have hts := atoms_spec (ws := wsOf μ) B.pre
  obtain ⟨vs, rfl⟩ : ∃ vs : List Value, args = vs.toArray := ⟨args.toList, by simp⟩
  simp only [List.toList_toArray] at h1
  rw [lg_entry_eq]
  have hle : (entL av).length ≤ ls.length := by rw [← hls]; simp
  have hll := entL_len h1
  have hent := lv_entry vs (n := μ.2.2.1) (by omega)
  refine k p l e _ s m _ below meth c D B0 ad _ ⟨B.exec, B.bytes, hml, B.returns, findClass_of_methodNamed B.named, fun w hw => hts w (List.mem_cons_of_mem _ hw), hlocks, fun q => by rw [← q]; exact (name_of_methodNamed B.named B.method).1, h3, Nat.le_refl _, Nat.le_refl _⟩ (by rw [hno]; trivial) ?_ ad s.heap [] 0 0 _ [] h2 (AdLe.rf ad) (fun q hq => by cases hq) (by show 0 + u ≤ u; omega) (by show 0 + u ≤ u; omega) ⟨_, hent, fun i v hi => ?_⟩ rfl
  · intro ad' h' H locs cells slots v w i pc lsR a1 a2 a3 a4 a5 hQ a6 a7 a8
    have hret := B.returns
    refine W.widen a4 a5 ?_
    have post : ∀ t : State, t.heap = H → s.WarmedH t.vm → ∃ (v : Option MV) (h' : MH) (ad' : AD) (w2 : Option Value), Q v h' ∧ AdLe ad ad' ∧ HR D B0 ad' h' t.heap ∧ OVR ad' v w2 ∧ Outcome.returned w = .returned w2 := fun t ht _ => ⟨v, h', ad', w, hQ, a2, by rw [ht]; exact a1, a6, rfl⟩
    rcases a7 with ⟨rfl, x, ty, rfl, e2, e3⟩ | ⟨rfl, x, rfl, e2⟩ | ⟨rfl, o, rt, rfl, e2, e3⟩ | ⟨rfl, rfl, e2⟩
    · obtain ⟨y, rfl, hy⟩ := a6
      cases hy
      exact W.zret B.exec B.bytes (hret.trans e2) e3 post a3 a8
    · obtain ⟨y, rfl, hy⟩ := a6
      cases hy
      exact W.lret B.exec B.bytes (hret.trans e2) post a3 a8
    · obtain ⟨y, rfl, hy⟩ := a6
      refine W.aret B.exec B.bytes (hret.trans e2) e3 ?_ post a3 a8
      cases o with
      | none => cases hy; exact Or.inl rfl
      | some n => obtain ⟨b, -, e⟩ := hy; exact Or.inr ⟨b, e⟩
    · cases a6
      exact W.vret B.exec B.bytes (hret.trans e2) post a3 a8
  · rw [← hls] at hi
    have hlt : i < (entL av).length := by
      rcases Nat.lt_or_ge i (entL av).length with q | q
      · exact q
      · rw [List.getElem?_append_right q, List.getElem?_replicate] at hi
        split at hi
        · cases hi
        · cases hi
    rw [List.getElem?_append_left hlt] at hi
    obtain ⟨w, a, b⟩ := entL_ok 0 h1 i v hi
    exact ⟨w, by simpa using a, b⟩
theorem inv.of {av : List MV} {K : Option MV → MH → Nat → Prop} (u1 : Nat) (hu : u1 ≤ u) (k : Ct μ d u1 av h (fun v h' => K v h' (u - u1))) : inv d μ av h u K := ⟨u1, hu, k⟩
theorem Ct.mono {av : List MV} {Q' : Option MV → MH → Prop} (hq : ∀ v h, Q v h → Q' v h) (k : Ct μ d u av h Q) : Ct μ d u av h Q' := by
  intro l D B0 ad p e ha hc hk s m args below hf
  intro a1 a2 a3
  obtain ⟨k1, o, h1, h2, h3, ⟨v, h', ad', w, q, r⟩, h4⟩ := k l D B0 ad p e ha hc hk s m args below hf a1 a2 a3
  exact ⟨k1, o, h1, h2, h3, ⟨v, h', ad', w, hq _ _ q, r⟩, h4⟩
theorem inv.mono {av : List MV} {K K' : Option MV → MH → Nat → Prop} (hk : ∀ v h u, K v h u → K' v h u) (k : inv d μ av h u K) : inv d μ av h u K' := by
  obtain ⟨u1, hu, k⟩ := k
  exact ⟨u1, hu, k.mono (fun v h q => hk _ _ _ q)⟩
end Calls6
end
section
/-! COPIES of arrays: clone() of ints, System.arraycopy of longs -/
def cpyL (src dst : List MV) (sp dp n : Nat) : List MV := dst.take dp ++ (src.drop sp).take n ++ dst.drop (dp + n)
theorem cpyL_len {src dst : List MV} {sp dp n : Nat} (h1 : sp + n ≤ src.length) (h2 : dp + n ≤ dst.length) : (cpyL src dst sp dp n).length = dst.length := by
  simp [cpyL]; omega
theorem cpyL_at {ad : AD} {src dst : List MV} {f g : Nat → Value} {sp dp n : Nat} (h1 : sp + n ≤ src.length) (h2 : dp + n ≤ dst.length) (hf : ∀ i v, src[i]? = some v → VR ad v (f i)) (hg : ∀ i v, dst[i]? = some v → VR ad v (g i)) :
    ∀ i v, (cpyL src dst sp dp n)[i]? = some v → VR ad v (va_cpy f g sp dp n i) := by
  intro i v hv
  unfold cpyL at hv
  have l1 : (dst.take dp).length = dp := by simp; omega
  have l2 : ((src.drop sp).take n).length = n := by simp; omega
  unfold va_cpy
  by_cases a : i < dp
  · rw [if_neg (by omega)]
    rw [List.append_assoc, List.getElem?_append_left (by omega), List.getElem?_take, if_pos a] at hv
    exact hg i v hv
  · by_cases b : i < dp + n
    · rw [if_pos (by omega)]
      rw [List.append_assoc, List.getElem?_append_right (by omega), List.getElem?_append_left (by omega), l1, List.getElem?_take, if_pos (by omega), List.getElem?_drop] at hv
      exact hf _ v hv
    · rw [if_neg (by omega)]
      rw [List.getElem?_append_right (by rw [List.length_append]; omega), List.length_append, l1, l2, List.getElem?_drop] at hv
      rw [show dp + n + (i - (dp + n)) = i by omega] at hv
      exact hg i v hv
section Copy
variable {μ : MU} {d pc : Nat} {ls : List (Option MV)} {st : List MV} {h : MH} {u : Nat} {Q : Option MV → MH → Prop}
theorem T_clone {idx : Nat} {n : Nm} {es : List MV} (n' : Nm) (hd : decode μ.2.1 pc = .ok (.invokevirtual idx, 3)) (hw : Cond.methodLink μ.1.cls idx ⟨"[I", "clone", "()Ljava/lang/Object;"⟩ ∈ gTbl) (hw2 : Cond.sameMethod "[I" "java/lang/Object" "clone" "()Ljava/lang/Object;" ∈ gTbl)
    (hw3 : Cond.native ⟨"java/lang/Object", "clone", "()Ljava/lang/Object;"⟩ ∈ gTbl) (hw4 : Cond.instanceMethod ⟨"java/lang/Object", "clone", "()Ljava/lang/Object;"⟩ ∈ gTbl) (hw5 : Cond.selects "[I" ⟨"[I", "clone", "()Ljava/lang/Object;"⟩ ⟨"java/lang/Object", "clone", "()Ljava/lang/Object;"⟩ ∈ gTbl) (hw6 : Cond.castable "[I" "java/lang/Cloneable" ∈ NG)
    (hln : st.length ≤ 4) (hn : h n = some (.inr (.int, es))) (hall : ∀ v ∈ es, ∃ x, v = jI x) (hn' : h n' = none) (hns : n' ≠ scr) (hu : es.length + 1 ≤ u)
    (kk : T μ (d + 1) (pc + 3) ls (jR (some n') :: st) (hset h n' (.inr (.int, es))) (u - (es.length + 1)) Q) : T μ (d + 1) pc ls (jR (some n) :: st) h u Q := by
  intro p l e R s m args below meth c D B0 ad0 Z C S0 O ad H locs cells slots lsR stR hH hA hL hc hs hl hst
  obtain ⟨w1, t1, e1, ⟨a0, ha0, v1⟩, hst⟩ := hst
  subst e1; subst v1
  obtain ⟨a, ha, hty, f, q1, hV⟩ := hH.at hn
  cases ha0.symm.trans ha
  have hts := C.2.2.2.2.2.1
  have hK := C.2.2.2.2.2.2.2.2.1
  have hnm : s.vm.findClass "[I" = some (D.2.2 .int) := (hK.2.1 .int hty).2
  have hcl : va_Nw (.castable "[I" "java/lang/Cloneable") s := hK.2.2 _ hw6
  obtain ⟨c0, t0', f1, f2, f3⟩ := Cond.castable_spec (va_Nw.use (A := args) rfl hcl)
  cases hnm.symm.trans f1
  have had : ad n' = none := hH.fr hn' hns
  have hself : adset ad n' H.size n' = some H.size := by simp [adset]
  obtain ⟨-, -, c3, -, -, -, -, -, -, c10, c11⟩ := id C
  have hsum := hst.catSum
  have hsz : lsR.size = c.maxLocals := by obtain ⟨lv, q, -⟩ := hl; rw [c3]; exact q.1
  generalize hcell : arrV (D.2.2 .int) es.length f = cell at q1
  have hvm0 : cell.vm = .none := by rw [← hcell]; rfl
  have hcl0 : cell.cls = D.2.2 .int := by rw [← hcell]; rfl
  have hcs : cell.slots.size = es.length := by rw [← hcell]; exact arrV_size _ _ _
  have hcellE : ({ cls := cell.cls, slots := cell.slots } : Cell) = cell := by rw [← hcell]; rfl
  intro TT hT X
  obtain ⟨-, kA, hkA, comp, hkind⟩ := State.isArrayOf_alike X.warmed.alike ((hK.2.1 .int hty).1 0 (fun _ => .null))
  obtain ⟨-, kS, hkS, compS, hkindS⟩ := (hK.2.1 .int hty).1 0 (fun _ => .null)
  obtain ⟨vm', X', st'⟩ := X.cloneArray C.1 C.2.2.2.2.1 (hts _ hw) (hts _ hw2) (hts _ hw3) (hts _ hw4) (hts _ hw5) (a := a0) (cell := cell) (by rw [hT]; exact q1) (fun k h => by rw [hvm0] at h; cases h) (by rw [hvm0]; exact fun h => by cases h) (by rw [hcl0]; exact hnm) f2 (by rw [hcl0]; exact f3)
    (fun i v hv => by
      rw [hcl0]
      have hk' : TT.vm.classes[D.2.2 .int]? = some kA := hkA
      have hi : i < es.length := by rw [← hcs]; exact (Array.getElem?_eq_some_iff.mp hv).1
      rw [← hcell, arrV_read _ _ hi] at hv
      cases hv
      obtain ⟨x, hx⟩ := hall es[i] (List.getElem_mem hi)
      have h9 := hV i es[i] (List.getElem?_eq_getElem hi)
      rw [hx] at h9
      have h9 : f i = .int x := h9
      simp [State.fitsSlot, State.slotType?, hk', hkind, h9, fits])
    (g := F0 m pc lsR (.ref a0 :: t1)) rfl hsz rfl (by rw [C.2.1]; exact hd) (by omega) (by show 2 * 0 + _ + 14 ≤ _; omega) (by omega) (by rw [hcs]; omega) (hloader := by rw [hcl0]; exact Vm.clonesLoader_of_array hkS hkindS)
  rw [hcellE, hcs] at X'
  generalize hH1 : H.push cell = H1
  have z1 : H1.size = H.size + 1 := by rw [← hH1, Array.size_push]
  have e1 : H1[H.size]? = some cell := by rw [← hH1, Array.getElem?_push_size]
  have o1 : ∀ q : Nat, q < H.size → H1[q]? = H[q]? := fun q hq => by rw [← hH1, Array.getElem?_push, if_neg (Nat.ne_of_lt hq)]
  obtain ⟨t, b1, b2⟩ := kk p l e R s m args below meth c D B0 ad0 Z C S0 O (adset ad n' H.size) H1 locs (cells + 1) (slots + es.length) lsR _ (hH.push hn' hns z1 o1 ⟨hty, f, by rw [hcell]; exact e1, fun i v hv => (hV i v hv).mono (adset_le had)⟩) (hA.tr (adset_le had)) hL (by omega) (by omega) (hl.mono (adset_le had)) ⟨_, _, rfl, ⟨_, hself, rfl⟩, hst.mono (adset_le had)⟩
    ((TT.setVm vm').pushCell cell) (by rw [← hH1, ← hT]; rfl) X'
  refine ⟨t, st' t ?_, b2⟩
  rw [hcellE, hT]
  exact b1
theorem T_arraycopy {idx : Nat} {ns nd : Nm} {es ed : List MV} {sp dp n : Int32} (hd : decode μ.2.1 pc = .ok (.invokestatic idx, 3)) (hw : Cond.methodLink μ.1.cls idx arraycopyName ∈ gTbl) (hw2 : Cond.native arraycopyName ∈ gTbl) (hw3 : Cond.static arraycopyName ∈ gTbl) (hw4 : Cond.initialized "java/lang/System" ∈ gTbl)
    (hln : st.length ≤ 4) (hn0 : h ns = some (.inr (.long, es))) (hn1 : h nd = some (.inr (.long, ed))) (hall : ∀ v ∈ es, ∃ x, v = jL x) (h1 : ¬ sp < 0) (h2 : ¬ dp < 0) (h3 : ¬ n < 0) (h4 : sp.toNatClampNeg + n.toNatClampNeg ≤ es.length) (h5 : dp.toNatClampNeg + n.toNatClampNeg ≤ ed.length)
    (kk : T μ (d + 1) (pc + 3) ls st (hset h nd (.inr (.long, cpyL es ed sp.toNatClampNeg dp.toNatClampNeg n.toNatClampNeg))) u Q) : T μ (d + 1) pc ls (jI n :: jI dp :: jR (some nd) :: jI sp :: jR (some ns) :: st) h u Q := by
  intro p l e R s m args below meth c D B0 ad0 Z C S0 O ad H locs cells slots lsR stR hH hA hL hc hs hl hst
  obtain ⟨w1, t1, e1, v1, hst⟩ := hst
  obtain ⟨w2, t2, e2, v2, hst⟩ := hst
  obtain ⟨w3, t3, e3, ⟨a1, ha1, v3⟩, hst⟩ := hst
  obtain ⟨w4, t4, e4, v4, hst⟩ := hst
  obtain ⟨w5, t5, e5, ⟨a0, ha0, v5⟩, hst⟩ := hst
  subst e1; subst e2; subst e3; subst e4; subst e5; subst v3; subst v5; cases v1; cases v2; cases v4
  obtain ⟨b0, hb0, hty, f, q0, hV0⟩ := hH.at hn0
  cases ha0.symm.trans hb0
  obtain ⟨b1, hb1, -, g, q1, hV1⟩ := hH.at hn1
  cases ha1.symm.trans hb1
  have hts := C.2.2.2.2.2.1
  have hK := C.2.2.2.2.2.2.2.2.1
  have nn : ∀ z : Int32, ¬ z < 0 → z.toInt = (z.toNatClampNeg : Int) := by
    intro z hz
    have hz0 : (0 : Int) ≤ z.toInt := by
      have := Int32.not_lt.mp hz
      simpa using Int32.le_iff_toInt_le.mp this
    show z.toInt = ((z.toInt.toNat : Nat) : Int)
    omega
  obtain ⟨-, -, c3, -, -, -, -, -, -, c10, c11⟩ := id C
  have hsum := hst.catSum
  have hsz : lsR.size = c.maxLocals := by obtain ⟨lv, q, -⟩ := hl; rw [c3]; exact q.1
  have hwords : nativeFrameWords "java/lang/System" "arraycopy" 5 ≤ 20 := by decide
  have hfl : ∀ j : Nat, j < es.length → ∃ x, f j = .long x := by
    intro j hj
    obtain ⟨x, hx⟩ := hall es[j] (List.getElem_mem hj)
    have h9 := hV0 j es[j] (List.getElem?_eq_getElem hj)
    rw [hx] at h9
    exact ⟨x, h9⟩
  intro TT hT X
  obtain ⟨-, k0, hk0, cm0, hkk0⟩ := (hK.2.1 .long hty).1 es.length f
  obtain ⟨-, k1, hk1, cm1, hkk1⟩ := (hK.2.1 .long hty).1 ed.length g
  obtain ⟨vm', X', step⟩ := X.arraycopy C.1 C.2.2.2.2.1 (hts _ hw) (hts _ hw2) (hts _ hw3) (hts _ hw4) (src := a0) (dst := a1) (cs := arrV (D.2.2 .long) es.length f) (cd := arrV (D.2.2 .long) ed.length g) (srcPos := sp) (destPos := dp) (n := n) (by rw [hT]; exact q0) (by rw [hT]; exact q1)
    (fun _ h => by cases h) (fun _ h => by cases h) (fun h => by cases h) (fun h => by cases h) hk0 hk1 hkk0 hkk1 (by simp [refKind]) h1 h2 h3
    (by rw [nn sp h1, nn n h3, arrV_size]; omega)
    (by rw [nn dp h2, nn n h3, arrV_size]; omega)
    (fun vm₁ _ i hi => by
      obtain ⟨x, hx⟩ := hfl (sp.toNatClampNeg + i) (by omega)
      have e : (arrV (D.2.2 .long) es.length f).slots.getD (sp.toNatClampNeg + i) .null = .long x := by
        rw [Array.getD_eq_getD_getElem?, arrV_read _ _ (by omega), hx]
        rfl
      refine ⟨?_, ?_⟩
      · rw [e]; rfl
      · rw [e]; exact trivial)
    (g := F0 m pc lsR (.int n :: .int dp :: .ref a1 :: .int sp :: .ref a0 :: t5)) rfl hsz (rest := t5) rfl (by rw [C.2.1]; exact hd) (by omega) (by show 2 * 0 + _ + _ ≤ _; omega)
  have e1 : copied (arrV (D.2.2 .long) es.length f) (arrV (D.2.2 .long) ed.length g) sp dp n = arrV (D.2.2 .long) ed.length (va_cpy f g sp.toNatClampNeg dp.toNatClampNeg n.toNatClampNeg) := va_copied (fun z => z) (D.2.2 .long) (D.2.2 .long) f g h4
  rw [e1] at X' step
  have hlt : a1 < H.size := (Array.getElem?_eq_some_iff.mp q1).1
  have hheap : ((TT.setVm vm').setCell a1 (arrV (D.2.2 .long) ed.length (va_cpy f g sp.toNatClampNeg dp.toNatClampNeg n.toNatClampNeg))).heap = H.setIfInBounds a1 (arrV (D.2.2 .long) ed.length (va_cpy f g sp.toNatClampNeg dp.toNatClampNeg n.toNatClampNeg)) := by rw [← hT]; rfl
  obtain ⟨t, b1, b2⟩ := kk p l e R s m args below meth c D B0 ad0 Z C S0 O ad _ _ cells slots lsR _ (hH.set (H1 := H.setIfInBounds a1 (arrV (D.2.2 .long) ed.length (va_cpy f g sp.toNatClampNeg dp.toNatClampNeg n.toNatClampNeg))) hn1 ha1 (by simp) (fun q hq => by simp [Array.getElem?_setIfInBounds, Ne.symm hq]) ⟨hty, va_cpy f g sp.toNatClampNeg dp.toNatClampNeg n.toNatClampNeg, by simp only [cpyL_len h4 h5, Array.getElem?_setIfInBounds, if_pos hlt]; simp, cpyL_at h4 h5 hV0 hV1⟩) hA (fun q hq => by
      rcases List.mem_append.mp hq with h9 | h9
      · exact hL q h9
      · obtain ⟨z, -, hz⟩ := List.mem_map.mp h9
        rw [← hz]
        exact hH.2.2.2.2.1.1 nd a1 ha1 (hH.ns hn1)) hc hs hl hst _ hheap X'
  exact ⟨t, step t b1, b2⟩
end Copy
end
section
-- ===== the law's words =====
/-! THE CLAIM OUT OF ONE WALK OF THE LAW'S BODY. Your part is whole_start (and what it stands on); all else here is the same for every law, but numbers. -/
def R_law : String := "RecordBridgeLaw"
def lw_P (b : Addr) (xs : List Int32) (args : Array Value) (s : State) : Prop := args = #[.ref b] ∧ s.IntsAt b xs ∧ xs.length ≤ 3072 ∧ (Jvm.Cond.and given_1 narrow_1).before args s = true
/-- what a walk over the start with the record d0 says of its end, said of the start itself -/
theorem lw_closed {s t : State} {o : Outcome} {d0 : Drawn} {L : List Loc} {k n : Nat} (hd0 : s.drawn.sameBut d0 lw_cs) (hv : ∃ v, o = .returned v) (hW : (s.setDrawn d0).WarmedH t.vm) (hs : (s.setDrawn d0).sameButNew ({ t with vm := s.vm } : State) L k n) : State.butDraws s t lw_cs (fun t1 => Framed s o t1 L k n) := by
  have h2 : t.drawn = d0 := congrArg State.drawn hs.1
  refine ⟨⟨hv, hW, State.sameButNew.setDrawn hs s.drawn⟩, ?_, by decide⟩
  rw [h2]
  exact hd0
def lw_Q (_ : Array Value) (s : State) (o : Outcome) (t : State) : Prop := o = .returned (some (.int 1)) ∧ State.butDraws s t lw_cs (fun t1 => Framed s o t1 [] 600000 7302250)
def lw_Z (below : List Frame) (a : Array Value) (s : State) : State → Prop := fun t => ∃ o, t.status = .running ∧ Ended t below o ∧ lw_Q a s o t
/-- the law's own end, with 1 on the stack, nothing written that was there before, its room as the claim has it; d0: the record of draws at this point (at the entry s.drawn: begin with 'refine W.base ?_' and 'have hd0 := Drawn.sameBut.refl s.drawn lw_cs') -/
theorem lw_ret {p : Program} {l : Launch} {e : Env} {s : State} {m : MethodId} {below : List Frame} {meth : Method} {c : Code} {b : Nat} {d0 : Drawn} (hd0 : s.drawn.sameBut d0 lw_cs) (hx : p.tables.exec = Jvm.exec) (hb : c.code = code) (hr : meth.sig.returnType = ret) (hlocks : meth.locks = false) {pc : Nat} {H : Heap} {ls : Array Slot} (hdg : decode code pc = .ok (.ireturn, 1)) : W p l e room_1 (s.setDrawn d0) m #[Value.ref b] below meth c H [] 600000 7302250 (lw_Z below #[Value.ref b] s) (F0 m pc ls [.int 1]) := by
  intro T hT X
  obtain ⟨fs, hret, hrun, hended, hW, hframe⟩ := X.leave (v := some (.int 1)) (hlocks := hlocks) (fun h => by rw [hr] at h; cases h)
  have hmeth' : T.vm.method? m = some meth := X.method'
  refine ⟨T.setFrames fs, ?_, .returned (some (.int 1)), hrun, hended, rfl, lw_closed hd0 ⟨_, rfl⟩ hW hframe⟩
  jvm_step X.here [X.here.top, hx, hb, hdg, hmeth', hr, ret, narrow_b1]
  (try refine ⟨rfl, ?_⟩); (try refine ⟨rfl, ?_⟩)
  first | (intro acts; rw [hret _ acts rfl rfl rfl]) | rw [hret _ _ rfl rfl rfl]
  exact Steps.refl _
/-- what holds at the law's entry: the machine, the code, the tables' words (any of lw_tbl by 'hts w (by decide +kernel)'), the script of L ints xs at the cell b, what the Statement gives of the start (any of its parts by flat_of_before) -/
def lw_At (p : Program) (s : State) (m : MethodId) (meth : Method) (c : Code) (b L : Nat) (xs : Nat → Int32) : Prop :=
  p.tables.exec = Jvm.exec ∧ c.code = code ∧ meth.sig.returnType = ret ∧ c.maxLocals = 4 ∧ s.vm.findClass R_law = some m.cls ∧ (∀ w ∈ lw_tbl, w.before #[Value.ref b] s = true) ∧ va_X b L xs s s.heap ∧ b < s.heap.size ∧ meth.locks = false ∧ (Jvm.Cond.and given_1 narrow_1).before #[Value.ref b] s = true

theorem in_X0 : ∀ w ∈ wsX00, w ∈ gTbl := by decide +kernel
theorem in_X1 : ∀ w ∈ wsX10, w ∈ gTbl := by decide +kernel
theorem in_X2 : ∀ w ∈ wsX20, w ∈ gTbl := by decide +kernel
theorem in_X3 : ∀ w ∈ wsX30, w ∈ gTbl := by decide +kernel
theorem in_X5 : ∀ w ∈ wsX50, w ∈ gTbl := by decide +kernel
theorem in_X6 : ∀ w ∈ wsX60, w ∈ gTbl := by decide +kernel
theorem in_X7 : ∀ w ∈ wsX70, w ∈ gTbl := by decide +kernel
theorem in_X8 : ∀ w ∈ wsX80, w ∈ gTbl := by decide +kernel
theorem in_X9 : ∀ w ∈ wsX90, w ∈ gTbl := by decide +kernel
theorem in_X10 : ∀ w ∈ wsX100, w ∈ gTbl := by decide +kernel
theorem in_X11 : ∀ w ∈ wsX110, w ∈ gTbl := by decide +kernel
theorem in_X12 : ∀ w ∈ wsX120, w ∈ gTbl := by decide +kernel
section Scr
variable {μ : MU} {d pc : Nat} {ls : List (Option MV)} {st : List MV} {h : MH} {u : Nat} {Q : Option MV → MH → Prop}
theorem T_sld {L : Nat} {xs : Nat → Int32} {i : Int32} (hm : μ.2.2.2.2 = some (L, xs)) (hd : decode μ.2.1 pc = .ok (.iaload, 1)) (hi : vp_in i L) (kk : T μ d (pc + 1) ls (jI (xs i.toNatClampNeg) :: st) h u Q) : T μ d pc ls (jI i :: jR (some scr) :: st) h u Q := by
  intro p l e R s m args below meth c D B0 ad0 Z C S0 O ad H locs cells slots lsR stR hH hA hL hc hs hl hst
  obtain ⟨w0, t0, e0, v0, hst⟩ := hst
  obtain ⟨w1, t1, e1, ⟨a0, ha0, v1⟩, hst⟩ := hst
  subst e0; subst e1; subst v1; cases v0
  have S1 := S0
  rw [hm] at S1
  obtain ⟨b, hb, ⟨cell, g1, g2, g3, g4, g5⟩, hlt⟩ := S1
  cases ha0.symm.trans (hA _ _ hb)
  have hcell : H[a0]? = some cell := (hH.2.1 a0 hlt).trans g1
  have hil : i.toNatClampNeg < L := Nat.not_le.mp fun q => hi (Or.inr q)
  exact W.iald C.1 C.2.1 hcell g2 g3 (by rw [g4]; exact hi) (g5 _ hil) rfl rfl hd (kk p l e R s m args below meth c D B0 ad0 Z C S0 O ad H locs cells slots lsR _ hH hA hL hc hs hl ⟨_, _, rfl, rfl, hst⟩)
theorem T_slen {L : Nat} {xs : Nat → Int32} (hm : μ.2.2.2.2 = some (L, xs)) (hd : decode μ.2.1 pc = .ok (.arraylength, 1)) (kk : T μ d (pc + 1) ls (jI (Int32.ofNat L) :: st) h u Q) : T μ d pc ls (jR (some scr) :: st) h u Q := by
  intro p l e R s m args below meth c D B0 ad0 Z C S0 O ad H locs cells slots lsR stR hH hA hL hc hs hl hst
  obtain ⟨w1, t1, e1, ⟨a0, ha0, v1⟩, hst⟩ := hst
  subst e1; subst v1
  have S1 := S0
  rw [hm] at S1
  obtain ⟨b, hb, ⟨cell, g1, g2, g3, g4, g5⟩, hlt⟩ := S1
  cases ha0.symm.trans (hA _ _ hb)
  have hcell : H[a0]? = some cell := (hH.2.1 a0 hlt).trans g1
  exact W.alen (n := Int32.ofNat L) C.1 C.2.1 hcell g2 (by rw [g4]) rfl rfl hd (kk p l e R s m args below meth c D B0 ad0 Z C S0 O ad H locs cells slots lsR _ hH hA hL hc hs hl ⟨_, _, rfl, rfl, hst⟩)
end Scr
abbrev uL (L : Nat) (xs : Nat → Int32) : MU := (x, code, 4, ret, some (L, xs))
theorem kk_cls {s : State} {args : Array Value} (hts : ∀ w ∈ gTbl, w.before args s = true) : ∀ q ∈ vwCl, ∃ (cC : ClassId) (iS : Nat → Nat), u_Kn s q.1 q.2.1 q.2.2 cC iS := by
  intro q hq
  simp only [vwCl, List.mem_cons, List.not_mem_nil, or_false] at hq
  rcases hq with rfl | rfl | rfl | rfl | rfl | rfl | rfl | rfl | rfl | rfl | rfl | rfl
  · exact u_known (n := 1) hts in_X0 (hts (.instantiable RX0 1) (by decide +kernel))
  · exact u_known (n := 4) hts in_X1 (hts (.instantiable RX1 4) (by decide +kernel))
  · exact u_known (n := 5) hts in_X2 (hts (.instantiable RX2 5) (by decide +kernel))
  · exact u_known (n := 7) hts in_X3 (hts (.instantiable RX3 7) (by decide +kernel))
  · exact u_known (n := 4) hts in_X5 (hts (.instantiable RX5 4) (by decide +kernel))
  · exact u_known (n := 3) hts in_X6 (hts (.instantiable RX6 3) (by decide +kernel))
  · exact u_known (n := 4) hts in_X7 (hts (.instantiable RX7 4) (by decide +kernel))
  · exact u_known (n := 4) hts in_X8 (hts (.instantiable RX8 4) (by decide +kernel))
  · exact u_known (n := 2) hts in_X9 (hts (.instantiable RX9 2) (by decide +kernel))
  · exact u_known (n := 8) hts in_X10 (hts (.instantiable RX10 8) (by decide +kernel))
  · exact u_known (n := 14) hts in_X11 (hts (.instantiable RX11 14) (by decide +kernel))
  · exact u_known (n := 46) hts in_X12 (hts (.instantiable RX12 46) (by decide +kernel))
theorem kk_prim {s : State} {args : Array Value} {ty : FieldType} (h : (Cond.arrayClass ty).before args s = true) (hp : ∀ n, ty ≠ .object n) : ∃ cA, ArrOfT s cA ty ∧ va_RA s cA ty := by
  obtain ⟨c, k, comp, h1, h2, h3⟩ := Cond.arrayClass_spec h
  refine ⟨c, fun n z => ⟨fun k h => (by cases h), k, h2, comp, h3⟩, ?_⟩
  cases ty with
  | object n => exact absurd rfl (hp n)
  | _ => exact h1
theorem kk_obj {s : State} {n : String} (h : va_AO n s) : ∃ cA, ArrOfT s cA (.object n) ∧ va_RA s cA (.object n) := by
  obtain ⟨comp, c, k, h1, h2, h3, h4, h5⟩ := Cond.arrayOver_spec h
  exact ⟨c, fun n z => ⟨fun k h => (by cases h), k, h3, comp, h4⟩, k, comp, h3, h4, h1, h5⟩
theorem NG_in : ∀ w ∈ NG, w ∈ lw_tbl := by decide +kernel
theorem kk_of {s : State} {args : Array Value} (hts : ∀ w ∈ lw_tbl, w.before args s = true) : ∃ D : DD, KK D s := by
  have htg : ∀ w ∈ gTbl, w.before args s = true := fun w hw => hts w (List.mem_filter.mp hw).1
  have hng : ∀ w ∈ NG, va_Nw w s := by
    intro w hw
    have h1 := hts w (NG_in w hw)
    simp only [NG, List.mem_cons, List.not_mem_nil, or_false] at hw
    rcases hw with rfl | rfl | rfl | rfl | rfl | rfl
    · exact va_AO.of h1
    · exact va_AO.of h1
    · exact va_AO.of h1
    · exact va_AO.of h1
    · exact va_Nw.of rfl h1
    · exact va_Nw.of rfl h1
  have hcl : ∀ c : Nat, ∃ x : ClassId × (Nat → Nat), ∀ q, vwCl[c]? = some q → u_Kn s q.1 q.2.1 q.2.2 x.1 x.2 := by
    intro c
    cases hq : vwCl[c]? with
    | none => exact ⟨(0, fun _ => 0), fun q h => by cases h⟩
    | some q =>
      obtain ⟨cC, iS, hk⟩ := kk_cls htg q (List.mem_of_getElem? hq)
      exact ⟨(cC, iS), fun q' h => by cases h; exact hk⟩
  have har : ∀ ty : FieldType, ∃ cA : ClassId, ty ∈ aTys → ArrOfT s cA ty ∧ va_RA s cA ty := by
    intro ty
    by_cases hm : ty ∈ aTys
    · have : ∃ cA, ArrOfT s cA ty ∧ va_RA s cA ty := by
        simp only [aTys, List.mem_cons, List.not_mem_nil, or_false] at hm
        rcases hm with rfl | rfl | rfl | rfl | rfl | rfl | rfl | rfl | rfl
        · exact kk_prim (hts (.arrayClass .int) (by decide +kernel)) (fun n h => by cases h)
        · exact kk_prim (hts (.arrayClass .long) (by decide +kernel)) (fun n h => by cases h)
        · exact kk_prim (hts (.arrayClass .boolean) (by decide +kernel)) (fun n h => by cases h)
        · exact kk_prim (hts (.arrayClass .byte) (by decide +kernel)) (fun n h => by cases h)
        · exact kk_prim (hts (.arrayClass .char) (by decide +kernel)) (fun n h => by cases h)
        · exact kk_obj (hng (.arrayOver (.object "RecordBridge$Row")) (by decide +kernel))
        · exact kk_obj (hng (.arrayOver (.object "RecordBridge$Value")) (by decide +kernel))
        · exact kk_obj (hng (.arrayOver (.object "RecordBridge$Kind")) (by decide +kernel))
        · exact kk_obj (hng (.arrayOver (.object "RecordBridge$Edition")) (by decide +kernel))
      obtain ⟨cA, h⟩ := this
      exact ⟨cA, fun _ => h⟩
    · exact ⟨0, fun h => absurd h hm⟩
  refine ⟨(fun c => (Classical.choose (hcl c)).1, fun c => (Classical.choose (hcl c)).2, fun ty => Classical.choose (har ty)), ?_, ?_, hng⟩
  · intro c q hq
    exact Classical.choose_spec (hcl c) q hq
  · intro ty hty
    exact Classical.choose_spec (har ty) hty
/-- the law's start out of its walk over the smaller machine, which begins with an empty heap -/
theorem start_of {p : Program} {e : Env} {s : State} {m : MethodId} {below : List Frame} {meth : Method} {c : Code} (l : Launch) {b L : Nat} {xs : Nat → Int32} (C0 : lw_At p s m meth c b L xs)
    (k : T (uL L xs) 100 0 [some (jR (some scr)), none, none, none] [] (fun _ => none) 600000 (fun v _ => v = some (jI 1))) : W p l e room_1 s m #[Value.ref b] below meth c s.heap [] 0 0 (lw_Z below #[Value.ref b] s) (entryFrame m ([Value.ref b] : List Value).toArray 4) := by
  obtain ⟨hx, hb, hr, hml, hown, hts, hX, hbl, hlocks, hgv⟩ := id C0
  obtain ⟨D, hK⟩ := kk_of hts
  have htg : ∀ w ∈ gTbl, w.before #[Value.ref b] s = true := fun w hw => hts w (List.mem_filter.mp hw).1
  rw [lg_entry_eq]
  refine W.base ?_
  have hd0 := Drawn.sameBut.refl s.drawn lw_cs
  have ad1 : adset (fun _ => none) scr b scr = some b := by simp [adset]
  have adn : ∀ n, n ≠ scr → adset (fun _ => none) scr b n = none := fun n h => by simp [adset, h]
  have hent := lv_entry [Value.ref b] (n := 4) (Nat.le_of_ble_eq_true rfl)
  refine k p l e room_1 (s.setDrawn s.drawn) m #[Value.ref b] below meth c D s.heap (adset (fun _ => none) scr b) (lw_Z below #[Value.ref b] s) ⟨hx, hb, hml, hr, hown, dr_words htg _, hlocks, fun h => absurd h (show ¬ x.name = "<init>" by decide), KK.same (u := s) rfl hK, by decide, by decide⟩ ⟨b, ad1, va_X.moved (u := s) (U := s.setDrawn s.drawn) (Vm.Alike.refl s.vm) hX, hbl⟩ ?_ (adset (fun _ => none) scr b) s.heap [] 0 0 _ [] ⟨Nat.le_refl _, fun q _ => rfl, fun n => ?_, fun n n' a h1 h2 => ?_, ⟨fun n a h1 h2 => ?_, fun a h1 => ?_⟩, fun n c a h1 h2 => by cases h1⟩ (AdLe.rf _) (fun q hq => by cases hq) (by decide) (by decide) ⟨_, hent, fun i v hv => ?_⟩ rfl
  · intro ad h H locs cells slots v w i pc lsR a1 a2 a3 a4 a5 hQ a6 a7 a8
    subst hQ
    obtain ⟨y, rfl, hy⟩ := a6
    cases hy
    rcases a7 with ⟨rfl, x, ty, e1, e2, e3⟩ | ⟨rfl, x, e1, e2⟩ | ⟨rfl, o, rt, e1, e2, e3⟩ | ⟨rfl, e1, e2⟩
    · refine va_forget a3 ?_
      refine W.widen a4 a5 ?_
      exact lw_ret hd0 hx hb hr hlocks a8
    · cases e1
    · cases e1
    · cases e1
  · by_cases h : n = scr
    · simp [h]
    · simp [adn n h]
  · by_cases q1 : n = scr
    · by_cases q2 : n' = scr
      · rw [q1, q2]
      · rw [adn n' q2] at h2; cases h2
    · rw [adn n q1] at h1; cases h1
  · rw [adn n h2] at h1; cases h1
  · rw [ad1] at h1; cases h1; exact hbl
  · match i, hv with
    | 0, hv => cases hv; exact ⟨.ref b, by simp [lv_args], b, ad1, rfl⟩
    | 1, hv => cases hv
    | 2, hv => cases hv
    | 3, hv => cases hv
    | i + 4, hv => simp at hv
end
