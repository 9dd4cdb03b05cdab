section
-- ===== PART A: goes FIRST, ahead of the names: the tables' words, and 'selects' of the private methods out of them =====
/-- a private method of a class that the tables say can be made, by its rows of tables_1 -/
def lw_okq (q : MethodName × Nat) : Prop := (q.1.cls ≠ "java/lang/invoke/MethodHandle" ∧ q.1.cls ≠ "java/lang/invoke/VarHandle") ∧ Cond.instantiable q.1.cls q.2 ∈ tables_1 ∧ Cond.privateMethod q.1 ∈ tables_1 ∧ Cond.instanceMethod q.1 ∈ tables_1
theorem lw_p0 : lw_okq (⟨"ColumnReader", "tapeNumber", "(I)V"⟩, 9) := ⟨⟨by decide +kernel, by decide +kernel⟩, List.mem_of_getElem? (i := 15) (by decide +kernel), List.mem_of_getElem? (i := 170) (by decide +kernel), List.mem_of_getElem? (i := 171) (by decide +kernel)⟩
theorem lw_p1 : lw_okq (⟨"ColumnReader", "forgetReadings", "()V"⟩, 9) := ⟨⟨by decide +kernel, by decide +kernel⟩, List.mem_of_getElem? (i := 15) (by decide +kernel), List.mem_of_getElem? (i := 181) (by decide +kernel), List.mem_of_getElem? (i := 182) (by decide +kernel)⟩
theorem lw_p2 : lw_okq (⟨"ColumnReader", "cutTextBy", "(I)V"⟩, 9) := ⟨⟨by decide +kernel, by decide +kernel⟩, List.mem_of_getElem? (i := 15) (by decide +kernel), List.mem_of_getElem? (i := 196) (by decide +kernel), List.mem_of_getElem? (i := 197) (by decide +kernel)⟩
theorem lw_p3 : lw_okq (⟨"ColumnReader$Cut", "begin", "(I)V"⟩, 13) := ⟨⟨by decide +kernel, by decide +kernel⟩, List.mem_of_getElem? (i := 23) (by decide +kernel), List.mem_of_getElem? (i := 204) (by decide +kernel), List.mem_of_getElem? (i := 205) (by decide +kernel)⟩
theorem lw_p4 : lw_okq (⟨"ColumnReader$Cut", "openCell", "(IZ)V"⟩, 13) := ⟨⟨by decide +kernel, by decide +kernel⟩, List.mem_of_getElem? (i := 23) (by decide +kernel), List.mem_of_getElem? (i := 213) (by decide +kernel), List.mem_of_getElem? (i := 214) (by decide +kernel)⟩
theorem lw_p5 : lw_okq (⟨"ColumnReader$Cut", "fail", "(II)V"⟩, 13) := ⟨⟨by decide +kernel, by decide +kernel⟩, List.mem_of_getElem? (i := 23) (by decide +kernel), List.mem_of_getElem? (i := 217) (by decide +kernel), List.mem_of_getElem? (i := 218) (by decide +kernel)⟩
theorem lw_p6 : lw_okq (⟨"ColumnReader$Cut", "take", "(IIZ)V"⟩, 13) := ⟨⟨by decide +kernel, by decide +kernel⟩, List.mem_of_getElem? (i := 23) (by decide +kernel), List.mem_of_getElem? (i := 221) (by decide +kernel), List.mem_of_getElem? (i := 222) (by decide +kernel)⟩
theorem lw_p7 : lw_okq (⟨"ColumnReader$Cut", "hold", "(I)V"⟩, 13) := ⟨⟨by decide +kernel, by decide +kernel⟩, List.mem_of_getElem? (i := 23) (by decide +kernel), List.mem_of_getElem? (i := 225) (by decide +kernel), List.mem_of_getElem? (i := 226) (by decide +kernel)⟩
theorem lw_p8 : lw_okq (⟨"ColumnReader$Cut", "finish", "()V"⟩, 13) := ⟨⟨by decide +kernel, by decide +kernel⟩, List.mem_of_getElem? (i := 23) (by decide +kernel), List.mem_of_getElem? (i := 229) (by decide +kernel), List.mem_of_getElem? (i := 230) (by decide +kernel)⟩
theorem lw_p9 : lw_okq (⟨"ColumnReader", "priceOfMake", "(I)I"⟩, 9) := ⟨⟨by decide +kernel, by decide +kernel⟩, List.mem_of_getElem? (i := 15) (by decide +kernel), List.mem_of_getElem? (i := 246) (by decide +kernel), List.mem_of_getElem? (i := 247) (by decide +kernel)⟩
theorem lw_p10 : lw_okq (⟨"ColumnReader$Cut", "bytesOf", "(I)I"⟩, 13) := ⟨⟨by decide +kernel, by decide +kernel⟩, List.mem_of_getElem? (i := 23) (by decide +kernel), List.mem_of_getElem? (i := 258) (by decide +kernel), List.mem_of_getElem? (i := 259) (by decide +kernel)⟩
theorem lw_p11 : lw_okq (⟨"ColumnReader$Columns", "isMissing", "(II)Z"⟩, 9) := ⟨⟨by decide +kernel, by decide +kernel⟩, List.mem_of_getElem? (i := 74) (by decide +kernel), List.mem_of_getElem? (i := 283) (by decide +kernel), List.mem_of_getElem? (i := 284) (by decide +kernel)⟩
theorem lw_p12 : lw_okq (⟨"ColumnReader$Forms", "tellsFlag", "(II)Z"⟩, 5) := ⟨⟨by decide +kernel, by decide +kernel⟩, List.mem_of_getElem? (i := 80) (by decide +kernel), List.mem_of_getElem? (i := 366) (by decide +kernel), List.mem_of_getElem? (i := 367) (by decide +kernel)⟩
theorem lw_p13 : lw_okq (⟨"ColumnReader$Forms", "tellsNumber", "(II)Z"⟩, 5) := ⟨⟨by decide +kernel, by decide +kernel⟩, List.mem_of_getElem? (i := 80) (by decide +kernel), List.mem_of_getElem? (i := 389) (by decide +kernel), List.mem_of_getElem? (i := 390) (by decide +kernel)⟩
theorem lw_p14 : lw_okq (⟨"ColumnReader$Forms", "tellsDay", "(II)Z"⟩, 5) := ⟨⟨by decide +kernel, by decide +kernel⟩, List.mem_of_getElem? (i := 80) (by decide +kernel), List.mem_of_getElem? (i := 412) (by decide +kernel), List.mem_of_getElem? (i := 413) (by decide +kernel)⟩
theorem lw_p15 : lw_okq (⟨"ColumnReader$Forms", "tellsCode", "(I)Z"⟩, 5) := ⟨⟨by decide +kernel, by decide +kernel⟩, List.mem_of_getElem? (i := 80) (by decide +kernel), List.mem_of_getElem? (i := 427) (by decide +kernel), List.mem_of_getElem? (i := 428) (by decide +kernel)⟩
def lw_privs_1 : List (MethodName × Nat) := [(⟨"ColumnReader", "tapeNumber", "(I)V"⟩, 9), (⟨"ColumnReader", "forgetReadings", "()V"⟩, 9), (⟨"ColumnReader", "cutTextBy", "(I)V"⟩, 9), (⟨"ColumnReader$Cut", "begin", "(I)V"⟩, 13), (⟨"ColumnReader$Cut", "openCell", "(IZ)V"⟩, 13), (⟨"ColumnReader$Cut", "fail", "(II)V"⟩, 13), (⟨"ColumnReader$Cut", "take", "(IIZ)V"⟩, 13), (⟨"ColumnReader$Cut", "hold", "(I)V"⟩, 13), (⟨"ColumnReader$Cut", "finish", "()V"⟩, 13), (⟨"ColumnReader", "priceOfMake", "(I)I"⟩, 9), (⟨"ColumnReader$Cut", "bytesOf", "(I)I"⟩, 13), (⟨"ColumnReader$Columns", "isMissing", "(II)Z"⟩, 9), (⟨"ColumnReader$Forms", "tellsFlag", "(II)Z"⟩, 5), (⟨"ColumnReader$Forms", "tellsNumber", "(II)Z"⟩, 5), (⟨"ColumnReader$Forms", "tellsDay", "(II)Z"⟩, 5), (⟨"ColumnReader$Forms", "tellsCode", "(I)Z"⟩, 5)]
theorem lw_r1 : ∀ q ∈ lw_privs_1, lw_okq q := List.forall_mem_cons.mpr ⟨lw_p0, List.forall_mem_cons.mpr ⟨lw_p1, List.forall_mem_cons.mpr ⟨lw_p2, List.forall_mem_cons.mpr ⟨lw_p3, List.forall_mem_cons.mpr ⟨lw_p4, List.forall_mem_cons.mpr ⟨lw_p5, List.forall_mem_cons.mpr ⟨lw_p6, List.forall_mem_cons.mpr ⟨lw_p7, List.forall_mem_cons.mpr ⟨lw_p8, List.forall_mem_cons.mpr ⟨lw_p9, List.forall_mem_cons.mpr ⟨lw_p10, List.forall_mem_cons.mpr ⟨lw_p11, List.forall_mem_cons.mpr ⟨lw_p12, List.forall_mem_cons.mpr ⟨lw_p13, List.forall_mem_cons.mpr ⟨lw_p14, List.forall_mem_cons.mpr ⟨lw_p15, fun _ h => absurd h List.not_mem_nil⟩⟩⟩⟩⟩⟩⟩⟩⟩⟩⟩⟩⟩⟩⟩⟩
theorem lw_p16 : lw_okq (⟨"ColumnReader$Forms", "priceOfCode", "(I)I"⟩, 5) := ⟨⟨by decide +kernel, by decide +kernel⟩, List.mem_of_getElem? (i := 80) (by decide +kernel), List.mem_of_getElem? (i := 438) (by decide +kernel), List.mem_of_getElem? (i := 439) (by decide +kernel)⟩
theorem lw_p17 : lw_okq (⟨"ColumnReader$Columns", "weigh", "(IIII)V"⟩, 9) := ⟨⟨by decide +kernel, by decide +kernel⟩, List.mem_of_getElem? (i := 74) (by decide +kernel), List.mem_of_getElem? (i := 442) (by decide +kernel), List.mem_of_getElem? (i := 443) (by decide +kernel)⟩
theorem lw_p18 : lw_okq (⟨"ColumnReader", "hasChosen", "(I)Z"⟩, 9) := ⟨⟨by decide +kernel, by decide +kernel⟩, List.mem_of_getElem? (i := 15) (by decide +kernel), List.mem_of_getElem? (i := 491) (by decide +kernel), List.mem_of_getElem? (i := 492) (by decide +kernel)⟩
theorem lw_p19 : lw_okq (⟨"ColumnReader$Columns", "isRepeated", "(II)Z"⟩, 9) := ⟨⟨by decide +kernel, by decide +kernel⟩, List.mem_of_getElem? (i := 74) (by decide +kernel), List.mem_of_getElem? (i := 566) (by decide +kernel), List.mem_of_getElem? (i := 567) (by decide +kernel)⟩
theorem lw_p20 : lw_okq (⟨"ColumnReaderModel", "feedOne", "(I)V"⟩, 28) := ⟨⟨by decide +kernel, by decide +kernel⟩, List.mem_of_getElem? (i := 576) (by decide +kernel), List.mem_of_getElem? (i := 672) (by decide +kernel), List.mem_of_getElem? (i := 673) (by decide +kernel)⟩
theorem lw_p21 : lw_okq (⟨"ColumnReaderModel", "changes", "()V"⟩, 28) := ⟨⟨by decide +kernel, by decide +kernel⟩, List.mem_of_getElem? (i := 576) (by decide +kernel), List.mem_of_getElem? (i := 683) (by decide +kernel), List.mem_of_getElem? (i := 684) (by decide +kernel)⟩
theorem lw_p22 : lw_okq (⟨"ColumnReaderModel", "load", "(I)V"⟩, 28) := ⟨⟨by decide +kernel, by decide +kernel⟩, List.mem_of_getElem? (i := 576) (by decide +kernel), List.mem_of_getElem? (i := 698) (by decide +kernel), List.mem_of_getElem? (i := 699) (by decide +kernel)⟩
theorem lw_p23 : lw_okq (⟨"ColumnReaderModel", "wrong", "(II)V"⟩, 28) := ⟨⟨by decide +kernel, by decide +kernel⟩, List.mem_of_getElem? (i := 576) (by decide +kernel), List.mem_of_getElem? (i := 702) (by decide +kernel), List.mem_of_getElem? (i := 703) (by decide +kernel)⟩
theorem lw_p24 : lw_okq (⟨"ColumnReaderModel", "row", "(II)I"⟩, 28) := ⟨⟨by decide +kernel, by decide +kernel⟩, List.mem_of_getElem? (i := 576) (by decide +kernel), List.mem_of_getElem? (i := 706) (by decide +kernel), List.mem_of_getElem? (i := 707) (by decide +kernel)⟩
theorem lw_p25 : lw_okq (⟨"ColumnReaderModel", "cell", "(III)I"⟩, 28) := ⟨⟨by decide +kernel, by decide +kernel⟩, List.mem_of_getElem? (i := 576) (by decide +kernel), List.mem_of_getElem? (i := 716) (by decide +kernel), List.mem_of_getElem? (i := 717) (by decide +kernel)⟩
theorem lw_p26 : lw_okq (⟨"ColumnReaderModel", "textAt", "(I)I"⟩, 28) := ⟨⟨by decide +kernel, by decide +kernel⟩, List.mem_of_getElem? (i := 576) (by decide +kernel), List.mem_of_getElem? (i := 720) (by decide +kernel), List.mem_of_getElem? (i := 721) (by decide +kernel)⟩
theorem lw_p27 : lw_okq (⟨"ColumnReaderModel", "take", "(I)V"⟩, 28) := ⟨⟨by decide +kernel, by decide +kernel⟩, List.mem_of_getElem? (i := 576) (by decide +kernel), List.mem_of_getElem? (i := 724) (by decide +kernel), List.mem_of_getElem? (i := 725) (by decide +kernel)⟩
theorem lw_p28 : lw_okq (⟨"ColumnReaderModel", "isOdd", "(I)Z"⟩, 28) := ⟨⟨by decide +kernel, by decide +kernel⟩, List.mem_of_getElem? (i := 576) (by decide +kernel), List.mem_of_getElem? (i := 731) (by decide +kernel), List.mem_of_getElem? (i := 732) (by decide +kernel)⟩
theorem lw_p29 : lw_okq (⟨"ColumnReaderModel", "cellsOf", "(I)I"⟩, 28) := ⟨⟨by decide +kernel, by decide +kernel⟩, List.mem_of_getElem? (i := 576) (by decide +kernel), List.mem_of_getElem? (i := 735) (by decide +kernel), List.mem_of_getElem? (i := 736) (by decide +kernel)⟩
theorem lw_p30 : lw_okq (⟨"ColumnReaderModel", "width", "()I"⟩, 28) := ⟨⟨by decide +kernel, by decide +kernel⟩, List.mem_of_getElem? (i := 576) (by decide +kernel), List.mem_of_getElem? (i := 739) (by decide +kernel), List.mem_of_getElem? (i := 740) (by decide +kernel)⟩
theorem lw_p31 : lw_okq (⟨"ColumnReaderModel", "gather", "(I)V"⟩, 28) := ⟨⟨by decide +kernel, by decide +kernel⟩, List.mem_of_getElem? (i := 576) (by decide +kernel), List.mem_of_getElem? (i := 751) (by decide +kernel), List.mem_of_getElem? (i := 752) (by decide +kernel)⟩
def lw_privs_2 : List (MethodName × Nat) := [(⟨"ColumnReader$Forms", "priceOfCode", "(I)I"⟩, 5), (⟨"ColumnReader$Columns", "weigh", "(IIII)V"⟩, 9), (⟨"ColumnReader", "hasChosen", "(I)Z"⟩, 9), (⟨"ColumnReader$Columns", "isRepeated", "(II)Z"⟩, 9), (⟨"ColumnReaderModel", "feedOne", "(I)V"⟩, 28), (⟨"ColumnReaderModel", "changes", "()V"⟩, 28), (⟨"ColumnReaderModel", "load", "(I)V"⟩, 28), (⟨"ColumnReaderModel", "wrong", "(II)V"⟩, 28), (⟨"ColumnReaderModel", "row", "(II)I"⟩, 28), (⟨"ColumnReaderModel", "cell", "(III)I"⟩, 28), (⟨"ColumnReaderModel", "textAt", "(I)I"⟩, 28), (⟨"ColumnReaderModel", "take", "(I)V"⟩, 28), (⟨"ColumnReaderModel", "isOdd", "(I)Z"⟩, 28), (⟨"ColumnReaderModel", "cellsOf", "(I)I"⟩, 28), (⟨"ColumnReaderModel", "width", "()I"⟩, 28), (⟨"ColumnReaderModel", "gather", "(I)V"⟩, 28)]
theorem lw_r2 : ∀ q ∈ lw_privs_2, lw_okq q := List.forall_mem_cons.mpr ⟨lw_p16, List.forall_mem_cons.mpr ⟨lw_p17, List.forall_mem_cons.mpr ⟨lw_p18, List.forall_mem_cons.mpr ⟨lw_p19, List.forall_mem_cons.mpr ⟨lw_p20, List.forall_mem_cons.mpr ⟨lw_p21, List.forall_mem_cons.mpr ⟨lw_p22, List.forall_mem_cons.mpr ⟨lw_p23, List.forall_mem_cons.mpr ⟨lw_p24, List.forall_mem_cons.mpr ⟨lw_p25, List.forall_mem_cons.mpr ⟨lw_p26, List.forall_mem_cons.mpr ⟨lw_p27, List.forall_mem_cons.mpr ⟨lw_p28, List.forall_mem_cons.mpr ⟨lw_p29, List.forall_mem_cons.mpr ⟨lw_p30, List.forall_mem_cons.mpr ⟨lw_p31, fun _ h => absurd h List.not_mem_nil⟩⟩⟩⟩⟩⟩⟩⟩⟩⟩⟩⟩⟩⟩⟩⟩
theorem lw_p32 : lw_okq (⟨"ColumnReaderModel", "isPlain", "(I)Z"⟩, 28) := ⟨⟨by decide +kernel, by decide +kernel⟩, List.mem_of_getElem? (i := 576) (by decide +kernel), List.mem_of_getElem? (i := 755) (by decide +kernel), List.mem_of_getElem? (i := 756) (by decide +kernel)⟩
theorem lw_p33 : lw_okq (⟨"ColumnReaderModel", "judge", "()V"⟩, 28) := ⟨⟨by decide +kernel, by decide +kernel⟩, List.mem_of_getElem? (i := 576) (by decide +kernel), List.mem_of_getElem? (i := 759) (by decide +kernel), List.mem_of_getElem? (i := 760) (by decide +kernel)⟩
theorem lw_p34 : lw_okq (⟨"ColumnReaderModel", "costBy", "(II)I"⟩, 28) := ⟨⟨by decide +kernel, by decide +kernel⟩, List.mem_of_getElem? (i := 576) (by decide +kernel), List.mem_of_getElem? (i := 763) (by decide +kernel), List.mem_of_getElem? (i := 764) (by decide +kernel)⟩
theorem lw_p35 : lw_okq (⟨"ColumnReaderModel", "firstOf", "(I)I"⟩, 28) := ⟨⟨by decide +kernel, by decide +kernel⟩, List.mem_of_getElem? (i := 576) (by decide +kernel), List.mem_of_getElem? (i := 767) (by decide +kernel), List.mem_of_getElem? (i := 768) (by decide +kernel)⟩
theorem lw_p36 : lw_okq (⟨"ColumnReaderModel", "isMissing", "(II)Z"⟩, 28) := ⟨⟨by decide +kernel, by decide +kernel⟩, List.mem_of_getElem? (i := 576) (by decide +kernel), List.mem_of_getElem? (i := 771) (by decide +kernel), List.mem_of_getElem? (i := 772) (by decide +kernel)⟩
theorem lw_p37 : lw_okq (⟨"ColumnReaderModel", "isWord", "(ILjava/lang/String;)Z"⟩, 28) := ⟨⟨by decide +kernel, by decide +kernel⟩, List.mem_of_getElem? (i := 576) (by decide +kernel), List.mem_of_getElem? (i := 776) (by decide +kernel), List.mem_of_getElem? (i := 777) (by decide +kernel)⟩
theorem lw_p38 : lw_okq (⟨"ColumnReaderModel", "byteOf", "(II)I"⟩, 28) := ⟨⟨by decide +kernel, by decide +kernel⟩, List.mem_of_getElem? (i := 576) (by decide +kernel), List.mem_of_getElem? (i := 781) (by decide +kernel), List.mem_of_getElem? (i := 782) (by decide +kernel)⟩
theorem lw_p39 : lw_okq (⟨"ColumnReaderModel", "tells", "(III)Z"⟩, 28) := ⟨⟨by decide +kernel, by decide +kernel⟩, List.mem_of_getElem? (i := 576) (by decide +kernel), List.mem_of_getElem? (i := 788) (by decide +kernel), List.mem_of_getElem? (i := 789) (by decide +kernel)⟩
theorem lw_p40 : lw_okq (⟨"ColumnReaderModel", "isFlag", "(II)Z"⟩, 28) := ⟨⟨by decide +kernel, by decide +kernel⟩, List.mem_of_getElem? (i := 576) (by decide +kernel), List.mem_of_getElem? (i := 792) (by decide +kernel), List.mem_of_getElem? (i := 793) (by decide +kernel)⟩
theorem lw_p41 : lw_okq (⟨"ColumnReaderModel", "isNumber", "(II)Z"⟩, 28) := ⟨⟨by decide +kernel, by decide +kernel⟩, List.mem_of_getElem? (i := 576) (by decide +kernel), List.mem_of_getElem? (i := 811) (by decide +kernel), List.mem_of_getElem? (i := 812) (by decide +kernel)⟩
theorem lw_p42 : lw_okq (⟨"ColumnReaderModel", "more", "(I)Z"⟩, 28) := ⟨⟨by decide +kernel, by decide +kernel⟩, List.mem_of_getElem? (i := 576) (by decide +kernel), List.mem_of_getElem? (i := 827) (by decide +kernel), List.mem_of_getElem? (i := 828) (by decide +kernel)⟩
theorem lw_p43 : lw_okq (⟨"ColumnReaderModel", "isDay", "(II)Z"⟩, 28) := ⟨⟨by decide +kernel, by decide +kernel⟩, List.mem_of_getElem? (i := 576) (by decide +kernel), List.mem_of_getElem? (i := 833) (by decide +kernel), List.mem_of_getElem? (i := 834) (by decide +kernel)⟩
theorem lw_p44 : lw_okq (⟨"ColumnReaderModel", "whole", "(III)I"⟩, 28) := ⟨⟨by decide +kernel, by decide +kernel⟩, List.mem_of_getElem? (i := 576) (by decide +kernel), List.mem_of_getElem? (i := 840) (by decide +kernel), List.mem_of_getElem? (i := 841) (by decide +kernel)⟩
theorem lw_p45 : lw_okq (⟨"ColumnReaderModel", "isCode", "(II)Z"⟩, 28) := ⟨⟨by decide +kernel, by decide +kernel⟩, List.mem_of_getElem? (i := 576) (by decide +kernel), List.mem_of_getElem? (i := 849) (by decide +kernel), List.mem_of_getElem? (i := 850) (by decide +kernel)⟩
theorem lw_p46 : lw_okq (⟨"ColumnReaderModel", "cellCost", "(II)I"⟩, 28) := ⟨⟨by decide +kernel, by decide +kernel⟩, List.mem_of_getElem? (i := 576) (by decide +kernel), List.mem_of_getElem? (i := 860) (by decide +kernel), List.mem_of_getElem? (i := 861) (by decide +kernel)⟩
theorem lw_p47 : lw_okq (⟨"ColumnReaderModel", "rowCost", "(II)I"⟩, 28) := ⟨⟨by decide +kernel, by decide +kernel⟩, List.mem_of_getElem? (i := 576) (by decide +kernel), List.mem_of_getElem? (i := 864) (by decide +kernel), List.mem_of_getElem? (i := 865) (by decide +kernel)⟩
def lw_privs_3 : List (MethodName × Nat) := [(⟨"ColumnReaderModel", "isPlain", "(I)Z"⟩, 28), (⟨"ColumnReaderModel", "judge", "()V"⟩, 28), (⟨"ColumnReaderModel", "costBy", "(II)I"⟩, 28), (⟨"ColumnReaderModel", "firstOf", "(I)I"⟩, 28), (⟨"ColumnReaderModel", "isMissing", "(II)Z"⟩, 28), (⟨"ColumnReaderModel", "isWord", "(ILjava/lang/String;)Z"⟩, 28), (⟨"ColumnReaderModel", "byteOf", "(II)I"⟩, 28), (⟨"ColumnReaderModel", "tells", "(III)Z"⟩, 28), (⟨"ColumnReaderModel", "isFlag", "(II)Z"⟩, 28), (⟨"ColumnReaderModel", "isNumber", "(II)Z"⟩, 28), (⟨"ColumnReaderModel", "more", "(I)Z"⟩, 28), (⟨"ColumnReaderModel", "isDay", "(II)Z"⟩, 28), (⟨"ColumnReaderModel", "whole", "(III)I"⟩, 28), (⟨"ColumnReaderModel", "isCode", "(II)Z"⟩, 28), (⟨"ColumnReaderModel", "cellCost", "(II)I"⟩, 28), (⟨"ColumnReaderModel", "rowCost", "(II)I"⟩, 28)]
theorem lw_r3 : ∀ q ∈ lw_privs_3, lw_okq q := List.forall_mem_cons.mpr ⟨lw_p32, List.forall_mem_cons.mpr ⟨lw_p33, List.forall_mem_cons.mpr ⟨lw_p34, List.forall_mem_cons.mpr ⟨lw_p35, List.forall_mem_cons.mpr ⟨lw_p36, List.forall_mem_cons.mpr ⟨lw_p37, List.forall_mem_cons.mpr ⟨lw_p38, List.forall_mem_cons.mpr ⟨lw_p39, List.forall_mem_cons.mpr ⟨lw_p40, List.forall_mem_cons.mpr ⟨lw_p41, List.forall_mem_cons.mpr ⟨lw_p42, List.forall_mem_cons.mpr ⟨lw_p43, List.forall_mem_cons.mpr ⟨lw_p44, List.forall_mem_cons.mpr ⟨lw_p45, List.forall_mem_cons.mpr ⟨lw_p46, List.forall_mem_cons.mpr ⟨lw_p47, fun _ h => absurd h List.not_mem_nil⟩⟩⟩⟩⟩⟩⟩⟩⟩⟩⟩⟩⟩⟩⟩⟩
theorem lw_p48 : lw_okq (⟨"ColumnReaderModel", "isRow", "(I)Z"⟩, 28) := ⟨⟨by decide +kernel, by decide +kernel⟩, List.mem_of_getElem? (i := 576) (by decide +kernel), List.mem_of_getElem? (i := 889) (by decide +kernel), List.mem_of_getElem? (i := 890) (by decide +kernel)⟩
theorem lw_p49 : lw_okq (⟨"ColumnReaderModel", "cellAt", "(II)I"⟩, 28) := ⟨⟨by decide +kernel, by decide +kernel⟩, List.mem_of_getElem? (i := 576) (by decide +kernel), List.mem_of_getElem? (i := 897) (by decide +kernel), List.mem_of_getElem? (i := 898) (by decide +kernel)⟩
theorem lw_p50 : lw_okq (⟨"ColumnReaderModel", "isColumn", "(I)Z"⟩, 28) := ⟨⟨by decide +kernel, by decide +kernel⟩, List.mem_of_getElem? (i := 576) (by decide +kernel), List.mem_of_getElem? (i := 909) (by decide +kernel), List.mem_of_getElem? (i := 910) (by decide +kernel)⟩
theorem lw_p51 : lw_okq (⟨"ColumnReaderModel", "told", "(II)I"⟩, 28) := ⟨⟨by decide +kernel, by decide +kernel⟩, List.mem_of_getElem? (i := 576) (by decide +kernel), List.mem_of_getElem? (i := 941) (by decide +kernel), List.mem_of_getElem? (i := 942) (by decide +kernel)⟩
theorem lw_p52 : lw_okq (⟨"ColumnReaderModel", "writeWord", "(Ljava/lang/String;)V"⟩, 28) := ⟨⟨by decide +kernel, by decide +kernel⟩, List.mem_of_getElem? (i := 576) (by decide +kernel), List.mem_of_getElem? (i := 950) (by decide +kernel), List.mem_of_getElem? (i := 951) (by decide +kernel)⟩
theorem lw_p53 : lw_okq (⟨"ColumnReaderModel", "write", "(I)V"⟩, 28) := ⟨⟨by decide +kernel, by decide +kernel⟩, List.mem_of_getElem? (i := 576) (by decide +kernel), List.mem_of_getElem? (i := 954) (by decide +kernel), List.mem_of_getElem? (i := 955) (by decide +kernel)⟩
theorem lw_p54 : lw_okq (⟨"ColumnReaderModel", "writeNumber", "()V"⟩, 28) := ⟨⟨by decide +kernel, by decide +kernel⟩, List.mem_of_getElem? (i := 576) (by decide +kernel), List.mem_of_getElem? (i := 958) (by decide +kernel), List.mem_of_getElem? (i := 959) (by decide +kernel)⟩
theorem lw_p55 : lw_okq (⟨"ColumnReaderModel", "writeDay", "()V"⟩, 28) := ⟨⟨by decide +kernel, by decide +kernel⟩, List.mem_of_getElem? (i := 576) (by decide +kernel), List.mem_of_getElem? (i := 965) (by decide +kernel), List.mem_of_getElem? (i := 966) (by decide +kernel)⟩
theorem lw_p56 : lw_okq (⟨"ColumnReaderModel", "writeWhole", "(II)V"⟩, 28) := ⟨⟨by decide +kernel, by decide +kernel⟩, List.mem_of_getElem? (i := 576) (by decide +kernel), List.mem_of_getElem? (i := 969) (by decide +kernel), List.mem_of_getElem? (i := 970) (by decide +kernel)⟩
theorem lw_p57 : lw_okq (⟨"ColumnReaderModel", "isSame", "(II)Z"⟩, 28) := ⟨⟨by decide +kernel, by decide +kernel⟩, List.mem_of_getElem? (i := 576) (by decide +kernel), List.mem_of_getElem? (i := 977) (by decide +kernel), List.mem_of_getElem? (i := 978) (by decide +kernel)⟩
def lw_privs_4 : List (MethodName × Nat) := [(⟨"ColumnReaderModel", "isRow", "(I)Z"⟩, 28), (⟨"ColumnReaderModel", "cellAt", "(II)I"⟩, 28), (⟨"ColumnReaderModel", "isColumn", "(I)Z"⟩, 28), (⟨"ColumnReaderModel", "told", "(II)I"⟩, 28), (⟨"ColumnReaderModel", "writeWord", "(Ljava/lang/String;)V"⟩, 28), (⟨"ColumnReaderModel", "write", "(I)V"⟩, 28), (⟨"ColumnReaderModel", "writeNumber", "()V"⟩, 28), (⟨"ColumnReaderModel", "writeDay", "()V"⟩, 28), (⟨"ColumnReaderModel", "writeWhole", "(II)V"⟩, 28), (⟨"ColumnReaderModel", "isSame", "(II)Z"⟩, 28)]
theorem lw_r4 : ∀ q ∈ lw_privs_4, lw_okq q := List.forall_mem_cons.mpr ⟨lw_p48, List.forall_mem_cons.mpr ⟨lw_p49, List.forall_mem_cons.mpr ⟨lw_p50, List.forall_mem_cons.mpr ⟨lw_p51, List.forall_mem_cons.mpr ⟨lw_p52, List.forall_mem_cons.mpr ⟨lw_p53, List.forall_mem_cons.mpr ⟨lw_p54, List.forall_mem_cons.mpr ⟨lw_p55, List.forall_mem_cons.mpr ⟨lw_p56, List.forall_mem_cons.mpr ⟨lw_p57, fun _ h => absurd h List.not_mem_nil⟩⟩⟩⟩⟩⟩⟩⟩⟩⟩
def lw_privs : List (MethodName × Nat) := lw_privs_1 ++ (lw_privs_2 ++ (lw_privs_3 ++ (lw_privs_4)))
def lw_tbl : List Cond := k2_sels lw_privs ++ tables_1
theorem lw_privs_ok : ∀ q ∈ lw_privs, lw_okq q := by
  show ∀ q ∈ lw_privs_1 ++ (lw_privs_2 ++ (lw_privs_3 ++ (lw_privs_4))), lw_okq q
  exact List.forall_mem_append.mpr ⟨lw_r1, List.forall_mem_append.mpr ⟨lw_r2, List.forall_mem_append.mpr ⟨lw_r3, lw_r4⟩⟩⟩
end
section
/-! ===== BEGIN words of one list among another's, by their places ===== -/
theorem goodIn_r {big : List Cond} (ws : List Cond) (ps : List Nat) (hp : ws = ps.filterMap (fun i => big[i]?)) (h : ws.all goodWord = true) : GoodIn big ws := by
  intro w hw
  have h1 := List.all_eq_true.mp h w hw
  rw [hp] at hw
  obtain ⟨i, -, hi⟩ := List.mem_filterMap.mp hw
  have hm : w ∈ big := by first | exact List.mem_of_getElem? hi | exact List.getElem?_mem hi
  exact ⟨hm, good_of_word h1⟩
theorem goodIn_app {big a b : List Cond} (ha : GoodIn big a) (hb : GoodIn big b) : GoodIn big (a ++ b) := fun w h => (List.mem_append.mp h).elim (ha w) (hb w)
theorem goodIn_ca {big a b : List Cond} {c : Cond} (ha : GoodIn big (c :: a)) (hb : GoodIn big b) : GoodIn big (c :: (a ++ b)) := fun w h => (List.mem_cons.mp h).elim (fun e => ha w (List.mem_cons.mpr (Or.inl e))) (fun h => (List.mem_append.mp h).elim (fun h => ha w (List.mem_cons.mpr (Or.inr h))) (hb w))
theorem goodIn_sub {big ws : List Cond} (hm : ∀ w ∈ ws, w ∈ big) (h : ws.all goodWord = true) : GoodIn big ws := fun w hw => ⟨hm w hw, good_of_word (List.all_eq_true.mp h w hw)⟩
/-! ===== END ===== -/

/-! ===== BEGIN printed: names, fields, word lists, decode rows ===== -/
def RX0 : String := "ColumnReader$Columns"
def TX0 : u_T := fun k => match k with
  | 0 => ("ColumnReader$Columns", "formOf", "[I", true)
  | 1 => ("ColumnReader$Columns", "codeOf", "[I", true)
  | 2 => ("ColumnReader$Columns", "priceOf", "[I", true)
  | 3 => ("ColumnReader$Columns", "fitting", "[I", true)
  | 4 => ("ColumnReader$Columns", "cheapest", "[I", true)
  | 5 => ("ColumnReader$Columns", "cut", "LColumnReader$Cut;", true)
  | 6 => ("ColumnReader$Columns", "forms", "LColumnReader$Forms;", true)
  | 7 => ("ColumnReader$Columns", "surveyedMissing", "I", false)
  | _ => ("ColumnReader$Columns", "firstPresent", "I", false)
def tyX0 : Nat → FieldType := fun k => match k with
  | 0 => .array .int
  | 1 => .array .int
  | 2 => .array .int
  | 3 => .array .int
  | 4 => .array .int
  | 5 => .object "ColumnReader$Cut"
  | 6 => .object "ColumnReader$Forms"
  | 7 => .int
  | _ => .int
abbrev wsX00 : List Cond := u_ws RX0 TX0 9
theorem nmX0 : ∀ a, a < 9 → ∀ b, b < 9 → a ≠ b → (TX0 a).2.1 ≠ (TX0 b).2.1 := by decide +kernel
theorem tyX0_ok : ∀ k, k < 9 → parseFieldDescriptor (TX0 k).2.2.1 = some (tyX0 k) := by decide +kernel
abbrev cX0_init : ByteArray := prog_2_method_1_code
def yX0_init : MethodName := ⟨RX0, "<init>", "(LColumnReader$Cut;)V"⟩
abbrev cX0_isForm : ByteArray := prog_2_method_2_code
def yX0_isForm : MethodName := ⟨RX0, "isForm", "(I)Z"⟩
abbrev cX0_isCode : ByteArray := prog_2_method_3_code
def yX0_isCode : MethodName := ⟨RX0, "isCode", "(I)Z"⟩
abbrev cX0_forget : ByteArray := prog_2_method_4_code
def yX0_forget : MethodName := ⟨RX0, "forget", "()V"⟩
abbrev cX0_choose : ByteArray := prog_2_method_5_code
def yX0_choose : MethodName := ⟨RX0, "choose", "(I)V"⟩
abbrev cX0_weigh : ByteArray := prog_2_method_6_code
def yX0_weigh : MethodName := ⟨RX0, "weigh", "(IIII)V"⟩
abbrev cX0_survey : ByteArray := prog_2_method_7_code
def yX0_survey : MethodName := ⟨RX0, "survey", "(II)V"⟩
abbrev cX0_countMissing : ByteArray := prog_2_method_8_code
def yX0_countMissing : MethodName := ⟨RX0, "countMissing", "(II)I"⟩
abbrev cX0_isMissing : ByteArray := prog_2_method_9_code
def yX0_isMissing : MethodName := ⟨RX0, "isMissing", "(II)Z"⟩
abbrev cX0_price : ByteArray := prog_2_method_10_code
def yX0_price : MethodName := ⟨RX0, "price", "(III)I"⟩
abbrev cX0_rivalOf : ByteArray := prog_2_method_11_code
def yX0_rivalOf : MethodName := ⟨RX0, "rivalOf", "(I)I"⟩
abbrev cX0_partingRow : ByteArray := prog_2_method_12_code
def yX0_partingRow : MethodName := ⟨RX0, "partingRow", "(IIII)I"⟩
abbrev cX0_worthOf : ByteArray := prog_2_method_13_code
def yX0_worthOf : MethodName := ⟨RX0, "worthOf", "(II)I"⟩
abbrev cX0_allUnlike : ByteArray := prog_2_method_14_code
def yX0_allUnlike : MethodName := ⟨RX0, "allUnlike", "(I)Z"⟩
abbrev cX0_isRepeated : ByteArray := prog_2_method_15_code
def yX0_isRepeated : MethodName := ⟨RX0, "isRepeated", "(II)Z"⟩
def RX1 : String := "ColumnReader$Cut"
def TX1 : u_T := fun k => match k with
  | 0 => ("ColumnReader$Cut", "held", "[I", true)
  | 1 => ("ColumnReader$Cut", "cellStart", "[I", true)
  | 2 => ("ColumnReader$Cut", "rowStart", "[I", true)
  | 3 => ("ColumnReader$Cut", "heldSize", "I", false)
  | 4 => ("ColumnReader$Cut", "cells", "I", false)
  | 5 => ("ColumnReader$Cut", "rows", "I", false)
  | 6 => ("ColumnReader$Cut", "fault", "I", false)
  | 7 => ("ColumnReader$Cut", "faultSpot", "I", false)
  | 8 => ("ColumnReader$Cut", "mark", "I", false)
  | 9 => ("ColumnReader$Cut", "quote", "I", false)
  | 10 => ("ColumnReader$Cut", "headed", "Z", false)
  | 11 => ("ColumnReader$Cut", "phase", "I", false)
  | _ => ("ColumnReader$Cut", "cellSpot", "I", false)
def tyX1 : Nat → FieldType := fun k => match k with
  | 0 => .array .int
  | 1 => .array .int
  | 2 => .array .int
  | 3 => .int
  | 4 => .int
  | 5 => .int
  | 6 => .int
  | 7 => .int
  | 8 => .int
  | 9 => .int
  | 10 => .boolean
  | 11 => .int
  | _ => .int
abbrev wsX10 : List Cond := u_ws RX1 TX1 13
theorem nmX1 : ∀ a, a < 13 → ∀ b, b < 13 → a ≠ b → (TX1 a).2.1 ≠ (TX1 b).2.1 := by decide +kernel
theorem tyX1_ok : ∀ k, k < 13 → parseFieldDescriptor (TX1 k).2.2.1 = some (tyX1 k) := by decide +kernel
abbrev cX1_init : ByteArray := prog_3_method_1_code
def yX1_init : MethodName := ⟨RX1, "<init>", "()V"⟩
abbrev cX1_cutText : ByteArray := prog_3_method_2_code
def yX1_cutText : MethodName := ⟨RX1, "cutText", "([III)V"⟩
abbrev cX1_begin : ByteArray := prog_3_method_3_code
def yX1_begin : MethodName := ⟨RX1, "begin", "(I)V"⟩
abbrev cX1_take : ByteArray := prog_3_method_4_code
def yX1_take : MethodName := ⟨RX1, "take", "(IIZ)V"⟩
abbrev cX1_hold : ByteArray := prog_3_method_5_code
def yX1_hold : MethodName := ⟨RX1, "hold", "(I)V"⟩
abbrev cX1_openCell : ByteArray := prog_3_method_6_code
def yX1_openCell : MethodName := ⟨RX1, "openCell", "(IZ)V"⟩
abbrev cX1_fail : ByteArray := prog_3_method_7_code
def yX1_fail : MethodName := ⟨RX1, "fail", "(II)V"⟩
abbrev cX1_finish : ByteArray := prog_3_method_8_code
def yX1_finish : MethodName := ⟨RX1, "finish", "()V"⟩
abbrev cX1_width : ByteArray := prog_3_method_9_code
def yX1_width : MethodName := ⟨RX1, "width", "()I"⟩
abbrev cX1_cellsOf : ByteArray := prog_3_method_10_code
def yX1_cellsOf : MethodName := ⟨RX1, "cellsOf", "(I)I"⟩
abbrev cX1_isOdd : ByteArray := prog_3_method_11_code
def yX1_isOdd : MethodName := ⟨RX1, "isOdd", "(I)Z"⟩
abbrev cX1_oddRows : ByteArray := prog_3_method_12_code
def yX1_oddRows : MethodName := ⟨RX1, "oddRows", "()I"⟩
abbrev cX1_isInColumns : ByteArray := prog_3_method_13_code
def yX1_isInColumns : MethodName := ⟨RX1, "isInColumns", "(I)Z"⟩
abbrev cX1_cellIn : ByteArray := prog_3_method_14_code
def yX1_cellIn : MethodName := ⟨RX1, "cellIn", "(II)I"⟩
abbrev cX1_lengthOf : ByteArray := prog_3_method_15_code
def yX1_lengthOf : MethodName := ⟨RX1, "lengthOf", "(I)I"⟩
abbrev cX1_byteIn : ByteArray := prog_3_method_16_code
def yX1_byteIn : MethodName := ⟨RX1, "byteIn", "(II)I"⟩
abbrev cX1_numberIn : ByteArray := prog_3_method_17_code
def yX1_numberIn : MethodName := ⟨RX1, "numberIn", "(III)I"⟩
abbrev cX1_isWord : ByteArray := prog_3_method_18_code
def yX1_isWord : MethodName := ⟨RX1, "isWord", "(ILjava/lang/String;)Z"⟩
abbrev cX1_areAlike : ByteArray := prog_3_method_19_code
def yX1_areAlike : MethodName := ⟨RX1, "areAlike", "(II)Z"⟩
abbrev cX1_priceBesideColumns : ByteArray := prog_3_method_20_code
def yX1_priceBesideColumns : MethodName := ⟨RX1, "priceBesideColumns", "()I"⟩
abbrev cX1_bytesOf : ByteArray := prog_3_method_21_code
def yX1_bytesOf : MethodName := ⟨RX1, "bytesOf", "(I)I"⟩
def RX2 : String := "ColumnReader$Forms"
def TX2 : u_T := fun k => match k with
  | 0 => ("ColumnReader$Forms", "cut", "LColumnReader$Cut;", true)
  | 1 => ("ColumnReader$Forms", "first", "I", false)
  | 2 => ("ColumnReader$Forms", "capped", "Z", false)
  | 3 => ("ColumnReader$Forms", "worth", "I", false)
  | _ => ("ColumnReader$Forms", "digits", "I", false)
def tyX2 : Nat → FieldType := fun k => match k with
  | 0 => .object "ColumnReader$Cut"
  | 1 => .int
  | 2 => .boolean
  | 3 => .int
  | _ => .int
abbrev wsX20 : List Cond := u_ws RX2 TX2 5
theorem nmX2 : ∀ a, a < 5 → ∀ b, b < 5 → a ≠ b → (TX2 a).2.1 ≠ (TX2 b).2.1 := by decide +kernel
theorem tyX2_ok : ∀ k, k < 5 → parseFieldDescriptor (TX2 k).2.2.1 = some (tyX2 k) := by decide +kernel
abbrev cX2_init : ByteArray := prog_4_method_1_code
def yX2_init : MethodName := ⟨RX2, "<init>", "(LColumnReader$Cut;)V"⟩
abbrev cX2_prepare : ByteArray := prog_4_method_2_code
def yX2_prepare : MethodName := ⟨RX2, "prepare", "(IZ)V"⟩
abbrev cX2_isNumber : ByteArray := prog_4_method_3_code
def yX2_isNumber : MethodName := ⟨RX2, "isNumber", "(I)Z"⟩
abbrev cX2_tells : ByteArray := prog_4_method_4_code
def yX2_tells : MethodName := ⟨RX2, "tells", "(II)Z"⟩
abbrev cX2_tellsFlag : ByteArray := prog_4_method_5_code
def yX2_tellsFlag : MethodName := ⟨RX2, "tellsFlag", "(II)Z"⟩
abbrev cX2_noOf : ByteArray := prog_4_method_6_code
def yX2_noOf : MethodName := ⟨RX2, "noOf", "(I)Ljava/lang/String;"⟩
abbrev cX2_yesOf : ByteArray := prog_4_method_7_code
def yX2_yesOf : MethodName := ⟨RX2, "yesOf", "(I)Ljava/lang/String;"⟩
abbrev cX2_decimalsOf : ByteArray := prog_4_method_8_code
def yX2_decimalsOf : MethodName := ⟨RX2, "decimalsOf", "(I)I"⟩
abbrev cX2_pointOf : ByteArray := prog_4_method_9_code
def yX2_pointOf : MethodName := ⟨RX2, "pointOf", "(I)I"⟩
abbrev cX2_thousandsOf : ByteArray := prog_4_method_10_code
def yX2_thousandsOf : MethodName := ⟨RX2, "thousandsOf", "(I)I"⟩
abbrev cX2_tellsNumber : ByteArray := prog_4_method_11_code
def yX2_tellsNumber : MethodName := ⟨RX2, "tellsNumber", "(II)Z"⟩
abbrev cX2_signDue : ByteArray := prog_4_method_12_code
def yX2_signDue : MethodName := ⟨RX2, "signDue", "(III)I"⟩
abbrev cX2_bigOf : ByteArray := prog_4_method_13_code
def yX2_bigOf : MethodName := ⟨RX2, "bigOf", "(I)I"⟩
abbrev cX2_tellsDay : ByteArray := prog_4_method_14_code
def yX2_tellsDay : MethodName := ⟨RX2, "tellsDay", "(II)Z"⟩
abbrev cX2_daysOf : ByteArray := prog_4_method_15_code
def yX2_daysOf : MethodName := ⟨RX2, "daysOf", "(II)I"⟩
abbrev cX2_tellsCode : ByteArray := prog_4_method_16_code
def yX2_tellsCode : MethodName := ⟨RX2, "tellsCode", "(I)Z"⟩
abbrev cX2_sortOf : ByteArray := prog_4_method_17_code
def yX2_sortOf : MethodName := ⟨RX2, "sortOf", "(I)I"⟩
abbrev cX2_priceOfForm : ByteArray := prog_4_method_18_code
def yX2_priceOfForm : MethodName := ⟨RX2, "priceOfForm", "(I)I"⟩
abbrev cX2_priceOfCell : ByteArray := prog_4_method_19_code
def yX2_priceOfCell : MethodName := ⟨RX2, "priceOfCell", "(II)I"⟩
abbrev cX2_priceOfCode : ByteArray := prog_4_method_20_code
def yX2_priceOfCode : MethodName := ⟨RX2, "priceOfCode", "(I)I"⟩
def RX3 : String := "ColumnReader"
def TX3 : u_T := fun k => match k with
  | 0 => ("ColumnReader", "text", "[I", true)
  | 1 => ("ColumnReader", "tape", "[I", true)
  | 2 => ("ColumnReader", "cut", "LColumnReader$Cut;", true)
  | 3 => ("ColumnReader", "columns", "LColumnReader$Columns;", true)
  | 4 => ("ColumnReader", "prices", "[I", true)
  | 5 => ("ColumnReader", "textSize", "I", false)
  | 6 => ("ColumnReader", "tapeSize", "I", false)
  | 7 => ("ColumnReader", "used", "I", false)
  | _ => ("ColumnReader", "cutBy", "I", false)
def tyX3 : Nat → FieldType := fun k => match k with
  | 0 => .array .int
  | 1 => .array .int
  | 2 => .object "ColumnReader$Cut"
  | 3 => .object "ColumnReader$Columns"
  | 4 => .array .int
  | 5 => .int
  | 6 => .int
  | 7 => .int
  | _ => .int
abbrev wsX30 : List Cond := u_ws RX3 TX3 9
theorem nmX3 : ∀ a, a < 9 → ∀ b, b < 9 → a ≠ b → (TX3 a).2.1 ≠ (TX3 b).2.1 := by decide +kernel
theorem tyX3_ok : ∀ k, k < 9 → parseFieldDescriptor (TX3 k).2.2.1 = some (tyX3 k) := by decide +kernel
abbrev cX3_init : ByteArray := prog_1_method_1_code
def yX3_init : MethodName := ⟨RX3, "<init>", "()V"⟩
abbrev cX3_feed : ByteArray := prog_1_method_2_code
def yX3_feed : MethodName := ⟨RX3, "feed", "(IIIII)I"⟩
abbrev cX3_add : ByteArray := prog_1_method_3_code
def yX3_add : MethodName := ⟨RX3, "add", "(I)I"⟩
abbrev cX3_clear : ByteArray := prog_1_method_4_code
def yX3_clear : MethodName := ⟨RX3, "clear", "()V"⟩
abbrev cX3_reads : ByteArray := prog_1_method_5_code
def yX3_reads : MethodName := ⟨RX3, "reads", "(I)I"⟩
abbrev cX3_faultAt : ByteArray := prog_1_method_6_code
def yX3_faultAt : MethodName := ⟨RX3, "faultAt", "(I)I"⟩
abbrev cX3_cost : ByteArray := prog_1_method_7_code
def yX3_cost : MethodName := ⟨RX3, "cost", "(I)I"⟩
abbrev cX3_best : ByteArray := prog_1_method_8_code
def yX3_best : MethodName := ⟨RX3, "best", "()I"⟩
abbrev cX3_use : ByteArray := prog_1_method_9_code
def yX3_use : MethodName := ⟨RX3, "use", "(I)Z"⟩
abbrev cX3_about : ByteArray := prog_1_method_10_code
def yX3_about : MethodName := ⟨RX3, "about", "(I)I"⟩
abbrev cX3_odd : ByteArray := prog_1_method_11_code
def yX3_odd : MethodName := ⟨RX3, "odd", "(I)I"⟩
abbrev cX3_breadth : ByteArray := prog_1_method_12_code
def yX3_breadth : MethodName := ⟨RX3, "breadth", "(I)I"⟩
abbrev cX3_size : ByteArray := prog_1_method_13_code
def yX3_size : MethodName := ⟨RX3, "size", "(II)I"⟩
abbrev cX3_at : ByteArray := prog_1_method_14_code
def yX3_at : MethodName := ⟨RX3, "at", "(III)I"⟩
abbrev cX3_form : ByteArray := prog_1_method_15_code
def yX3_form : MethodName := ⟨RX3, "form", "(I)I"⟩
abbrev cX3_missing : ByteArray := prog_1_method_16_code
def yX3_missing : MethodName := ⟨RX3, "missing", "(I)I"⟩
abbrev cX3_lacks : ByteArray := prog_1_method_17_code
def yX3_lacks : MethodName := ⟨RX3, "lacks", "(I)I"⟩
abbrev cX3_costOf : ByteArray := prog_1_method_18_code
def yX3_costOf : MethodName := ⟨RX3, "costOf", "(III)I"⟩
abbrev cX3_fits : ByteArray := prog_1_method_19_code
def yX3_fits : MethodName := ⟨RX3, "fits", "(I)I"⟩
abbrev cX3_doubt : ByteArray := prog_1_method_20_code
def yX3_doubt : MethodName := ⟨RX3, "doubt", "(I)I"⟩
abbrev cX3_parts : ByteArray := prog_1_method_21_code
def yX3_parts : MethodName := ⟨RX3, "parts", "(IIII)I"⟩
abbrev cX3_value : ByteArray := prog_1_method_22_code
def yX3_value : MethodName := ⟨RX3, "value", "(II)J"⟩
abbrev cX3_back : ByteArray := prog_1_method_23_code
def yX3_back : MethodName := ⟨RX3, "back", "(III)I"⟩
abbrev cX3_key : ByteArray := prog_1_method_24_code
def yX3_key : MethodName := ⟨RX3, "key", "(I)I"⟩
abbrev cX3_isMake : ByteArray := prog_1_method_25_code
def yX3_isMake : MethodName := ⟨RX3, "isMake", "(I)Z"⟩
abbrev cX3_tapeNumber : ByteArray := prog_1_method_26_code
def yX3_tapeNumber : MethodName := ⟨RX3, "tapeNumber", "(I)V"⟩
abbrev cX3_forgetReadings : ByteArray := prog_1_method_27_code
def yX3_forgetReadings : MethodName := ⟨RX3, "forgetReadings", "()V"⟩
abbrev cX3_cutTextBy : ByteArray := prog_1_method_28_code
def yX3_cutTextBy : MethodName := ⟨RX3, "cutTextBy", "(I)V"⟩
abbrev cX3_hasChosen : ByteArray := prog_1_method_29_code
def yX3_hasChosen : MethodName := ⟨RX3, "hasChosen", "(I)Z"⟩
abbrev cX3_priceOfMake : ByteArray := prog_1_method_30_code
def yX3_priceOfMake : MethodName := ⟨RX3, "priceOfMake", "(I)I"⟩
def RX4 : String := "ColumnReaderModel"
def TX4 : u_T := fun k => match k with
  | 0 => ("ColumnReaderModel", "tape", "[B", true)
  | 1 => ("ColumnReaderModel", "text", "[B", true)
  | 2 => ("ColumnReaderModel", "taped", "I", false)
  | 3 => ("ColumnReaderModel", "size", "I", false)
  | 4 => ("ColumnReaderModel", "used", "I", false)
  | 5 => ("ColumnReaderModel", "loaded", "I", false)
  | 6 => ("ColumnReaderModel", "rows", "I", false)
  | 7 => ("ColumnReaderModel", "cellMany", "I", false)
  | 8 => ("ColumnReaderModel", "fault", "I", false)
  | 9 => ("ColumnReaderModel", "faultPlace", "I", false)
  | 10 => ("ColumnReaderModel", "odds", "I", false)
  | 11 => ("ColumnReaderModel", "rowFrom", "[I", true)
  | 12 => ("ColumnReaderModel", "cellFrom", "[I", true)
  | 13 => ("ColumnReaderModel", "cellSize", "[I", true)
  | 14 => ("ColumnReaderModel", "bytes", "[B", true)
  | 15 => ("ColumnReaderModel", "byteMany", "I", false)
  | 16 => ("ColumnReaderModel", "isKnown", "[Z", true)
  | 17 => ("ColumnReaderModel", "costs", "[I", true)
  | 18 => ("ColumnReaderModel", "value", "J", false)
  | 19 => ("ColumnReaderModel", "digits", "I", false)
  | 20 => ("ColumnReaderModel", "column", "[I", true)
  | 21 => ("ColumnReaderModel", "columnRow", "[I", true)
  | 22 => ("ColumnReaderModel", "columnMany", "I", false)
  | 23 => ("ColumnReaderModel", "bestForm", "I", false)
  | 24 => ("ColumnReaderModel", "bestCode", "I", false)
  | 25 => ("ColumnReaderModel", "bestCost", "I", false)
  | 26 => ("ColumnReaderModel", "out", "[B", true)
  | _ => ("ColumnReaderModel", "outs", "I", false)
def tyX4 : Nat → FieldType := fun k => match k with
  | 0 => .array .byte
  | 1 => .array .byte
  | 2 => .int
  | 3 => .int
  | 4 => .int
  | 5 => .int
  | 6 => .int
  | 7 => .int
  | 8 => .int
  | 9 => .int
  | 10 => .int
  | 11 => .array .int
  | 12 => .array .int
  | 13 => .array .int
  | 14 => .array .byte
  | 15 => .int
  | 16 => .array .boolean
  | 17 => .array .int
  | 18 => .long
  | 19 => .int
  | 20 => .array .int
  | 21 => .array .int
  | 22 => .int
  | 23 => .int
  | 24 => .int
  | 25 => .int
  | 26 => .array .byte
  | _ => .int
abbrev wsX40 : List Cond := u_ws RX4 TX4 28
theorem nmX4 : ∀ a, a < 28 → ∀ b, b < 28 → a ≠ b → (TX4 a).2.1 ≠ (TX4 b).2.1 := by decide +kernel
theorem tyX4_ok : ∀ k, k < 28 → parseFieldDescriptor (TX4 k).2.2.1 = some (tyX4 k) := by decide +kernel
abbrev cX4_init : ByteArray := prog_6_method_1_code
def yX4_init : MethodName := ⟨RX4, "<init>", "()V"⟩
abbrev cX4_in : ByteArray := prog_6_method_2_code
def yX4_in : MethodName := ⟨RX4, "in", "(III)Z"⟩
abbrev cX4_feedOne : ByteArray := prog_6_method_3_code
def yX4_feedOne : MethodName := ⟨RX4, "feedOne", "(I)V"⟩
abbrev cX4_feed : ByteArray := prog_6_method_4_code
def yX4_feed : MethodName := ⟨RX4, "feed", "(IIIII)I"⟩
abbrev cX4_add : ByteArray := prog_6_method_5_code
def yX4_add : MethodName := ⟨RX4, "add", "(I)I"⟩
abbrev cX4_clear : ByteArray := prog_6_method_6_code
def yX4_clear : MethodName := ⟨RX4, "clear", "()V"⟩
abbrev cX4_changes : ByteArray := prog_6_method_7_code
def yX4_changes : MethodName := ⟨RX4, "changes", "()V"⟩
abbrev cX4_markOf : ByteArray := prog_6_method_8_code
def yX4_markOf : MethodName := ⟨RX4, "markOf", "(I)I"⟩
abbrev cX4_quoteOf : ByteArray := prog_6_method_9_code
def yX4_quoteOf : MethodName := ⟨RX4, "quoteOf", "(I)I"⟩
abbrev cX4_hasHead : ByteArray := prog_6_method_10_code
def yX4_hasHead : MethodName := ⟨RX4, "hasHead", "(I)Z"⟩
abbrev cX4_textAt : ByteArray := prog_6_method_11_code
def yX4_textAt : MethodName := ⟨RX4, "textAt", "(I)I"⟩
abbrev cX4_wrong : ByteArray := prog_6_method_12_code
def yX4_wrong : MethodName := ⟨RX4, "wrong", "(II)V"⟩
abbrev cX4_take : ByteArray := prog_6_method_13_code
def yX4_take : MethodName := ⟨RX4, "take", "(I)V"⟩
abbrev cX4_cell : ByteArray := prog_6_method_14_code
def yX4_cell : MethodName := ⟨RX4, "cell", "(III)I"⟩
abbrev cX4_load : ByteArray := prog_6_method_15_code
def yX4_load : MethodName := ⟨RX4, "load", "(I)V"⟩
abbrev cX4_row : ByteArray := prog_6_method_16_code
def yX4_row : MethodName := ⟨RX4, "row", "(II)I"⟩
abbrev cX4_cellsOf : ByteArray := prog_6_method_17_code
def yX4_cellsOf : MethodName := ⟨RX4, "cellsOf", "(I)I"⟩
abbrev cX4_width : ByteArray := prog_6_method_18_code
def yX4_width : MethodName := ⟨RX4, "width", "()I"⟩
abbrev cX4_isOdd : ByteArray := prog_6_method_19_code
def yX4_isOdd : MethodName := ⟨RX4, "isOdd", "(I)Z"⟩
abbrev cX4_isRow : ByteArray := prog_6_method_20_code
def yX4_isRow : MethodName := ⟨RX4, "isRow", "(I)Z"⟩
abbrev cX4_isPlain : ByteArray := prog_6_method_21_code
def yX4_isPlain : MethodName := ⟨RX4, "isPlain", "(I)Z"⟩
abbrev cX4_isMake : ByteArray := prog_6_method_22_code
def yX4_isMake : MethodName := ⟨RX4, "isMake", "(I)Z"⟩
abbrev cX4_reads : ByteArray := prog_6_method_23_code
def yX4_reads : MethodName := ⟨RX4, "reads", "(I)I"⟩
abbrev cX4_faultAt : ByteArray := prog_6_method_24_code
def yX4_faultAt : MethodName := ⟨RX4, "faultAt", "(I)I"⟩
abbrev cX4_byteOf : ByteArray := prog_6_method_25_code
def yX4_byteOf : MethodName := ⟨RX4, "byteOf", "(II)I"⟩
abbrev cX4_isDigit : ByteArray := prog_6_method_26_code
def yX4_isDigit : MethodName := ⟨RX4, "isDigit", "(I)Z"⟩
abbrev cX4_isWord : ByteArray := prog_6_method_27_code
def yX4_isWord : MethodName := ⟨RX4, "isWord", "(ILjava/lang/String;)Z"⟩
abbrev cX4_flag : ByteArray := prog_6_method_28_code
def yX4_flag : MethodName := ⟨RX4, "flag", "(II)Ljava/lang/String;"⟩
abbrev cX4_isFlag : ByteArray := prog_6_method_29_code
def yX4_isFlag : MethodName := ⟨RX4, "isFlag", "(II)Z"⟩
abbrev cX4_decimals : ByteArray := prog_6_method_30_code
def yX4_decimals : MethodName := ⟨RX4, "decimals", "(I)I"⟩
abbrev cX4_pointOf : ByteArray := prog_6_method_31_code
def yX4_pointOf : MethodName := ⟨RX4, "pointOf", "(I)I"⟩
abbrev cX4_thousandsOf : ByteArray := prog_6_method_32_code
def yX4_thousandsOf : MethodName := ⟨RX4, "thousandsOf", "(I)I"⟩
abbrev cX4_isNumber : ByteArray := prog_6_method_33_code
def yX4_isNumber : MethodName := ⟨RX4, "isNumber", "(II)Z"⟩
abbrev cX4_more : ByteArray := prog_6_method_34_code
def yX4_more : MethodName := ⟨RX4, "more", "(I)Z"⟩
abbrev cX4_whole : ByteArray := prog_6_method_35_code
def yX4_whole : MethodName := ⟨RX4, "whole", "(III)I"⟩
abbrev cX4_daysOf : ByteArray := prog_6_method_36_code
def yX4_daysOf : MethodName := ⟨RX4, "daysOf", "(II)I"⟩
abbrev cX4_betweenOf : ByteArray := prog_6_method_37_code
def yX4_betweenOf : MethodName := ⟨RX4, "betweenOf", "(I)I"⟩
abbrev cX4_isDay : ByteArray := prog_6_method_38_code
def yX4_isDay : MethodName := ⟨RX4, "isDay", "(II)Z"⟩
abbrev cX4_sortOf : ByteArray := prog_6_method_39_code
def yX4_sortOf : MethodName := ⟨RX4, "sortOf", "(I)I"⟩
abbrev cX4_isCode : ByteArray := prog_6_method_40_code
def yX4_isCode : MethodName := ⟨RX4, "isCode", "(II)Z"⟩
abbrev cX4_isMissing : ByteArray := prog_6_method_41_code
def yX4_isMissing : MethodName := ⟨RX4, "isMissing", "(II)Z"⟩
abbrev cX4_tells : ByteArray := prog_6_method_42_code
def yX4_tells : MethodName := ⟨RX4, "tells", "(III)Z"⟩
abbrev cX4_gather : ByteArray := prog_6_method_43_code
def yX4_gather : MethodName := ⟨RX4, "gather", "(I)V"⟩
abbrev cX4_firstOf : ByteArray := prog_6_method_44_code
def yX4_firstOf : MethodName := ⟨RX4, "firstOf", "(I)I"⟩
abbrev cX4_cellCost : ByteArray := prog_6_method_45_code
def yX4_cellCost : MethodName := ⟨RX4, "cellCost", "(II)I"⟩
abbrev cX4_topOf : ByteArray := prog_6_method_46_code
def yX4_topOf : MethodName := ⟨RX4, "topOf", "(I)J"⟩
abbrev cX4_costBy : ByteArray := prog_6_method_47_code
def yX4_costBy : MethodName := ⟨RX4, "costBy", "(II)I"⟩
abbrev cX4_judge : ByteArray := prog_6_method_48_code
def yX4_judge : MethodName := ⟨RX4, "judge", "()V"⟩
abbrev cX4_cost : ByteArray := prog_6_method_49_code
def yX4_cost : MethodName := ⟨RX4, "cost", "(I)I"⟩
abbrev cX4_rowCost : ByteArray := prog_6_method_50_code
def yX4_rowCost : MethodName := ⟨RX4, "rowCost", "(II)I"⟩
abbrev cX4_best : ByteArray := prog_6_method_51_code
def yX4_best : MethodName := ⟨RX4, "best", "()I"⟩
abbrev cX4_use : ByteArray := prog_6_method_52_code
def yX4_use : MethodName := ⟨RX4, "use", "(I)Z"⟩
abbrev cX4_about : ByteArray := prog_6_method_53_code
def yX4_about : MethodName := ⟨RX4, "about", "(I)I"⟩
abbrev cX4_odd : ByteArray := prog_6_method_54_code
def yX4_odd : MethodName := ⟨RX4, "odd", "(I)I"⟩
abbrev cX4_breadth : ByteArray := prog_6_method_55_code
def yX4_breadth : MethodName := ⟨RX4, "breadth", "(I)I"⟩
abbrev cX4_cellAt : ByteArray := prog_6_method_56_code
def yX4_cellAt : MethodName := ⟨RX4, "cellAt", "(II)I"⟩
abbrev cX4_size : ByteArray := prog_6_method_57_code
def yX4_size : MethodName := ⟨RX4, "size", "(II)I"⟩
abbrev cX4_at : ByteArray := prog_6_method_58_code
def yX4_at : MethodName := ⟨RX4, "at", "(III)I"⟩
abbrev cX4_isColumn : ByteArray := prog_6_method_59_code
def yX4_isColumn : MethodName := ⟨RX4, "isColumn", "(I)Z"⟩
abbrev cX4_form : ByteArray := prog_6_method_60_code
def yX4_form : MethodName := ⟨RX4, "form", "(I)I"⟩
abbrev cX4_missing : ByteArray := prog_6_method_61_code
def yX4_missing : MethodName := ⟨RX4, "missing", "(I)I"⟩
abbrev cX4_lacks : ByteArray := prog_6_method_62_code
def yX4_lacks : MethodName := ⟨RX4, "lacks", "(I)I"⟩
abbrev cX4_costOf : ByteArray := prog_6_method_63_code
def yX4_costOf : MethodName := ⟨RX4, "costOf", "(III)I"⟩
abbrev cX4_fits : ByteArray := prog_6_method_64_code
def yX4_fits : MethodName := ⟨RX4, "fits", "(I)I"⟩
abbrev cX4_doubt : ByteArray := prog_6_method_65_code
def yX4_doubt : MethodName := ⟨RX4, "doubt", "(I)I"⟩
abbrev cX4_parts : ByteArray := prog_6_method_66_code
def yX4_parts : MethodName := ⟨RX4, "parts", "(IIII)I"⟩
abbrev cX4_told : ByteArray := prog_6_method_67_code
def yX4_told : MethodName := ⟨RX4, "told", "(II)I"⟩
abbrev cX4_value : ByteArray := prog_6_method_68_code
def yX4_value : MethodName := ⟨RX4, "value", "(II)J"⟩
abbrev cX4_write : ByteArray := prog_6_method_69_code
def yX4_write : MethodName := ⟨RX4, "write", "(I)V"⟩
abbrev cX4_writeWord : ByteArray := prog_6_method_70_code
def yX4_writeWord : MethodName := ⟨RX4, "writeWord", "(Ljava/lang/String;)V"⟩
abbrev cX4_tens : ByteArray := prog_6_method_71_code
def yX4_tens : MethodName := ⟨RX4, "tens", "(I)J"⟩
abbrev cX4_writeNumber : ByteArray := prog_6_method_72_code
def yX4_writeNumber : MethodName := ⟨RX4, "writeNumber", "()V"⟩
abbrev cX4_writeWhole : ByteArray := prog_6_method_73_code
def yX4_writeWhole : MethodName := ⟨RX4, "writeWhole", "(II)V"⟩
abbrev cX4_writeDay : ByteArray := prog_6_method_74_code
def yX4_writeDay : MethodName := ⟨RX4, "writeDay", "()V"⟩
abbrev cX4_back : ByteArray := prog_6_method_75_code
def yX4_back : MethodName := ⟨RX4, "back", "(III)I"⟩
abbrev cX4_isSame : ByteArray := prog_6_method_76_code
def yX4_isSame : MethodName := ⟨RX4, "isSame", "(II)Z"⟩
abbrev cX4_key : ByteArray := prog_6_method_77_code
def yX4_key : MethodName := ⟨RX4, "key", "(I)I"⟩
def RJ6 : String := "java/lang/Integer"
def TJ6 : u_T := fun k => match k with
  | _ => ("", "", "", false)
def tyJ6 : Nat → FieldType := fun k => match k with
  | _ => .int
abbrev wsJ60 : List Cond := u_ws RJ6 TJ6 0
theorem nmJ6 : ∀ a, a < 0 → ∀ b, b < 0 → a ≠ b → (TJ6 a).2.1 ≠ (TJ6 b).2.1 := by decide +kernel
theorem tyJ6_ok : ∀ k, k < 0 → parseFieldDescriptor (TJ6 k).2.2.1 = some (tyJ6 k) := by decide +kernel
abbrev cJ6_bitCount_0f7a4 : ByteArray := prog_7_method_49_code
def yJ6_bitCount_0f7a4 : MethodName := ⟨RJ6, "bitCount", "(I)I"⟩
def RJ9 : String := "java/lang/Math"
def TJ9 : u_T := fun k => match k with
  | _ => ("", "", "", false)
def tyJ9 : Nat → FieldType := fun k => match k with
  | _ => .int
abbrev wsJ90 : List Cond := u_ws RJ9 TJ9 0
theorem nmJ9 : ∀ a, a < 0 → ∀ b, b < 0 → a ≠ b → (TJ9 a).2.1 ≠ (TJ9 b).2.1 := by decide +kernel
theorem tyJ9_ok : ∀ k, k < 0 → parseFieldDescriptor (TJ9 k).2.2.1 = some (tyJ9 k) := by decide +kernel
abbrev cJ9_min_7cf53 : ByteArray := prog_8_method_69_code
def yJ9_min_7cf53 : MethodName := ⟨RJ9, "min", "(II)I"⟩
def RJ0 : String := "java/lang/String"
def TJ0 : u_T := fun k => match k with
  | _ => ("", "", "", false)
def tyJ0 : Nat → FieldType := fun k => match k with
  | _ => .int
abbrev wsJ00 : List Cond := u_ws RJ0 TJ0 0
theorem nmJ0 : ∀ a, a < 0 → ∀ b, b < 0 → a ≠ b → (TJ0 a).2.1 ≠ (TJ0 b).2.1 := by decide +kernel
theorem tyJ0_ok : ∀ k, k < 0 → parseFieldDescriptor (TJ0 k).2.2.1 = some (tyJ0 k) := by decide +kernel
abbrev cJ0_length_8abf5 : ByteArray := prog_9_method_54_code
def yJ0_length_8abf5 : MethodName := ⟨RJ0, "length", "()I"⟩
abbrev cJ0_charAt_5068e : ByteArray := prog_9_method_56_code
def yJ0_charAt_5068e : MethodName := ⟨RJ0, "charAt", "(I)C"⟩
abbrev cJ0_coder_7d493 : ByteArray := prog_9_method_152_code
def yJ0_coder_7d493 : MethodName := ⟨RJ0, "coder", "()B"⟩
abbrev cJ0_isLatin1_aae02 : ByteArray := prog_9_method_154_code
def yJ0_isLatin1_aae02 : MethodName := ⟨RJ0, "isLatin1", "()Z"⟩
abbrev cJ0_checkIndex_df160 : ByteArray := prog_9_method_155_code
def yJ0_checkIndex_df160 : MethodName := ⟨RJ0, "checkIndex", "(II)V"⟩
def RJ1 : String := "java/lang/StringLatin1"
def TJ1 : u_T := fun k => match k with
  | _ => ("", "", "", false)
def tyJ1 : Nat → FieldType := fun k => match k with
  | _ => .int
abbrev wsJ10 : List Cond := u_ws RJ1 TJ1 0
theorem nmJ1 : ∀ a, a < 0 → ∀ b, b < 0 → a ≠ b → (TJ1 a).2.1 ≠ (TJ1 b).2.1 := by decide +kernel
theorem tyJ1_ok : ∀ k, k < 0 → parseFieldDescriptor (TJ1 k).2.2.1 = some (tyJ1 k) := by decide +kernel
abbrev cJ1_charAt_3b067 : ByteArray := prog_10_method_2_code
def yJ1_charAt_3b067 : MethodName := ⟨RJ1, "charAt", "([BI)C"⟩
def RJ2 : String := "java/lang/StringUTF16"
def TJ2 : u_T := fun k => match k with
  | _ => ("", "", "", false)
def tyJ2 : Nat → FieldType := fun k => match k with
  | _ => .int
abbrev wsJ20 : List Cond := u_ws RJ2 TJ2 0
theorem nmJ2 : ∀ a, a < 0 → ∀ b, b < 0 → a ≠ b → (TJ2 a).2.1 ≠ (TJ2 b).2.1 := by decide +kernel
theorem tyJ2_ok : ∀ k, k < 0 → parseFieldDescriptor (TJ2 k).2.2.1 = some (tyJ2 k) := by decide +kernel
abbrev cJ2_getChar_3b067 : ByteArray := prog_11_method_5_code
def yJ2_getChar_3b067 : MethodName := ⟨RJ2, "getChar", "([BI)C"⟩
abbrev cJ2_length_9d52b : ByteArray := prog_11_method_6_code
def yJ2_length_9d52b : MethodName := ⟨RJ2, "length", "([B)I"⟩
abbrev cJ2_charAt_3b067 : ByteArray := prog_11_method_83_code
def yJ2_charAt_3b067 : MethodName := ⟨RJ2, "charAt", "([BI)C"⟩
abbrev cJ2_checkIndex_2214a : ByteArray := prog_11_method_91_code
def yJ2_checkIndex_2214a : MethodName := ⟨RJ2, "checkIndex", "(I[B)V"⟩
def RJ10 : String := "java/lang/System"
def TJ10 : u_T := fun k => match k with
  | _ => ("", "", "", false)
def tyJ10 : Nat → FieldType := fun k => match k with
  | _ => .int
abbrev wsJ100 : List Cond := u_ws RJ10 TJ10 0
theorem nmJ10 : ∀ a, a < 0 → ∀ b, b < 0 → a ≠ b → (TJ10 a).2.1 ≠ (TJ10 b).2.1 := by decide +kernel
theorem tyJ10_ok : ∀ k, k < 0 → parseFieldDescriptor (TJ10 k).2.2.1 = some (tyJ10 k) := by decide +kernel
def RJ7 : String := "java/util/Arrays"
def TJ7 : u_T := fun k => match k with
  | _ => ("", "", "", false)
def tyJ7 : Nat → FieldType := fun k => match k with
  | _ => .int
abbrev wsJ70 : List Cond := u_ws RJ7 TJ7 0
theorem nmJ7 : ∀ a, a < 0 → ∀ b, b < 0 → a ≠ b → (TJ7 a).2.1 ≠ (TJ7 b).2.1 := by decide +kernel
theorem tyJ7_ok : ∀ k, k < 0 → parseFieldDescriptor (TJ7 k).2.2.1 = some (tyJ7 k) := by decide +kernel
abbrev cJ7_fill_53178 : ByteArray := prog_13_method_103_code
def yJ7_fill_53178 : MethodName := ⟨RJ7, "fill", "([II)V"⟩
def RJ3 : String := "jdk/internal/util/Preconditions"
def TJ3 : u_T := fun k => match k with
  | _ => ("", "", "", false)
def tyJ3 : Nat → FieldType := fun k => match k with
  | _ => .int
abbrev wsJ30 : List Cond := u_ws RJ3 TJ3 0
theorem nmJ3 : ∀ a, a < 0 → ∀ b, b < 0 → a ≠ b → (TJ3 a).2.1 ≠ (TJ3 b).2.1 := by decide +kernel
theorem tyJ3_ok : ∀ k, k < 0 → parseFieldDescriptor (TJ3 k).2.2.1 = some (tyJ3 k) := by decide +kernel
abbrev cJ3_checkIndex_8e157 : ByteArray := prog_14_method_11_code
def yJ3_checkIndex_8e157 : MethodName := ⟨RJ3, "checkIndex", "(IILjava/util/function/BiFunction;)I"⟩
def RL : String := "ColumnReaderLaw"
abbrev cL_law : ByteArray := code
def yL_law : MethodName := ⟨RL, "law", "([I)Z"⟩
abbrev vwCl : List vw_C := [(RX0, TX0, 9), (RX1, TX1, 13), (RX2, TX2, 5), (RX3, TX3, 9), (RX4, TX4, 28)]
end
section
def gT : List Cond := lw_tbl.filter goodWord
theorem gT_in {w : Cond} (h : w ∈ lw_tbl) (g : goodWord w = true) : w ∈ gT := List.mem_filter.mpr ⟨h, g⟩
theorem gT_tbl {w : Cond} (h : w ∈ gT) : w ∈ lw_tbl := (List.mem_filter.mp h).1
theorem gg_good : ∀ w ∈ gT, goodWord w = true := fun w h => (List.mem_filter.mp h).2
theorem tb_in {w : Cond} (h : w ∈ tables_1) : w ∈ lw_tbl := List.mem_append_right _ h
theorem inT1 {w : Cond} (h : w ∈ tables_1_1) : w ∈ lw_tbl := tb_in (List.mem_append_left _ h)
theorem inT2 {w : Cond} (h : w ∈ tables_1_2) : w ∈ lw_tbl := tb_in (List.mem_append_right _ (List.mem_append_left _ h))
theorem inT3 {w : Cond} (h : w ∈ tables_1_3) : w ∈ lw_tbl := tb_in (List.mem_append_right _ (List.mem_append_right _ (List.mem_append_left _ h)))
theorem inT4 {w : Cond} (h : w ∈ tables_1_4) : w ∈ lw_tbl := tb_in (List.mem_append_right _ (List.mem_append_right _ (List.mem_append_right _ (List.mem_append_left _ h))))
theorem inT5 {w : Cond} (h : w ∈ tables_1_5) : w ∈ lw_tbl := tb_in (List.mem_append_right _ (List.mem_append_right _ (List.mem_append_right _ (List.mem_append_right _ h))))
theorem pv_in {q : MethodName × Nat} (h : q ∈ lw_privs) : Cond.selects q.1.cls q.1 q.1 ∈ lw_tbl := List.mem_append_left _ (List.mem_map.mpr ⟨q, h, rfl⟩)
theorem inP1 {q : MethodName × Nat} (h : q ∈ lw_privs_1) : Cond.selects q.1.cls q.1 q.1 ∈ lw_tbl := pv_in (List.mem_append_left _ h)
theorem inP2 {q : MethodName × Nat} (h : q ∈ lw_privs_2) : Cond.selects q.1.cls q.1 q.1 ∈ lw_tbl := pv_in (List.mem_append_right _ (List.mem_append_left _ h))
theorem inP3 {q : MethodName × Nat} (h : q ∈ lw_privs_3) : Cond.selects q.1.cls q.1 q.1 ∈ lw_tbl := pv_in (List.mem_append_right _ (List.mem_append_right _ (List.mem_append_left _ h)))
theorem inP4 {q : MethodName × Nat} (h : q ∈ lw_privs_4) : Cond.selects q.1.cls q.1 q.1 ∈ lw_tbl := pv_in (List.mem_append_right _ (List.mem_append_right _ (List.mem_append_right _ h)))
theorem mem_places {big ws : List Cond} (ps : List Nat) (hp : ws = ps.filterMap (fun i => big[i]?)) : ∀ w ∈ ws, w ∈ big := by
  intro w hw
  rw [hp] at hw
  obtain ⟨i, -, hi⟩ := List.mem_filterMap.mp hw
  exact List.mem_of_getElem? hi
set_option maxRecDepth 20000 in
theorem uw_X0 : ∀ w ∈ u_ws RX0 TX0 9, w ∈ gT := fun w h => gT_in (tb_in (mem_places (big := tables_1) [115, 117, 119, 121, 123, 125, 127, 129, 131] (by decide +kernel) w h)) (List.all_eq_true.mp (show (u_ws RX0 TX0 9).all goodWord = true by decide +kernel) w h)
set_option maxRecDepth 20000 in
theorem uw_X1 : ∀ w ∈ u_ws RX1 TX1 13, w ∈ gT := fun w h => gT_in (tb_in (mem_places (big := tables_1) [45, 47, 49, 51, 53, 55, 57, 59, 61, 63, 65, 67, 69] (by decide +kernel) w h)) (List.all_eq_true.mp (show (u_ws RX1 TX1 13).all goodWord = true by decide +kernel) w h)
set_option maxRecDepth 20000 in
theorem uw_X2 : ∀ w ∈ u_ws RX2 TX2 5, w ∈ gT := fun w h => gT_in (tb_in (mem_places (big := tables_1) [91, 93, 95, 97, 99] (by decide +kernel) w h)) (List.all_eq_true.mp (show (u_ws RX2 TX2 5).all goodWord = true by decide +kernel) w h)
set_option maxRecDepth 20000 in
theorem uw_X3 : ∀ w ∈ u_ws RX3 TX3 9, w ∈ gT := fun w h => gT_in (tb_in (mem_places (big := tables_1) [146, 148, 150, 152, 154, 156, 158, 160, 162] (by decide +kernel) w h)) (List.all_eq_true.mp (show (u_ws RX3 TX3 9).all goodWord = true by decide +kernel) w h)
set_option maxRecDepth 20000 in
theorem uw_X4 : ∀ w ∈ u_ws RX4 TX4 28, w ∈ gT := fun w h => gT_in (tb_in (mem_places (big := tables_1) [609, 611, 613, 615, 617, 619, 621, 623, 625, 627, 629, 631, 633, 635, 637, 639, 641, 643, 645, 647, 649, 651, 653, 655, 657, 659, 661, 663] (by decide +kernel) w h)) (List.all_eq_true.mp (show (u_ws RX4 TX4 28).all goodWord = true by decide +kernel) w h)
theorem mw_0 : Cond.initialized RL ∈ gT := gT_in (inT1 (List.mem_of_getElem? (i := 0) rfl)) rfl
theorem mw_1 : Cond.initialized RX3 ∈ gT := gT_in (inT1 (List.mem_of_getElem? (i := 1) rfl)) rfl
theorem mw_2 : Cond.initialized RX1 ∈ gT := gT_in (inT1 (List.mem_of_getElem? (i := 2) rfl)) rfl
theorem mw_3 : Cond.initialized RX0 ∈ gT := gT_in (inT1 (List.mem_of_getElem? (i := 3) rfl)) rfl
theorem mw_4 : Cond.initialized RX2 ∈ gT := gT_in (inT1 (List.mem_of_getElem? (i := 4) rfl)) rfl
theorem mw_5 : Cond.initialized RJ7 ∈ gT := gT_in (inT1 (List.mem_of_getElem? (i := 5) rfl)) rfl
theorem mw_6 : Cond.initialized RX4 ∈ gT := gT_in (inT1 (List.mem_of_getElem? (i := 6) rfl)) rfl
theorem mw_7 : Cond.initialized RJ10 ∈ gT := gT_in (inT1 (List.mem_of_getElem? (i := 7) rfl)) rfl
theorem mw_8 : Cond.initialized RJ9 ∈ gT := gT_in (inT1 (List.mem_of_getElem? (i := 8) rfl)) rfl
theorem mw_9 : Cond.initialized RJ0 ∈ gT := gT_in (inT1 (List.mem_of_getElem? (i := 9) rfl)) rfl
theorem mw_10 : Cond.initialized RJ1 ∈ gT := gT_in (inT1 (List.mem_of_getElem? (i := 10) rfl)) rfl
theorem mw_11 : Cond.initialized RJ3 ∈ gT := gT_in (inT1 (List.mem_of_getElem? (i := 11) rfl)) rfl
theorem mw_12 : Cond.initialized RJ2 ∈ gT := gT_in (inT1 (List.mem_of_getElem? (i := 12) rfl)) rfl
theorem mw_13 : Cond.initialized RJ6 ∈ gT := gT_in (inT1 (List.mem_of_getElem? (i := 13) rfl)) rfl
theorem mw_14 : Cond.classLink RL 7 RX3 ∈ gT := gT_in (inT1 (List.mem_of_getElem? (i := 14) rfl)) rfl
theorem mw_15 : Cond.instantiable RX3 9 ∈ gT := gT_in (inT1 (List.mem_of_getElem? (i := 15) rfl)) rfl
theorem mw_16 : Cond.methodLink RL 9 yX3_init ∈ gT := gT_in (inT1 (List.mem_of_getElem? (i := 16) rfl)) rfl
theorem mw_17 : Cond.instanceMethod yX3_init ∈ gT := gT_in (inT1 (List.mem_of_getElem? (i := 17) rfl)) rfl
theorem mw_18 : Cond.code yX3_init cX3_init 1 none ∈ gT := gT_in (inT1 (List.mem_of_getElem? (i := 18) rfl)) rfl
theorem mw_19 : Cond.methodLink RX3 1 objectInit ∈ gT := gT_in (inT1 (List.mem_of_getElem? (i := 19) rfl)) rfl
theorem mw_20 : Cond.instanceMethod objectInit ∈ gT := gT_in (inT1 (List.mem_of_getElem? (i := 20) rfl)) rfl
theorem mw_21 : Cond.code objectInit ⟨#[0xb1]⟩ 1 none ∈ gT := gT_in (inT1 (List.mem_of_getElem? (i := 21) rfl)) rfl
theorem mw_22 : Cond.classLink RX3 16 RX1 ∈ gT := gT_in (inT1 (List.mem_of_getElem? (i := 22) rfl)) rfl
theorem mw_23 : Cond.instantiable RX1 13 ∈ gT := gT_in (inT1 (List.mem_of_getElem? (i := 23) rfl)) rfl
theorem mw_24 : Cond.instanceMethod yX1_init ∈ gT := gT_in (inT1 (List.mem_of_getElem? (i := 25) rfl)) rfl
theorem mw_25 : Cond.code yX1_init cX1_init 1 none ∈ gT := gT_in (inT1 (List.mem_of_getElem? (i := 26) rfl)) rfl
theorem mw_26 : Cond.methodLink RX1 3 objectInit ∈ gT := gT_in (inT1 (List.mem_of_getElem? (i := 27) rfl)) rfl
theorem mw_27 : Cond.fieldLink RX1 9 "ColumnReader$Cut" "held" "[I" ∈ gT := gT_in (inT1 (List.mem_of_getElem? (i := 28) rfl)) rfl
theorem mw_28 : Cond.fieldLink RX1 15 "ColumnReader$Cut" "cellStart" "[I" ∈ gT := gT_in (inT1 (List.mem_of_getElem? (i := 29) rfl)) rfl
theorem mw_29 : Cond.fieldLink RX1 18 "ColumnReader$Cut" "rowStart" "[I" ∈ gT := gT_in (inT1 (List.mem_of_getElem? (i := 30) rfl)) rfl
theorem mw_30 : Cond.fieldLink RX1 64 "ColumnReader$Cut" "heldSize" "I" ∈ gT := gT_in (inT1 (List.mem_of_getElem? (i := 31) rfl)) rfl
theorem mw_31 : Cond.fieldLink RX1 67 "ColumnReader$Cut" "cells" "I" ∈ gT := gT_in (inT1 (List.mem_of_getElem? (i := 32) rfl)) rfl
theorem mw_32 : Cond.fieldLink RX1 70 "ColumnReader$Cut" "rows" "I" ∈ gT := gT_in (inT1 (List.mem_of_getElem? (i := 33) rfl)) rfl
theorem mw_33 : Cond.fieldLink RX0 67 "ColumnReader$Cut" "rows" "I" ∈ gT := gT_in (inT1 (List.mem_of_getElem? (i := 34) rfl)) rfl
theorem mw_34 : Cond.fieldLink RX3 84 "ColumnReader$Cut" "rows" "I" ∈ gT := gT_in (inT1 (List.mem_of_getElem? (i := 35) rfl)) rfl
theorem mw_35 : Cond.fieldLink RX1 43 "ColumnReader$Cut" "fault" "I" ∈ gT := gT_in (inT1 (List.mem_of_getElem? (i := 36) rfl)) rfl
theorem mw_36 : Cond.fieldLink RX3 74 "ColumnReader$Cut" "fault" "I" ∈ gT := gT_in (inT1 (List.mem_of_getElem? (i := 37) rfl)) rfl
theorem mw_37 : Cond.fieldLink RX1 73 "ColumnReader$Cut" "faultSpot" "I" ∈ gT := gT_in (inT1 (List.mem_of_getElem? (i := 38) rfl)) rfl
theorem mw_38 : Cond.fieldLink RX3 77 "ColumnReader$Cut" "faultSpot" "I" ∈ gT := gT_in (inT1 (List.mem_of_getElem? (i := 39) rfl)) rfl
theorem mw_39 : Cond.fieldLink RX1 58 "ColumnReader$Cut" "mark" "I" ∈ gT := gT_in (inT1 (List.mem_of_getElem? (i := 40) rfl)) rfl
theorem mw_40 : Cond.fieldLink RX1 61 "ColumnReader$Cut" "quote" "I" ∈ gT := gT_in (inT1 (List.mem_of_getElem? (i := 41) rfl)) rfl
theorem mw_41 : Cond.fieldLink RX1 35 "ColumnReader$Cut" "headed" "Z" ∈ gT := gT_in (inT1 (List.mem_of_getElem? (i := 42) rfl)) rfl
theorem mw_42 : Cond.fieldLink RX1 76 "ColumnReader$Cut" "phase" "I" ∈ gT := gT_in (inT1 (List.mem_of_getElem? (i := 43) rfl)) rfl
theorem mw_43 : Cond.fieldLink RX1 82 "ColumnReader$Cut" "cellSpot" "I" ∈ gT := gT_in (inT1 (List.mem_of_getElem? (i := 44) rfl)) rfl
theorem mw_44 : Cond.arrayClass .int ∈ gT := gT_in (inT1 (List.mem_of_getElem? (i := 72) rfl)) rfl
theorem mw_45 : Cond.classLink RX3 23 RX0 ∈ gT := gT_in (inT1 (List.mem_of_getElem? (i := 73) rfl)) rfl
theorem mw_46 : Cond.instantiable RX0 9 ∈ gT := gT_in (inT1 (List.mem_of_getElem? (i := 74) rfl)) rfl
theorem mw_47 : Cond.methodLink RX3 25 yX0_init ∈ gT := gT_in (inT1 (List.mem_of_getElem? (i := 75) rfl)) rfl
theorem mw_48 : Cond.instanceMethod yX0_init ∈ gT := gT_in (inT1 (List.mem_of_getElem? (i := 76) rfl)) rfl
theorem mw_49 : Cond.code yX0_init cX0_init 2 none ∈ gT := gT_in (inT1 (List.mem_of_getElem? (i := 77) rfl)) rfl
theorem mw_50 : Cond.methodLink RX0 3 objectInit ∈ gT := gT_in (inT1 (List.mem_of_getElem? (i := 78) rfl)) rfl
theorem mw_51 : Cond.classLink RX0 33 RX2 ∈ gT := gT_in (inT1 (List.mem_of_getElem? (i := 79) rfl)) rfl
theorem mw_52 : Cond.instantiable RX2 5 ∈ gT := gT_in (inT1 (List.mem_of_getElem? (i := 80) rfl)) rfl
theorem mw_53 : Cond.methodLink RX0 35 yX2_init ∈ gT := gT_in (inT1 (List.mem_of_getElem? (i := 81) rfl)) rfl
theorem mw_54 : Cond.instanceMethod yX2_init ∈ gT := gT_in (inT1 (List.mem_of_getElem? (i := 82) rfl)) rfl
theorem mw_55 : Cond.code yX2_init cX2_init 2 none ∈ gT := gT_in (inT1 (List.mem_of_getElem? (i := 83) rfl)) rfl
theorem mw_56 : Cond.methodLink RX2 3 objectInit ∈ gT := gT_in (inT1 (List.mem_of_getElem? (i := 84) rfl)) rfl
theorem mw_57 : Cond.fieldLink RX2 9 "ColumnReader$Forms" "cut" "LColumnReader$Cut;" ∈ gT := gT_in (inT1 (List.mem_of_getElem? (i := 85) rfl)) rfl
theorem mw_58 : Cond.fieldLink RX2 15 "ColumnReader$Forms" "first" "I" ∈ gT := gT_in (inT1 (List.mem_of_getElem? (i := 86) rfl)) rfl
theorem mw_59 : Cond.fieldLink RX2 19 "ColumnReader$Forms" "capped" "Z" ∈ gT := gT_in (inT1 (List.mem_of_getElem? (i := 87) rfl)) rfl
theorem mw_60 : Cond.fieldLink RX2 23 "ColumnReader$Forms" "worth" "I" ∈ gT := gT_in (inT1 (List.mem_of_getElem? (i := 88) rfl)) rfl
theorem mw_61 : Cond.fieldLink RX0 111 "ColumnReader$Forms" "worth" "I" ∈ gT := gT_in (inT1 (List.mem_of_getElem? (i := 89) rfl)) rfl
theorem mw_62 : Cond.fieldLink RX2 26 "ColumnReader$Forms" "digits" "I" ∈ gT := gT_in (inT1 (List.mem_of_getElem? (i := 90) rfl)) rfl
theorem mw_63 : Cond.fieldLink RX0 11 "ColumnReader$Columns" "formOf" "[I" ∈ gT := gT_in (inT1 (List.mem_of_getElem? (i := 102) rfl)) rfl
theorem mw_64 : Cond.fieldLink RX3 113 "ColumnReader$Columns" "formOf" "[I" ∈ gT := gT_in (inT1 (List.mem_of_getElem? (i := 103) rfl)) rfl
theorem mw_65 : Cond.fieldLink RX0 17 "ColumnReader$Columns" "codeOf" "[I" ∈ gT := gT_in (inT1 (List.mem_of_getElem? (i := 104) rfl)) rfl
theorem mw_66 : Cond.fieldLink RX3 116 "ColumnReader$Columns" "codeOf" "[I" ∈ gT := gT_in (inT1 (List.mem_of_getElem? (i := 105) rfl)) rfl
theorem mw_67 : Cond.fieldLink RX0 20 "ColumnReader$Columns" "priceOf" "[I" ∈ gT := gT_in (inT1 (List.mem_of_getElem? (i := 106) rfl)) rfl
theorem mw_68 : Cond.fieldLink RX3 173 "ColumnReader$Columns" "priceOf" "[I" ∈ gT := gT_in (inT1 (List.mem_of_getElem? (i := 107) rfl)) rfl
theorem mw_69 : Cond.fieldLink RX0 23 "ColumnReader$Columns" "fitting" "[I" ∈ gT := gT_in (inT1 (List.mem_of_getElem? (i := 108) rfl)) rfl
theorem mw_70 : Cond.fieldLink RX3 136 "ColumnReader$Columns" "fitting" "[I" ∈ gT := gT_in (inT1 (List.mem_of_getElem? (i := 109) rfl)) rfl
theorem mw_71 : Cond.fieldLink RX0 26 "ColumnReader$Columns" "cheapest" "[I" ∈ gT := gT_in (inT1 (List.mem_of_getElem? (i := 110) rfl)) rfl
theorem mw_72 : Cond.fieldLink RX0 29 "ColumnReader$Columns" "cut" "LColumnReader$Cut;" ∈ gT := gT_in (inT1 (List.mem_of_getElem? (i := 111) rfl)) rfl
theorem mw_73 : Cond.fieldLink RX0 38 "ColumnReader$Columns" "forms" "LColumnReader$Forms;" ∈ gT := gT_in (inT1 (List.mem_of_getElem? (i := 112) rfl)) rfl
theorem mw_74 : Cond.fieldLink RX0 60 "ColumnReader$Columns" "surveyedMissing" "I" ∈ gT := gT_in (inT1 (List.mem_of_getElem? (i := 113) rfl)) rfl
theorem mw_75 : Cond.fieldLink RX0 64 "ColumnReader$Columns" "firstPresent" "I" ∈ gT := gT_in (inT1 (List.mem_of_getElem? (i := 114) rfl)) rfl
theorem mw_76 : Cond.methodLink RX3 39 yJ7_fill_53178 ∈ gT := gT_in (inT1 (List.mem_of_getElem? (i := 134) rfl)) rfl
theorem mw_77 : Cond.static yJ7_fill_53178 ∈ gT := gT_in (inT1 (List.mem_of_getElem? (i := 135) rfl)) rfl
theorem mw_78 : Cond.code yJ7_fill_53178 cJ7_fill_53178 4 none ∈ gT := gT_in (inT1 (List.mem_of_getElem? (i := 136) rfl)) rfl
theorem mw_79 : Cond.fieldLink RX3 9 "ColumnReader" "text" "[I" ∈ gT := gT_in (inT1 (List.mem_of_getElem? (i := 137) rfl)) rfl
theorem mw_80 : Cond.fieldLink RX3 13 "ColumnReader" "tape" "[I" ∈ gT := gT_in (inT1 (List.mem_of_getElem? (i := 138) rfl)) rfl
theorem mw_81 : Cond.fieldLink RX3 19 "ColumnReader" "cut" "LColumnReader$Cut;" ∈ gT := gT_in (inT1 (List.mem_of_getElem? (i := 139) rfl)) rfl
theorem mw_82 : Cond.fieldLink RX3 28 "ColumnReader" "columns" "LColumnReader$Columns;" ∈ gT := gT_in (inT1 (List.mem_of_getElem? (i := 140) rfl)) rfl
theorem mw_83 : Cond.fieldLink RX3 32 "ColumnReader" "prices" "[I" ∈ gT := gT_in (inT1 (List.mem_of_getElem? (i := 141) rfl)) rfl
theorem mw_84 : Cond.fieldLink RX3 52 "ColumnReader" "textSize" "I" ∈ gT := gT_in (inT1 (List.mem_of_getElem? (i := 142) rfl)) rfl
theorem mw_85 : Cond.fieldLink RX3 45 "ColumnReader" "tapeSize" "I" ∈ gT := gT_in (inT1 (List.mem_of_getElem? (i := 143) rfl)) rfl
theorem mw_86 : Cond.fieldLink RX3 64 "ColumnReader" "used" "I" ∈ gT := gT_in (inT1 (List.mem_of_getElem? (i := 144) rfl)) rfl
theorem mw_87 : Cond.fieldLink RX3 35 "ColumnReader" "cutBy" "I" ∈ gT := gT_in (inT1 (List.mem_of_getElem? (i := 145) rfl)) rfl
theorem mw_88 : Cond.methodLink RL 13 yX3_feed ∈ gT := gT_in (inT1 (List.mem_of_getElem? (i := 165) rfl)) rfl
theorem mw_89 : Cond.instanceMethod yX3_feed ∈ gT := gT_in (inT1 (List.mem_of_getElem? (i := 166) rfl)) rfl
theorem mw_90 : Cond.selects RX3 yX3_feed yX3_feed ∈ gT := gT_in (inT1 (List.mem_of_getElem? (i := 167) rfl)) rfl
theorem mw_91 : Cond.code yX3_feed cX3_feed 6 (some .int) ∈ gT := gT_in (inT1 (List.mem_of_getElem? (i := 168) rfl)) rfl
theorem mw_92 : Cond.methodLink RX3 48 yX3_tapeNumber ∈ gT := gT_in (inT1 (List.mem_of_getElem? (i := 169) rfl)) rfl
theorem mw_93 : Cond.instanceMethod yX3_tapeNumber ∈ gT := gT_in (inT1 (List.mem_of_getElem? (i := 171) rfl)) rfl
theorem mw_94 : Cond.code yX3_tapeNumber cX3_tapeNumber 3 none ∈ gT := gT_in (inT1 (List.mem_of_getElem? (i := 172) rfl)) rfl
theorem mw_95 : Cond.methodLink RL 18 yX3_add ∈ gT := gT_in (inT1 (List.mem_of_getElem? (i := 173) rfl)) rfl
theorem mw_96 : Cond.instanceMethod yX3_add ∈ gT := gT_in (inT1 (List.mem_of_getElem? (i := 174) rfl)) rfl
theorem mw_97 : Cond.selects RX3 yX3_add yX3_add ∈ gT := gT_in (inT1 (List.mem_of_getElem? (i := 175) rfl)) rfl
theorem mw_98 : Cond.code yX3_add cX3_add 2 (some .int) ∈ gT := gT_in (inT1 (List.mem_of_getElem? (i := 176) rfl)) rfl
theorem mw_99 : Cond.methodLink RX3 55 arraycopyName ∈ gT := gT_in (inT1 (List.mem_of_getElem? (i := 177) rfl)) rfl
theorem mw_100 : Cond.static arraycopyName ∈ gT := gT_in (inT1 (List.mem_of_getElem? (i := 178) rfl)) rfl
theorem mw_101 : Cond.native arraycopyName ∈ gT := gT_in (inT1 (List.mem_of_getElem? (i := 179) rfl)) rfl
theorem mw_102 : Cond.methodLink RX3 61 yX3_forgetReadings ∈ gT := gT_in (inT1 (List.mem_of_getElem? (i := 180) rfl)) rfl
theorem mw_103 : Cond.instanceMethod yX3_forgetReadings ∈ gT := gT_in (inT1 (List.mem_of_getElem? (i := 182) rfl)) rfl
theorem mw_104 : Cond.code yX3_forgetReadings cX3_forgetReadings 1 none ∈ gT := gT_in (inT1 (List.mem_of_getElem? (i := 183) rfl)) rfl
theorem mw_105 : Cond.methodLink RL 23 yX3_clear ∈ gT := gT_in (inT1 (List.mem_of_getElem? (i := 184) rfl)) rfl
theorem mw_106 : Cond.instanceMethod yX3_clear ∈ gT := gT_in (inT1 (List.mem_of_getElem? (i := 185) rfl)) rfl
theorem mw_107 : Cond.selects RX3 yX3_clear yX3_clear ∈ gT := gT_in (inT1 (List.mem_of_getElem? (i := 186) rfl)) rfl
theorem mw_108 : Cond.code yX3_clear cX3_clear 1 none ∈ gT := gT_in (inT1 (List.mem_of_getElem? (i := 187) rfl)) rfl
theorem mw_109 : Cond.methodLink RL 27 yX3_reads ∈ gT := gT_in (inT1 (List.mem_of_getElem? (i := 188) rfl)) rfl
theorem mw_110 : Cond.instanceMethod yX3_reads ∈ gT := gT_in (inT1 (List.mem_of_getElem? (i := 189) rfl)) rfl
theorem mw_111 : Cond.selects RX3 yX3_reads yX3_reads ∈ gT := gT_in (inT1 (List.mem_of_getElem? (i := 190) rfl)) rfl
theorem mw_112 : Cond.code yX3_reads cX3_reads 2 (some .int) ∈ gT := gT_in (inT1 (List.mem_of_getElem? (i := 191) rfl)) rfl
theorem mw_113 : Cond.methodLink RX3 67 yX3_isMake ∈ gT := gT_in (inT1 (List.mem_of_getElem? (i := 192) rfl)) rfl
theorem mw_114 : Cond.static yX3_isMake ∈ gT := gT_in (inT1 (List.mem_of_getElem? (i := 193) rfl)) rfl
theorem mw_115 : Cond.code yX3_isMake cX3_isMake 1 (some .boolean) ∈ gT := gT_in (inT1 (List.mem_of_getElem? (i := 194) rfl)) rfl
theorem mw_116 : Cond.methodLink RX3 71 yX3_cutTextBy ∈ gT := gT_in (inT1 (List.mem_of_getElem? (i := 195) rfl)) rfl
theorem mw_117 : Cond.instanceMethod yX3_cutTextBy ∈ gT := gT_in (inT1 (List.mem_of_getElem? (i := 197) rfl)) rfl
theorem mw_118 : Cond.code yX3_cutTextBy cX3_cutTextBy 2 none ∈ gT := gT_in (inT1 (List.mem_of_getElem? (i := 198) rfl)) rfl
theorem mw_119 : Cond.methodLink RX3 160 yX1_cutText ∈ gT := gT_in (inT1 (List.mem_of_getElem? (i := 199) rfl)) rfl
theorem mw_120 : Cond.instanceMethod yX1_cutText ∈ gT := gT_in (inT1 (List.mem_of_getElem? (i := 200) rfl)) rfl
theorem mw_121 : Cond.selects RX1 yX1_cutText yX1_cutText ∈ gT := gT_in (inT1 (List.mem_of_getElem? (i := 201) rfl)) rfl
theorem mw_122 : Cond.code yX1_cutText cX1_cutText 6 none ∈ gT := gT_in (inT1 (List.mem_of_getElem? (i := 202) rfl)) rfl
theorem mw_123 : Cond.methodLink RX1 21 yX1_begin ∈ gT := gT_in (inT1 (List.mem_of_getElem? (i := 203) rfl)) rfl
theorem mw_124 : Cond.instanceMethod yX1_begin ∈ gT := gT_in (inT1 (List.mem_of_getElem? (i := 205) rfl)) rfl
theorem mw_125 : Cond.code yX1_begin cX1_begin 4 none ∈ gT := gT_in (inT1 (List.mem_of_getElem? (i := 206) rfl)) rfl
theorem mw_126 : Cond.fieldLink RX1 54 "ColumnReader$Cut" "MARKS" "[C" ∈ gT := gT_in (inT1 (List.mem_of_getElem? (i := 207) rfl)) rfl
theorem mw_127 : Cond.methodLink RX1 25 yJ9_min_7cf53 ∈ gT := gT_in (inT1 (List.mem_of_getElem? (i := 209) rfl)) rfl
theorem mw_128 : Cond.static yJ9_min_7cf53 ∈ gT := gT_in (inT1 (List.mem_of_getElem? (i := 210) rfl)) rfl
theorem mw_129 : Cond.code yJ9_min_7cf53 cJ9_min_7cf53 2 (some .int) ∈ gT := gT_in (inT1 (List.mem_of_getElem? (i := 211) rfl)) rfl
theorem mw_130 : Cond.methodLink RX1 31 yX1_openCell ∈ gT := gT_in (inT1 (List.mem_of_getElem? (i := 212) rfl)) rfl
theorem mw_131 : Cond.instanceMethod yX1_openCell ∈ gT := gT_in (inT1 (List.mem_of_getElem? (i := 214) rfl)) rfl
theorem mw_132 : Cond.code yX1_openCell cX1_openCell 4 none ∈ gT := gT_in (inT1 (List.mem_of_getElem? (i := 215) rfl)) rfl
theorem mw_133 : Cond.methodLink RX1 39 yX1_fail ∈ gT := gT_in (inT1 (List.mem_of_getElem? (i := 216) rfl)) rfl
theorem mw_134 : Cond.instanceMethod yX1_fail ∈ gT := gT_in (inT1 (List.mem_of_getElem? (i := 218) rfl)) rfl
theorem mw_135 : Cond.code yX1_fail cX1_fail 3 none ∈ gT := gT_in (inT1 (List.mem_of_getElem? (i := 219) rfl)) rfl
theorem mw_136 : Cond.methodLink RX1 47 yX1_take ∈ gT := gT_in (inT1 (List.mem_of_getElem? (i := 220) rfl)) rfl
theorem mw_137 : Cond.instanceMethod yX1_take ∈ gT := gT_in (inT1 (List.mem_of_getElem? (i := 222) rfl)) rfl
theorem mw_138 : Cond.code yX1_take cX1_take 4 none ∈ gT := gT_in (inT1 (List.mem_of_getElem? (i := 223) rfl)) rfl
theorem mw_139 : Cond.methodLink RX1 79 yX1_hold ∈ gT := gT_in (inT1 (List.mem_of_getElem? (i := 224) rfl)) rfl
theorem mw_140 : Cond.instanceMethod yX1_hold ∈ gT := gT_in (inT1 (List.mem_of_getElem? (i := 226) rfl)) rfl
theorem mw_141 : Cond.code yX1_hold cX1_hold 2 none ∈ gT := gT_in (inT1 (List.mem_of_getElem? (i := 227) rfl)) rfl
theorem mw_142 : Cond.methodLink RX1 51 yX1_finish ∈ gT := gT_in (inT1 (List.mem_of_getElem? (i := 228) rfl)) rfl
theorem mw_143 : Cond.instanceMethod yX1_finish ∈ gT := gT_in (inT1 (List.mem_of_getElem? (i := 230) rfl)) rfl
theorem mw_144 : Cond.code yX1_finish cX1_finish 1 none ∈ gT := gT_in (inT1 (List.mem_of_getElem? (i := 231) rfl)) rfl
theorem mw_145 : Cond.methodLink RX3 164 yX0_forget ∈ gT := gT_in (inT1 (List.mem_of_getElem? (i := 232) rfl)) rfl
theorem mw_146 : Cond.instanceMethod yX0_forget ∈ gT := gT_in (inT1 (List.mem_of_getElem? (i := 233) rfl)) rfl
theorem mw_147 : Cond.selects RX0 yX0_forget yX0_forget ∈ gT := gT_in (inT1 (List.mem_of_getElem? (i := 234) rfl)) rfl
theorem mw_148 : Cond.code yX0_forget cX0_forget 1 none ∈ gT := gT_in (inT1 (List.mem_of_getElem? (i := 235) rfl)) rfl
theorem mw_149 : Cond.methodLink RX0 42 yJ7_fill_53178 ∈ gT := gT_in (inT1 (List.mem_of_getElem? (i := 236) rfl)) rfl
theorem mw_150 : Cond.methodLink RL 31 yX3_faultAt ∈ gT := gT_in (inT1 (List.mem_of_getElem? (i := 237) rfl)) rfl
theorem mw_151 : Cond.instanceMethod yX3_faultAt ∈ gT := gT_in (inT1 (List.mem_of_getElem? (i := 238) rfl)) rfl
theorem mw_152 : Cond.selects RX3 yX3_faultAt yX3_faultAt ∈ gT := gT_in (inT1 (List.mem_of_getElem? (i := 239) rfl)) rfl
theorem mw_153 : Cond.code yX3_faultAt cX3_faultAt 2 (some .int) ∈ gT := gT_in (inT2 (List.mem_of_getElem? (i := 0) rfl)) rfl
theorem mw_154 : Cond.methodLink RL 35 yX3_cost ∈ gT := gT_in (inT2 (List.mem_of_getElem? (i := 1) rfl)) rfl
theorem mw_155 : Cond.instanceMethod yX3_cost ∈ gT := gT_in (inT2 (List.mem_of_getElem? (i := 2) rfl)) rfl
theorem mw_156 : Cond.selects RX3 yX3_cost yX3_cost ∈ gT := gT_in (inT2 (List.mem_of_getElem? (i := 3) rfl)) rfl
theorem mw_157 : Cond.code yX3_cost cX3_cost 2 (some .int) ∈ gT := gT_in (inT2 (List.mem_of_getElem? (i := 4) rfl)) rfl
theorem mw_158 : Cond.methodLink RX3 80 yX3_priceOfMake ∈ gT := gT_in (inT2 (List.mem_of_getElem? (i := 5) rfl)) rfl
theorem mw_159 : Cond.instanceMethod yX3_priceOfMake ∈ gT := gT_in (inT2 (List.mem_of_getElem? (i := 7) rfl)) rfl
theorem mw_160 : Cond.code yX3_priceOfMake cX3_priceOfMake 4 (some .int) ∈ gT := gT_in (inT2 (List.mem_of_getElem? (i := 8) rfl)) rfl
theorem mw_161 : Cond.methodLink RX3 170 yX1_priceBesideColumns ∈ gT := gT_in (inT2 (List.mem_of_getElem? (i := 9) rfl)) rfl
theorem mw_162 : Cond.instanceMethod yX1_priceBesideColumns ∈ gT := gT_in (inT2 (List.mem_of_getElem? (i := 10) rfl)) rfl
theorem mw_163 : Cond.selects RX1 yX1_priceBesideColumns yX1_priceBesideColumns ∈ gT := gT_in (inT2 (List.mem_of_getElem? (i := 11) rfl)) rfl
theorem mw_164 : Cond.code yX1_priceBesideColumns cX1_priceBesideColumns 3 (some .int) ∈ gT := gT_in (inT2 (List.mem_of_getElem? (i := 12) rfl)) rfl
theorem mw_165 : Cond.methodLink RX1 106 yX1_width ∈ gT := gT_in (inT2 (List.mem_of_getElem? (i := 13) rfl)) rfl
theorem mw_166 : Cond.instanceMethod yX1_width ∈ gT := gT_in (inT2 (List.mem_of_getElem? (i := 14) rfl)) rfl
theorem mw_167 : Cond.selects RX1 yX1_width yX1_width ∈ gT := gT_in (inT2 (List.mem_of_getElem? (i := 15) rfl)) rfl
theorem mw_168 : Cond.code yX1_width cX1_width 1 (some .int) ∈ gT := gT_in (inT2 (List.mem_of_getElem? (i := 16) rfl)) rfl
theorem mw_169 : Cond.methodLink RX1 109 yX1_bytesOf ∈ gT := gT_in (inT2 (List.mem_of_getElem? (i := 17) rfl)) rfl
theorem mw_170 : Cond.instanceMethod yX1_bytesOf ∈ gT := gT_in (inT2 (List.mem_of_getElem? (i := 19) rfl)) rfl
theorem mw_171 : Cond.code yX1_bytesOf cX1_bytesOf 2 (some .int) ∈ gT := gT_in (inT2 (List.mem_of_getElem? (i := 20) rfl)) rfl
theorem mw_172 : Cond.methodLink RX1 85 yX1_isOdd ∈ gT := gT_in (inT2 (List.mem_of_getElem? (i := 21) rfl)) rfl
theorem mw_173 : Cond.instanceMethod yX1_isOdd ∈ gT := gT_in (inT2 (List.mem_of_getElem? (i := 22) rfl)) rfl
theorem mw_174 : Cond.selects RX1 yX1_isOdd yX1_isOdd ∈ gT := gT_in (inT2 (List.mem_of_getElem? (i := 23) rfl)) rfl
theorem mw_175 : Cond.code yX1_isOdd cX1_isOdd 2 (some .boolean) ∈ gT := gT_in (inT2 (List.mem_of_getElem? (i := 24) rfl)) rfl
theorem mw_176 : Cond.methodLink RX3 87 yX1_width ∈ gT := gT_in (inT2 (List.mem_of_getElem? (i := 25) rfl)) rfl
theorem mw_177 : Cond.methodLink RX3 167 yX0_choose ∈ gT := gT_in (inT2 (List.mem_of_getElem? (i := 26) rfl)) rfl
theorem mw_178 : Cond.instanceMethod yX0_choose ∈ gT := gT_in (inT2 (List.mem_of_getElem? (i := 27) rfl)) rfl
theorem mw_179 : Cond.selects RX0 yX0_choose yX0_choose ∈ gT := gT_in (inT2 (List.mem_of_getElem? (i := 28) rfl)) rfl
theorem mw_180 : Cond.code yX0_choose cX0_choose 5 none ∈ gT := gT_in (inT2 (List.mem_of_getElem? (i := 29) rfl)) rfl
theorem mw_181 : Cond.methodLink RX0 48 yX0_survey ∈ gT := gT_in (inT2 (List.mem_of_getElem? (i := 30) rfl)) rfl
theorem mw_182 : Cond.instanceMethod yX0_survey ∈ gT := gT_in (inT2 (List.mem_of_getElem? (i := 31) rfl)) rfl
theorem mw_183 : Cond.selects RX0 yX0_survey yX0_survey ∈ gT := gT_in (inT2 (List.mem_of_getElem? (i := 32) rfl)) rfl
theorem mw_184 : Cond.code yX0_survey cX0_survey 5 none ∈ gT := gT_in (inT2 (List.mem_of_getElem? (i := 33) rfl)) rfl
theorem mw_185 : Cond.methodLink RX0 70 yX1_isInColumns ∈ gT := gT_in (inT2 (List.mem_of_getElem? (i := 34) rfl)) rfl
theorem mw_186 : Cond.instanceMethod yX1_isInColumns ∈ gT := gT_in (inT2 (List.mem_of_getElem? (i := 35) rfl)) rfl
theorem mw_187 : Cond.selects RX1 yX1_isInColumns yX1_isInColumns ∈ gT := gT_in (inT2 (List.mem_of_getElem? (i := 36) rfl)) rfl
theorem mw_188 : Cond.code yX1_isInColumns cX1_isInColumns 2 (some .boolean) ∈ gT := gT_in (inT2 (List.mem_of_getElem? (i := 37) rfl)) rfl
theorem mw_189 : Cond.methodLink RX0 74 yX1_cellIn ∈ gT := gT_in (inT2 (List.mem_of_getElem? (i := 38) rfl)) rfl
theorem mw_190 : Cond.instanceMethod yX1_cellIn ∈ gT := gT_in (inT2 (List.mem_of_getElem? (i := 39) rfl)) rfl
theorem mw_191 : Cond.selects RX1 yX1_cellIn yX1_cellIn ∈ gT := gT_in (inT2 (List.mem_of_getElem? (i := 40) rfl)) rfl
theorem mw_192 : Cond.code yX1_cellIn cX1_cellIn 3 (some .int) ∈ gT := gT_in (inT2 (List.mem_of_getElem? (i := 41) rfl)) rfl
theorem mw_193 : Cond.methodLink RX0 78 yX0_isMissing ∈ gT := gT_in (inT2 (List.mem_of_getElem? (i := 42) rfl)) rfl
theorem mw_194 : Cond.instanceMethod yX0_isMissing ∈ gT := gT_in (inT2 (List.mem_of_getElem? (i := 44) rfl)) rfl
theorem mw_195 : Cond.code yX0_isMissing cX0_isMissing 3 (some .boolean) ∈ gT := gT_in (inT2 (List.mem_of_getElem? (i := 45) rfl)) rfl
theorem mw_196 : Cond.methodLink RX0 88 yX1_isWord ∈ gT := gT_in (inT2 (List.mem_of_getElem? (i := 47) rfl)) rfl
theorem mw_197 : Cond.instanceMethod yX1_isWord ∈ gT := gT_in (inT2 (List.mem_of_getElem? (i := 48) rfl)) rfl
theorem mw_198 : Cond.selects RX1 yX1_isWord yX1_isWord ∈ gT := gT_in (inT2 (List.mem_of_getElem? (i := 49) rfl)) rfl
theorem mw_199 : Cond.code yX1_isWord cX1_isWord 5 (some .boolean) ∈ gT := gT_in (inT2 (List.mem_of_getElem? (i := 50) rfl)) rfl
theorem mw_200 : Cond.methodLink RX1 89 yJ0_length_8abf5 ∈ gT := gT_in (inT2 (List.mem_of_getElem? (i := 51) rfl)) rfl
theorem mw_201 : Cond.instanceMethod yJ0_length_8abf5 ∈ gT := gT_in (inT2 (List.mem_of_getElem? (i := 52) rfl)) rfl
theorem mw_202 : Cond.selects RJ0 yJ0_length_8abf5 yJ0_length_8abf5 ∈ gT := gT_in (inT2 (List.mem_of_getElem? (i := 53) rfl)) rfl
theorem mw_203 : Cond.code yJ0_length_8abf5 cJ0_length_8abf5 1 (some .int) ∈ gT := gT_in (inT2 (List.mem_of_getElem? (i := 54) rfl)) rfl
theorem mw_204 : Cond.methodLink RJ0 335 yJ0_coder_7d493 ∈ gT := gT_in (inT2 (List.mem_of_getElem? (i := 55) rfl)) rfl
theorem mw_205 : Cond.instanceMethod yJ0_coder_7d493 ∈ gT := gT_in (inT2 (List.mem_of_getElem? (i := 56) rfl)) rfl
theorem mw_206 : Cond.selects RJ0 yJ0_coder_7d493 yJ0_coder_7d493 ∈ gT := gT_in (inT2 (List.mem_of_getElem? (i := 57) rfl)) rfl
theorem mw_207 : Cond.code yJ0_coder_7d493 cJ0_coder_7d493 1 (some .byte) ∈ gT := gT_in (inT2 (List.mem_of_getElem? (i := 58) rfl)) rfl
theorem mw_208 : Cond.fieldLink RJ0 38 "java/lang/String" "COMPACT_STRINGS" "Z" ∈ gT := gT_in (inT2 (List.mem_of_getElem? (i := 59) rfl)) rfl
theorem mw_209 : Cond.methodLink RX1 95 yJ0_charAt_5068e ∈ gT := gT_in (inT2 (List.mem_of_getElem? (i := 61) rfl)) rfl
theorem mw_210 : Cond.instanceMethod yJ0_charAt_5068e ∈ gT := gT_in (inT2 (List.mem_of_getElem? (i := 62) rfl)) rfl
theorem mw_211 : Cond.selects RJ0 yJ0_charAt_5068e yJ0_charAt_5068e ∈ gT := gT_in (inT2 (List.mem_of_getElem? (i := 63) rfl)) rfl
theorem mw_212 : Cond.code yJ0_charAt_5068e cJ0_charAt_5068e 2 (some .char) ∈ gT := gT_in (inT2 (List.mem_of_getElem? (i := 64) rfl)) rfl
theorem mw_213 : Cond.methodLink RJ0 492 yJ0_isLatin1_aae02 ∈ gT := gT_in (inT2 (List.mem_of_getElem? (i := 65) rfl)) rfl
theorem mw_214 : Cond.instanceMethod yJ0_isLatin1_aae02 ∈ gT := gT_in (inT2 (List.mem_of_getElem? (i := 66) rfl)) rfl
theorem mw_215 : Cond.selects RJ0 yJ0_isLatin1_aae02 yJ0_isLatin1_aae02 ∈ gT := gT_in (inT2 (List.mem_of_getElem? (i := 67) rfl)) rfl
theorem mw_216 : Cond.code yJ0_isLatin1_aae02 cJ0_isLatin1_aae02 1 (some .boolean) ∈ gT := gT_in (inT2 (List.mem_of_getElem? (i := 68) rfl)) rfl
theorem mw_217 : Cond.methodLink RJ0 495 yJ1_charAt_3b067 ∈ gT := gT_in (inT2 (List.mem_of_getElem? (i := 69) rfl)) rfl
theorem mw_218 : Cond.static yJ1_charAt_3b067 ∈ gT := gT_in (inT2 (List.mem_of_getElem? (i := 70) rfl)) rfl
theorem mw_219 : Cond.code yJ1_charAt_3b067 cJ1_charAt_3b067 2 (some .char) ∈ gT := gT_in (inT2 (List.mem_of_getElem? (i := 71) rfl)) rfl
theorem mw_220 : Cond.methodLink RJ1 9 yJ0_checkIndex_df160 ∈ gT := gT_in (inT2 (List.mem_of_getElem? (i := 72) rfl)) rfl
theorem mw_221 : Cond.static yJ0_checkIndex_df160 ∈ gT := gT_in (inT2 (List.mem_of_getElem? (i := 73) rfl)) rfl
theorem mw_222 : Cond.code yJ0_checkIndex_df160 cJ0_checkIndex_df160 2 none ∈ gT := gT_in (inT2 (List.mem_of_getElem? (i := 74) rfl)) rfl
theorem mw_223 : Cond.fieldLink RJ0 1053 "jdk/internal/util/Preconditions" "SIOOBE_FORMATTER" "Ljava/util/function/BiFunction;" ∈ gT := gT_in (inT2 (List.mem_of_getElem? (i := 75) rfl)) rfl
theorem mw_224 : Cond.methodLink RJ0 1059 yJ3_checkIndex_8e157 ∈ gT := gT_in (inT2 (List.mem_of_getElem? (i := 77) rfl)) rfl
theorem mw_225 : Cond.static yJ3_checkIndex_8e157 ∈ gT := gT_in (inT2 (List.mem_of_getElem? (i := 78) rfl)) rfl
theorem mw_226 : Cond.code yJ3_checkIndex_8e157 cJ3_checkIndex_8e157 3 (some .int) ∈ gT := gT_in (inT2 (List.mem_of_getElem? (i := 79) rfl)) rfl
theorem mw_227 : Cond.methodLink RJ0 498 yJ2_charAt_3b067 ∈ gT := gT_in (inT2 (List.mem_of_getElem? (i := 80) rfl)) rfl
theorem mw_228 : Cond.static yJ2_charAt_3b067 ∈ gT := gT_in (inT2 (List.mem_of_getElem? (i := 81) rfl)) rfl
theorem mw_229 : Cond.code yJ2_charAt_3b067 cJ2_charAt_3b067 2 (some .char) ∈ gT := gT_in (inT2 (List.mem_of_getElem? (i := 82) rfl)) rfl
theorem mw_230 : Cond.methodLink RJ2 67 yJ2_checkIndex_2214a ∈ gT := gT_in (inT2 (List.mem_of_getElem? (i := 83) rfl)) rfl
theorem mw_231 : Cond.static yJ2_checkIndex_2214a ∈ gT := gT_in (inT2 (List.mem_of_getElem? (i := 84) rfl)) rfl
theorem mw_232 : Cond.code yJ2_checkIndex_2214a cJ2_checkIndex_2214a 2 none ∈ gT := gT_in (inT2 (List.mem_of_getElem? (i := 85) rfl)) rfl
theorem mw_233 : Cond.methodLink RJ2 48 yJ2_length_9d52b ∈ gT := gT_in (inT2 (List.mem_of_getElem? (i := 86) rfl)) rfl
theorem mw_234 : Cond.static yJ2_length_9d52b ∈ gT := gT_in (inT2 (List.mem_of_getElem? (i := 87) rfl)) rfl
theorem mw_235 : Cond.code yJ2_length_9d52b cJ2_length_9d52b 1 (some .int) ∈ gT := gT_in (inT2 (List.mem_of_getElem? (i := 88) rfl)) rfl
theorem mw_236 : Cond.methodLink RJ2 414 yJ0_checkIndex_df160 ∈ gT := gT_in (inT2 (List.mem_of_getElem? (i := 89) rfl)) rfl
theorem mw_237 : Cond.methodLink RJ2 71 yJ2_getChar_3b067 ∈ gT := gT_in (inT2 (List.mem_of_getElem? (i := 90) rfl)) rfl
theorem mw_238 : Cond.static yJ2_getChar_3b067 ∈ gT := gT_in (inT2 (List.mem_of_getElem? (i := 91) rfl)) rfl
theorem mw_239 : Cond.code yJ2_getChar_3b067 cJ2_getChar_3b067 2 (some .char) ∈ gT := gT_in (inT2 (List.mem_of_getElem? (i := 92) rfl)) rfl
theorem mw_240 : Cond.fieldLink RJ2 44 "java/lang/StringUTF16" "$assertionsDisabled" "Z" ∈ gT := gT_in (inT2 (List.mem_of_getElem? (i := 93) rfl)) rfl
theorem mw_241 : Cond.fieldLink RJ2 59 "java/lang/StringUTF16" "HI_BYTE_SHIFT" "I" ∈ gT := gT_in (inT2 (List.mem_of_getElem? (i := 95) rfl)) rfl
theorem mw_242 : Cond.fieldLink RJ2 63 "java/lang/StringUTF16" "LO_BYTE_SHIFT" "I" ∈ gT := gT_in (inT2 (List.mem_of_getElem? (i := 97) rfl)) rfl
theorem mw_243 : Cond.methodLink RX0 82 yX2_prepare ∈ gT := gT_in (inT2 (List.mem_of_getElem? (i := 102) rfl)) rfl
theorem mw_244 : Cond.instanceMethod yX2_prepare ∈ gT := gT_in (inT2 (List.mem_of_getElem? (i := 103) rfl)) rfl
theorem mw_245 : Cond.selects RX2 yX2_prepare yX2_prepare ∈ gT := gT_in (inT2 (List.mem_of_getElem? (i := 104) rfl)) rfl
theorem mw_246 : Cond.code yX2_prepare cX2_prepare 3 none ∈ gT := gT_in (inT2 (List.mem_of_getElem? (i := 105) rfl)) rfl
theorem mw_247 : Cond.methodLink RX0 52 yX0_price ∈ gT := gT_in (inT2 (List.mem_of_getElem? (i := 106) rfl)) rfl
theorem mw_248 : Cond.instanceMethod yX0_price ∈ gT := gT_in (inT2 (List.mem_of_getElem? (i := 107) rfl)) rfl
theorem mw_249 : Cond.selects RX0 yX0_price yX0_price ∈ gT := gT_in (inT2 (List.mem_of_getElem? (i := 108) rfl)) rfl
theorem mw_250 : Cond.code yX0_price cX0_price 7 (some .int) ∈ gT := gT_in (inT2 (List.mem_of_getElem? (i := 109) rfl)) rfl
theorem mw_251 : Cond.methodLink RX0 98 yX2_isNumber ∈ gT := gT_in (inT2 (List.mem_of_getElem? (i := 110) rfl)) rfl
theorem mw_252 : Cond.static yX2_isNumber ∈ gT := gT_in (inT2 (List.mem_of_getElem? (i := 111) rfl)) rfl
theorem mw_253 : Cond.code yX2_isNumber cX2_isNumber 1 (some .boolean) ∈ gT := gT_in (inT2 (List.mem_of_getElem? (i := 112) rfl)) rfl
theorem mw_254 : Cond.methodLink RX0 101 yX2_priceOfForm ∈ gT := gT_in (inT2 (List.mem_of_getElem? (i := 113) rfl)) rfl
theorem mw_255 : Cond.instanceMethod yX2_priceOfForm ∈ gT := gT_in (inT2 (List.mem_of_getElem? (i := 114) rfl)) rfl
theorem mw_256 : Cond.selects RX2 yX2_priceOfForm yX2_priceOfForm ∈ gT := gT_in (inT2 (List.mem_of_getElem? (i := 115) rfl)) rfl
theorem mw_257 : Cond.code yX2_priceOfForm cX2_priceOfForm 2 (some .int) ∈ gT := gT_in (inT2 (List.mem_of_getElem? (i := 116) rfl)) rfl
theorem mw_258 : Cond.methodLink RX2 84 yX1_lengthOf ∈ gT := gT_in (inT2 (List.mem_of_getElem? (i := 117) rfl)) rfl
theorem mw_259 : Cond.instanceMethod yX1_lengthOf ∈ gT := gT_in (inT2 (List.mem_of_getElem? (i := 118) rfl)) rfl
theorem mw_260 : Cond.selects RX1 yX1_lengthOf yX1_lengthOf ∈ gT := gT_in (inT2 (List.mem_of_getElem? (i := 119) rfl)) rfl
theorem mw_261 : Cond.code yX1_lengthOf cX1_lengthOf 2 (some .int) ∈ gT := gT_in (inT2 (List.mem_of_getElem? (i := 120) rfl)) rfl
theorem mw_262 : Cond.methodLink RX0 105 yX2_tells ∈ gT := gT_in (inT2 (List.mem_of_getElem? (i := 121) rfl)) rfl
theorem mw_263 : Cond.instanceMethod yX2_tells ∈ gT := gT_in (inT2 (List.mem_of_getElem? (i := 122) rfl)) rfl
theorem mw_264 : Cond.selects RX2 yX2_tells yX2_tells ∈ gT := gT_in (inT2 (List.mem_of_getElem? (i := 123) rfl)) rfl
theorem mw_265 : Cond.code yX2_tells cX2_tells 3 (some .boolean) ∈ gT := gT_in (inT2 (List.mem_of_getElem? (i := 124) rfl)) rfl
theorem mw_266 : Cond.methodLink RX2 29 yX2_tellsFlag ∈ gT := gT_in (inT2 (List.mem_of_getElem? (i := 125) rfl)) rfl
theorem mw_267 : Cond.instanceMethod yX2_tellsFlag ∈ gT := gT_in (inT2 (List.mem_of_getElem? (i := 127) rfl)) rfl
theorem mw_268 : Cond.code yX2_tellsFlag cX2_tellsFlag 3 (some .boolean) ∈ gT := gT_in (inT2 (List.mem_of_getElem? (i := 128) rfl)) rfl
theorem mw_269 : Cond.methodLink RX2 43 yX2_yesOf ∈ gT := gT_in (inT2 (List.mem_of_getElem? (i := 129) rfl)) rfl
theorem mw_270 : Cond.static yX2_yesOf ∈ gT := gT_in (inT2 (List.mem_of_getElem? (i := 130) rfl)) rfl
theorem mw_271 : Cond.code yX2_yesOf cX2_yesOf 1 (some (.object "java/lang/String")) ∈ gT := gT_in (inT2 (List.mem_of_getElem? (i := 131) rfl)) rfl
theorem mw_272 : Cond.methodLink RX2 47 yX1_isWord ∈ gT := gT_in (inT2 (List.mem_of_getElem? (i := 138) rfl)) rfl
theorem mw_273 : Cond.methodLink RX2 53 yX2_noOf ∈ gT := gT_in (inT2 (List.mem_of_getElem? (i := 139) rfl)) rfl
theorem mw_274 : Cond.static yX2_noOf ∈ gT := gT_in (inT2 (List.mem_of_getElem? (i := 140) rfl)) rfl
theorem mw_275 : Cond.code yX2_noOf cX2_noOf 1 (some (.object "java/lang/String")) ∈ gT := gT_in (inT2 (List.mem_of_getElem? (i := 141) rfl)) rfl
theorem mw_276 : Cond.methodLink RX2 33 yX2_tellsNumber ∈ gT := gT_in (inT2 (List.mem_of_getElem? (i := 148) rfl)) rfl
theorem mw_277 : Cond.instanceMethod yX2_tellsNumber ∈ gT := gT_in (inT2 (List.mem_of_getElem? (i := 150) rfl)) rfl
theorem mw_278 : Cond.code yX2_tellsNumber cX2_tellsNumber 12 (some .boolean) ∈ gT := gT_in (inT2 (List.mem_of_getElem? (i := 151) rfl)) rfl
theorem mw_279 : Cond.methodLink RX2 80 yX2_decimalsOf ∈ gT := gT_in (inT2 (List.mem_of_getElem? (i := 152) rfl)) rfl
theorem mw_280 : Cond.static yX2_decimalsOf ∈ gT := gT_in (inT2 (List.mem_of_getElem? (i := 153) rfl)) rfl
theorem mw_281 : Cond.code yX2_decimalsOf cX2_decimalsOf 1 (some .int) ∈ gT := gT_in (inT2 (List.mem_of_getElem? (i := 154) rfl)) rfl
theorem mw_282 : Cond.methodLink RX2 87 yX1_byteIn ∈ gT := gT_in (inT2 (List.mem_of_getElem? (i := 155) rfl)) rfl
theorem mw_283 : Cond.instanceMethod yX1_byteIn ∈ gT := gT_in (inT2 (List.mem_of_getElem? (i := 156) rfl)) rfl
theorem mw_284 : Cond.selects RX1 yX1_byteIn yX1_byteIn ∈ gT := gT_in (inT2 (List.mem_of_getElem? (i := 157) rfl)) rfl
theorem mw_285 : Cond.code yX1_byteIn cX1_byteIn 3 (some .int) ∈ gT := gT_in (inT2 (List.mem_of_getElem? (i := 158) rfl)) rfl
theorem mw_286 : Cond.methodLink RX2 91 yX2_pointOf ∈ gT := gT_in (inT2 (List.mem_of_getElem? (i := 159) rfl)) rfl
theorem mw_287 : Cond.static yX2_pointOf ∈ gT := gT_in (inT2 (List.mem_of_getElem? (i := 160) rfl)) rfl
theorem mw_288 : Cond.code yX2_pointOf cX2_pointOf 1 (some .int) ∈ gT := gT_in (inT2 (List.mem_of_getElem? (i := 161) rfl)) rfl
theorem mw_289 : Cond.methodLink RX2 94 yX2_thousandsOf ∈ gT := gT_in (inT2 (List.mem_of_getElem? (i := 162) rfl)) rfl
theorem mw_290 : Cond.static yX2_thousandsOf ∈ gT := gT_in (inT2 (List.mem_of_getElem? (i := 163) rfl)) rfl
theorem mw_291 : Cond.code yX2_thousandsOf cX2_thousandsOf 2 (some .int) ∈ gT := gT_in (inT2 (List.mem_of_getElem? (i := 164) rfl)) rfl
theorem mw_292 : Cond.methodLink RX2 97 yX2_signDue ∈ gT := gT_in (inT2 (List.mem_of_getElem? (i := 165) rfl)) rfl
theorem mw_293 : Cond.static yX2_signDue ∈ gT := gT_in (inT2 (List.mem_of_getElem? (i := 166) rfl)) rfl
theorem mw_294 : Cond.code yX2_signDue cX2_signDue 3 (some .int) ∈ gT := gT_in (inT2 (List.mem_of_getElem? (i := 167) rfl)) rfl
theorem mw_295 : Cond.methodLink RX2 101 yX2_bigOf ∈ gT := gT_in (inT2 (List.mem_of_getElem? (i := 168) rfl)) rfl
theorem mw_296 : Cond.static yX2_bigOf ∈ gT := gT_in (inT2 (List.mem_of_getElem? (i := 169) rfl)) rfl
theorem mw_297 : Cond.code yX2_bigOf cX2_bigOf 3 (some .int) ∈ gT := gT_in (inT2 (List.mem_of_getElem? (i := 170) rfl)) rfl
theorem mw_298 : Cond.methodLink RX2 36 yX2_tellsDay ∈ gT := gT_in (inT2 (List.mem_of_getElem? (i := 171) rfl)) rfl
theorem mw_299 : Cond.instanceMethod yX2_tellsDay ∈ gT := gT_in (inT2 (List.mem_of_getElem? (i := 173) rfl)) rfl
theorem mw_300 : Cond.code yX2_tellsDay cX2_tellsDay 9 (some .boolean) ∈ gT := gT_in (inT2 (List.mem_of_getElem? (i := 174) rfl)) rfl
theorem mw_301 : Cond.fieldLink RX2 104 "ColumnReader$Forms" "DAY_MARKS" "[C" ∈ gT := gT_in (inT2 (List.mem_of_getElem? (i := 175) rfl)) rfl
theorem mw_302 : Cond.methodLink RX2 108 yX1_numberIn ∈ gT := gT_in (inT2 (List.mem_of_getElem? (i := 177) rfl)) rfl
theorem mw_303 : Cond.instanceMethod yX1_numberIn ∈ gT := gT_in (inT2 (List.mem_of_getElem? (i := 178) rfl)) rfl
theorem mw_304 : Cond.selects RX1 yX1_numberIn yX1_numberIn ∈ gT := gT_in (inT2 (List.mem_of_getElem? (i := 179) rfl)) rfl
theorem mw_305 : Cond.code yX1_numberIn cX1_numberIn 7 (some .int) ∈ gT := gT_in (inT2 (List.mem_of_getElem? (i := 180) rfl)) rfl
theorem mw_306 : Cond.methodLink RX2 111 yX2_daysOf ∈ gT := gT_in (inT2 (List.mem_of_getElem? (i := 181) rfl)) rfl
theorem mw_307 : Cond.static yX2_daysOf ∈ gT := gT_in (inT2 (List.mem_of_getElem? (i := 182) rfl)) rfl
theorem mw_308 : Cond.code yX2_daysOf cX2_daysOf 3 (some .int) ∈ gT := gT_in (inT2 (List.mem_of_getElem? (i := 183) rfl)) rfl
theorem mw_309 : Cond.fieldLink RX2 114 "ColumnReader$Forms" "MONTH_DAYS" "[I" ∈ gT := gT_in (inT2 (List.mem_of_getElem? (i := 184) rfl)) rfl
theorem mw_310 : Cond.methodLink RX2 39 yX2_tellsCode ∈ gT := gT_in (inT2 (List.mem_of_getElem? (i := 186) rfl)) rfl
theorem mw_311 : Cond.instanceMethod yX2_tellsCode ∈ gT := gT_in (inT2 (List.mem_of_getElem? (i := 188) rfl)) rfl
theorem mw_312 : Cond.code yX2_tellsCode cX2_tellsCode 4 (some .boolean) ∈ gT := gT_in (inT2 (List.mem_of_getElem? (i := 189) rfl)) rfl
theorem mw_313 : Cond.methodLink RX2 118 yX2_sortOf ∈ gT := gT_in (inT2 (List.mem_of_getElem? (i := 190) rfl)) rfl
theorem mw_314 : Cond.static yX2_sortOf ∈ gT := gT_in (inT2 (List.mem_of_getElem? (i := 191) rfl)) rfl
theorem mw_315 : Cond.code yX2_sortOf cX2_sortOf 1 (some .int) ∈ gT := gT_in (inT2 (List.mem_of_getElem? (i := 192) rfl)) rfl
theorem mw_316 : Cond.methodLink RX0 108 yX2_priceOfCell ∈ gT := gT_in (inT2 (List.mem_of_getElem? (i := 193) rfl)) rfl
theorem mw_317 : Cond.instanceMethod yX2_priceOfCell ∈ gT := gT_in (inT2 (List.mem_of_getElem? (i := 194) rfl)) rfl
theorem mw_318 : Cond.selects RX2 yX2_priceOfCell yX2_priceOfCell ∈ gT := gT_in (inT2 (List.mem_of_getElem? (i := 195) rfl)) rfl
theorem mw_319 : Cond.code yX2_priceOfCell cX2_priceOfCell 3 (some .int) ∈ gT := gT_in (inT2 (List.mem_of_getElem? (i := 196) rfl)) rfl
theorem mw_320 : Cond.methodLink RX2 121 yX2_priceOfCode ∈ gT := gT_in (inT2 (List.mem_of_getElem? (i := 197) rfl)) rfl
theorem mw_321 : Cond.instanceMethod yX2_priceOfCode ∈ gT := gT_in (inT2 (List.mem_of_getElem? (i := 199) rfl)) rfl
theorem mw_322 : Cond.code yX2_priceOfCode cX2_priceOfCode 5 (some .int) ∈ gT := gT_in (inT2 (List.mem_of_getElem? (i := 200) rfl)) rfl
theorem mw_323 : Cond.methodLink RX0 56 yX0_weigh ∈ gT := gT_in (inT2 (List.mem_of_getElem? (i := 201) rfl)) rfl
theorem mw_324 : Cond.instanceMethod yX0_weigh ∈ gT := gT_in (inT2 (List.mem_of_getElem? (i := 203) rfl)) rfl
theorem mw_325 : Cond.code yX0_weigh cX0_weigh 7 none ∈ gT := gT_in (inT2 (List.mem_of_getElem? (i := 204) rfl)) rfl
theorem mw_326 : Cond.arrayClass .byte ∈ gT := gT_in (inT2 (List.mem_of_getElem? (i := 205) rfl)) rfl
theorem mw_327 : Cond.methodLink RL 39 yX3_best ∈ gT := gT_in (inT2 (List.mem_of_getElem? (i := 206) rfl)) rfl
theorem mw_328 : Cond.instanceMethod yX3_best ∈ gT := gT_in (inT2 (List.mem_of_getElem? (i := 207) rfl)) rfl
theorem mw_329 : Cond.selects RX3 yX3_best yX3_best ∈ gT := gT_in (inT2 (List.mem_of_getElem? (i := 208) rfl)) rfl
theorem mw_330 : Cond.code yX3_best cX3_best 5 (some .int) ∈ gT := gT_in (inT2 (List.mem_of_getElem? (i := 209) rfl)) rfl
theorem mw_331 : Cond.methodLink RL 44 yX3_use ∈ gT := gT_in (inT2 (List.mem_of_getElem? (i := 210) rfl)) rfl
theorem mw_332 : Cond.instanceMethod yX3_use ∈ gT := gT_in (inT2 (List.mem_of_getElem? (i := 211) rfl)) rfl
theorem mw_333 : Cond.selects RX3 yX3_use yX3_use ∈ gT := gT_in (inT2 (List.mem_of_getElem? (i := 212) rfl)) rfl
theorem mw_334 : Cond.code yX3_use cX3_use 2 (some .boolean) ∈ gT := gT_in (inT2 (List.mem_of_getElem? (i := 213) rfl)) rfl
theorem mw_335 : Cond.methodLink RL 49 yX3_about ∈ gT := gT_in (inT2 (List.mem_of_getElem? (i := 214) rfl)) rfl
theorem mw_336 : Cond.instanceMethod yX3_about ∈ gT := gT_in (inT2 (List.mem_of_getElem? (i := 215) rfl)) rfl
theorem mw_337 : Cond.selects RX3 yX3_about yX3_about ∈ gT := gT_in (inT2 (List.mem_of_getElem? (i := 216) rfl)) rfl
theorem mw_338 : Cond.code yX3_about cX3_about 2 (some .int) ∈ gT := gT_in (inT2 (List.mem_of_getElem? (i := 217) rfl)) rfl
theorem mw_339 : Cond.methodLink RX3 91 yX1_oddRows ∈ gT := gT_in (inT2 (List.mem_of_getElem? (i := 218) rfl)) rfl
theorem mw_340 : Cond.instanceMethod yX1_oddRows ∈ gT := gT_in (inT2 (List.mem_of_getElem? (i := 219) rfl)) rfl
theorem mw_341 : Cond.selects RX1 yX1_oddRows yX1_oddRows ∈ gT := gT_in (inT2 (List.mem_of_getElem? (i := 220) rfl)) rfl
theorem mw_342 : Cond.code yX1_oddRows cX1_oddRows 3 (some .int) ∈ gT := gT_in (inT2 (List.mem_of_getElem? (i := 221) rfl)) rfl
theorem mw_343 : Cond.methodLink RL 53 yX3_odd ∈ gT := gT_in (inT2 (List.mem_of_getElem? (i := 222) rfl)) rfl
theorem mw_344 : Cond.instanceMethod yX3_odd ∈ gT := gT_in (inT2 (List.mem_of_getElem? (i := 223) rfl)) rfl
theorem mw_345 : Cond.selects RX3 yX3_odd yX3_odd ∈ gT := gT_in (inT2 (List.mem_of_getElem? (i := 224) rfl)) rfl
theorem mw_346 : Cond.code yX3_odd cX3_odd 4 (some .int) ∈ gT := gT_in (inT2 (List.mem_of_getElem? (i := 225) rfl)) rfl
theorem mw_347 : Cond.methodLink RX3 94 yX1_isOdd ∈ gT := gT_in (inT2 (List.mem_of_getElem? (i := 226) rfl)) rfl
theorem mw_348 : Cond.methodLink RL 57 yX3_breadth ∈ gT := gT_in (inT2 (List.mem_of_getElem? (i := 227) rfl)) rfl
theorem mw_349 : Cond.instanceMethod yX3_breadth ∈ gT := gT_in (inT2 (List.mem_of_getElem? (i := 228) rfl)) rfl
theorem mw_350 : Cond.selects RX3 yX3_breadth yX3_breadth ∈ gT := gT_in (inT2 (List.mem_of_getElem? (i := 229) rfl)) rfl
theorem mw_351 : Cond.code yX3_breadth cX3_breadth 2 (some .int) ∈ gT := gT_in (inT2 (List.mem_of_getElem? (i := 230) rfl)) rfl
theorem mw_352 : Cond.methodLink RX3 97 yX1_cellsOf ∈ gT := gT_in (inT2 (List.mem_of_getElem? (i := 231) rfl)) rfl
theorem mw_353 : Cond.instanceMethod yX1_cellsOf ∈ gT := gT_in (inT2 (List.mem_of_getElem? (i := 232) rfl)) rfl
theorem mw_354 : Cond.selects RX1 yX1_cellsOf yX1_cellsOf ∈ gT := gT_in (inT2 (List.mem_of_getElem? (i := 233) rfl)) rfl
theorem mw_355 : Cond.code yX1_cellsOf cX1_cellsOf 2 (some .int) ∈ gT := gT_in (inT2 (List.mem_of_getElem? (i := 234) rfl)) rfl
theorem mw_356 : Cond.methodLink RL 61 yX3_size ∈ gT := gT_in (inT2 (List.mem_of_getElem? (i := 235) rfl)) rfl
theorem mw_357 : Cond.instanceMethod yX3_size ∈ gT := gT_in (inT2 (List.mem_of_getElem? (i := 236) rfl)) rfl
theorem mw_358 : Cond.selects RX3 yX3_size yX3_size ∈ gT := gT_in (inT2 (List.mem_of_getElem? (i := 237) rfl)) rfl
theorem mw_359 : Cond.code yX3_size cX3_size 3 (some .int) ∈ gT := gT_in (inT2 (List.mem_of_getElem? (i := 238) rfl)) rfl
theorem mw_360 : Cond.methodLink RX3 100 yX1_cellIn ∈ gT := gT_in (inT2 (List.mem_of_getElem? (i := 239) rfl)) rfl
theorem mw_361 : Cond.methodLink RX3 104 yX1_lengthOf ∈ gT := gT_in (inT3 (List.mem_of_getElem? (i := 0) rfl)) rfl
theorem mw_362 : Cond.methodLink RL 66 yX3_at ∈ gT := gT_in (inT3 (List.mem_of_getElem? (i := 1) rfl)) rfl
theorem mw_363 : Cond.instanceMethod yX3_at ∈ gT := gT_in (inT3 (List.mem_of_getElem? (i := 2) rfl)) rfl
theorem mw_364 : Cond.selects RX3 yX3_at yX3_at ∈ gT := gT_in (inT3 (List.mem_of_getElem? (i := 3) rfl)) rfl
theorem mw_365 : Cond.code yX3_at cX3_at 4 (some .int) ∈ gT := gT_in (inT3 (List.mem_of_getElem? (i := 4) rfl)) rfl
theorem mw_366 : Cond.methodLink RX3 107 yX1_byteIn ∈ gT := gT_in (inT3 (List.mem_of_getElem? (i := 5) rfl)) rfl
theorem mw_367 : Cond.methodLink RL 71 yX3_form ∈ gT := gT_in (inT3 (List.mem_of_getElem? (i := 6) rfl)) rfl
theorem mw_368 : Cond.instanceMethod yX3_form ∈ gT := gT_in (inT3 (List.mem_of_getElem? (i := 7) rfl)) rfl
theorem mw_369 : Cond.selects RX3 yX3_form yX3_form ∈ gT := gT_in (inT3 (List.mem_of_getElem? (i := 8) rfl)) rfl
theorem mw_370 : Cond.code yX3_form cX3_form 2 (some .int) ∈ gT := gT_in (inT3 (List.mem_of_getElem? (i := 9) rfl)) rfl
theorem mw_371 : Cond.methodLink RX3 110 yX3_hasChosen ∈ gT := gT_in (inT3 (List.mem_of_getElem? (i := 10) rfl)) rfl
theorem mw_372 : Cond.instanceMethod yX3_hasChosen ∈ gT := gT_in (inT3 (List.mem_of_getElem? (i := 12) rfl)) rfl
theorem mw_373 : Cond.code yX3_hasChosen cX3_hasChosen 2 (some .boolean) ∈ gT := gT_in (inT3 (List.mem_of_getElem? (i := 13) rfl)) rfl
theorem mw_374 : Cond.methodLink RL 75 yX3_missing ∈ gT := gT_in (inT3 (List.mem_of_getElem? (i := 14) rfl)) rfl
theorem mw_375 : Cond.instanceMethod yX3_missing ∈ gT := gT_in (inT3 (List.mem_of_getElem? (i := 15) rfl)) rfl
theorem mw_376 : Cond.selects RX3 yX3_missing yX3_missing ∈ gT := gT_in (inT3 (List.mem_of_getElem? (i := 16) rfl)) rfl
theorem mw_377 : Cond.code yX3_missing cX3_missing 2 (some .int) ∈ gT := gT_in (inT3 (List.mem_of_getElem? (i := 17) rfl)) rfl
theorem mw_378 : Cond.methodLink RL 79 yX3_lacks ∈ gT := gT_in (inT3 (List.mem_of_getElem? (i := 18) rfl)) rfl
theorem mw_379 : Cond.instanceMethod yX3_lacks ∈ gT := gT_in (inT3 (List.mem_of_getElem? (i := 19) rfl)) rfl
theorem mw_380 : Cond.selects RX3 yX3_lacks yX3_lacks ∈ gT := gT_in (inT3 (List.mem_of_getElem? (i := 20) rfl)) rfl
theorem mw_381 : Cond.code yX3_lacks cX3_lacks 2 (some .int) ∈ gT := gT_in (inT3 (List.mem_of_getElem? (i := 21) rfl)) rfl
theorem mw_382 : Cond.methodLink RX3 119 yX0_countMissing ∈ gT := gT_in (inT3 (List.mem_of_getElem? (i := 22) rfl)) rfl
theorem mw_383 : Cond.instanceMethod yX0_countMissing ∈ gT := gT_in (inT3 (List.mem_of_getElem? (i := 23) rfl)) rfl
theorem mw_384 : Cond.selects RX0 yX0_countMissing yX0_countMissing ∈ gT := gT_in (inT3 (List.mem_of_getElem? (i := 24) rfl)) rfl
theorem mw_385 : Cond.code yX0_countMissing cX0_countMissing 3 (some .int) ∈ gT := gT_in (inT3 (List.mem_of_getElem? (i := 25) rfl)) rfl
theorem mw_386 : Cond.methodLink RL 83 yX3_costOf ∈ gT := gT_in (inT3 (List.mem_of_getElem? (i := 26) rfl)) rfl
theorem mw_387 : Cond.instanceMethod yX3_costOf ∈ gT := gT_in (inT3 (List.mem_of_getElem? (i := 27) rfl)) rfl
theorem mw_388 : Cond.selects RX3 yX3_costOf yX3_costOf ∈ gT := gT_in (inT3 (List.mem_of_getElem? (i := 28) rfl)) rfl
theorem mw_389 : Cond.code yX3_costOf cX3_costOf 4 (some .int) ∈ gT := gT_in (inT3 (List.mem_of_getElem? (i := 29) rfl)) rfl
theorem mw_390 : Cond.methodLink RX3 122 yX0_isForm ∈ gT := gT_in (inT3 (List.mem_of_getElem? (i := 30) rfl)) rfl
theorem mw_391 : Cond.static yX0_isForm ∈ gT := gT_in (inT3 (List.mem_of_getElem? (i := 31) rfl)) rfl
theorem mw_392 : Cond.code yX0_isForm cX0_isForm 1 (some .boolean) ∈ gT := gT_in (inT3 (List.mem_of_getElem? (i := 32) rfl)) rfl
theorem mw_393 : Cond.methodLink RX3 125 yX0_isCode ∈ gT := gT_in (inT3 (List.mem_of_getElem? (i := 33) rfl)) rfl
theorem mw_394 : Cond.static yX0_isCode ∈ gT := gT_in (inT3 (List.mem_of_getElem? (i := 34) rfl)) rfl
theorem mw_395 : Cond.code yX0_isCode cX0_isCode 1 (some .boolean) ∈ gT := gT_in (inT3 (List.mem_of_getElem? (i := 35) rfl)) rfl
theorem mw_396 : Cond.methodLink RX3 128 yX0_survey ∈ gT := gT_in (inT3 (List.mem_of_getElem? (i := 36) rfl)) rfl
theorem mw_397 : Cond.methodLink RX3 132 yX0_price ∈ gT := gT_in (inT3 (List.mem_of_getElem? (i := 37) rfl)) rfl
theorem mw_398 : Cond.methodLink RL 87 yX3_fits ∈ gT := gT_in (inT3 (List.mem_of_getElem? (i := 38) rfl)) rfl
theorem mw_399 : Cond.instanceMethod yX3_fits ∈ gT := gT_in (inT3 (List.mem_of_getElem? (i := 39) rfl)) rfl
theorem mw_400 : Cond.selects RX3 yX3_fits yX3_fits ∈ gT := gT_in (inT3 (List.mem_of_getElem? (i := 40) rfl)) rfl
theorem mw_401 : Cond.code yX3_fits cX3_fits 2 (some .int) ∈ gT := gT_in (inT3 (List.mem_of_getElem? (i := 41) rfl)) rfl
theorem mw_402 : Cond.methodLink RX3 139 yJ6_bitCount_0f7a4 ∈ gT := gT_in (inT3 (List.mem_of_getElem? (i := 42) rfl)) rfl
theorem mw_403 : Cond.static yJ6_bitCount_0f7a4 ∈ gT := gT_in (inT3 (List.mem_of_getElem? (i := 43) rfl)) rfl
theorem mw_404 : Cond.code yJ6_bitCount_0f7a4 cJ6_bitCount_0f7a4 1 (some .int) ∈ gT := gT_in (inT3 (List.mem_of_getElem? (i := 44) rfl)) rfl
theorem mw_405 : Cond.constant RJ6 265 1431655765 ∈ gT := gT_in (inT3 (List.mem_of_getElem? (i := 45) rfl)) rfl
theorem mw_406 : Cond.constant RJ6 266 858993459 ∈ gT := gT_in (inT3 (List.mem_of_getElem? (i := 46) rfl)) rfl
theorem mw_407 : Cond.constant RJ6 267 252645135 ∈ gT := gT_in (inT3 (List.mem_of_getElem? (i := 47) rfl)) rfl
theorem mw_408 : Cond.methodLink RL 91 yX3_doubt ∈ gT := gT_in (inT3 (List.mem_of_getElem? (i := 48) rfl)) rfl
theorem mw_409 : Cond.instanceMethod yX3_doubt ∈ gT := gT_in (inT3 (List.mem_of_getElem? (i := 49) rfl)) rfl
theorem mw_410 : Cond.selects RX3 yX3_doubt yX3_doubt ∈ gT := gT_in (inT3 (List.mem_of_getElem? (i := 50) rfl)) rfl
theorem mw_411 : Cond.code yX3_doubt cX3_doubt 2 (some .int) ∈ gT := gT_in (inT3 (List.mem_of_getElem? (i := 51) rfl)) rfl
theorem mw_412 : Cond.methodLink RX3 144 yX0_rivalOf ∈ gT := gT_in (inT3 (List.mem_of_getElem? (i := 52) rfl)) rfl
theorem mw_413 : Cond.instanceMethod yX0_rivalOf ∈ gT := gT_in (inT3 (List.mem_of_getElem? (i := 53) rfl)) rfl
theorem mw_414 : Cond.selects RX0 yX0_rivalOf yX0_rivalOf ∈ gT := gT_in (inT3 (List.mem_of_getElem? (i := 54) rfl)) rfl
theorem mw_415 : Cond.code yX0_rivalOf cX0_rivalOf 3 (some .int) ∈ gT := gT_in (inT3 (List.mem_of_getElem? (i := 55) rfl)) rfl
theorem mw_416 : Cond.methodLink RL 95 yX3_parts ∈ gT := gT_in (inT3 (List.mem_of_getElem? (i := 56) rfl)) rfl
theorem mw_417 : Cond.instanceMethod yX3_parts ∈ gT := gT_in (inT3 (List.mem_of_getElem? (i := 57) rfl)) rfl
theorem mw_418 : Cond.selects RX3 yX3_parts yX3_parts ∈ gT := gT_in (inT3 (List.mem_of_getElem? (i := 58) rfl)) rfl
theorem mw_419 : Cond.code yX3_parts cX3_parts 5 (some .int) ∈ gT := gT_in (inT3 (List.mem_of_getElem? (i := 59) rfl)) rfl
theorem mw_420 : Cond.methodLink RX3 147 yX0_partingRow ∈ gT := gT_in (inT3 (List.mem_of_getElem? (i := 60) rfl)) rfl
theorem mw_421 : Cond.instanceMethod yX0_partingRow ∈ gT := gT_in (inT3 (List.mem_of_getElem? (i := 61) rfl)) rfl
theorem mw_422 : Cond.selects RX0 yX0_partingRow yX0_partingRow ∈ gT := gT_in (inT3 (List.mem_of_getElem? (i := 62) rfl)) rfl
theorem mw_423 : Cond.code yX0_partingRow cX0_partingRow 7 (some .int) ∈ gT := gT_in (inT3 (List.mem_of_getElem? (i := 63) rfl)) rfl
theorem mw_424 : Cond.methodLink RL 100 yX3_value ∈ gT := gT_in (inT3 (List.mem_of_getElem? (i := 64) rfl)) rfl
theorem mw_425 : Cond.instanceMethod yX3_value ∈ gT := gT_in (inT3 (List.mem_of_getElem? (i := 65) rfl)) rfl
theorem mw_426 : Cond.selects RX3 yX3_value yX3_value ∈ gT := gT_in (inT3 (List.mem_of_getElem? (i := 66) rfl)) rfl
theorem mw_427 : Cond.code yX3_value cX3_value 3 (some .long) ∈ gT := gT_in (inT3 (List.mem_of_getElem? (i := 67) rfl)) rfl
theorem mw_428 : Cond.methodLink RX3 151 yX0_worthOf ∈ gT := gT_in (inT3 (List.mem_of_getElem? (i := 68) rfl)) rfl
theorem mw_429 : Cond.instanceMethod yX0_worthOf ∈ gT := gT_in (inT3 (List.mem_of_getElem? (i := 69) rfl)) rfl
theorem mw_430 : Cond.selects RX0 yX0_worthOf yX0_worthOf ∈ gT := gT_in (inT3 (List.mem_of_getElem? (i := 70) rfl)) rfl
theorem mw_431 : Cond.code yX0_worthOf cX0_worthOf 4 (some .int) ∈ gT := gT_in (inT3 (List.mem_of_getElem? (i := 71) rfl)) rfl
theorem mw_432 : Cond.methodLink RL 105 yX3_back ∈ gT := gT_in (inT3 (List.mem_of_getElem? (i := 72) rfl)) rfl
theorem mw_433 : Cond.instanceMethod yX3_back ∈ gT := gT_in (inT3 (List.mem_of_getElem? (i := 73) rfl)) rfl
theorem mw_434 : Cond.selects RX3 yX3_back yX3_back ∈ gT := gT_in (inT3 (List.mem_of_getElem? (i := 74) rfl)) rfl
theorem mw_435 : Cond.code yX3_back cX3_back 4 (some .int) ∈ gT := gT_in (inT3 (List.mem_of_getElem? (i := 75) rfl)) rfl
theorem mw_436 : Cond.methodLink RX3 154 yX1_isInColumns ∈ gT := gT_in (inT3 (List.mem_of_getElem? (i := 76) rfl)) rfl
theorem mw_437 : Cond.methodLink RL 109 yX3_key ∈ gT := gT_in (inT3 (List.mem_of_getElem? (i := 77) rfl)) rfl
theorem mw_438 : Cond.instanceMethod yX3_key ∈ gT := gT_in (inT3 (List.mem_of_getElem? (i := 78) rfl)) rfl
theorem mw_439 : Cond.selects RX3 yX3_key yX3_key ∈ gT := gT_in (inT3 (List.mem_of_getElem? (i := 79) rfl)) rfl
theorem mw_440 : Cond.code yX3_key cX3_key 2 (some .int) ∈ gT := gT_in (inT3 (List.mem_of_getElem? (i := 80) rfl)) rfl
theorem mw_441 : Cond.methodLink RX3 157 yX0_allUnlike ∈ gT := gT_in (inT3 (List.mem_of_getElem? (i := 81) rfl)) rfl
theorem mw_442 : Cond.instanceMethod yX0_allUnlike ∈ gT := gT_in (inT3 (List.mem_of_getElem? (i := 82) rfl)) rfl
theorem mw_443 : Cond.selects RX0 yX0_allUnlike yX0_allUnlike ∈ gT := gT_in (inT3 (List.mem_of_getElem? (i := 83) rfl)) rfl
theorem mw_444 : Cond.code yX0_allUnlike cX0_allUnlike 3 (some .boolean) ∈ gT := gT_in (inT3 (List.mem_of_getElem? (i := 84) rfl)) rfl
theorem mw_445 : Cond.methodLink RX0 114 yX0_isRepeated ∈ gT := gT_in (inT3 (List.mem_of_getElem? (i := 85) rfl)) rfl
theorem mw_446 : Cond.instanceMethod yX0_isRepeated ∈ gT := gT_in (inT3 (List.mem_of_getElem? (i := 87) rfl)) rfl
theorem mw_447 : Cond.code yX0_isRepeated cX0_isRepeated 5 (some .boolean) ∈ gT := gT_in (inT3 (List.mem_of_getElem? (i := 88) rfl)) rfl
theorem mw_448 : Cond.methodLink RX0 117 yX1_areAlike ∈ gT := gT_in (inT3 (List.mem_of_getElem? (i := 89) rfl)) rfl
theorem mw_449 : Cond.instanceMethod yX1_areAlike ∈ gT := gT_in (inT3 (List.mem_of_getElem? (i := 90) rfl)) rfl
theorem mw_450 : Cond.selects RX1 yX1_areAlike yX1_areAlike ∈ gT := gT_in (inT3 (List.mem_of_getElem? (i := 91) rfl)) rfl
theorem mw_451 : Cond.code yX1_areAlike cX1_areAlike 5 (some .boolean) ∈ gT := gT_in (inT3 (List.mem_of_getElem? (i := 92) rfl)) rfl
theorem mw_452 : Cond.methodLink RX1 99 yX1_lengthOf ∈ gT := gT_in (inT3 (List.mem_of_getElem? (i := 93) rfl)) rfl
theorem mw_453 : Cond.methodLink RX1 103 yX1_byteIn ∈ gT := gT_in (inT3 (List.mem_of_getElem? (i := 94) rfl)) rfl
theorem mw_454 : Cond.classLink RL 10 RX4 ∈ gT := gT_in (inT3 (List.mem_of_getElem? (i := 95) rfl)) rfl
theorem mw_455 : Cond.instantiable RX4 28 ∈ gT := gT_in (inT3 (List.mem_of_getElem? (i := 96) rfl)) rfl
theorem mw_456 : Cond.methodLink RL 12 yX4_init ∈ gT := gT_in (inT3 (List.mem_of_getElem? (i := 97) rfl)) rfl
theorem mw_457 : Cond.instanceMethod yX4_init ∈ gT := gT_in (inT3 (List.mem_of_getElem? (i := 98) rfl)) rfl
theorem mw_458 : Cond.code yX4_init cX4_init 1 none ∈ gT := gT_in (inT3 (List.mem_of_getElem? (i := 99) rfl)) rfl
theorem mw_459 : Cond.methodLink RX4 1 objectInit ∈ gT := gT_in (inT3 (List.mem_of_getElem? (i := 100) rfl)) rfl
theorem mw_460 : Cond.fieldLink RX4 7 "ColumnReaderModel" "tape" "[B" ∈ gT := gT_in (inT3 (List.mem_of_getElem? (i := 101) rfl)) rfl
theorem mw_461 : Cond.fieldLink RX4 13 "ColumnReaderModel" "text" "[B" ∈ gT := gT_in (inT3 (List.mem_of_getElem? (i := 102) rfl)) rfl
theorem mw_462 : Cond.fieldLink RX4 49 "ColumnReaderModel" "taped" "I" ∈ gT := gT_in (inT3 (List.mem_of_getElem? (i := 103) rfl)) rfl
theorem mw_463 : Cond.fieldLink RX4 60 "ColumnReaderModel" "size" "I" ∈ gT := gT_in (inT3 (List.mem_of_getElem? (i := 104) rfl)) rfl
theorem mw_464 : Cond.fieldLink RX4 66 "ColumnReaderModel" "used" "I" ∈ gT := gT_in (inT3 (List.mem_of_getElem? (i := 105) rfl)) rfl
theorem mw_465 : Cond.fieldLink RX4 16 "ColumnReaderModel" "loaded" "I" ∈ gT := gT_in (inT3 (List.mem_of_getElem? (i := 106) rfl)) rfl
theorem mw_466 : Cond.fieldLink RX4 92 "ColumnReaderModel" "rows" "I" ∈ gT := gT_in (inT3 (List.mem_of_getElem? (i := 107) rfl)) rfl
theorem mw_467 : Cond.fieldLink RX4 78 "ColumnReaderModel" "cellMany" "I" ∈ gT := gT_in (inT3 (List.mem_of_getElem? (i := 108) rfl)) rfl
theorem mw_468 : Cond.fieldLink RX4 69 "ColumnReaderModel" "fault" "I" ∈ gT := gT_in (inT3 (List.mem_of_getElem? (i := 109) rfl)) rfl
theorem mw_469 : Cond.fieldLink RX4 72 "ColumnReaderModel" "faultPlace" "I" ∈ gT := gT_in (inT3 (List.mem_of_getElem? (i := 110) rfl)) rfl
theorem mw_470 : Cond.fieldLink RX4 95 "ColumnReaderModel" "odds" "I" ∈ gT := gT_in (inT3 (List.mem_of_getElem? (i := 111) rfl)) rfl
theorem mw_471 : Cond.fieldLink RX4 20 "ColumnReaderModel" "rowFrom" "[I" ∈ gT := gT_in (inT3 (List.mem_of_getElem? (i := 112) rfl)) rfl
theorem mw_472 : Cond.fieldLink RX4 24 "ColumnReaderModel" "cellFrom" "[I" ∈ gT := gT_in (inT3 (List.mem_of_getElem? (i := 113) rfl)) rfl
theorem mw_473 : Cond.fieldLink RX4 27 "ColumnReaderModel" "cellSize" "[I" ∈ gT := gT_in (inT3 (List.mem_of_getElem? (i := 114) rfl)) rfl
theorem mw_474 : Cond.fieldLink RX4 30 "ColumnReaderModel" "bytes" "[B" ∈ gT := gT_in (inT3 (List.mem_of_getElem? (i := 115) rfl)) rfl
theorem mw_475 : Cond.fieldLink RX4 75 "ColumnReaderModel" "byteMany" "I" ∈ gT := gT_in (inT3 (List.mem_of_getElem? (i := 116) rfl)) rfl
theorem mw_476 : Cond.fieldLink RX4 33 "ColumnReaderModel" "isKnown" "[Z" ∈ gT := gT_in (inT3 (List.mem_of_getElem? (i := 117) rfl)) rfl
theorem mw_477 : Cond.fieldLink RX4 37 "ColumnReaderModel" "costs" "[I" ∈ gT := gT_in (inT3 (List.mem_of_getElem? (i := 118) rfl)) rfl
theorem mw_478 : Cond.fieldLink RX4 176 "ColumnReaderModel" "value" "J" ∈ gT := gT_in (inT3 (List.mem_of_getElem? (i := 119) rfl)) rfl
theorem mw_479 : Cond.fieldLink RX4 183 "ColumnReaderModel" "digits" "I" ∈ gT := gT_in (inT3 (List.mem_of_getElem? (i := 120) rfl)) rfl
theorem mw_480 : Cond.fieldLink RX4 40 "ColumnReaderModel" "column" "[I" ∈ gT := gT_in (inT3 (List.mem_of_getElem? (i := 121) rfl)) rfl
theorem mw_481 : Cond.fieldLink RX4 43 "ColumnReaderModel" "columnRow" "[I" ∈ gT := gT_in (inT3 (List.mem_of_getElem? (i := 122) rfl)) rfl
theorem mw_482 : Cond.fieldLink RX4 237 "ColumnReaderModel" "columnMany" "I" ∈ gT := gT_in (inT3 (List.mem_of_getElem? (i := 123) rfl)) rfl
theorem mw_483 : Cond.fieldLink RX4 261 "ColumnReaderModel" "bestForm" "I" ∈ gT := gT_in (inT3 (List.mem_of_getElem? (i := 124) rfl)) rfl
theorem mw_484 : Cond.fieldLink RX4 264 "ColumnReaderModel" "bestCode" "I" ∈ gT := gT_in (inT3 (List.mem_of_getElem? (i := 125) rfl)) rfl
theorem mw_485 : Cond.fieldLink RX4 267 "ColumnReaderModel" "bestCost" "I" ∈ gT := gT_in (inT3 (List.mem_of_getElem? (i := 126) rfl)) rfl
theorem mw_486 : Cond.fieldLink RX4 46 "ColumnReaderModel" "out" "[B" ∈ gT := gT_in (inT3 (List.mem_of_getElem? (i := 127) rfl)) rfl
theorem mw_487 : Cond.fieldLink RX4 297 "ColumnReaderModel" "outs" "I" ∈ gT := gT_in (inT3 (List.mem_of_getElem? (i := 128) rfl)) rfl
theorem mw_488 : Cond.arrayClass .boolean ∈ gT := gT_in (inT3 (List.mem_of_getElem? (i := 186) rfl)) rfl
theorem mw_489 : Cond.methodLink RL 17 yX4_feed ∈ gT := gT_in (inT3 (List.mem_of_getElem? (i := 187) rfl)) rfl
theorem mw_490 : Cond.instanceMethod yX4_feed ∈ gT := gT_in (inT3 (List.mem_of_getElem? (i := 188) rfl)) rfl
theorem mw_491 : Cond.selects RX4 yX4_feed yX4_feed ∈ gT := gT_in (inT3 (List.mem_of_getElem? (i := 189) rfl)) rfl
theorem mw_492 : Cond.code yX4_feed cX4_feed 6 (some .int) ∈ gT := gT_in (inT3 (List.mem_of_getElem? (i := 190) rfl)) rfl
theorem mw_493 : Cond.methodLink RX4 52 yX4_feedOne ∈ gT := gT_in (inT3 (List.mem_of_getElem? (i := 191) rfl)) rfl
theorem mw_494 : Cond.instanceMethod yX4_feedOne ∈ gT := gT_in (inT3 (List.mem_of_getElem? (i := 193) rfl)) rfl
theorem mw_495 : Cond.code yX4_feedOne cX4_feedOne 3 none ∈ gT := gT_in (inT3 (List.mem_of_getElem? (i := 194) rfl)) rfl
theorem mw_496 : Cond.methodLink RL 22 yX4_add ∈ gT := gT_in (inT3 (List.mem_of_getElem? (i := 195) rfl)) rfl
theorem mw_497 : Cond.instanceMethod yX4_add ∈ gT := gT_in (inT3 (List.mem_of_getElem? (i := 196) rfl)) rfl
theorem mw_498 : Cond.selects RX4 yX4_add yX4_add ∈ gT := gT_in (inT3 (List.mem_of_getElem? (i := 197) rfl)) rfl
theorem mw_499 : Cond.code yX4_add cX4_add 3 (some .int) ∈ gT := gT_in (inT3 (List.mem_of_getElem? (i := 198) rfl)) rfl
theorem mw_500 : Cond.methodLink RX4 56 yX4_in ∈ gT := gT_in (inT3 (List.mem_of_getElem? (i := 199) rfl)) rfl
theorem mw_501 : Cond.static yX4_in ∈ gT := gT_in (inT3 (List.mem_of_getElem? (i := 200) rfl)) rfl
theorem mw_502 : Cond.code yX4_in cX4_in 3 (some .boolean) ∈ gT := gT_in (inT3 (List.mem_of_getElem? (i := 201) rfl)) rfl
theorem mw_503 : Cond.methodLink RX4 63 yX4_changes ∈ gT := gT_in (inT3 (List.mem_of_getElem? (i := 202) rfl)) rfl
theorem mw_504 : Cond.instanceMethod yX4_changes ∈ gT := gT_in (inT3 (List.mem_of_getElem? (i := 204) rfl)) rfl
theorem mw_505 : Cond.code yX4_changes cX4_changes 2 none ∈ gT := gT_in (inT3 (List.mem_of_getElem? (i := 205) rfl)) rfl
theorem mw_506 : Cond.methodLink RL 26 yX4_clear ∈ gT := gT_in (inT3 (List.mem_of_getElem? (i := 206) rfl)) rfl
theorem mw_507 : Cond.instanceMethod yX4_clear ∈ gT := gT_in (inT3 (List.mem_of_getElem? (i := 207) rfl)) rfl
theorem mw_508 : Cond.selects RX4 yX4_clear yX4_clear ∈ gT := gT_in (inT3 (List.mem_of_getElem? (i := 208) rfl)) rfl
theorem mw_509 : Cond.code yX4_clear cX4_clear 1 none ∈ gT := gT_in (inT3 (List.mem_of_getElem? (i := 209) rfl)) rfl
theorem mw_510 : Cond.methodLink RL 30 yX4_reads ∈ gT := gT_in (inT3 (List.mem_of_getElem? (i := 210) rfl)) rfl
theorem mw_511 : Cond.instanceMethod yX4_reads ∈ gT := gT_in (inT3 (List.mem_of_getElem? (i := 211) rfl)) rfl
theorem mw_512 : Cond.selects RX4 yX4_reads yX4_reads ∈ gT := gT_in (inT3 (List.mem_of_getElem? (i := 212) rfl)) rfl
theorem mw_513 : Cond.code yX4_reads cX4_reads 2 (some .int) ∈ gT := gT_in (inT3 (List.mem_of_getElem? (i := 213) rfl)) rfl
theorem mw_514 : Cond.methodLink RX4 126 yX4_isMake ∈ gT := gT_in (inT3 (List.mem_of_getElem? (i := 214) rfl)) rfl
theorem mw_515 : Cond.static yX4_isMake ∈ gT := gT_in (inT3 (List.mem_of_getElem? (i := 215) rfl)) rfl
theorem mw_516 : Cond.code yX4_isMake cX4_isMake 1 (some .boolean) ∈ gT := gT_in (inT3 (List.mem_of_getElem? (i := 216) rfl)) rfl
theorem mw_517 : Cond.methodLink RX4 129 yX4_load ∈ gT := gT_in (inT3 (List.mem_of_getElem? (i := 217) rfl)) rfl
theorem mw_518 : Cond.instanceMethod yX4_load ∈ gT := gT_in (inT3 (List.mem_of_getElem? (i := 219) rfl)) rfl
theorem mw_519 : Cond.code yX4_load cX4_load 4 none ∈ gT := gT_in (inT3 (List.mem_of_getElem? (i := 220) rfl)) rfl
theorem mw_520 : Cond.methodLink RX4 88 yX4_wrong ∈ gT := gT_in (inT3 (List.mem_of_getElem? (i := 221) rfl)) rfl
theorem mw_521 : Cond.instanceMethod yX4_wrong ∈ gT := gT_in (inT3 (List.mem_of_getElem? (i := 223) rfl)) rfl
theorem mw_522 : Cond.code yX4_wrong cX4_wrong 3 none ∈ gT := gT_in (inT3 (List.mem_of_getElem? (i := 224) rfl)) rfl
theorem mw_523 : Cond.methodLink RX4 98 yX4_row ∈ gT := gT_in (inT3 (List.mem_of_getElem? (i := 225) rfl)) rfl
theorem mw_524 : Cond.instanceMethod yX4_row ∈ gT := gT_in (inT3 (List.mem_of_getElem? (i := 227) rfl)) rfl
theorem mw_525 : Cond.code yX4_row cX4_row 5 (some .int) ∈ gT := gT_in (inT3 (List.mem_of_getElem? (i := 228) rfl)) rfl
theorem mw_526 : Cond.methodLink RX4 109 yX4_markOf ∈ gT := gT_in (inT3 (List.mem_of_getElem? (i := 229) rfl)) rfl
theorem mw_527 : Cond.static yX4_markOf ∈ gT := gT_in (inT3 (List.mem_of_getElem? (i := 230) rfl)) rfl
theorem mw_528 : Cond.code yX4_markOf cX4_markOf 2 (some .int) ∈ gT := gT_in (inT3 (List.mem_of_getElem? (i := 231) rfl)) rfl
theorem mw_529 : Cond.methodLink RX4 112 yX4_quoteOf ∈ gT := gT_in (inT3 (List.mem_of_getElem? (i := 232) rfl)) rfl
theorem mw_530 : Cond.static yX4_quoteOf ∈ gT := gT_in (inT3 (List.mem_of_getElem? (i := 233) rfl)) rfl
theorem mw_531 : Cond.code yX4_quoteOf cX4_quoteOf 2 (some .int) ∈ gT := gT_in (inT3 (List.mem_of_getElem? (i := 234) rfl)) rfl
theorem mw_532 : Cond.methodLink RX4 115 yX4_cell ∈ gT := gT_in (inT3 (List.mem_of_getElem? (i := 235) rfl)) rfl
theorem mw_533 : Cond.instanceMethod yX4_cell ∈ gT := gT_in (inT3 (List.mem_of_getElem? (i := 237) rfl)) rfl
theorem mw_534 : Cond.code yX4_cell cX4_cell 5 (some .int) ∈ gT := gT_in (inT3 (List.mem_of_getElem? (i := 238) rfl)) rfl
theorem mw_535 : Cond.methodLink RX4 81 yX4_textAt ∈ gT := gT_in (inT3 (List.mem_of_getElem? (i := 239) rfl)) rfl
theorem mw_536 : Cond.instanceMethod yX4_textAt ∈ gT := gT_in (inT4 (List.mem_of_getElem? (i := 1) rfl)) rfl
theorem mw_537 : Cond.code yX4_textAt cX4_textAt 2 (some .int) ∈ gT := gT_in (inT4 (List.mem_of_getElem? (i := 2) rfl)) rfl
theorem mw_538 : Cond.methodLink RX4 85 yX4_take ∈ gT := gT_in (inT4 (List.mem_of_getElem? (i := 3) rfl)) rfl
theorem mw_539 : Cond.instanceMethod yX4_take ∈ gT := gT_in (inT4 (List.mem_of_getElem? (i := 5) rfl)) rfl
theorem mw_540 : Cond.code yX4_take cX4_take 2 none ∈ gT := gT_in (inT4 (List.mem_of_getElem? (i := 6) rfl)) rfl
theorem mw_541 : Cond.methodLink RX4 102 yX4_hasHead ∈ gT := gT_in (inT4 (List.mem_of_getElem? (i := 7) rfl)) rfl
theorem mw_542 : Cond.static yX4_hasHead ∈ gT := gT_in (inT4 (List.mem_of_getElem? (i := 8) rfl)) rfl
theorem mw_543 : Cond.code yX4_hasHead cX4_hasHead 1 (some .boolean) ∈ gT := gT_in (inT4 (List.mem_of_getElem? (i := 9) rfl)) rfl
theorem mw_544 : Cond.methodLink RX4 106 yX4_isOdd ∈ gT := gT_in (inT4 (List.mem_of_getElem? (i := 10) rfl)) rfl
theorem mw_545 : Cond.instanceMethod yX4_isOdd ∈ gT := gT_in (inT4 (List.mem_of_getElem? (i := 12) rfl)) rfl
theorem mw_546 : Cond.code yX4_isOdd cX4_isOdd 2 (some .boolean) ∈ gT := gT_in (inT4 (List.mem_of_getElem? (i := 13) rfl)) rfl
theorem mw_547 : Cond.methodLink RX4 119 yX4_cellsOf ∈ gT := gT_in (inT4 (List.mem_of_getElem? (i := 14) rfl)) rfl
theorem mw_548 : Cond.instanceMethod yX4_cellsOf ∈ gT := gT_in (inT4 (List.mem_of_getElem? (i := 16) rfl)) rfl
theorem mw_549 : Cond.code yX4_cellsOf cX4_cellsOf 2 (some .int) ∈ gT := gT_in (inT4 (List.mem_of_getElem? (i := 17) rfl)) rfl
theorem mw_550 : Cond.methodLink RX4 122 yX4_width ∈ gT := gT_in (inT4 (List.mem_of_getElem? (i := 18) rfl)) rfl
theorem mw_551 : Cond.instanceMethod yX4_width ∈ gT := gT_in (inT4 (List.mem_of_getElem? (i := 20) rfl)) rfl
theorem mw_552 : Cond.code yX4_width cX4_width 1 (some .int) ∈ gT := gT_in (inT4 (List.mem_of_getElem? (i := 21) rfl)) rfl
theorem mw_553 : Cond.methodLink RL 34 yX4_faultAt ∈ gT := gT_in (inT4 (List.mem_of_getElem? (i := 22) rfl)) rfl
theorem mw_554 : Cond.instanceMethod yX4_faultAt ∈ gT := gT_in (inT4 (List.mem_of_getElem? (i := 23) rfl)) rfl
theorem mw_555 : Cond.selects RX4 yX4_faultAt yX4_faultAt ∈ gT := gT_in (inT4 (List.mem_of_getElem? (i := 24) rfl)) rfl
theorem mw_556 : Cond.code yX4_faultAt cX4_faultAt 2 (some .int) ∈ gT := gT_in (inT4 (List.mem_of_getElem? (i := 25) rfl)) rfl
theorem mw_557 : Cond.methodLink RL 38 yX4_cost ∈ gT := gT_in (inT4 (List.mem_of_getElem? (i := 26) rfl)) rfl
theorem mw_558 : Cond.instanceMethod yX4_cost ∈ gT := gT_in (inT4 (List.mem_of_getElem? (i := 27) rfl)) rfl
theorem mw_559 : Cond.selects RX4 yX4_cost yX4_cost ∈ gT := gT_in (inT4 (List.mem_of_getElem? (i := 28) rfl)) rfl
theorem mw_560 : Cond.code yX4_cost cX4_cost 4 (some .int) ∈ gT := gT_in (inT4 (List.mem_of_getElem? (i := 29) rfl)) rfl
theorem mw_561 : Cond.methodLink RX4 273 yX4_gather ∈ gT := gT_in (inT4 (List.mem_of_getElem? (i := 30) rfl)) rfl
theorem mw_562 : Cond.instanceMethod yX4_gather ∈ gT := gT_in (inT4 (List.mem_of_getElem? (i := 32) rfl)) rfl
theorem mw_563 : Cond.code yX4_gather cX4_gather 3 none ∈ gT := gT_in (inT4 (List.mem_of_getElem? (i := 33) rfl)) rfl
theorem mw_564 : Cond.methodLink RX4 240 yX4_isPlain ∈ gT := gT_in (inT4 (List.mem_of_getElem? (i := 34) rfl)) rfl
theorem mw_565 : Cond.instanceMethod yX4_isPlain ∈ gT := gT_in (inT4 (List.mem_of_getElem? (i := 36) rfl)) rfl
theorem mw_566 : Cond.code yX4_isPlain cX4_isPlain 2 (some .boolean) ∈ gT := gT_in (inT4 (List.mem_of_getElem? (i := 37) rfl)) rfl
theorem mw_567 : Cond.methodLink RX4 276 yX4_judge ∈ gT := gT_in (inT4 (List.mem_of_getElem? (i := 38) rfl)) rfl
theorem mw_568 : Cond.instanceMethod yX4_judge ∈ gT := gT_in (inT4 (List.mem_of_getElem? (i := 40) rfl)) rfl
theorem mw_569 : Cond.code yX4_judge cX4_judge 4 none ∈ gT := gT_in (inT4 (List.mem_of_getElem? (i := 41) rfl)) rfl
theorem mw_570 : Cond.methodLink RX4 270 yX4_costBy ∈ gT := gT_in (inT4 (List.mem_of_getElem? (i := 42) rfl)) rfl
theorem mw_571 : Cond.instanceMethod yX4_costBy ∈ gT := gT_in (inT4 (List.mem_of_getElem? (i := 44) rfl)) rfl
theorem mw_572 : Cond.code yX4_costBy cX4_costBy 8 (some .int) ∈ gT := gT_in (inT4 (List.mem_of_getElem? (i := 45) rfl)) rfl
theorem mw_573 : Cond.methodLink RX4 248 yX4_firstOf ∈ gT := gT_in (inT4 (List.mem_of_getElem? (i := 46) rfl)) rfl
theorem mw_574 : Cond.instanceMethod yX4_firstOf ∈ gT := gT_in (inT4 (List.mem_of_getElem? (i := 48) rfl)) rfl
theorem mw_575 : Cond.code yX4_firstOf cX4_firstOf 3 (some .int) ∈ gT := gT_in (inT4 (List.mem_of_getElem? (i := 49) rfl)) rfl
theorem mw_576 : Cond.methodLink RX4 243 yX4_isMissing ∈ gT := gT_in (inT4 (List.mem_of_getElem? (i := 50) rfl)) rfl
theorem mw_577 : Cond.instanceMethod yX4_isMissing ∈ gT := gT_in (inT4 (List.mem_of_getElem? (i := 52) rfl)) rfl
theorem mw_578 : Cond.code yX4_isMissing cX4_isMissing 3 (some .boolean) ∈ gT := gT_in (inT4 (List.mem_of_getElem? (i := 53) rfl)) rfl
theorem mw_579 : Cond.methodLink RX4 172 yX4_isWord ∈ gT := gT_in (inT4 (List.mem_of_getElem? (i := 55) rfl)) rfl
theorem mw_580 : Cond.instanceMethod yX4_isWord ∈ gT := gT_in (inT4 (List.mem_of_getElem? (i := 57) rfl)) rfl
theorem mw_581 : Cond.code yX4_isWord cX4_isWord 4 (some .boolean) ∈ gT := gT_in (inT4 (List.mem_of_getElem? (i := 58) rfl)) rfl
theorem mw_582 : Cond.methodLink RX4 132 yJ0_length_8abf5 ∈ gT := gT_in (inT4 (List.mem_of_getElem? (i := 59) rfl)) rfl
theorem mw_583 : Cond.methodLink RX4 137 yX4_byteOf ∈ gT := gT_in (inT4 (List.mem_of_getElem? (i := 60) rfl)) rfl
theorem mw_584 : Cond.instanceMethod yX4_byteOf ∈ gT := gT_in (inT4 (List.mem_of_getElem? (i := 62) rfl)) rfl
theorem mw_585 : Cond.code yX4_byteOf cX4_byteOf 3 (some .int) ∈ gT := gT_in (inT4 (List.mem_of_getElem? (i := 63) rfl)) rfl
theorem mw_586 : Cond.methodLink RX4 140 yJ0_charAt_5068e ∈ gT := gT_in (inT4 (List.mem_of_getElem? (i := 64) rfl)) rfl
theorem mw_587 : Cond.methodLink RX4 251 yX4_tells ∈ gT := gT_in (inT4 (List.mem_of_getElem? (i := 67) rfl)) rfl
theorem mw_588 : Cond.instanceMethod yX4_tells ∈ gT := gT_in (inT4 (List.mem_of_getElem? (i := 69) rfl)) rfl
theorem mw_589 : Cond.code yX4_tells cX4_tells 4 (some .boolean) ∈ gT := gT_in (inT4 (List.mem_of_getElem? (i := 70) rfl)) rfl
theorem mw_590 : Cond.methodLink RX4 224 yX4_isFlag ∈ gT := gT_in (inT4 (List.mem_of_getElem? (i := 71) rfl)) rfl
theorem mw_591 : Cond.instanceMethod yX4_isFlag ∈ gT := gT_in (inT4 (List.mem_of_getElem? (i := 73) rfl)) rfl
theorem mw_592 : Cond.code yX4_isFlag cX4_isFlag 3 (some .boolean) ∈ gT := gT_in (inT4 (List.mem_of_getElem? (i := 74) rfl)) rfl
theorem mw_593 : Cond.methodLink RX4 168 yX4_flag ∈ gT := gT_in (inT4 (List.mem_of_getElem? (i := 75) rfl)) rfl
theorem mw_594 : Cond.static yX4_flag ∈ gT := gT_in (inT4 (List.mem_of_getElem? (i := 76) rfl)) rfl
theorem mw_595 : Cond.code yX4_flag cX4_flag 2 (some (.object "java/lang/String")) ∈ gT := gT_in (inT4 (List.mem_of_getElem? (i := 77) rfl)) rfl
theorem mw_596 : Cond.methodLink RX4 228 yX4_isNumber ∈ gT := gT_in (inT4 (List.mem_of_getElem? (i := 90) rfl)) rfl
theorem mw_597 : Cond.instanceMethod yX4_isNumber ∈ gT := gT_in (inT4 (List.mem_of_getElem? (i := 92) rfl)) rfl
theorem mw_598 : Cond.code yX4_isNumber cX4_isNumber 9 (some .boolean) ∈ gT := gT_in (inT4 (List.mem_of_getElem? (i := 93) rfl)) rfl
theorem mw_599 : Cond.methodLink RX4 180 yX4_decimals ∈ gT := gT_in (inT4 (List.mem_of_getElem? (i := 94) rfl)) rfl
theorem mw_600 : Cond.static yX4_decimals ∈ gT := gT_in (inT4 (List.mem_of_getElem? (i := 95) rfl)) rfl
theorem mw_601 : Cond.code yX4_decimals cX4_decimals 1 (some .int) ∈ gT := gT_in (inT4 (List.mem_of_getElem? (i := 96) rfl)) rfl
theorem mw_602 : Cond.methodLink RX4 186 yX4_pointOf ∈ gT := gT_in (inT4 (List.mem_of_getElem? (i := 97) rfl)) rfl
theorem mw_603 : Cond.static yX4_pointOf ∈ gT := gT_in (inT4 (List.mem_of_getElem? (i := 98) rfl)) rfl
theorem mw_604 : Cond.code yX4_pointOf cX4_pointOf 1 (some .int) ∈ gT := gT_in (inT4 (List.mem_of_getElem? (i := 99) rfl)) rfl
theorem mw_605 : Cond.methodLink RX4 189 yX4_thousandsOf ∈ gT := gT_in (inT4 (List.mem_of_getElem? (i := 100) rfl)) rfl
theorem mw_606 : Cond.static yX4_thousandsOf ∈ gT := gT_in (inT4 (List.mem_of_getElem? (i := 101) rfl)) rfl
theorem mw_607 : Cond.code yX4_thousandsOf cX4_thousandsOf 2 (some .int) ∈ gT := gT_in (inT4 (List.mem_of_getElem? (i := 102) rfl)) rfl
theorem mw_608 : Cond.methodLink RX4 192 yX4_isDigit ∈ gT := gT_in (inT4 (List.mem_of_getElem? (i := 103) rfl)) rfl
theorem mw_609 : Cond.static yX4_isDigit ∈ gT := gT_in (inT4 (List.mem_of_getElem? (i := 104) rfl)) rfl
theorem mw_610 : Cond.code yX4_isDigit cX4_isDigit 1 (some .boolean) ∈ gT := gT_in (inT4 (List.mem_of_getElem? (i := 105) rfl)) rfl
theorem mw_611 : Cond.methodLink RX4 195 yX4_more ∈ gT := gT_in (inT4 (List.mem_of_getElem? (i := 106) rfl)) rfl
theorem mw_612 : Cond.instanceMethod yX4_more ∈ gT := gT_in (inT4 (List.mem_of_getElem? (i := 108) rfl)) rfl
theorem mw_613 : Cond.code yX4_more cX4_more 2 (some .boolean) ∈ gT := gT_in (inT4 (List.mem_of_getElem? (i := 109) rfl)) rfl
theorem mw_614 : Cond.constantLong RX4 198 10 ∈ gT := gT_in (inT4 (List.mem_of_getElem? (i := 110) rfl)) rfl
theorem mw_615 : Cond.constantLong RX4 200 48 ∈ gT := gT_in (inT4 (List.mem_of_getElem? (i := 111) rfl)) rfl
theorem mw_616 : Cond.methodLink RX4 231 yX4_isDay ∈ gT := gT_in (inT4 (List.mem_of_getElem? (i := 112) rfl)) rfl
theorem mw_617 : Cond.instanceMethod yX4_isDay ∈ gT := gT_in (inT4 (List.mem_of_getElem? (i := 114) rfl)) rfl
theorem mw_618 : Cond.code yX4_isDay cX4_isDay 8 (some .boolean) ∈ gT := gT_in (inT4 (List.mem_of_getElem? (i := 115) rfl)) rfl
theorem mw_619 : Cond.methodLink RX4 202 yX4_betweenOf ∈ gT := gT_in (inT4 (List.mem_of_getElem? (i := 116) rfl)) rfl
theorem mw_620 : Cond.static yX4_betweenOf ∈ gT := gT_in (inT4 (List.mem_of_getElem? (i := 117) rfl)) rfl
theorem mw_621 : Cond.code yX4_betweenOf cX4_betweenOf 2 (some .int) ∈ gT := gT_in (inT4 (List.mem_of_getElem? (i := 118) rfl)) rfl
theorem mw_622 : Cond.methodLink RX4 205 yX4_whole ∈ gT := gT_in (inT4 (List.mem_of_getElem? (i := 119) rfl)) rfl
theorem mw_623 : Cond.instanceMethod yX4_whole ∈ gT := gT_in (inT4 (List.mem_of_getElem? (i := 121) rfl)) rfl
theorem mw_624 : Cond.code yX4_whole cX4_whole 6 (some .int) ∈ gT := gT_in (inT4 (List.mem_of_getElem? (i := 122) rfl)) rfl
theorem mw_625 : Cond.methodLink RX4 208 yX4_daysOf ∈ gT := gT_in (inT4 (List.mem_of_getElem? (i := 123) rfl)) rfl
theorem mw_626 : Cond.static yX4_daysOf ∈ gT := gT_in (inT4 (List.mem_of_getElem? (i := 124) rfl)) rfl
theorem mw_627 : Cond.code yX4_daysOf cX4_daysOf 2 (some .int) ∈ gT := gT_in (inT4 (List.mem_of_getElem? (i := 125) rfl)) rfl
theorem mw_628 : Cond.constantLong RX4 211 10000 ∈ gT := gT_in (inT4 (List.mem_of_getElem? (i := 126) rfl)) rfl
theorem mw_629 : Cond.constantLong RX4 213 100 ∈ gT := gT_in (inT4 (List.mem_of_getElem? (i := 127) rfl)) rfl
theorem mw_630 : Cond.methodLink RX4 234 yX4_isCode ∈ gT := gT_in (inT4 (List.mem_of_getElem? (i := 128) rfl)) rfl
theorem mw_631 : Cond.instanceMethod yX4_isCode ∈ gT := gT_in (inT4 (List.mem_of_getElem? (i := 130) rfl)) rfl
theorem mw_632 : Cond.code yX4_isCode cX4_isCode 4 (some .boolean) ∈ gT := gT_in (inT4 (List.mem_of_getElem? (i := 131) rfl)) rfl
theorem mw_633 : Cond.methodLink RX4 215 yX4_sortOf ∈ gT := gT_in (inT4 (List.mem_of_getElem? (i := 132) rfl)) rfl
theorem mw_634 : Cond.static yX4_sortOf ∈ gT := gT_in (inT4 (List.mem_of_getElem? (i := 133) rfl)) rfl
theorem mw_635 : Cond.code yX4_sortOf cX4_sortOf 1 (some .int) ∈ gT := gT_in (inT4 (List.mem_of_getElem? (i := 134) rfl)) rfl
theorem mw_636 : Cond.methodLink RX4 254 yX4_topOf ∈ gT := gT_in (inT4 (List.mem_of_getElem? (i := 135) rfl)) rfl
theorem mw_637 : Cond.static yX4_topOf ∈ gT := gT_in (inT4 (List.mem_of_getElem? (i := 136) rfl)) rfl
theorem mw_638 : Cond.code yX4_topOf cX4_topOf 4 (some .long) ∈ gT := gT_in (inT4 (List.mem_of_getElem? (i := 137) rfl)) rfl
theorem mw_639 : Cond.constantLong RX4 246 9999 ∈ gT := gT_in (inT4 (List.mem_of_getElem? (i := 138) rfl)) rfl
theorem mw_640 : Cond.methodLink RX4 258 yX4_cellCost ∈ gT := gT_in (inT4 (List.mem_of_getElem? (i := 139) rfl)) rfl
theorem mw_641 : Cond.instanceMethod yX4_cellCost ∈ gT := gT_in (inT4 (List.mem_of_getElem? (i := 141) rfl)) rfl
theorem mw_642 : Cond.code yX4_cellCost cX4_cellCost 7 (some .int) ∈ gT := gT_in (inT4 (List.mem_of_getElem? (i := 142) rfl)) rfl
theorem mw_643 : Cond.methodLink RX4 279 yX4_rowCost ∈ gT := gT_in (inT4 (List.mem_of_getElem? (i := 143) rfl)) rfl
theorem mw_644 : Cond.instanceMethod yX4_rowCost ∈ gT := gT_in (inT4 (List.mem_of_getElem? (i := 145) rfl)) rfl
theorem mw_645 : Cond.code yX4_rowCost cX4_rowCost 6 (some .int) ∈ gT := gT_in (inT4 (List.mem_of_getElem? (i := 146) rfl)) rfl
theorem mw_646 : Cond.methodLink RL 43 yX4_best ∈ gT := gT_in (inT4 (List.mem_of_getElem? (i := 147) rfl)) rfl
theorem mw_647 : Cond.instanceMethod yX4_best ∈ gT := gT_in (inT4 (List.mem_of_getElem? (i := 148) rfl)) rfl
theorem mw_648 : Cond.selects RX4 yX4_best yX4_best ∈ gT := gT_in (inT4 (List.mem_of_getElem? (i := 149) rfl)) rfl
theorem mw_649 : Cond.code yX4_best cX4_best 3 (some .int) ∈ gT := gT_in (inT4 (List.mem_of_getElem? (i := 150) rfl)) rfl
theorem mw_650 : Cond.methodLink RX4 282 yX4_cost ∈ gT := gT_in (inT4 (List.mem_of_getElem? (i := 151) rfl)) rfl
theorem mw_651 : Cond.methodLink RL 48 yX4_use ∈ gT := gT_in (inT4 (List.mem_of_getElem? (i := 152) rfl)) rfl
theorem mw_652 : Cond.instanceMethod yX4_use ∈ gT := gT_in (inT4 (List.mem_of_getElem? (i := 153) rfl)) rfl
theorem mw_653 : Cond.selects RX4 yX4_use yX4_use ∈ gT := gT_in (inT4 (List.mem_of_getElem? (i := 154) rfl)) rfl
theorem mw_654 : Cond.code yX4_use cX4_use 2 (some .boolean) ∈ gT := gT_in (inT4 (List.mem_of_getElem? (i := 155) rfl)) rfl
theorem mw_655 : Cond.methodLink RL 52 yX4_about ∈ gT := gT_in (inT4 (List.mem_of_getElem? (i := 156) rfl)) rfl
theorem mw_656 : Cond.instanceMethod yX4_about ∈ gT := gT_in (inT4 (List.mem_of_getElem? (i := 157) rfl)) rfl
theorem mw_657 : Cond.selects RX4 yX4_about yX4_about ∈ gT := gT_in (inT4 (List.mem_of_getElem? (i := 158) rfl)) rfl
theorem mw_658 : Cond.code yX4_about cX4_about 2 (some .int) ∈ gT := gT_in (inT4 (List.mem_of_getElem? (i := 159) rfl)) rfl
theorem mw_659 : Cond.methodLink RL 56 yX4_odd ∈ gT := gT_in (inT4 (List.mem_of_getElem? (i := 160) rfl)) rfl
theorem mw_660 : Cond.instanceMethod yX4_odd ∈ gT := gT_in (inT4 (List.mem_of_getElem? (i := 161) rfl)) rfl
theorem mw_661 : Cond.selects RX4 yX4_odd yX4_odd ∈ gT := gT_in (inT4 (List.mem_of_getElem? (i := 162) rfl)) rfl
theorem mw_662 : Cond.code yX4_odd cX4_odd 4 (some .int) ∈ gT := gT_in (inT4 (List.mem_of_getElem? (i := 163) rfl)) rfl
theorem mw_663 : Cond.methodLink RL 60 yX4_breadth ∈ gT := gT_in (inT4 (List.mem_of_getElem? (i := 164) rfl)) rfl
theorem mw_664 : Cond.instanceMethod yX4_breadth ∈ gT := gT_in (inT4 (List.mem_of_getElem? (i := 165) rfl)) rfl
theorem mw_665 : Cond.selects RX4 yX4_breadth yX4_breadth ∈ gT := gT_in (inT4 (List.mem_of_getElem? (i := 166) rfl)) rfl
theorem mw_666 : Cond.code yX4_breadth cX4_breadth 2 (some .int) ∈ gT := gT_in (inT4 (List.mem_of_getElem? (i := 167) rfl)) rfl
theorem mw_667 : Cond.methodLink RX4 285 yX4_isRow ∈ gT := gT_in (inT4 (List.mem_of_getElem? (i := 168) rfl)) rfl
theorem mw_668 : Cond.instanceMethod yX4_isRow ∈ gT := gT_in (inT4 (List.mem_of_getElem? (i := 170) rfl)) rfl
theorem mw_669 : Cond.code yX4_isRow cX4_isRow 2 (some .boolean) ∈ gT := gT_in (inT4 (List.mem_of_getElem? (i := 171) rfl)) rfl
theorem mw_670 : Cond.methodLink RL 65 yX4_size ∈ gT := gT_in (inT4 (List.mem_of_getElem? (i := 172) rfl)) rfl
theorem mw_671 : Cond.instanceMethod yX4_size ∈ gT := gT_in (inT4 (List.mem_of_getElem? (i := 173) rfl)) rfl
theorem mw_672 : Cond.selects RX4 yX4_size yX4_size ∈ gT := gT_in (inT4 (List.mem_of_getElem? (i := 174) rfl)) rfl
theorem mw_673 : Cond.code yX4_size cX4_size 4 (some .int) ∈ gT := gT_in (inT4 (List.mem_of_getElem? (i := 175) rfl)) rfl
theorem mw_674 : Cond.methodLink RX4 288 yX4_cellAt ∈ gT := gT_in (inT4 (List.mem_of_getElem? (i := 176) rfl)) rfl
theorem mw_675 : Cond.instanceMethod yX4_cellAt ∈ gT := gT_in (inT4 (List.mem_of_getElem? (i := 178) rfl)) rfl
theorem mw_676 : Cond.code yX4_cellAt cX4_cellAt 3 (some .int) ∈ gT := gT_in (inT4 (List.mem_of_getElem? (i := 179) rfl)) rfl
theorem mw_677 : Cond.methodLink RL 70 yX4_at ∈ gT := gT_in (inT4 (List.mem_of_getElem? (i := 180) rfl)) rfl
theorem mw_678 : Cond.instanceMethod yX4_at ∈ gT := gT_in (inT4 (List.mem_of_getElem? (i := 181) rfl)) rfl
theorem mw_679 : Cond.selects RX4 yX4_at yX4_at ∈ gT := gT_in (inT4 (List.mem_of_getElem? (i := 182) rfl)) rfl
theorem mw_680 : Cond.code yX4_at cX4_at 5 (some .int) ∈ gT := gT_in (inT4 (List.mem_of_getElem? (i := 183) rfl)) rfl
theorem mw_681 : Cond.methodLink RL 74 yX4_form ∈ gT := gT_in (inT4 (List.mem_of_getElem? (i := 184) rfl)) rfl
theorem mw_682 : Cond.instanceMethod yX4_form ∈ gT := gT_in (inT4 (List.mem_of_getElem? (i := 185) rfl)) rfl
theorem mw_683 : Cond.selects RX4 yX4_form yX4_form ∈ gT := gT_in (inT4 (List.mem_of_getElem? (i := 186) rfl)) rfl
theorem mw_684 : Cond.code yX4_form cX4_form 2 (some .int) ∈ gT := gT_in (inT4 (List.mem_of_getElem? (i := 187) rfl)) rfl
theorem mw_685 : Cond.methodLink RX4 291 yX4_isColumn ∈ gT := gT_in (inT4 (List.mem_of_getElem? (i := 188) rfl)) rfl
theorem mw_686 : Cond.instanceMethod yX4_isColumn ∈ gT := gT_in (inT4 (List.mem_of_getElem? (i := 190) rfl)) rfl
theorem mw_687 : Cond.code yX4_isColumn cX4_isColumn 2 (some .boolean) ∈ gT := gT_in (inT4 (List.mem_of_getElem? (i := 191) rfl)) rfl
theorem mw_688 : Cond.methodLink RL 78 yX4_missing ∈ gT := gT_in (inT4 (List.mem_of_getElem? (i := 192) rfl)) rfl
theorem mw_689 : Cond.instanceMethod yX4_missing ∈ gT := gT_in (inT4 (List.mem_of_getElem? (i := 193) rfl)) rfl
theorem mw_690 : Cond.selects RX4 yX4_missing yX4_missing ∈ gT := gT_in (inT4 (List.mem_of_getElem? (i := 194) rfl)) rfl
theorem mw_691 : Cond.code yX4_missing cX4_missing 2 (some .int) ∈ gT := gT_in (inT4 (List.mem_of_getElem? (i := 195) rfl)) rfl
theorem mw_692 : Cond.methodLink RL 82 yX4_lacks ∈ gT := gT_in (inT4 (List.mem_of_getElem? (i := 196) rfl)) rfl
theorem mw_693 : Cond.instanceMethod yX4_lacks ∈ gT := gT_in (inT4 (List.mem_of_getElem? (i := 197) rfl)) rfl
theorem mw_694 : Cond.selects RX4 yX4_lacks yX4_lacks ∈ gT := gT_in (inT4 (List.mem_of_getElem? (i := 198) rfl)) rfl
theorem mw_695 : Cond.code yX4_lacks cX4_lacks 4 (some .int) ∈ gT := gT_in (inT4 (List.mem_of_getElem? (i := 199) rfl)) rfl
theorem mw_696 : Cond.methodLink RL 86 yX4_costOf ∈ gT := gT_in (inT4 (List.mem_of_getElem? (i := 200) rfl)) rfl
theorem mw_697 : Cond.instanceMethod yX4_costOf ∈ gT := gT_in (inT4 (List.mem_of_getElem? (i := 201) rfl)) rfl
theorem mw_698 : Cond.selects RX4 yX4_costOf yX4_costOf ∈ gT := gT_in (inT4 (List.mem_of_getElem? (i := 202) rfl)) rfl
theorem mw_699 : Cond.code yX4_costOf cX4_costOf 4 (some .int) ∈ gT := gT_in (inT4 (List.mem_of_getElem? (i := 203) rfl)) rfl
theorem mw_700 : Cond.methodLink RL 90 yX4_fits ∈ gT := gT_in (inT4 (List.mem_of_getElem? (i := 204) rfl)) rfl
theorem mw_701 : Cond.instanceMethod yX4_fits ∈ gT := gT_in (inT4 (List.mem_of_getElem? (i := 205) rfl)) rfl
theorem mw_702 : Cond.selects RX4 yX4_fits yX4_fits ∈ gT := gT_in (inT4 (List.mem_of_getElem? (i := 206) rfl)) rfl
theorem mw_703 : Cond.code yX4_fits cX4_fits 6 (some .int) ∈ gT := gT_in (inT4 (List.mem_of_getElem? (i := 207) rfl)) rfl
theorem mw_704 : Cond.methodLink RL 94 yX4_doubt ∈ gT := gT_in (inT4 (List.mem_of_getElem? (i := 208) rfl)) rfl
theorem mw_705 : Cond.instanceMethod yX4_doubt ∈ gT := gT_in (inT4 (List.mem_of_getElem? (i := 209) rfl)) rfl
theorem mw_706 : Cond.selects RX4 yX4_doubt yX4_doubt ∈ gT := gT_in (inT4 (List.mem_of_getElem? (i := 210) rfl)) rfl
theorem mw_707 : Cond.code yX4_doubt cX4_doubt 4 (some .int) ∈ gT := gT_in (inT4 (List.mem_of_getElem? (i := 211) rfl)) rfl
theorem mw_708 : Cond.methodLink RL 99 yX4_parts ∈ gT := gT_in (inT4 (List.mem_of_getElem? (i := 212) rfl)) rfl
theorem mw_709 : Cond.instanceMethod yX4_parts ∈ gT := gT_in (inT4 (List.mem_of_getElem? (i := 213) rfl)) rfl
theorem mw_710 : Cond.selects RX4 yX4_parts yX4_parts ∈ gT := gT_in (inT4 (List.mem_of_getElem? (i := 214) rfl)) rfl
theorem mw_711 : Cond.code yX4_parts cX4_parts 8 (some .int) ∈ gT := gT_in (inT4 (List.mem_of_getElem? (i := 215) rfl)) rfl
theorem mw_712 : Cond.methodLink RL 104 yX4_value ∈ gT := gT_in (inT4 (List.mem_of_getElem? (i := 216) rfl)) rfl
theorem mw_713 : Cond.instanceMethod yX4_value ∈ gT := gT_in (inT4 (List.mem_of_getElem? (i := 217) rfl)) rfl
theorem mw_714 : Cond.selects RX4 yX4_value yX4_value ∈ gT := gT_in (inT4 (List.mem_of_getElem? (i := 218) rfl)) rfl
theorem mw_715 : Cond.code yX4_value cX4_value 3 (some .long) ∈ gT := gT_in (inT4 (List.mem_of_getElem? (i := 219) rfl)) rfl
theorem mw_716 : Cond.methodLink RX4 294 yX4_told ∈ gT := gT_in (inT4 (List.mem_of_getElem? (i := 220) rfl)) rfl
theorem mw_717 : Cond.instanceMethod yX4_told ∈ gT := gT_in (inT4 (List.mem_of_getElem? (i := 222) rfl)) rfl
theorem mw_718 : Cond.code yX4_told cX4_told 4 (some .int) ∈ gT := gT_in (inT4 (List.mem_of_getElem? (i := 223) rfl)) rfl
theorem mw_719 : Cond.methodLink RL 108 yX4_back ∈ gT := gT_in (inT4 (List.mem_of_getElem? (i := 224) rfl)) rfl
theorem mw_720 : Cond.instanceMethod yX4_back ∈ gT := gT_in (inT4 (List.mem_of_getElem? (i := 225) rfl)) rfl
theorem mw_721 : Cond.selects RX4 yX4_back yX4_back ∈ gT := gT_in (inT4 (List.mem_of_getElem? (i := 226) rfl)) rfl
theorem mw_722 : Cond.code yX4_back cX4_back 6 (some .int) ∈ gT := gT_in (inT4 (List.mem_of_getElem? (i := 227) rfl)) rfl
theorem mw_723 : Cond.methodLink RX4 311 yX4_writeWord ∈ gT := gT_in (inT4 (List.mem_of_getElem? (i := 229) rfl)) rfl
theorem mw_724 : Cond.instanceMethod yX4_writeWord ∈ gT := gT_in (inT4 (List.mem_of_getElem? (i := 231) rfl)) rfl
theorem mw_725 : Cond.code yX4_writeWord cX4_writeWord 3 none ∈ gT := gT_in (inT4 (List.mem_of_getElem? (i := 232) rfl)) rfl
theorem mw_726 : Cond.methodLink RX4 300 yX4_write ∈ gT := gT_in (inT4 (List.mem_of_getElem? (i := 233) rfl)) rfl
theorem mw_727 : Cond.instanceMethod yX4_write ∈ gT := gT_in (inT4 (List.mem_of_getElem? (i := 235) rfl)) rfl
theorem mw_728 : Cond.code yX4_write cX4_write 2 none ∈ gT := gT_in (inT4 (List.mem_of_getElem? (i := 236) rfl)) rfl
theorem mw_729 : Cond.methodLink RX4 315 yX4_writeNumber ∈ gT := gT_in (inT4 (List.mem_of_getElem? (i := 237) rfl)) rfl
theorem mw_730 : Cond.instanceMethod yX4_writeNumber ∈ gT := gT_in (inT4 (List.mem_of_getElem? (i := 239) rfl)) rfl
theorem mw_731 : Cond.code yX4_writeNumber cX4_writeNumber 7 none ∈ gT := gT_in (inT5 (List.mem_of_getElem? (i := 0) rfl)) rfl
theorem mw_732 : Cond.methodLink RX4 303 yX4_tens ∈ gT := gT_in (inT5 (List.mem_of_getElem? (i := 1) rfl)) rfl
theorem mw_733 : Cond.static yX4_tens ∈ gT := gT_in (inT5 (List.mem_of_getElem? (i := 2) rfl)) rfl
theorem mw_734 : Cond.code yX4_tens cX4_tens 4 (some .long) ∈ gT := gT_in (inT5 (List.mem_of_getElem? (i := 3) rfl)) rfl
theorem mw_735 : Cond.methodLink RX4 318 yX4_writeDay ∈ gT := gT_in (inT5 (List.mem_of_getElem? (i := 4) rfl)) rfl
theorem mw_736 : Cond.instanceMethod yX4_writeDay ∈ gT := gT_in (inT5 (List.mem_of_getElem? (i := 6) rfl)) rfl
theorem mw_737 : Cond.code yX4_writeDay cX4_writeDay 5 none ∈ gT := gT_in (inT5 (List.mem_of_getElem? (i := 7) rfl)) rfl
theorem mw_738 : Cond.methodLink RX4 306 yX4_writeWhole ∈ gT := gT_in (inT5 (List.mem_of_getElem? (i := 8) rfl)) rfl
theorem mw_739 : Cond.instanceMethod yX4_writeWhole ∈ gT := gT_in (inT5 (List.mem_of_getElem? (i := 10) rfl)) rfl
theorem mw_740 : Cond.code yX4_writeWhole cX4_writeWhole 4 none ∈ gT := gT_in (inT5 (List.mem_of_getElem? (i := 11) rfl)) rfl
theorem mw_741 : Cond.methodLink RL 112 yX4_key ∈ gT := gT_in (inT5 (List.mem_of_getElem? (i := 12) rfl)) rfl
theorem mw_742 : Cond.instanceMethod yX4_key ∈ gT := gT_in (inT5 (List.mem_of_getElem? (i := 13) rfl)) rfl
theorem mw_743 : Cond.selects RX4 yX4_key yX4_key ∈ gT := gT_in (inT5 (List.mem_of_getElem? (i := 14) rfl)) rfl
theorem mw_744 : Cond.code yX4_key cX4_key 4 (some .int) ∈ gT := gT_in (inT5 (List.mem_of_getElem? (i := 15) rfl)) rfl
theorem mw_745 : Cond.methodLink RX4 321 yX4_isSame ∈ gT := gT_in (inT5 (List.mem_of_getElem? (i := 16) rfl)) rfl
theorem mw_746 : Cond.instanceMethod yX4_isSame ∈ gT := gT_in (inT5 (List.mem_of_getElem? (i := 18) rfl)) rfl
theorem mw_747 : Cond.code yX4_isSame cX4_isSame 4 (some .boolean) ∈ gT := gT_in (inT5 (List.mem_of_getElem? (i := 19) rfl)) rfl
theorem mw_748 : Cond.fieldLink RJ0 9 "java/lang/String" "value" "[B" ∈ gT := gT_in (inT5 (List.mem_of_getElem? (i := 20) rfl)) rfl
theorem mw_749 : Cond.fieldLink RJ0 15 "java/lang/String" "coder" "B" ∈ gT := gT_in (inT5 (List.mem_of_getElem? (i := 21) rfl)) rfl
theorem mw_750 : Cond.arrayClass .char ∈ gT := gT_in (inT5 (List.mem_of_getElem? (i := 22) rfl)) rfl
theorem mw_751 : Cond.selects RX3 yX3_tapeNumber yX3_tapeNumber ∈ gT := gT_in (inP1 (List.mem_of_getElem? (l := lw_privs_1) (i := 0) rfl)) rfl
theorem mw_752 : Cond.selects RX3 yX3_forgetReadings yX3_forgetReadings ∈ gT := gT_in (inP1 (List.mem_of_getElem? (l := lw_privs_1) (i := 1) rfl)) rfl
theorem mw_753 : Cond.selects RX3 yX3_cutTextBy yX3_cutTextBy ∈ gT := gT_in (inP1 (List.mem_of_getElem? (l := lw_privs_1) (i := 2) rfl)) rfl
theorem mw_754 : Cond.selects RX1 yX1_begin yX1_begin ∈ gT := gT_in (inP1 (List.mem_of_getElem? (l := lw_privs_1) (i := 3) rfl)) rfl
theorem mw_755 : Cond.selects RX1 yX1_openCell yX1_openCell ∈ gT := gT_in (inP1 (List.mem_of_getElem? (l := lw_privs_1) (i := 4) rfl)) rfl
theorem mw_756 : Cond.selects RX1 yX1_fail yX1_fail ∈ gT := gT_in (inP1 (List.mem_of_getElem? (l := lw_privs_1) (i := 5) rfl)) rfl
theorem mw_757 : Cond.selects RX1 yX1_take yX1_take ∈ gT := gT_in (inP1 (List.mem_of_getElem? (l := lw_privs_1) (i := 6) rfl)) rfl
theorem mw_758 : Cond.selects RX1 yX1_hold yX1_hold ∈ gT := gT_in (inP1 (List.mem_of_getElem? (l := lw_privs_1) (i := 7) rfl)) rfl
theorem mw_759 : Cond.selects RX1 yX1_finish yX1_finish ∈ gT := gT_in (inP1 (List.mem_of_getElem? (l := lw_privs_1) (i := 8) rfl)) rfl
theorem mw_760 : Cond.selects RX3 yX3_priceOfMake yX3_priceOfMake ∈ gT := gT_in (inP1 (List.mem_of_getElem? (l := lw_privs_1) (i := 9) rfl)) rfl
theorem mw_761 : Cond.selects RX1 yX1_bytesOf yX1_bytesOf ∈ gT := gT_in (inP1 (List.mem_of_getElem? (l := lw_privs_1) (i := 10) rfl)) rfl
theorem mw_762 : Cond.selects RX0 yX0_isMissing yX0_isMissing ∈ gT := gT_in (inP1 (List.mem_of_getElem? (l := lw_privs_1) (i := 11) rfl)) rfl
theorem mw_763 : Cond.selects RX2 yX2_tellsFlag yX2_tellsFlag ∈ gT := gT_in (inP1 (List.mem_of_getElem? (l := lw_privs_1) (i := 12) rfl)) rfl
theorem mw_764 : Cond.selects RX2 yX2_tellsNumber yX2_tellsNumber ∈ gT := gT_in (inP1 (List.mem_of_getElem? (l := lw_privs_1) (i := 13) rfl)) rfl
theorem mw_765 : Cond.selects RX2 yX2_tellsDay yX2_tellsDay ∈ gT := gT_in (inP1 (List.mem_of_getElem? (l := lw_privs_1) (i := 14) rfl)) rfl
theorem mw_766 : Cond.selects RX2 yX2_tellsCode yX2_tellsCode ∈ gT := gT_in (inP1 (List.mem_of_getElem? (l := lw_privs_1) (i := 15) rfl)) rfl
theorem mw_767 : Cond.selects RX2 yX2_priceOfCode yX2_priceOfCode ∈ gT := gT_in (inP2 (List.mem_of_getElem? (l := lw_privs_2) (i := 0) rfl)) rfl
theorem mw_768 : Cond.selects RX0 yX0_weigh yX0_weigh ∈ gT := gT_in (inP2 (List.mem_of_getElem? (l := lw_privs_2) (i := 1) rfl)) rfl
theorem mw_769 : Cond.selects RX3 yX3_hasChosen yX3_hasChosen ∈ gT := gT_in (inP2 (List.mem_of_getElem? (l := lw_privs_2) (i := 2) rfl)) rfl
theorem mw_770 : Cond.selects RX0 yX0_isRepeated yX0_isRepeated ∈ gT := gT_in (inP2 (List.mem_of_getElem? (l := lw_privs_2) (i := 3) rfl)) rfl
theorem mw_771 : Cond.selects RX4 yX4_feedOne yX4_feedOne ∈ gT := gT_in (inP2 (List.mem_of_getElem? (l := lw_privs_2) (i := 4) rfl)) rfl
theorem mw_772 : Cond.selects RX4 yX4_changes yX4_changes ∈ gT := gT_in (inP2 (List.mem_of_getElem? (l := lw_privs_2) (i := 5) rfl)) rfl
theorem mw_773 : Cond.selects RX4 yX4_load yX4_load ∈ gT := gT_in (inP2 (List.mem_of_getElem? (l := lw_privs_2) (i := 6) rfl)) rfl
theorem mw_774 : Cond.selects RX4 yX4_wrong yX4_wrong ∈ gT := gT_in (inP2 (List.mem_of_getElem? (l := lw_privs_2) (i := 7) rfl)) rfl
theorem mw_775 : Cond.selects RX4 yX4_row yX4_row ∈ gT := gT_in (inP2 (List.mem_of_getElem? (l := lw_privs_2) (i := 8) rfl)) rfl
theorem mw_776 : Cond.selects RX4 yX4_cell yX4_cell ∈ gT := gT_in (inP2 (List.mem_of_getElem? (l := lw_privs_2) (i := 9) rfl)) rfl
theorem mw_777 : Cond.selects RX4 yX4_textAt yX4_textAt ∈ gT := gT_in (inP2 (List.mem_of_getElem? (l := lw_privs_2) (i := 10) rfl)) rfl
theorem mw_778 : Cond.selects RX4 yX4_take yX4_take ∈ gT := gT_in (inP2 (List.mem_of_getElem? (l := lw_privs_2) (i := 11) rfl)) rfl
theorem mw_779 : Cond.selects RX4 yX4_isOdd yX4_isOdd ∈ gT := gT_in (inP2 (List.mem_of_getElem? (l := lw_privs_2) (i := 12) rfl)) rfl
theorem mw_780 : Cond.selects RX4 yX4_cellsOf yX4_cellsOf ∈ gT := gT_in (inP2 (List.mem_of_getElem? (l := lw_privs_2) (i := 13) rfl)) rfl
theorem mw_781 : Cond.selects RX4 yX4_width yX4_width ∈ gT := gT_in (inP2 (List.mem_of_getElem? (l := lw_privs_2) (i := 14) rfl)) rfl
theorem mw_782 : Cond.selects RX4 yX4_gather yX4_gather ∈ gT := gT_in (inP2 (List.mem_of_getElem? (l := lw_privs_2) (i := 15) rfl)) rfl
theorem mw_783 : Cond.selects RX4 yX4_isPlain yX4_isPlain ∈ gT := gT_in (inP3 (List.mem_of_getElem? (l := lw_privs_3) (i := 0) rfl)) rfl
theorem mw_784 : Cond.selects RX4 yX4_judge yX4_judge ∈ gT := gT_in (inP3 (List.mem_of_getElem? (l := lw_privs_3) (i := 1) rfl)) rfl
theorem mw_785 : Cond.selects RX4 yX4_costBy yX4_costBy ∈ gT := gT_in (inP3 (List.mem_of_getElem? (l := lw_privs_3) (i := 2) rfl)) rfl
theorem mw_786 : Cond.selects RX4 yX4_firstOf yX4_firstOf ∈ gT := gT_in (inP3 (List.mem_of_getElem? (l := lw_privs_3) (i := 3) rfl)) rfl
theorem mw_787 : Cond.selects RX4 yX4_isMissing yX4_isMissing ∈ gT := gT_in (inP3 (List.mem_of_getElem? (l := lw_privs_3) (i := 4) rfl)) rfl
theorem mw_788 : Cond.selects RX4 yX4_isWord yX4_isWord ∈ gT := gT_in (inP3 (List.mem_of_getElem? (l := lw_privs_3) (i := 5) rfl)) rfl
theorem mw_789 : Cond.selects RX4 yX4_byteOf yX4_byteOf ∈ gT := gT_in (inP3 (List.mem_of_getElem? (l := lw_privs_3) (i := 6) rfl)) rfl
theorem mw_790 : Cond.selects RX4 yX4_tells yX4_tells ∈ gT := gT_in (inP3 (List.mem_of_getElem? (l := lw_privs_3) (i := 7) rfl)) rfl
theorem mw_791 : Cond.selects RX4 yX4_isFlag yX4_isFlag ∈ gT := gT_in (inP3 (List.mem_of_getElem? (l := lw_privs_3) (i := 8) rfl)) rfl
theorem mw_792 : Cond.selects RX4 yX4_isNumber yX4_isNumber ∈ gT := gT_in (inP3 (List.mem_of_getElem? (l := lw_privs_3) (i := 9) rfl)) rfl
theorem mw_793 : Cond.selects RX4 yX4_more yX4_more ∈ gT := gT_in (inP3 (List.mem_of_getElem? (l := lw_privs_3) (i := 10) rfl)) rfl
theorem mw_794 : Cond.selects RX4 yX4_isDay yX4_isDay ∈ gT := gT_in (inP3 (List.mem_of_getElem? (l := lw_privs_3) (i := 11) rfl)) rfl
theorem mw_795 : Cond.selects RX4 yX4_whole yX4_whole ∈ gT := gT_in (inP3 (List.mem_of_getElem? (l := lw_privs_3) (i := 12) rfl)) rfl
theorem mw_796 : Cond.selects RX4 yX4_isCode yX4_isCode ∈ gT := gT_in (inP3 (List.mem_of_getElem? (l := lw_privs_3) (i := 13) rfl)) rfl
theorem mw_797 : Cond.selects RX4 yX4_cellCost yX4_cellCost ∈ gT := gT_in (inP3 (List.mem_of_getElem? (l := lw_privs_3) (i := 14) rfl)) rfl
theorem mw_798 : Cond.selects RX4 yX4_rowCost yX4_rowCost ∈ gT := gT_in (inP3 (List.mem_of_getElem? (l := lw_privs_3) (i := 15) rfl)) rfl
theorem mw_799 : Cond.selects RX4 yX4_isRow yX4_isRow ∈ gT := gT_in (inP4 (List.mem_of_getElem? (l := lw_privs_4) (i := 0) rfl)) rfl
theorem mw_800 : Cond.selects RX4 yX4_cellAt yX4_cellAt ∈ gT := gT_in (inP4 (List.mem_of_getElem? (l := lw_privs_4) (i := 1) rfl)) rfl
theorem mw_801 : Cond.selects RX4 yX4_isColumn yX4_isColumn ∈ gT := gT_in (inP4 (List.mem_of_getElem? (l := lw_privs_4) (i := 2) rfl)) rfl
theorem mw_802 : Cond.selects RX4 yX4_told yX4_told ∈ gT := gT_in (inP4 (List.mem_of_getElem? (l := lw_privs_4) (i := 3) rfl)) rfl
theorem mw_803 : Cond.selects RX4 yX4_writeWord yX4_writeWord ∈ gT := gT_in (inP4 (List.mem_of_getElem? (l := lw_privs_4) (i := 4) rfl)) rfl
theorem mw_804 : Cond.selects RX4 yX4_write yX4_write ∈ gT := gT_in (inP4 (List.mem_of_getElem? (l := lw_privs_4) (i := 5) rfl)) rfl
theorem mw_805 : Cond.selects RX4 yX4_writeNumber yX4_writeNumber ∈ gT := gT_in (inP4 (List.mem_of_getElem? (l := lw_privs_4) (i := 6) rfl)) rfl
theorem mw_806 : Cond.selects RX4 yX4_writeDay yX4_writeDay ∈ gT := gT_in (inP4 (List.mem_of_getElem? (l := lw_privs_4) (i := 7) rfl)) rfl
theorem mw_807 : Cond.selects RX4 yX4_writeWhole yX4_writeWhole ∈ gT := gT_in (inP4 (List.mem_of_getElem? (l := lw_privs_4) (i := 8) rfl)) rfl
theorem mw_808 : Cond.selects RX4 yX4_isSame yX4_isSame ∈ gT := gT_in (inP4 (List.mem_of_getElem? (l := lw_privs_4) (i := 9) rfl)) rfl
end
section
abbrev Mx : Type := Program × Launch × Env × Room × State × MethodId × Array Value × List Frame × Method × Code
abbrev Gd : Type := va_G × (Nat → ClassId) × (Nat → Nat) × (Nat → Nat)
abbrev gty (g : Gd) : List (ClassId × FieldType) := [(g.2.1 0, .int), (g.2.1 1, .byte), (g.2.1 2, .boolean)]
def sxTab : List (String × Nat × String × List Int32) := [(RX0, 86, "", []), (RX0, 92, "-", [45]), (RX0, 94, "NA", [78, 65]), (RX0, 96, "9999", [57, 57, 57, 57]), (RX2, 68, "1", [49]), (RX2, 70, "y", [121]), (RX2, 72, "Y", [89]), (RX2, 74, "yes", [121, 101, 115]), (RX2, 76, "true", [116, 114, 117, 101]), (RX2, 78, "T", [84]), (RX2, 56, "0", [48]), (RX2, 58, "n", [110]), (RX2, 60, "N", [78]), (RX2, 62, "no", [110, 111]), (RX2, 64, "false", [102, 97, 108, 115, 101]), (RX2, 66, "F", [70]), (RX4, 218, "-", [45]), (RX4, 220, "NA", [78, 65]), (RX4, 222, "9999", [57, 57, 57, 57]), (RX4, 144, "0", [48]), (RX4, 146, "1", [49]), (RX4, 148, "n", [110]), (RX4, 150, "y", [121]), (RX4, 152, "N", [78]), (RX4, 154, "Y", [89]), (RX4, 156, "no", [110, 111]), (RX4, 158, "yes", [121, 101, 115]), (RX4, 160, "false", [102, 97, 108, 115, 101]), (RX4, 162, "true", [116, 114, 117, 101]), (RX4, 164, "F", [70]), (RX4, 166, "T", [84]), (RX4, 309, "", [])]
def sxB (k : Nat) : List Int32 := (sxTab.getD k ("", 0, "", [])).2.2.2
def tbM (j : Nat) : Int32 := ([44, 59, 9, 124] : List Int32).getD j 0
def tbD (j : Nat) : Int32 := ([47, 45, 46] : List Int32).getD j 0
def tbN (j : Nat) : Int32 := ([31, 28, 31, 30, 31, 30, 31, 31, 30, 31, 30, 31] : List Int32).getD j 0
/-- the k-th text constant -/
def StS (g : Gd) (A : Nat → Prop) (U : State) (H : Heap) (k : Nat) : Prop := ∃ v : Nat, va_O "java/lang/String" (g.2.2.1 k) A U H ∧ va_OF "java/lang/String" "coder" "B" (.int 0) (g.2.2.1 k) A U H ∧ va_OF "java/lang/String" "value" "[B" (.ref v) (g.2.2.1 k) A U H ∧ va_T .byte v (sxB k).length (fun j => .int ((sxB k).getD j 0)) A U H
theorem StS.moved {g : Gd} {A : Nat → Prop} {u U : State} {H : Heap} {k : Nat} (hvm : u.vm.Alike U.vm) (h : StS g A u H k) : StS g A U H k := by
  obtain ⟨v, h1, h2, h3, h4⟩ := h
  exact ⟨v, h1.moved hvm, h2.moved hvm, h3.moved hvm, h4.moved hvm⟩
theorem StS.kept {g : Gd} {A : Nat → Prop} {U : State} {H H1 : Heap} {k : Nat} (h : StS g A U H k) (hq : ∀ a : Nat, a < H.size → ¬ A a → H1[a]? = H[a]?) : StS g A U H1 k := by
  obtain ⟨v, h1, h2, h3, h4⟩ := h
  exact ⟨v, h1.kept hq, h2.kept hq, h3.kept hq, h4.kept hq⟩
theorem StS.narrow {g : Gd} {A B : Nat → Prop} {U : State} {H : Heap} {k : Nat} (h : StS g A U H k) (hAB : ∀ q, B q → A q) : StS g B U H k := by
  obtain ⟨v, h1, h2, h3, h4⟩ := h
  exact ⟨v, h1.narrow hAB, h2.narrow hAB, h3.narrow hAB, h4.narrow hAB⟩
/-- a static that holds a table of whole numbers -/
def StT (C n d : String) (ty : FieldType) (a N : Nat) (f : Nat → Int32) (A : Nat → Prop) (U : State) (H : Heap) : Prop := va_Z C n d (.ref a) A U H ∧ va_T ty a N (fun j => .int (f j)) A U H
/-- what never changes: text constants and static tables -/
def StF (g : Gd) (A : Nat → Prop) (U : State) (H : Heap) : Prop :=
  (∀ k, k < 32 → StS g A U H k) ∧ (∀ (k : Nat) (q : String × Nat × String × List Int32), sxTab[k]? = some q → vk_R q.1 q.2.1 q.2.2.1 (g.2.2.1 k) U) ∧
  va_Z "java/lang/String" "COMPACT_STRINGS" "Z" (.int 1) A U H ∧ va_Zq "jdk/internal/util/Preconditions" "SIOOBE_FORMATTER" "Ljava/util/function/BiFunction;" A U H ∧
  StT "ColumnReader$Cut" "MARKS" "[C" .char (g.2.2.2 0) 4 tbM A U H ∧ StT "ColumnReader$Forms" "DAY_MARKS" "[C" .char (g.2.2.2 1) 3 tbD A U H ∧ StT "ColumnReader$Forms" "MONTH_DAYS" "[I" .int (g.2.2.2 2) 12 tbN A U H
theorem StT.moved {C n d : String} {ty : FieldType} {a N : Nat} {f : Nat → Int32} {A : Nat → Prop} {u U : State} {H : Heap} (hvm : u.vm.Alike U.vm) (h : StT C n d ty a N f A u H) : StT C n d ty a N f A U H := ⟨h.1.moved hvm, h.2.moved hvm⟩
theorem StT.kept {C n d : String} {ty : FieldType} {a N : Nat} {f : Nat → Int32} {A : Nat → Prop} {U : State} {H H1 : Heap} (h : StT C n d ty a N f A U H) (hq : ∀ a : Nat, a < H.size → ¬ A a → H1[a]? = H[a]?) : StT C n d ty a N f A U H1 := ⟨h.1.kept hq, h.2.kept hq⟩
theorem StT.narrow {C n d : String} {ty : FieldType} {a N : Nat} {f : Nat → Int32} {A B : Nat → Prop} {U : State} {H : Heap} (h : StT C n d ty a N f A U H) (hAB : ∀ q, B q → A q) : StT C n d ty a N f B U H := ⟨h.1.narrow hAB, h.2.narrow hAB⟩
theorem StF.warm {g : Gd} {A : Nat → Prop} {s U : State} {H : Heap} (hW : s.WarmedH U.vm) (h : StF g A s H) : StF g A U H :=
  ⟨fun k hk => (h.1 k hk).moved hW.alike, fun k q hq => (h.2.1 k q hq).warm hW, h.2.2.1.moved hW.alike, h.2.2.2.1.moved hW.alike, h.2.2.2.2.1.moved hW.alike, h.2.2.2.2.2.1.moved hW.alike, h.2.2.2.2.2.2.moved hW.alike⟩
theorem StF.same {g : Gd} {A : Nat → Prop} {s U : State} {H : Heap} (hv : U.vm = s.vm) (h : StF g A s H) : StF g A U H := by
  have hA : s.vm.Alike U.vm := by rw [hv]; exact Vm.Alike.refl _
  exact ⟨fun k hk => (h.1 k hk).moved hA, fun k q hq => (h.2.1 k q hq).same hv, h.2.2.1.moved hA, h.2.2.2.1.moved hA, h.2.2.2.2.1.moved hA, h.2.2.2.2.2.1.moved hA, h.2.2.2.2.2.2.moved hA⟩
theorem StF.kept {g : Gd} {A : Nat → Prop} {U : State} {H H1 : Heap} (h : StF g A U H) (hq : ∀ a : Nat, a < H.size → ¬ A a → H1[a]? = H[a]?) : StF g A U H1 :=
  ⟨fun k hk => (h.1 k hk).kept hq, h.2.1, h.2.2.1.kept hq, h.2.2.2.1.kept hq, h.2.2.2.2.1.kept hq, h.2.2.2.2.2.1.kept hq, h.2.2.2.2.2.2.kept hq⟩
theorem StF.narrow {g : Gd} {A B : Nat → Prop} {U : State} {H : Heap} (h : StF g A U H) (hAB : ∀ q, B q → A q) : StF g B U H :=
  ⟨fun k hk => (h.1 k hk).narrow hAB, h.2.1, h.2.2.1.narrow hAB, h.2.2.2.1.narrow hAB, h.2.2.2.2.1.narrow hAB, h.2.2.2.2.2.1.narrow hAB, h.2.2.2.2.2.2.narrow hAB⟩
/-- a world w of one side, at a state -/
def Wo {Wd : Type} (g : Gd) (A : Nat → Prop) (cl : Wd → va_W) (w : Wd) (U : State) : Prop := va_P g.1 vwCl (cl w) U.heap ∧ va_K g.1 vwCl (gty g) U ∧ (∀ w' : Wd, va_D A (cl w')) ∧ StF g A U U.heap
/-- what holds throughout a method's body -/
def Cx {Wd : Type} (x : Mx) (g : Gd) (A : Nat → Prop) (cl : Wd → va_W) (cc : ByteArray) (nL : Nat) (own : String) (ret : Option FieldType) (F L : Nat) : Prop :=
  x.1.tables.exec = Jvm.exec ∧ x.2.2.2.2.2.2.2.2.2.code = cc ∧ x.2.2.2.2.2.2.2.2.2.maxLocals = nL ∧ x.2.2.2.2.1.vm.findClass own = some x.2.2.2.2.2.1.cls ∧
  (∀ w ∈ gT, w.before x.2.2.2.2.2.2.1 x.2.2.2.2.1 = true) ∧ va_K g.1 vwCl (gty g) x.2.2.2.2.1 ∧ (∀ w' : Wd, va_D A (cl w')) ∧ StF g A x.2.2.2.2.1 x.2.2.2.2.1.heap ∧
  x.2.2.2.2.2.2.2.2.1.locks = false ∧ x.2.2.2.2.2.2.2.2.1.sig.returnType = ret ∧ F ≤ x.2.2.2.1.frames ∧ L ≤ x.2.2.2.1.locals
/-- the machine's run from a place of the body: the world is w, the locals lv, the stack st -/
def J {Wd : Type} (x : Mx) (g : Gd) (A : Nat → Prop) (cl : Wd → va_W) (nL : Nat) (Q : State → Prop) (w : Wd) (pc : Nat) (lv : List (Nat × Value)) (st : List Value) : Prop :=
  ∀ (ls : Array Slot) (H : Heap) (locs : List Loc), lv_has ls nL lv → va_P g.1 vwCl (cl w) H → va_S A x.2.2.2.2.1.heap H locs →
    W x.1 x.2.1 x.2.2.1 x.2.2.2.1 x.2.2.2.2.1 x.2.2.2.2.2.1 x.2.2.2.2.2.2.1 x.2.2.2.2.2.2.2.1 x.2.2.2.2.2.2.2.2.1 x.2.2.2.2.2.2.2.2.2 H locs 0 0 Q (F0 x.2.2.2.2.2.1 pc ls st)
abbrev QcI {Wd : Type} (g : Gd) (A : Nat → Prop) (cl : Wd → va_W) (K : Int32 → Wd → Prop) : Array Value → State → Outcome → State → Prop := va_Qi K (fun w' t => va_P g.1 vwCl (cl w') t.heap) A
abbrev QcL {Wd : Type} (g : Gd) (A : Nat → Prop) (cl : Wd → va_W) (K : Int64 → Wd → Prop) : Array Value → State → Outcome → State → Prop := va_Ql K (fun w' t => va_P g.1 vwCl (cl w') t.heap) A
abbrev QcV {Wd : Type} (g : Gd) (A : Nat → Prop) (cl : Wd → va_W) (K : Wd → Prop) : Array Value → State → Outcome → State → Prop := va_Qv K (fun w' t => va_P g.1 vwCl (cl w') t.heap) A
abbrev QcS {Wd : Type} (g : Gd) (A : Nat → Prop) (cl : Wd → va_W) (K : Nat → Wd → Prop) : Array Value → State → Outcome → State → Prop := va_Qr (fun u : Nat × Wd => K u.1 u.2) (fun u a t => a = g.2.2.1 u.1 ∧ va_P g.1 vwCl (cl u.2) t.heap) A
abbrev JQ (x : Mx) (A : Nat → Prop) (Qc : Array Value → State → Outcome → State → Prop) : State → Prop := MQ x.2.2.2.2.2.2.2.1 Qc x.2.2.2.2.2.2.1 x.2.2.2.2.1 0 0 A
/-- a method's contract over a world -/
def Kt {Wd : Type} (l : Launch) (y : MethodName) (cc : ByteArray) (n : Nat) (ret : Option FieldType) (F L : Nat) (g : Gd) (A : Nat → Prop) (cl : Wd → va_W) (as : List Value) (w : Wd) (Qc : Array Value → State → Outcome → State → Prop) : Prop :=
  Met l y (.code y cc n ret :: gT) { frames := F, cells := 0, slots := 0, locals := L } (va_Pc as (Wo g A cl w)) Qc 0 0 A
theorem Kt_of {Wd : Type} {l : Launch} {y : MethodName} {cc : ByteArray} {n : Nat} {ret : Option FieldType} {F L : Nat} {g : Gd} {A : Nat → Prop} {cl : Wd → va_W} {as : List Value} {w : Wd} {Qc : Array Value → State → Outcome → State → Prop} (hy : plainName y.cls = true) (hn : (lg_sl as).length ≤ n)
    (h : ∀ x : Mx, x.2.1 = l → Cx x g A cl cc n y.cls ret F L → J x g A cl n (JQ x A Qc) w 0 (lv_args 0 as) []) : Kt l y cc n ret F L g A cl as w Qc := by
  refine Met.ofW (cc := cc) (maxL := n) (ret := ret) hy rfl ?_
  intro p e s m args below meth c s₁ B hml hv
  obtain ⟨rfl, hP, hK, hD, hF⟩ := hv
  have hts := atoms_spec (ws := .code y cc n ret :: gT) B.pre
  have hl := lv_entry as (n := n) hn
  rw [lg_entry_eq]
  exact h (p, l, e, _, s, m, _, below, meth, c) rfl ⟨B.exec, B.bytes, hml, findClass_of_methodNamed B.named, fun w hw => hts w (List.mem_cons_of_mem _ hw), hK, hD, hF, B.notSynchronized, B.returns, Nat.le_refl _, Nat.le_refl _⟩ _ _ _ hl hP va_S.rf
theorem gin_of {ws : List Cond} (h : ∀ w ∈ ws, w ∈ gT) : GoodIn gT ws := fun w hw => ⟨h w hw, good_of_word (gg_good w (h w hw))⟩
theorem gin_c {cw : Cond} (h : cw ∈ gT) : ∀ w ∈ (cw :: gT), w ∈ gT := fun w hw => (List.mem_cons.mp hw).elim (fun e => e ▸ h) id
theorem gin_V {own : String} {index : Nat} {C : String} {y : MethodName} {cw : Cond} (h1 : Cond.methodLink own index y ∈ gT) (h2 : Cond.instanceMethod y ∈ gT) (h3 : Cond.selects C y y ∈ gT) (h4 : Cond.initialized C ∈ gT) (h5 : cw ∈ gT) : GoodIn gT (wsV own index C y (cw :: gT)) := by
  refine gin_of (fun w hw => ?_)
  rcases List.mem_append.mp hw with h | h
  · simp only [List.mem_cons, List.not_mem_nil, or_false] at h
    rcases h with rfl | rfl | rfl | rfl <;> assumption
  · exact gin_c h5 w h
theorem gin_S {own : String} {index : Nat} {y : MethodName} {cw : Cond} (h1 : Cond.methodLink own index y ∈ gT) (h2 : Cond.static y ∈ gT) (h4 : Cond.initialized y.cls ∈ gT) (h5 : cw ∈ gT) : GoodIn gT (va_wsS own index y (cw :: gT)) := by
  refine gin_of (fun w hw => ?_)
  rcases List.mem_append.mp hw with h | h
  · simp only [List.mem_cons, List.not_mem_nil, or_false] at h
    rcases h with rfl | rfl | rfl <;> assumption
  · exact gin_c h5 w h
theorem J_iconst {Wd : Type} {x : Mx} {g : Gd} {A : Nat → Prop} {cl : Wd → va_W} {cc : ByteArray} {nL : Nat} {own : String} {ret : Option FieldType} {F L : Nat} {Q : State → Prop} {w : Wd} {pc : Nat} {lv : List (Nat × Value)} {st : List Value} (C : Cx x g A cl cc nL own ret F L) {n : Int} {v : Int32} (hd : decode cc pc = .ok (.iconst n, 1)) (hv : Int32.ofInt n = v) (k : J x g A cl nL Q w (pc + 1) lv (.int v :: st)) : J x g A cl nL Q w (pc) lv st :=
  fun ls H locs hl hP hS => lv_iconst C.1 C.2.1 hd hv (k ls H locs hl hP hS)
theorem J_bipush {Wd : Type} {x : Mx} {g : Gd} {A : Nat → Prop} {cl : Wd → va_W} {cc : ByteArray} {nL : Nat} {own : String} {ret : Option FieldType} {F L : Nat} {Q : State → Prop} {w : Wd} {pc : Nat} {lv : List (Nat × Value)} {st : List Value} (C : Cx x g A cl cc nL own ret F L) {n : Int} {v : Int32} (hd : decode cc pc = .ok (.bipush n, 2)) (hv : (Int8.ofInt n).toInt32 = v) (k : J x g A cl nL Q w (pc + 2) lv (.int v :: st)) : J x g A cl nL Q w (pc) lv st :=
  fun ls H locs hl hP hS => lv_bipush C.1 C.2.1 hd hv (k ls H locs hl hP hS)
theorem J_sipush {Wd : Type} {x : Mx} {g : Gd} {A : Nat → Prop} {cl : Wd → va_W} {cc : ByteArray} {nL : Nat} {own : String} {ret : Option FieldType} {F L : Nat} {Q : State → Prop} {w : Wd} {pc : Nat} {lv : List (Nat × Value)} {st : List Value} (C : Cx x g A cl cc nL own ret F L) {n : Int} {v : Int32} (hd : decode cc pc = .ok (.sipush n, 3)) (hv : (Int16.ofInt n).toInt32 = v) (k : J x g A cl nL Q w (pc + 3) lv (.int v :: st)) : J x g A cl nL Q w (pc) lv st :=
  fun ls H locs hl hP hS => lv_sipush C.1 C.2.1 hd hv (k ls H locs hl hP hS)
theorem J_lconst {Wd : Type} {x : Mx} {g : Gd} {A : Nat → Prop} {cl : Wd → va_W} {cc : ByteArray} {nL : Nat} {own : String} {ret : Option FieldType} {F L : Nat} {Q : State → Prop} {w : Wd} {pc : Nat} {lv : List (Nat × Value)} {st : List Value} (C : Cx x g A cl cc nL own ret F L) {n : Fin 2} {v : Int64} (hd : decode cc pc = .ok (.lconst n, 1)) (hv : Int64.ofNat (n : Nat) = v) (k : J x g A cl nL Q w (pc + 1) lv (.long v :: st)) : J x g A cl nL Q w (pc) lv st :=
  fun ls H locs hl hP hS => lv_lconst C.1 C.2.1 hd hv (k ls H locs hl hP hS)
theorem J_ldcw {Wd : Type} {x : Mx} {g : Gd} {A : Nat → Prop} {cl : Wd → va_W} {cc : ByteArray} {nL : Nat} {own : String} {ret : Option FieldType} {F L : Nat} {Q : State → Prop} {w : Wd} {pc : Nat} {lv : List (Nat × Value)} {st : List Value} (C : Cx x g A cl cc nL own ret F L) {index : Nat} {v : Int32} (hc : Cond.constant own index v ∈ gT) (hd : decode cc pc = .ok (.ldc_w index, 3)) (k : J x g A cl nL Q w (pc + 3) lv (.int v :: st)) : J x g A cl nL Q w (pc) lv st :=
  fun ls H locs hl hP hS => lv_ldcw C.1 C.2.1 C.2.2.2.1 (C.2.2.2.2.1 _ hc) hd (k ls H locs hl hP hS)
theorem J_ldc2 {Wd : Type} {x : Mx} {g : Gd} {A : Nat → Prop} {cl : Wd → va_W} {cc : ByteArray} {nL : Nat} {own : String} {ret : Option FieldType} {F L : Nat} {Q : State → Prop} {w : Wd} {pc : Nat} {lv : List (Nat × Value)} {st : List Value} (C : Cx x g A cl cc nL own ret F L) {index : Nat} {v : Int64} (hc : Cond.constantLong own index v ∈ gT) (hd : decode cc pc = .ok (.ldc2_w index, 3)) (k : J x g A cl nL Q w (pc + 3) lv (.long v :: st)) : J x g A cl nL Q w (pc) lv st :=
  fun ls H locs hl hP hS => lv_ldc2 C.1 C.2.1 C.2.2.2.1 (C.2.2.2.2.1 _ hc) hd (k ls H locs hl hP hS)
theorem J_ldcS {Wd : Type} {x : Mx} {g : Gd} {A : Nat → Prop} {cl : Wd → va_W} {cc : ByteArray} {nL : Nat} {own : String} {ret : Option FieldType} {F L : Nat} {Q : State → Prop} {w : Wd} {pc : Nat} {lv : List (Nat × Value)} {st : List Value} (C : Cx x g A cl cc nL own ret F L) (i : Nat) {index : Nat} {tx : String} {bs : List Int32} (hc : sxTab[i]? = some (own, index, tx, bs)) (hd : decode cc pc = .ok (.ldc index, 2)) (k : J x g A cl nL Q w (pc + 2) lv (.ref (g.2.2.1 i) :: st)) : J x g A cl nL Q w (pc) lv st :=
  fun ls H locs hl hP hS => va_ldcS C.1 C.2.1 C.2.2.2.1 (C.2.2.2.2.2.2.2.1.2.1 i _ hc) hd (k ls H locs hl hP hS)
theorem J_iload_n {Wd : Type} {x : Mx} {g : Gd} {A : Nat → Prop} {cl : Wd → va_W} {cc : ByteArray} {nL : Nat} {own : String} {ret : Option FieldType} {F L : Nat} {Q : State → Prop} {w : Wd} {pc : Nat} {lv : List (Nat × Value)} {st : List Value} (C : Cx x g A cl cc nL own ret F L) {k : Fin 4} (j : Nat) {i : Nat} {v : Int32} (hd : decode cc pc = .ok (.iload_n k, 1)) (hi : (k : Nat) = i) (hj : lv[j]? = some (i, .int v)) (k : J x g A cl nL Q w (pc + 1) lv (.int v :: st)) : J x g A cl nL Q w (pc) lv st :=
  fun ls H locs hl hP hS => lv_iload_n C.1 C.2.1 hd hi (lv_at hl j hj) (k ls H locs hl hP hS)
theorem J_iload {Wd : Type} {x : Mx} {g : Gd} {A : Nat → Prop} {cl : Wd → va_W} {cc : ByteArray} {nL : Nat} {own : String} {ret : Option FieldType} {F L : Nat} {Q : State → Prop} {w : Wd} {pc : Nat} {lv : List (Nat × Value)} {st : List Value} (C : Cx x g A cl cc nL own ret F L) (j : Nat) {i : Nat} {v : Int32} (hd : decode cc pc = .ok (.iload i, 2)) (hj : lv[j]? = some (i, .int v)) (k : J x g A cl nL Q w (pc + 2) lv (.int v :: st)) : J x g A cl nL Q w (pc) lv st :=
  fun ls H locs hl hP hS => lv_iload C.1 C.2.1 hd (lv_at hl j hj) (k ls H locs hl hP hS)
theorem J_lload_n {Wd : Type} {x : Mx} {g : Gd} {A : Nat → Prop} {cl : Wd → va_W} {cc : ByteArray} {nL : Nat} {own : String} {ret : Option FieldType} {F L : Nat} {Q : State → Prop} {w : Wd} {pc : Nat} {lv : List (Nat × Value)} {st : List Value} (C : Cx x g A cl cc nL own ret F L) {k : Fin 4} (j : Nat) {i : Nat} {v : Int64} (hd : decode cc pc = .ok (.lload_n k, 1)) (hi : (k : Nat) = i) (hj : lv[j]? = some (i, .long v)) (k : J x g A cl nL Q w (pc + 1) lv (.long v :: st)) : J x g A cl nL Q w (pc) lv st :=
  fun ls H locs hl hP hS => lv_lload_n C.1 C.2.1 hd hi (lv_at hl j hj) (k ls H locs hl hP hS)
theorem J_lload {Wd : Type} {x : Mx} {g : Gd} {A : Nat → Prop} {cl : Wd → va_W} {cc : ByteArray} {nL : Nat} {own : String} {ret : Option FieldType} {F L : Nat} {Q : State → Prop} {w : Wd} {pc : Nat} {lv : List (Nat × Value)} {st : List Value} (C : Cx x g A cl cc nL own ret F L) (j : Nat) {i : Nat} {v : Int64} (hd : decode cc pc = .ok (.lload i, 2)) (hj : lv[j]? = some (i, .long v)) (k : J x g A cl nL Q w (pc + 2) lv (.long v :: st)) : J x g A cl nL Q w (pc) lv st :=
  fun ls H locs hl hP hS => lv_lload C.1 C.2.1 hd (lv_at hl j hj) (k ls H locs hl hP hS)
theorem J_aload_n {Wd : Type} {x : Mx} {g : Gd} {A : Nat → Prop} {cl : Wd → va_W} {cc : ByteArray} {nL : Nat} {own : String} {ret : Option FieldType} {F L : Nat} {Q : State → Prop} {w : Wd} {pc : Nat} {lv : List (Nat × Value)} {st : List Value} (C : Cx x g A cl cc nL own ret F L) {k : Fin 4} (j : Nat) {i : Nat} {v : Nat} (hd : decode cc pc = .ok (.aload_n k, 1)) (hi : (k : Nat) = i) (hj : lv[j]? = some (i, .ref v)) (k : J x g A cl nL Q w (pc + 1) lv (.ref v :: st)) : J x g A cl nL Q w (pc) lv st :=
  fun ls H locs hl hP hS => lv_aload_n C.1 C.2.1 hd hi (lv_at hl j hj) (k ls H locs hl hP hS)
theorem J_aload {Wd : Type} {x : Mx} {g : Gd} {A : Nat → Prop} {cl : Wd → va_W} {cc : ByteArray} {nL : Nat} {own : String} {ret : Option FieldType} {F L : Nat} {Q : State → Prop} {w : Wd} {pc : Nat} {lv : List (Nat × Value)} {st : List Value} (C : Cx x g A cl cc nL own ret F L) (j : Nat) {i : Nat} {v : Nat} (hd : decode cc pc = .ok (.aload i, 2)) (hj : lv[j]? = some (i, .ref v)) (k : J x g A cl nL Q w (pc + 2) lv (.ref v :: st)) : J x g A cl nL Q w (pc) lv st :=
  fun ls H locs hl hP hS => lv_aload C.1 C.2.1 hd (lv_at hl j hj) (k ls H locs hl hP hS)
theorem J_istore_n {Wd : Type} {x : Mx} {g : Gd} {A : Nat → Prop} {cl : Wd → va_W} {cc : ByteArray} {nL : Nat} {own : String} {ret : Option FieldType} {F L : Nat} {Q : State → Prop} {w : Wd} {pc : Nat} {lv : List (Nat × Value)} {st : List Value} (C : Cx x g A cl cc nL own ret F L) (lv1 : List (Nat × Value)) {k : Fin 4} {i : Nat} {v : Int32} (hd : decode cc pc = .ok (.istore_n k, 1)) (hi : (k : Nat) = i) (hn : i < nL) (hv : (i, Value.int v) :: lv.filter (fun q => !(q.1 == i) && !(q.1 + 1 == i && q.2.category == 2)) = lv1) (k : J x g A cl nL Q w (pc + 1) lv1 st) : J x g A cl nL Q w (pc) lv (.int v :: st) :=
  fun ls H locs hl hP hS => lv_istore_n C.1 C.2.1 hd hi hl hn hv (fun ls hl => k ls H locs hl hP hS)
theorem J_istore {Wd : Type} {x : Mx} {g : Gd} {A : Nat → Prop} {cl : Wd → va_W} {cc : ByteArray} {nL : Nat} {own : String} {ret : Option FieldType} {F L : Nat} {Q : State → Prop} {w : Wd} {pc : Nat} {lv : List (Nat × Value)} {st : List Value} (C : Cx x g A cl cc nL own ret F L) (lv1 : List (Nat × Value)) {i : Nat} {v : Int32} (hd : decode cc pc = .ok (.istore i, 2)) (hn : i < nL) (hv : (i, Value.int v) :: lv.filter (fun q => !(q.1 == i) && !(q.1 + 1 == i && q.2.category == 2)) = lv1) (k : J x g A cl nL Q w (pc + 2) lv1 st) : J x g A cl nL Q w (pc) lv (.int v :: st) :=
  fun ls H locs hl hP hS => lv_istore C.1 C.2.1 hd hl hn hv (fun ls hl => k ls H locs hl hP hS)
theorem J_lstore_n {Wd : Type} {x : Mx} {g : Gd} {A : Nat → Prop} {cl : Wd → va_W} {cc : ByteArray} {nL : Nat} {own : String} {ret : Option FieldType} {F L : Nat} {Q : State → Prop} {w : Wd} {pc : Nat} {lv : List (Nat × Value)} {st : List Value} (C : Cx x g A cl cc nL own ret F L) (lv1 : List (Nat × Value)) {k : Fin 4} {i : Nat} {v : Int64} (hd : decode cc pc = .ok (.lstore_n k, 1)) (hi : (k : Nat) = i) (hn : i + 1 < nL) (hv : (i, Value.long v) :: lv.filter (fun q => !(q.1 == i) && (!(q.1 == i + 1) && !(q.1 + 1 == i && q.2.category == 2))) = lv1) (k : J x g A cl nL Q w (pc + 1) lv1 st) : J x g A cl nL Q w (pc) lv (.long v :: st) :=
  fun ls H locs hl hP hS => lv_lstore_n C.1 C.2.1 hd hi hl hn hv (fun ls hl => k ls H locs hl hP hS)
theorem J_lstore {Wd : Type} {x : Mx} {g : Gd} {A : Nat → Prop} {cl : Wd → va_W} {cc : ByteArray} {nL : Nat} {own : String} {ret : Option FieldType} {F L : Nat} {Q : State → Prop} {w : Wd} {pc : Nat} {lv : List (Nat × Value)} {st : List Value} (C : Cx x g A cl cc nL own ret F L) (lv1 : List (Nat × Value)) {i : Nat} {v : Int64} (hd : decode cc pc = .ok (.lstore i, 2)) (hn : i + 1 < nL) (hv : (i, Value.long v) :: lv.filter (fun q => !(q.1 == i) && (!(q.1 == i + 1) && !(q.1 + 1 == i && q.2.category == 2))) = lv1) (k : J x g A cl nL Q w (pc + 2) lv1 st) : J x g A cl nL Q w (pc) lv (.long v :: st) :=
  fun ls H locs hl hP hS => lv_lstore C.1 C.2.1 hd hl hn hv (fun ls hl => k ls H locs hl hP hS)
theorem J_astore_n {Wd : Type} {x : Mx} {g : Gd} {A : Nat → Prop} {cl : Wd → va_W} {cc : ByteArray} {nL : Nat} {own : String} {ret : Option FieldType} {F L : Nat} {Q : State → Prop} {w : Wd} {pc : Nat} {lv : List (Nat × Value)} {st : List Value} (C : Cx x g A cl cc nL own ret F L) (lv1 : List (Nat × Value)) {k : Fin 4} {i : Nat} {v : Nat} (hd : decode cc pc = .ok (.astore_n k, 1)) (hi : (k : Nat) = i) (hn : i < nL) (hv : (i, Value.ref v) :: lv.filter (fun q => !(q.1 == i) && !(q.1 + 1 == i && q.2.category == 2)) = lv1) (k : J x g A cl nL Q w (pc + 1) lv1 st) : J x g A cl nL Q w (pc) lv (.ref v :: st) :=
  fun ls H locs hl hP hS => lv_astore_n C.1 C.2.1 hd hi hl hn hv (fun ls hl => k ls H locs hl hP hS)
theorem J_astore {Wd : Type} {x : Mx} {g : Gd} {A : Nat → Prop} {cl : Wd → va_W} {cc : ByteArray} {nL : Nat} {own : String} {ret : Option FieldType} {F L : Nat} {Q : State → Prop} {w : Wd} {pc : Nat} {lv : List (Nat × Value)} {st : List Value} (C : Cx x g A cl cc nL own ret F L) (lv1 : List (Nat × Value)) {i : Nat} {v : Nat} (hd : decode cc pc = .ok (.astore i, 2)) (hn : i < nL) (hv : (i, Value.ref v) :: lv.filter (fun q => !(q.1 == i) && !(q.1 + 1 == i && q.2.category == 2)) = lv1) (k : J x g A cl nL Q w (pc + 2) lv1 st) : J x g A cl nL Q w (pc) lv (.ref v :: st) :=
  fun ls H locs hl hP hS => lv_astore C.1 C.2.1 hd hl hn hv (fun ls hl => k ls H locs hl hP hS)
theorem J_iinc {Wd : Type} {x : Mx} {g : Gd} {A : Nat → Prop} {cl : Wd → va_W} {cc : ByteArray} {nL : Nat} {own : String} {ret : Option FieldType} {F L : Nat} {Q : State → Prop} {w : Wd} {pc : Nat} {lv : List (Nat × Value)} {st : List Value} (C : Cx x g A cl cc nL own ret F L) (j : Nat) (lv1 : List (Nat × Value)) {i : Nat} {n : Int} {u v : Int32} (hd : decode cc pc = .ok (.iinc i n, 3)) (hj : lv[j]? = some (i, .int u)) (hv : u + Int32.ofInt n = v) (hn : i < nL) (hw : (i, Value.int v) :: lv.filter (fun q => !(q.1 == i) && !(q.1 + 1 == i && q.2.category == 2)) = lv1) (k : J x g A cl nL Q w (pc + 3) lv1 st) : J x g A cl nL Q w (pc) lv st :=
  fun ls H locs hl hP hS => lv_iinc C.1 C.2.1 hd hl hj hv hn hw (fun ls hl => k ls H locs hl hP hS)
theorem J_iadd {Wd : Type} {x : Mx} {g : Gd} {A : Nat → Prop} {cl : Wd → va_W} {cc : ByteArray} {nL : Nat} {own : String} {ret : Option FieldType} {F L : Nat} {Q : State → Prop} {w : Wd} {pc : Nat} {lv : List (Nat × Value)} {st : List Value} (C : Cx x g A cl cc nL own ret F L) {u v : Int32} (hd : decode cc pc = .ok (.iadd, 1)) (k : J x g A cl nL Q w (pc + 1) lv (.int (u + v) :: st)) : J x g A cl nL Q w (pc) lv (.int v :: .int u :: st) :=
  fun ls H locs hl hP hS => lv_iadd C.1 C.2.1 hd (k ls H locs hl hP hS)
theorem J_isub {Wd : Type} {x : Mx} {g : Gd} {A : Nat → Prop} {cl : Wd → va_W} {cc : ByteArray} {nL : Nat} {own : String} {ret : Option FieldType} {F L : Nat} {Q : State → Prop} {w : Wd} {pc : Nat} {lv : List (Nat × Value)} {st : List Value} (C : Cx x g A cl cc nL own ret F L) {u v : Int32} (hd : decode cc pc = .ok (.isub, 1)) (k : J x g A cl nL Q w (pc + 1) lv (.int (u - v) :: st)) : J x g A cl nL Q w (pc) lv (.int v :: .int u :: st) :=
  fun ls H locs hl hP hS => lv_isub C.1 C.2.1 hd (k ls H locs hl hP hS)
theorem J_imul {Wd : Type} {x : Mx} {g : Gd} {A : Nat → Prop} {cl : Wd → va_W} {cc : ByteArray} {nL : Nat} {own : String} {ret : Option FieldType} {F L : Nat} {Q : State → Prop} {w : Wd} {pc : Nat} {lv : List (Nat × Value)} {st : List Value} (C : Cx x g A cl cc nL own ret F L) {u v : Int32} (hd : decode cc pc = .ok (.imul, 1)) (k : J x g A cl nL Q w (pc + 1) lv (.int (u * v) :: st)) : J x g A cl nL Q w (pc) lv (.int v :: .int u :: st) :=
  fun ls H locs hl hP hS => lv_imul C.1 C.2.1 hd (k ls H locs hl hP hS)
theorem J_iand {Wd : Type} {x : Mx} {g : Gd} {A : Nat → Prop} {cl : Wd → va_W} {cc : ByteArray} {nL : Nat} {own : String} {ret : Option FieldType} {F L : Nat} {Q : State → Prop} {w : Wd} {pc : Nat} {lv : List (Nat × Value)} {st : List Value} (C : Cx x g A cl cc nL own ret F L) {u v : Int32} (hd : decode cc pc = .ok (.iand, 1)) (k : J x g A cl nL Q w (pc + 1) lv (.int (u &&& v) :: st)) : J x g A cl nL Q w (pc) lv (.int v :: .int u :: st) :=
  fun ls H locs hl hP hS => lv_iand C.1 C.2.1 hd (k ls H locs hl hP hS)
theorem J_ior {Wd : Type} {x : Mx} {g : Gd} {A : Nat → Prop} {cl : Wd → va_W} {cc : ByteArray} {nL : Nat} {own : String} {ret : Option FieldType} {F L : Nat} {Q : State → Prop} {w : Wd} {pc : Nat} {lv : List (Nat × Value)} {st : List Value} (C : Cx x g A cl cc nL own ret F L) {u v : Int32} (hd : decode cc pc = .ok (.ior, 1)) (k : J x g A cl nL Q w (pc + 1) lv (.int (u ||| v) :: st)) : J x g A cl nL Q w (pc) lv (.int v :: .int u :: st) :=
  fun ls H locs hl hP hS => lv_ior C.1 C.2.1 hd (k ls H locs hl hP hS)
theorem J_ishl {Wd : Type} {x : Mx} {g : Gd} {A : Nat → Prop} {cl : Wd → va_W} {cc : ByteArray} {nL : Nat} {own : String} {ret : Option FieldType} {F L : Nat} {Q : State → Prop} {w : Wd} {pc : Nat} {lv : List (Nat × Value)} {st : List Value} (C : Cx x g A cl cc nL own ret F L) {u v : Int32} (hd : decode cc pc = .ok (.ishl, 1)) (k : J x g A cl nL Q w (pc + 1) lv (.int (u <<< (v &&& 31)) :: st)) : J x g A cl nL Q w (pc) lv (.int v :: .int u :: st) :=
  fun ls H locs hl hP hS => lv_ishl C.1 C.2.1 hd (k ls H locs hl hP hS)
theorem J_ishr {Wd : Type} {x : Mx} {g : Gd} {A : Nat → Prop} {cl : Wd → va_W} {cc : ByteArray} {nL : Nat} {own : String} {ret : Option FieldType} {F L : Nat} {Q : State → Prop} {w : Wd} {pc : Nat} {lv : List (Nat × Value)} {st : List Value} (C : Cx x g A cl cc nL own ret F L) {u v : Int32} (hd : decode cc pc = .ok (.ishr, 1)) (k : J x g A cl nL Q w (pc + 1) lv (.int (u >>> (v &&& 31)) :: st)) : J x g A cl nL Q w (pc) lv (.int v :: .int u :: st) :=
  fun ls H locs hl hP hS => lv_ishr C.1 C.2.1 hd (k ls H locs hl hP hS)
theorem J_idiv {Wd : Type} {x : Mx} {g : Gd} {A : Nat → Prop} {cl : Wd → va_W} {cc : ByteArray} {nL : Nat} {own : String} {ret : Option FieldType} {F L : Nat} {Q : State → Prop} {w : Wd} {pc : Nat} {lv : List (Nat × Value)} {st : List Value} (C : Cx x g A cl cc nL own ret F L) {u v : Int32} (hd : decode cc pc = .ok (.idiv, 1)) (hne : ¬ v = 0) (k : J x g A cl nL Q w (pc + 1) lv (.int (u / v) :: st)) : J x g A cl nL Q w (pc) lv (.int v :: .int u :: st) :=
  fun ls H locs hl hP hS => lv_idiv C.1 C.2.1 hd hne (k ls H locs hl hP hS)
theorem J_irem {Wd : Type} {x : Mx} {g : Gd} {A : Nat → Prop} {cl : Wd → va_W} {cc : ByteArray} {nL : Nat} {own : String} {ret : Option FieldType} {F L : Nat} {Q : State → Prop} {w : Wd} {pc : Nat} {lv : List (Nat × Value)} {st : List Value} (C : Cx x g A cl cc nL own ret F L) {u v : Int32} (hd : decode cc pc = .ok (.irem, 1)) (hne : ¬ v = 0) (k : J x g A cl nL Q w (pc + 1) lv (.int (u - u / v * v) :: st)) : J x g A cl nL Q w (pc) lv (.int v :: .int u :: st) :=
  fun ls H locs hl hP hS => lv_irem C.1 C.2.1 hd hne (k ls H locs hl hP hS)
theorem J_ladd {Wd : Type} {x : Mx} {g : Gd} {A : Nat → Prop} {cl : Wd → va_W} {cc : ByteArray} {nL : Nat} {own : String} {ret : Option FieldType} {F L : Nat} {Q : State → Prop} {w : Wd} {pc : Nat} {lv : List (Nat × Value)} {st : List Value} (C : Cx x g A cl cc nL own ret F L) {u v : Int64} (hd : decode cc pc = .ok (.ladd, 1)) (k : J x g A cl nL Q w (pc + 1) lv (.long (u + v) :: st)) : J x g A cl nL Q w (pc) lv (.long v :: .long u :: st) :=
  fun ls H locs hl hP hS => lv_ladd C.1 C.2.1 hd (k ls H locs hl hP hS)
theorem J_lsub {Wd : Type} {x : Mx} {g : Gd} {A : Nat → Prop} {cl : Wd → va_W} {cc : ByteArray} {nL : Nat} {own : String} {ret : Option FieldType} {F L : Nat} {Q : State → Prop} {w : Wd} {pc : Nat} {lv : List (Nat × Value)} {st : List Value} (C : Cx x g A cl cc nL own ret F L) {u v : Int64} (hd : decode cc pc = .ok (.lsub, 1)) (k : J x g A cl nL Q w (pc + 1) lv (.long (u - v) :: st)) : J x g A cl nL Q w (pc) lv (.long v :: .long u :: st) :=
  fun ls H locs hl hP hS => lv_lsub C.1 C.2.1 hd (k ls H locs hl hP hS)
theorem J_lmul {Wd : Type} {x : Mx} {g : Gd} {A : Nat → Prop} {cl : Wd → va_W} {cc : ByteArray} {nL : Nat} {own : String} {ret : Option FieldType} {F L : Nat} {Q : State → Prop} {w : Wd} {pc : Nat} {lv : List (Nat × Value)} {st : List Value} (C : Cx x g A cl cc nL own ret F L) {u v : Int64} (hd : decode cc pc = .ok (.lmul, 1)) (k : J x g A cl nL Q w (pc + 1) lv (.long (u * v) :: st)) : J x g A cl nL Q w (pc) lv (.long v :: .long u :: st) :=
  fun ls H locs hl hP hS => lv_lmul C.1 C.2.1 hd (k ls H locs hl hP hS)
theorem J_ldiv {Wd : Type} {x : Mx} {g : Gd} {A : Nat → Prop} {cl : Wd → va_W} {cc : ByteArray} {nL : Nat} {own : String} {ret : Option FieldType} {F L : Nat} {Q : State → Prop} {w : Wd} {pc : Nat} {lv : List (Nat × Value)} {st : List Value} (C : Cx x g A cl cc nL own ret F L) {u v : Int64} (hd : decode cc pc = .ok (.ldiv, 1)) (hne : ¬ v = 0) (k : J x g A cl nL Q w (pc + 1) lv (.long (u / v) :: st)) : J x g A cl nL Q w (pc) lv (.long v :: .long u :: st) :=
  fun ls H locs hl hP hS => lv_ldiv C.1 C.2.1 hd hne (k ls H locs hl hP hS)
theorem J_lrem {Wd : Type} {x : Mx} {g : Gd} {A : Nat → Prop} {cl : Wd → va_W} {cc : ByteArray} {nL : Nat} {own : String} {ret : Option FieldType} {F L : Nat} {Q : State → Prop} {w : Wd} {pc : Nat} {lv : List (Nat × Value)} {st : List Value} (C : Cx x g A cl cc nL own ret F L) {u v : Int64} (hd : decode cc pc = .ok (.lrem, 1)) (hne : ¬ v = 0) (k : J x g A cl nL Q w (pc + 1) lv (.long (u - u / v * v) :: st)) : J x g A cl nL Q w (pc) lv (.long v :: .long u :: st) :=
  fun ls H locs hl hP hS => lv_lrem C.1 C.2.1 hd hne (k ls H locs hl hP hS)
theorem J_ineg {Wd : Type} {x : Mx} {g : Gd} {A : Nat → Prop} {cl : Wd → va_W} {cc : ByteArray} {nL : Nat} {own : String} {ret : Option FieldType} {F L : Nat} {Q : State → Prop} {w : Wd} {pc : Nat} {lv : List (Nat × Value)} {st : List Value} (C : Cx x g A cl cc nL own ret F L) {u : Int32} (hd : decode cc pc = .ok (.ineg, 1)) (k : J x g A cl nL Q w (pc + 1) lv (.int (-u) :: st)) : J x g A cl nL Q w (pc) lv (.int u :: st) :=
  fun ls H locs hl hP hS => lv_ineg C.1 C.2.1 hd (k ls H locs hl hP hS)
theorem J_lneg {Wd : Type} {x : Mx} {g : Gd} {A : Nat → Prop} {cl : Wd → va_W} {cc : ByteArray} {nL : Nat} {own : String} {ret : Option FieldType} {F L : Nat} {Q : State → Prop} {w : Wd} {pc : Nat} {lv : List (Nat × Value)} {st : List Value} (C : Cx x g A cl cc nL own ret F L) {u : Int64} (hd : decode cc pc = .ok (.lneg, 1)) (k : J x g A cl nL Q w (pc + 1) lv (.long (-u) :: st)) : J x g A cl nL Q w (pc) lv (.long u :: st) :=
  fun ls H locs hl hP hS => lv_lneg C.1 C.2.1 hd (k ls H locs hl hP hS)
theorem J_lcmp {Wd : Type} {x : Mx} {g : Gd} {A : Nat → Prop} {cl : Wd → va_W} {cc : ByteArray} {nL : Nat} {own : String} {ret : Option FieldType} {F L : Nat} {Q : State → Prop} {w : Wd} {pc : Nat} {lv : List (Nat × Value)} {st : List Value} (C : Cx x g A cl cc nL own ret F L) {u v : Int64} (hd : decode cc pc = .ok (.lcmp, 1)) (k : J x g A cl nL Q w (pc + 1) lv (.int (lg_cmp u v) :: st)) : J x g A cl nL Q w (pc) lv (.long v :: .long u :: st) :=
  fun ls H locs hl hP hS => W.lcmp C.1 C.2.1 hd (k ls H locs hl hP hS)
theorem J_i2l {Wd : Type} {x : Mx} {g : Gd} {A : Nat → Prop} {cl : Wd → va_W} {cc : ByteArray} {nL : Nat} {own : String} {ret : Option FieldType} {F L : Nat} {Q : State → Prop} {w : Wd} {pc : Nat} {lv : List (Nat × Value)} {st : List Value} (C : Cx x g A cl cc nL own ret F L) {u : Int32} (hd : decode cc pc = .ok (.i2l, 1)) (k : J x g A cl nL Q w (pc + 1) lv (.long (u.toInt64) :: st)) : J x g A cl nL Q w (pc) lv (.int u :: st) :=
  fun ls H locs hl hP hS => lv_i2l C.1 C.2.1 hd rfl (k ls H locs hl hP hS)
theorem J_l2i {Wd : Type} {x : Mx} {g : Gd} {A : Nat → Prop} {cl : Wd → va_W} {cc : ByteArray} {nL : Nat} {own : String} {ret : Option FieldType} {F L : Nat} {Q : State → Prop} {w : Wd} {pc : Nat} {lv : List (Nat × Value)} {st : List Value} (C : Cx x g A cl cc nL own ret F L) {u : Int64} (hd : decode cc pc = .ok (.l2i, 1)) (k : J x g A cl nL Q w (pc + 1) lv (.int (u.toInt32) :: st)) : J x g A cl nL Q w (pc) lv (.long u :: st) :=
  fun ls H locs hl hP hS => lv_l2i C.1 C.2.1 hd rfl (k ls H locs hl hP hS)
theorem J_i2b {Wd : Type} {x : Mx} {g : Gd} {A : Nat → Prop} {cl : Wd → va_W} {cc : ByteArray} {nL : Nat} {own : String} {ret : Option FieldType} {F L : Nat} {Q : State → Prop} {w : Wd} {pc : Nat} {lv : List (Nat × Value)} {st : List Value} (C : Cx x g A cl cc nL own ret F L) {u : Int32} (hd : decode cc pc = .ok (.i2b, 1)) (k : J x g A cl nL Q w (pc + 1) lv (.int (u.toInt8.toInt32) :: st)) : J x g A cl nL Q w (pc) lv (.int u :: st) :=
  fun ls H locs hl hP hS => lv_i2b C.1 C.2.1 hd rfl (k ls H locs hl hP hS)
theorem J_i2c {Wd : Type} {x : Mx} {g : Gd} {A : Nat → Prop} {cl : Wd → va_W} {cc : ByteArray} {nL : Nat} {own : String} {ret : Option FieldType} {F L : Nat} {Q : State → Prop} {w : Wd} {pc : Nat} {lv : List (Nat × Value)} {st : List Value} (C : Cx x g A cl cc nL own ret F L) {u : Int32} (hd : decode cc pc = .ok (.i2c, 1)) (k : J x g A cl nL Q w (pc + 1) lv (.int ((u.toUInt32 % 65536).toInt32) :: st)) : J x g A cl nL Q w (pc) lv (.int u :: st) :=
  fun ls H locs hl hP hS => lv_i2c C.1 C.2.1 hd rfl (k ls H locs hl hP hS)
theorem J_iushr {Wd : Type} {x : Mx} {g : Gd} {A : Nat → Prop} {cl : Wd → va_W} {cc : ByteArray} {nL : Nat} {own : String} {ret : Option FieldType} {F L : Nat} {Q : State → Prop} {w : Wd} {pc : Nat} {lv : List (Nat × Value)} {st : List Value} (C : Cx x g A cl cc nL own ret F L) {u v : Int32} (hd : decode cc pc = .ok (.iushr, 1)) (k : J x g A cl nL Q w (pc + 1) lv (.int ((u.toUInt32 >>> (v.toUInt32 &&& Int32.toUInt32 31)).toInt32) :: st)) : J x g A cl nL Q w (pc) lv (.int v :: .int u :: st) :=
  fun ls H locs hl hP hS => lv_iushr C.1 C.2.1 hd rfl (k ls H locs hl hP hS)
theorem J_dup {Wd : Type} {x : Mx} {g : Gd} {A : Nat → Prop} {cl : Wd → va_W} {cc : ByteArray} {nL : Nat} {own : String} {ret : Option FieldType} {F L : Nat} {Q : State → Prop} {w : Wd} {pc : Nat} {lv : List (Nat × Value)} {st : List Value} (C : Cx x g A cl cc nL own ret F L) {u : Value} (hd : decode cc pc = .ok (.dup, 1)) (hu : u.category = 1) (k : J x g A cl nL Q w (pc + 1) lv (u :: u :: st)) : J x g A cl nL Q w (pc) lv (u :: st) :=
  fun ls H locs hl hP hS => lv_dup C.1 C.2.1 hd hu (k ls H locs hl hP hS)
theorem J_dup2 {Wd : Type} {x : Mx} {g : Gd} {A : Nat → Prop} {cl : Wd → va_W} {cc : ByteArray} {nL : Nat} {own : String} {ret : Option FieldType} {F L : Nat} {Q : State → Prop} {w : Wd} {pc : Nat} {lv : List (Nat × Value)} {st : List Value} (C : Cx x g A cl cc nL own ret F L) {u v : Value} (hd : decode cc pc = .ok (.dup2, 1)) (hu : u.category = 1) (hv : v.category = 1) (k : J x g A cl nL Q w (pc + 1) lv (u :: v :: u :: v :: st)) : J x g A cl nL Q w (pc) lv (u :: v :: st) :=
  fun ls H locs hl hP hS => lv_dup2_11 C.1 C.2.1 hd hu hv (k ls H locs hl hP hS)
theorem J_pop {Wd : Type} {x : Mx} {g : Gd} {A : Nat → Prop} {cl : Wd → va_W} {cc : ByteArray} {nL : Nat} {own : String} {ret : Option FieldType} {F L : Nat} {Q : State → Prop} {w : Wd} {pc : Nat} {lv : List (Nat × Value)} {st : List Value} (C : Cx x g A cl cc nL own ret F L) {u : Value} (hd : decode cc pc = .ok (.pop, 1)) (hu : u.category = 1) (k : J x g A cl nL Q w (pc + 1) lv st) : J x g A cl nL Q w (pc) lv (u :: st) :=
  fun ls H locs hl hP hS => lv_pop C.1 C.2.1 hd hu (k ls H locs hl hP hS)
theorem J_goto {Wd : Type} {x : Mx} {g : Gd} {A : Nat → Prop} {cl : Wd → va_W} {cc : ByteArray} {nL : Nat} {own : String} {ret : Option FieldType} {F L : Nat} {Q : State → Prop} {w : Wd} {pc : Nat} {lv : List (Nat × Value)} {st : List Value} (C : Cx x g A cl cc nL own ret F L) {off : Int} {tgt : Nat} (hd : decode cc pc = .ok (.goto off, 3)) (ht : (pc : Int) + off = (tgt : Int)) (k : J x g A cl nL Q w (tgt) lv st) : J x g A cl nL Q w (pc) lv st :=
  fun ls H locs hl hP hS => lv_goto C.1 C.2.1 hd ht (k ls H locs hl hP hS)
theorem J_if_eq {Wd : Type} {x : Mx} {g : Gd} {A : Nat → Prop} {cl : Wd → va_W} {cc : ByteArray} {nL : Nat} {own : String} {ret : Option FieldType} {F L : Nat} {Q : State → Prop} {w : Wd} {pc : Nat} {lv : List (Nat × Value)} {st : List Value} (C : Cx x g A cl cc nL own ret F L) {u : Int32} {off : Int} {tgt : Nat} {X Y : Prop} (hd : decode cc pc = .ok (.ifCond .eq off, 3)) (ht : (pc : Int) + off = (tgt : Int)) (h : (u = 0 → X) ∧ (¬ u = 0 → Y)) (kt : X → J x g A cl nL Q w (tgt) lv st) (kf : Y → J x g A cl nL Q w (pc + 3) lv st) : J x g A cl nL Q w (pc) lv (.int u :: st) :=
  fun ls H locs hl hP hS => lv_if_eq C.1 C.2.1 hd ht (fun c => kt (h.1 c) ls H locs hl hP hS) (fun c => kf (h.2 c) ls H locs hl hP hS)
theorem J_icmp_eq {Wd : Type} {x : Mx} {g : Gd} {A : Nat → Prop} {cl : Wd → va_W} {cc : ByteArray} {nL : Nat} {own : String} {ret : Option FieldType} {F L : Nat} {Q : State → Prop} {w : Wd} {pc : Nat} {lv : List (Nat × Value)} {st : List Value} (C : Cx x g A cl cc nL own ret F L) {u v : Int32} {off : Int} {tgt : Nat} {X Y : Prop} (hd : decode cc pc = .ok (.if_icmp .eq off, 3)) (ht : (pc : Int) + off = (tgt : Int)) (h : (u = v → X) ∧ (¬ u = v → Y)) (kt : X → J x g A cl nL Q w (tgt) lv st) (kf : Y → J x g A cl nL Q w (pc + 3) lv st) : J x g A cl nL Q w (pc) lv (.int v :: .int u :: st) :=
  fun ls H locs hl hP hS => lv_icmp_eq C.1 C.2.1 hd ht (fun c => kt (h.1 c) ls H locs hl hP hS) (fun c => kf (h.2 c) ls H locs hl hP hS)
theorem J_if_ne {Wd : Type} {x : Mx} {g : Gd} {A : Nat → Prop} {cl : Wd → va_W} {cc : ByteArray} {nL : Nat} {own : String} {ret : Option FieldType} {F L : Nat} {Q : State → Prop} {w : Wd} {pc : Nat} {lv : List (Nat × Value)} {st : List Value} (C : Cx x g A cl cc nL own ret F L) {u : Int32} {off : Int} {tgt : Nat} {X Y : Prop} (hd : decode cc pc = .ok (.ifCond .ne off, 3)) (ht : (pc : Int) + off = (tgt : Int)) (h : (¬ u = 0 → X) ∧ (u = 0 → Y)) (kt : X → J x g A cl nL Q w (tgt) lv st) (kf : Y → J x g A cl nL Q w (pc + 3) lv st) : J x g A cl nL Q w (pc) lv (.int u :: st) :=
  fun ls H locs hl hP hS => lv_if_ne C.1 C.2.1 hd ht (fun c => kt (h.1 c) ls H locs hl hP hS) (fun c => kf (h.2 c) ls H locs hl hP hS)
theorem J_icmp_ne {Wd : Type} {x : Mx} {g : Gd} {A : Nat → Prop} {cl : Wd → va_W} {cc : ByteArray} {nL : Nat} {own : String} {ret : Option FieldType} {F L : Nat} {Q : State → Prop} {w : Wd} {pc : Nat} {lv : List (Nat × Value)} {st : List Value} (C : Cx x g A cl cc nL own ret F L) {u v : Int32} {off : Int} {tgt : Nat} {X Y : Prop} (hd : decode cc pc = .ok (.if_icmp .ne off, 3)) (ht : (pc : Int) + off = (tgt : Int)) (h : (¬ u = v → X) ∧ (u = v → Y)) (kt : X → J x g A cl nL Q w (tgt) lv st) (kf : Y → J x g A cl nL Q w (pc + 3) lv st) : J x g A cl nL Q w (pc) lv (.int v :: .int u :: st) :=
  fun ls H locs hl hP hS => lv_icmp_ne C.1 C.2.1 hd ht (fun c => kt (h.1 c) ls H locs hl hP hS) (fun c => kf (h.2 c) ls H locs hl hP hS)
theorem J_if_lt {Wd : Type} {x : Mx} {g : Gd} {A : Nat → Prop} {cl : Wd → va_W} {cc : ByteArray} {nL : Nat} {own : String} {ret : Option FieldType} {F L : Nat} {Q : State → Prop} {w : Wd} {pc : Nat} {lv : List (Nat × Value)} {st : List Value} (C : Cx x g A cl cc nL own ret F L) {u : Int32} {off : Int} {tgt : Nat} {X Y : Prop} (hd : decode cc pc = .ok (.ifCond .lt off, 3)) (ht : (pc : Int) + off = (tgt : Int)) (h : (u < 0 → X) ∧ (¬ u < 0 → Y)) (kt : X → J x g A cl nL Q w (tgt) lv st) (kf : Y → J x g A cl nL Q w (pc + 3) lv st) : J x g A cl nL Q w (pc) lv (.int u :: st) :=
  fun ls H locs hl hP hS => lv_if_lt C.1 C.2.1 hd ht (fun c => kt (h.1 c) ls H locs hl hP hS) (fun c => kf (h.2 c) ls H locs hl hP hS)
theorem J_icmp_lt {Wd : Type} {x : Mx} {g : Gd} {A : Nat → Prop} {cl : Wd → va_W} {cc : ByteArray} {nL : Nat} {own : String} {ret : Option FieldType} {F L : Nat} {Q : State → Prop} {w : Wd} {pc : Nat} {lv : List (Nat × Value)} {st : List Value} (C : Cx x g A cl cc nL own ret F L) {u v : Int32} {off : Int} {tgt : Nat} {X Y : Prop} (hd : decode cc pc = .ok (.if_icmp .lt off, 3)) (ht : (pc : Int) + off = (tgt : Int)) (h : (u < v → X) ∧ (¬ u < v → Y)) (kt : X → J x g A cl nL Q w (tgt) lv st) (kf : Y → J x g A cl nL Q w (pc + 3) lv st) : J x g A cl nL Q w (pc) lv (.int v :: .int u :: st) :=
  fun ls H locs hl hP hS => lv_icmp_lt C.1 C.2.1 hd ht (fun c => kt (h.1 c) ls H locs hl hP hS) (fun c => kf (h.2 c) ls H locs hl hP hS)
theorem J_if_ge {Wd : Type} {x : Mx} {g : Gd} {A : Nat → Prop} {cl : Wd → va_W} {cc : ByteArray} {nL : Nat} {own : String} {ret : Option FieldType} {F L : Nat} {Q : State → Prop} {w : Wd} {pc : Nat} {lv : List (Nat × Value)} {st : List Value} (C : Cx x g A cl cc nL own ret F L) {u : Int32} {off : Int} {tgt : Nat} {X Y : Prop} (hd : decode cc pc = .ok (.ifCond .ge off, 3)) (ht : (pc : Int) + off = (tgt : Int)) (h : (0 ≤ u → X) ∧ (¬ 0 ≤ u → Y)) (kt : X → J x g A cl nL Q w (tgt) lv st) (kf : Y → J x g A cl nL Q w (pc + 3) lv st) : J x g A cl nL Q w (pc) lv (.int u :: st) :=
  fun ls H locs hl hP hS => lv_if_ge C.1 C.2.1 hd ht (fun c => kt (h.1 c) ls H locs hl hP hS) (fun c => kf (h.2 c) ls H locs hl hP hS)
theorem J_icmp_ge {Wd : Type} {x : Mx} {g : Gd} {A : Nat → Prop} {cl : Wd → va_W} {cc : ByteArray} {nL : Nat} {own : String} {ret : Option FieldType} {F L : Nat} {Q : State → Prop} {w : Wd} {pc : Nat} {lv : List (Nat × Value)} {st : List Value} (C : Cx x g A cl cc nL own ret F L) {u v : Int32} {off : Int} {tgt : Nat} {X Y : Prop} (hd : decode cc pc = .ok (.if_icmp .ge off, 3)) (ht : (pc : Int) + off = (tgt : Int)) (h : (v ≤ u → X) ∧ (¬ v ≤ u → Y)) (kt : X → J x g A cl nL Q w (tgt) lv st) (kf : Y → J x g A cl nL Q w (pc + 3) lv st) : J x g A cl nL Q w (pc) lv (.int v :: .int u :: st) :=
  fun ls H locs hl hP hS => lv_icmp_ge C.1 C.2.1 hd ht (fun c => kt (h.1 c) ls H locs hl hP hS) (fun c => kf (h.2 c) ls H locs hl hP hS)
theorem J_if_gt {Wd : Type} {x : Mx} {g : Gd} {A : Nat → Prop} {cl : Wd → va_W} {cc : ByteArray} {nL : Nat} {own : String} {ret : Option FieldType} {F L : Nat} {Q : State → Prop} {w : Wd} {pc : Nat} {lv : List (Nat × Value)} {st : List Value} (C : Cx x g A cl cc nL own ret F L) {u : Int32} {off : Int} {tgt : Nat} {X Y : Prop} (hd : decode cc pc = .ok (.ifCond .gt off, 3)) (ht : (pc : Int) + off = (tgt : Int)) (h : (0 < u → X) ∧ (¬ 0 < u → Y)) (kt : X → J x g A cl nL Q w (tgt) lv st) (kf : Y → J x g A cl nL Q w (pc + 3) lv st) : J x g A cl nL Q w (pc) lv (.int u :: st) :=
  fun ls H locs hl hP hS => lv_if_gt C.1 C.2.1 hd ht (fun c => kt (h.1 c) ls H locs hl hP hS) (fun c => kf (h.2 c) ls H locs hl hP hS)
theorem J_icmp_gt {Wd : Type} {x : Mx} {g : Gd} {A : Nat → Prop} {cl : Wd → va_W} {cc : ByteArray} {nL : Nat} {own : String} {ret : Option FieldType} {F L : Nat} {Q : State → Prop} {w : Wd} {pc : Nat} {lv : List (Nat × Value)} {st : List Value} (C : Cx x g A cl cc nL own ret F L) {u v : Int32} {off : Int} {tgt : Nat} {X Y : Prop} (hd : decode cc pc = .ok (.if_icmp .gt off, 3)) (ht : (pc : Int) + off = (tgt : Int)) (h : (v < u → X) ∧ (¬ v < u → Y)) (kt : X → J x g A cl nL Q w (tgt) lv st) (kf : Y → J x g A cl nL Q w (pc + 3) lv st) : J x g A cl nL Q w (pc) lv (.int v :: .int u :: st) :=
  fun ls H locs hl hP hS => lv_icmp_gt C.1 C.2.1 hd ht (fun c => kt (h.1 c) ls H locs hl hP hS) (fun c => kf (h.2 c) ls H locs hl hP hS)
theorem J_if_le {Wd : Type} {x : Mx} {g : Gd} {A : Nat → Prop} {cl : Wd → va_W} {cc : ByteArray} {nL : Nat} {own : String} {ret : Option FieldType} {F L : Nat} {Q : State → Prop} {w : Wd} {pc : Nat} {lv : List (Nat × Value)} {st : List Value} (C : Cx x g A cl cc nL own ret F L) {u : Int32} {off : Int} {tgt : Nat} {X Y : Prop} (hd : decode cc pc = .ok (.ifCond .le off, 3)) (ht : (pc : Int) + off = (tgt : Int)) (h : (u ≤ 0 → X) ∧ (¬ u ≤ 0 → Y)) (kt : X → J x g A cl nL Q w (tgt) lv st) (kf : Y → J x g A cl nL Q w (pc + 3) lv st) : J x g A cl nL Q w (pc) lv (.int u :: st) :=
  fun ls H locs hl hP hS => lv_if_le C.1 C.2.1 hd ht (fun c => kt (h.1 c) ls H locs hl hP hS) (fun c => kf (h.2 c) ls H locs hl hP hS)
theorem J_icmp_le {Wd : Type} {x : Mx} {g : Gd} {A : Nat → Prop} {cl : Wd → va_W} {cc : ByteArray} {nL : Nat} {own : String} {ret : Option FieldType} {F L : Nat} {Q : State → Prop} {w : Wd} {pc : Nat} {lv : List (Nat × Value)} {st : List Value} (C : Cx x g A cl cc nL own ret F L) {u v : Int32} {off : Int} {tgt : Nat} {X Y : Prop} (hd : decode cc pc = .ok (.if_icmp .le off, 3)) (ht : (pc : Int) + off = (tgt : Int)) (h : (u ≤ v → X) ∧ (¬ u ≤ v → Y)) (kt : X → J x g A cl nL Q w (tgt) lv st) (kf : Y → J x g A cl nL Q w (pc + 3) lv st) : J x g A cl nL Q w (pc) lv (.int v :: .int u :: st) :=
  fun ls H locs hl hP hS => lv_icmp_le C.1 C.2.1 hd ht (fun c => kt (h.1 c) ls H locs hl hP hS) (fun c => kf (h.2 c) ls H locs hl hP hS)
theorem J_lv {Wd : Type} {x : Mx} {g : Gd} {A : Nat → Prop} {cl : Wd → va_W} {nL : Nat} {Q : State → Prop} {w : Wd} {pc : Nat} {lv : List (Nat × Value)} {st : List Value} (ks : List Nat) {lv1 : List (Nat × Value)} (hk : lv_pick lv ks = lv1) (k : J x g A cl nL Q w (pc) lv1 st) : J x g A cl nL Q w (pc) lv st :=
  fun ls H locs hl hP hS => k ls H locs (lv_sub hl ks hk) hP hS
theorem J_pc {Wd : Type} {x : Mx} {g : Gd} {A : Nat → Prop} {cl : Wd → va_W} {nL : Nat} {Q : State → Prop} {w : Wd} {pc : Nat} {lv : List (Nat × Value)} {st : List Value} {pc1 : Nat} (hk : pc = pc1) (k : J x g A cl nL Q w (pc1) lv st) : J x g A cl nL Q w (pc) lv st := hk ▸ k
theorem J_get {Wd : Type} {x : Mx} {g : Gd} {A : Nat → Prop} {cl : Wd → va_W} {cc : ByteArray} {nL : Nat} {own : String} {ret : Option FieldType} {F L : Nat} {Q : State → Prop} {w : Wd} {pc : Nat} {lv : List (Nat × Value)} {st : List Value} (C : Cx x g A cl cc nL own ret F L) {ref Cn : String} {T : u_T} {N ci index a : Nat} (hin : ∀ w ∈ u_ws Cn T N, w ∈ gT) (q0 : Nat) {fs : List Value} (he : (cl w)[q0]? = some (a, .inr (ci, fs))) (hc : vwCl[ci]? = some (Cn, T, N)) (i : Nat) (hk : i < N) (hlink : Cond.fieldLink own index ref (T i).2.1 (T i).2.2.1 ∈ gT) (href : (T i).1 = ref) {v : Value} (hv : fs[i]? = some v) (hd : decode cc pc = .ok (.getfield index, 3)) (k : J x g A cl nL Q w (pc + 3) lv (v :: st)) : J x g A cl nL Q w (pc) lv (.ref a :: st) :=
  fun ls H locs hl hP hS => va_get C.1 C.2.1 C.2.2.2.2.1 hin C.2.2.2.1 C.2.2.2.2.2.1 hP q0 he hc i hk (C.2.2.2.2.1 _ hlink) (fun _ h9 => href ▸ h9) hv hd (k ls H locs hl hP hS)
theorem J_put {Wd : Type} {x : Mx} {g : Gd} {A : Nat → Prop} {cl : Wd → va_W} {cc : ByteArray} {nL : Nat} {own : String} {ret : Option FieldType} {F L : Nat} {Q : State → Prop} {w : Wd} {pc : Nat} {lv : List (Nat × Value)} {st : List Value} (C : Cx x g A cl cc nL own ret F L) {ref Cn : String} {T : u_T} {N ci index a : Nat} (hin : ∀ w ∈ u_ws Cn T N, w ∈ gT) (ty0 : Nat → FieldType) (hty : ∀ k, k < N → parseFieldDescriptor (T k).2.2.1 = some (ty0 k)) (hnm : ∀ a, a < N → ∀ b, b < N → a ≠ b → (T a).2.1 ≠ (T b).2.1) (q0 : Nat) {fs : List Value} (he : (cl w)[q0]? = some (a, .inr (ci, fs))) (hc : vwCl[ci]? = some (Cn, T, N)) (i : Nat) (hk : i < N) (hlink : Cond.fieldLink own index ref (T i).2.1 (T i).2.2.1 ∈ gT) (href : (T i).1 = ref) (hfin : (T i).2.2.2 = false) {v : Value} (hn : narrow (ty0 i) v = v) (hfit : fits (ty0 i) v = true) (hl0 : i < fs.length) {w1 : Wd} (hw : (cl w).set q0 (a, .inr (ci, fs.set i v)) = cl w1) (hd : decode cc pc = .ok (.putfield index, 3)) (k : J x g A cl nL Q w1 (pc + 3) lv st) : J x g A cl nL Q w (pc) lv (v :: .ref a :: st) :=
  fun ls H locs hl hP hS => va_put C.1 C.2.1 C.2.2.2.2.1 hin ty0 hty hnm C.2.2.2.1 C.2.2.2.2.2.1 hP (C.2.2.2.2.2.2.1 w) hS q0 he hc i hk (C.2.2.2.2.1 _ hlink) (fun _ h9 => href ▸ h9) hfin (hty i hk) hn hfit hl0 hd (fun H locs hP _ hS => k ls H locs hl (hw ▸ hP) hS)
theorem J_iald {Wd : Type} {x : Mx} {g : Gd} {A : Nat → Prop} {cl : Wd → va_W} {cc : ByteArray} {nL : Nat} {own : String} {ret : Option FieldType} {F L : Nat} {Q : State → Prop} {w : Wd} {pc : Nat} {lv : List (Nat × Value)} {st : List Value} (C : Cx x g A cl cc nL own ret F L) (q0 : Nat) {a n : Nat} {f : Nat → Int32} (ha : (cl w)[q0]? = some (a, .inl (g.2.1 0, n, .inl f))) {i : Int32} {X : Prop} (hd : decode cc pc = .ok (.iaload, 1)) (h : vp_in i n ∧ X) (k : X → J x g A cl nL Q w (pc + 1) lv (.int (f i.toNatClampNeg) :: st)) : J x g A cl nL Q w (pc) lv (.int i :: .ref a :: st) :=
  fun ls H locs hl hP hS => va_iald C.1 C.2.1 C.2.2.2.2.2.1 hP q0 0 ha rfl h.1 hd (k h.2 ls H locs hl hP hS)
theorem J_bald {Wd : Type} {x : Mx} {g : Gd} {A : Nat → Prop} {cl : Wd → va_W} {cc : ByteArray} {nL : Nat} {own : String} {ret : Option FieldType} {F L : Nat} {Q : State → Prop} {w : Wd} {pc : Nat} {lv : List (Nat × Value)} {st : List Value} (C : Cx x g A cl cc nL own ret F L) (q0 : Nat) {a n : Nat} {f : Nat → Int32} (ha : (cl w)[q0]? = some (a, .inl (g.2.1 1, n, .inl f))) {i : Int32} {X : Prop} (hd : decode cc pc = .ok (.baload, 1)) (h : vp_in i n ∧ X) (k : X → J x g A cl nL Q w (pc + 1) lv (.int (f i.toNatClampNeg) :: st)) : J x g A cl nL Q w (pc) lv (.int i :: .ref a :: st) :=
  fun ls H locs hl hP hS => va_bald C.1 C.2.1 C.2.2.2.2.2.1 hP q0 1 ha rfl h.1 hd (k h.2 ls H locs hl hP hS)
theorem J_zald {Wd : Type} {x : Mx} {g : Gd} {A : Nat → Prop} {cl : Wd → va_W} {cc : ByteArray} {nL : Nat} {own : String} {ret : Option FieldType} {F L : Nat} {Q : State → Prop} {w : Wd} {pc : Nat} {lv : List (Nat × Value)} {st : List Value} (C : Cx x g A cl cc nL own ret F L) (q0 : Nat) {a n : Nat} {f : Nat → Int32} (ha : (cl w)[q0]? = some (a, .inl (g.2.1 2, n, .inl f))) {i : Int32} {X : Prop} (hd : decode cc pc = .ok (.baload, 1)) (h : vp_in i n ∧ X) (k : X → J x g A cl nL Q w (pc + 1) lv (.int (f i.toNatClampNeg) :: st)) : J x g A cl nL Q w (pc) lv (.int i :: .ref a :: st) :=
  fun ls H locs hl hP hS => va_zald C.1 C.2.1 C.2.2.2.2.2.1 hP q0 2 ha rfl h.1 hd (k h.2 ls H locs hl hP hS)
theorem J_iast {Wd : Type} {x : Mx} {g : Gd} {A : Nat → Prop} {cl : Wd → va_W} {cc : ByteArray} {nL : Nat} {own : String} {ret : Option FieldType} {F L : Nat} {Q : State → Prop} {w : Wd} {pc : Nat} {lv : List (Nat × Value)} {st : List Value} (C : Cx x g A cl cc nL own ret F L) (q0 : Nat) {a n : Nat} {f : Nat → Int32} (ha : (cl w)[q0]? = some (a, .inl (g.2.1 0, n, .inl f))) {i v : Int32} {w1 : Wd} (hw : (cl w).set q0 (a, .inl (g.2.1 0, n, .inl (upd f i.toNatClampNeg (v)))) = cl w1) {X : Prop} (hd : decode cc pc = .ok (.iastore, 1)) (h : vp_in i n ∧ X) (k : X → J x g A cl nL Q w1 (pc + 1) lv st) : J x g A cl nL Q w (pc) lv (.int v :: .int i :: .ref a :: st) :=
  fun ls H locs hl hP hS => va_iast C.1 C.2.1 C.2.2.2.2.2.1 hP (C.2.2.2.2.2.2.1 w) hS q0 0 ha rfl h.1 hd (fun H locs hP _ hS => k h.2 ls H locs hl (hw ▸ hP) hS)
theorem J_bast {Wd : Type} {x : Mx} {g : Gd} {A : Nat → Prop} {cl : Wd → va_W} {cc : ByteArray} {nL : Nat} {own : String} {ret : Option FieldType} {F L : Nat} {Q : State → Prop} {w : Wd} {pc : Nat} {lv : List (Nat × Value)} {st : List Value} (C : Cx x g A cl cc nL own ret F L) (q0 : Nat) {a n : Nat} {f : Nat → Int32} (ha : (cl w)[q0]? = some (a, .inl (g.2.1 1, n, .inl f))) {i v : Int32} {w1 : Wd} (hw : (cl w).set q0 (a, .inl (g.2.1 1, n, .inl (upd f i.toNatClampNeg (vp_nar .byte v)))) = cl w1) {X : Prop} (hd : decode cc pc = .ok (.bastore, 1)) (h : vp_in i n ∧ X) (k : X → J x g A cl nL Q w1 (pc + 1) lv st) : J x g A cl nL Q w (pc) lv (.int v :: .int i :: .ref a :: st) :=
  fun ls H locs hl hP hS => va_bast C.1 C.2.1 C.2.2.2.2.2.1 hP (C.2.2.2.2.2.2.1 w) hS q0 1 ha rfl h.1 hd (fun H locs hP _ hS => k h.2 ls H locs hl (hw ▸ hP) hS)
theorem J_zast {Wd : Type} {x : Mx} {g : Gd} {A : Nat → Prop} {cl : Wd → va_W} {cc : ByteArray} {nL : Nat} {own : String} {ret : Option FieldType} {F L : Nat} {Q : State → Prop} {w : Wd} {pc : Nat} {lv : List (Nat × Value)} {st : List Value} (C : Cx x g A cl cc nL own ret F L) (q0 : Nat) {a n : Nat} {f : Nat → Int32} (ha : (cl w)[q0]? = some (a, .inl (g.2.1 2, n, .inl f))) {i v : Int32} {w1 : Wd} (hw : (cl w).set q0 (a, .inl (g.2.1 2, n, .inl (upd f i.toNatClampNeg (vp_nar .boolean v)))) = cl w1) {X : Prop} (hd : decode cc pc = .ok (.bastore, 1)) (h : vp_in i n ∧ X) (k : X → J x g A cl nL Q w1 (pc + 1) lv st) : J x g A cl nL Q w (pc) lv (.int v :: .int i :: .ref a :: st) :=
  fun ls H locs hl hP hS => va_zast C.1 C.2.1 C.2.2.2.2.2.1 hP (C.2.2.2.2.2.2.1 w) hS q0 2 ha rfl h.1 hd (fun H locs hP _ hS => k h.2 ls H locs hl (hw ▸ hP) hS)
theorem J_alen {Wd : Type} {x : Mx} {g : Gd} {A : Nat → Prop} {cl : Wd → va_W} {cc : ByteArray} {nL : Nat} {own : String} {ret : Option FieldType} {F L : Nat} {Q : State → Prop} {w : Wd} {pc : Nat} {lv : List (Nat × Value)} {st : List Value} (C : Cx x g A cl cc nL own ret F L) (q0 : Nat) (t0 : Nat) {a : Nat} {cA : ClassId} {y : vp_A} {ty : FieldType} (ha : (cl w)[q0]? = some (a, .inl (cA, y))) (ht : (gty g)[t0]? = some (cA, ty)) {v : Int32} (hv : Int32.ofNat y.1 = v) (hd : decode cc pc = .ok (.arraylength, 1)) (k : J x g A cl nL Q w (pc + 1) lv (.int v :: st)) : J x g A cl nL Q w (pc) lv (.ref a :: st) :=
  fun ls H locs hl hP hS => va_alen C.1 C.2.1 C.2.2.2.2.2.1 hP q0 t0 ha ht hv hd (k ls H locs hl hP hS)
theorem J_gets {Wd : Type} {x : Mx} {g : Gd} {A : Nat → Prop} {cl : Wd → va_W} {cc : ByteArray} {nL : Nat} {own : String} {ret : Option FieldType} {F L : Nat} {Q : State → Prop} {w : Wd} {pc : Nat} {lv : List (Nat × Value)} {st : List Value} (C : Cx x g A cl cc nL own ret F L) {Cn n d : String} {v : Value} {index : Nat} (hZ : va_Z Cn n d v A x.2.2.2.2.1 x.2.2.2.2.1.heap) (hlink : Cond.fieldLink own index Cn n d ∈ gT) (hd : decode cc pc = .ok (.getstatic index, 3)) (k : J x g A cl nL Q w (pc + 3) lv (v :: st)) : J x g A cl nL Q w (pc) lv st :=
  fun ls H locs hl hP hS => va_gets C.1 C.2.1 hZ hS C.2.2.2.1 (C.2.2.2.2.1 _ hlink) (fun _ h => h) hd (k ls H locs hl hP hS)
theorem J_tc {Wd : Type} {x : Mx} {g : Gd} {A : Nat → Prop} {cl : Wd → va_W} {cc : ByteArray} {nL : Nat} {own : String} {ret : Option FieldType} {F L : Nat} {Q : State → Prop} {w : Wd} {pc : Nat} {lv : List (Nat × Value)} {st : List Value} (C : Cx x g A cl cc nL own ret F L) {a n : Nat} {f : Nat → Int32} (hT : va_T .char a n (fun j => .int (f j)) A x.2.2.2.2.1 x.2.2.2.2.1.heap) {i : Int32} {X : Prop} (hd : decode cc pc = .ok (.caload, 1)) (h : vp_in i n ∧ X) (k : X → J x g A cl nL Q w (pc + 1) lv (.int (f i.toNatClampNeg) :: st)) : J x g A cl nL Q w (pc) lv (.int i :: .ref a :: st) :=
  fun ls H locs hl hP hS => va_tc C.1 C.2.1 hT hS h.1 rfl hd (k h.2 ls H locs hl hP hS)
theorem J_ti {Wd : Type} {x : Mx} {g : Gd} {A : Nat → Prop} {cl : Wd → va_W} {cc : ByteArray} {nL : Nat} {own : String} {ret : Option FieldType} {F L : Nat} {Q : State → Prop} {w : Wd} {pc : Nat} {lv : List (Nat × Value)} {st : List Value} (C : Cx x g A cl cc nL own ret F L) {a n : Nat} {f : Nat → Int32} (hT : va_T .int a n (fun j => .int (f j)) A x.2.2.2.2.1 x.2.2.2.2.1.heap) {i : Int32} {X : Prop} (hd : decode cc pc = .ok (.iaload, 1)) (h : vp_in i n ∧ X) (k : X → J x g A cl nL Q w (pc + 1) lv (.int (f i.toNatClampNeg) :: st)) : J x g A cl nL Q w (pc) lv (.int i :: .ref a :: st) :=
  fun ls H locs hl hP hS => va_ti C.1 C.2.1 hT hS h.1 rfl hd (k h.2 ls H locs hl hP hS)
theorem J_tb {Wd : Type} {x : Mx} {g : Gd} {A : Nat → Prop} {cl : Wd → va_W} {cc : ByteArray} {nL : Nat} {own : String} {ret : Option FieldType} {F L : Nat} {Q : State → Prop} {w : Wd} {pc : Nat} {lv : List (Nat × Value)} {st : List Value} (C : Cx x g A cl cc nL own ret F L) {a n : Nat} {f : Nat → Int32} (hT : va_T .byte a n (fun j => .int (f j)) A x.2.2.2.2.1 x.2.2.2.2.1.heap) {i : Int32} {X : Prop} (hd : decode cc pc = .ok (.baload, 1)) (h : vp_in i n ∧ X) (k : X → J x g A cl nL Q w (pc + 1) lv (.int (f i.toNatClampNeg) :: st)) : J x g A cl nL Q w (pc) lv (.int i :: .ref a :: st) :=
  fun ls H locs hl hP hS => va_tb C.1 C.2.1 hT hS h.1 rfl hd (k h.2 ls H locs hl hP hS)
theorem J_tlen {Wd : Type} {x : Mx} {g : Gd} {A : Nat → Prop} {cl : Wd → va_W} {cc : ByteArray} {nL : Nat} {own : String} {ret : Option FieldType} {F L : Nat} {Q : State → Prop} {w : Wd} {pc : Nat} {lv : List (Nat × Value)} {st : List Value} (C : Cx x g A cl cc nL own ret F L) {ty : FieldType} {a n : Nat} {f : Nat → Value} (hT : va_T ty a n f A x.2.2.2.2.1 x.2.2.2.2.1.heap) {v : Int32} (hv : Int32.ofNat n = v) (hd : decode cc pc = .ok (.arraylength, 1)) (k : J x g A cl nL Q w (pc + 1) lv (.int v :: st)) : J x g A cl nL Q w (pc) lv (.ref a :: st) :=
  fun ls H locs hl hP hS => va_tlen C.1 C.2.1 hT hS hv hd (k ls H locs hl hP hS)
theorem J_tsIn {Wd : Type} {x : Mx} {g : Gd} {A : Nat → Prop} {cl : Wd → va_W} {cc : ByteArray} {nL : Nat} {own : String} {ret : Option FieldType} {F L : Nat} {Q : State → Prop} {w : Wd} {pc : Nat} {lv : List (Nat × Value)} {st : List Value} (C : Cx x g A cl cc nL own ret F L) {dflt lo hi : Int} {offs : Array Int} {len : Nat} {v : Int32} {off : Int} {tgt : Nat} (hd : decode cc pc = .ok (.tableswitch dflt lo hi offs, len)) (h1 : ¬ v.toInt < lo) (h2 : ¬ hi < v.toInt) (ho : offs[(v.toInt - lo).toNat]? = some off) (ht : (pc : Int) + off = (tgt : Int)) (k : J x g A cl nL Q w (tgt) lv st) : J x g A cl nL Q w (pc) lv (.int v :: st) :=
  fun ls H locs hl hP hS => lv_tableIn C.1 C.2.1 hd h1 h2 ho ht (k ls H locs hl hP hS)
theorem J_tsOut {Wd : Type} {x : Mx} {g : Gd} {A : Nat → Prop} {cl : Wd → va_W} {cc : ByteArray} {nL : Nat} {own : String} {ret : Option FieldType} {F L : Nat} {Q : State → Prop} {w : Wd} {pc : Nat} {lv : List (Nat × Value)} {st : List Value} (C : Cx x g A cl cc nL own ret F L) {dflt lo hi : Int} {offs : Array Int} {len : Nat} {v : Int32} {tgt : Nat} (hd : decode cc pc = .ok (.tableswitch dflt lo hi offs, len)) (h : v.toInt < lo ∨ hi < v.toInt) (ht : (pc : Int) + dflt = (tgt : Int)) (k : J x g A cl nL Q w (tgt) lv st) : J x g A cl nL Q w (pc) lv (.int v :: st) :=
  fun ls H locs hl hP hS => lv_tableOut C.1 C.2.1 hd h ht (k ls H locs hl hP hS)
theorem J_iret {Wd : Type} {x : Mx} {g : Gd} {A : Nat → Prop} {cl : Wd → va_W} {cc : ByteArray} {nL : Nat} {own : String} {F L : Nat} {w : Wd} {pc : Nat} {lv : List (Nat × Value)} {st : List Value} (C : Cx x g A cl cc nL own (some .int) F L) {v : Int32} {K : Int32 → Wd → Prop} (hd : decode cc pc = .ok (.ireturn, 1)) (h : K v w) : J x g A cl nL (JQ x A (QcI g A cl K)) w pc lv [.int v] :=
  fun ls H locs hl hP hS => W.iret C.1 C.2.1 C.2.2.2.2.2.2.2.2.2.1 (fun t ht hW => ⟨⟨v, w, rfl, h, by subst ht; exact hP⟩, hS.F ht⟩) hS.2.2 hd C.2.2.2.2.2.2.2.2.1
theorem J_zret {Wd : Type} {x : Mx} {g : Gd} {A : Nat → Prop} {cl : Wd → va_W} {cc : ByteArray} {nL : Nat} {own : String} {F L : Nat} {w : Wd} {pc : Nat} {lv : List (Nat × Value)} {st : List Value} {ty : FieldType} (C : Cx x g A cl cc nL own (some ty) F L) {v : Int32} {K : Int32 → Wd → Prop} (hd : decode cc pc = .ok (.ireturn, 1)) (hn : narrow ty (.int v) = .int v) (h : K v w) : J x g A cl nL (JQ x A (QcI g A cl K)) w pc lv [.int v] :=
  fun ls H locs hl hP hS => W.zret C.1 C.2.1 C.2.2.2.2.2.2.2.2.2.1 hn (fun t ht hW => ⟨⟨v, w, rfl, h, by subst ht; exact hP⟩, hS.F ht⟩) hS.2.2 hd C.2.2.2.2.2.2.2.2.1
theorem J_lret {Wd : Type} {x : Mx} {g : Gd} {A : Nat → Prop} {cl : Wd → va_W} {cc : ByteArray} {nL : Nat} {own : String} {F L : Nat} {w : Wd} {pc : Nat} {lv : List (Nat × Value)} {st : List Value} (C : Cx x g A cl cc nL own (some .long) F L) {v : Int64} {K : Int64 → Wd → Prop} (hd : decode cc pc = .ok (.lreturn, 1)) (h : K v w) : J x g A cl nL (JQ x A (QcL g A cl K)) w pc lv [.long v] :=
  fun ls H locs hl hP hS => W.lret C.1 C.2.1 C.2.2.2.2.2.2.2.2.2.1 (fun t ht hW => ⟨⟨v, w, rfl, h, by subst ht; exact hP⟩, hS.F ht⟩) hS.2.2 hd C.2.2.2.2.2.2.2.2.1
theorem J_vret {Wd : Type} {x : Mx} {g : Gd} {A : Nat → Prop} {cl : Wd → va_W} {cc : ByteArray} {nL : Nat} {own : String} {F L : Nat} {w : Wd} {pc : Nat} {lv : List (Nat × Value)} {st : List Value} (C : Cx x g A cl cc nL own none F L) {K : Wd → Prop} (hd : decode cc pc = .ok (.return_, 1)) (h : K w) : J x g A cl nL (JQ x A (QcV g A cl K)) w pc lv [] :=
  fun ls H locs hl hP hS => W.vret C.1 C.2.1 C.2.2.2.2.2.2.2.2.2.1 (fun t ht hW => ⟨⟨w, rfl, h, by subst ht; exact hP⟩, hS.F ht⟩) hS.2.2 hd C.2.2.2.2.2.2.2.2.1
theorem J_sret {Wd : Type} {x : Mx} {g : Gd} {A : Nat → Prop} {cl : Wd → va_W} {cc : ByteArray} {nL : Nat} {own : String} {F L : Nat} {w : Wd} {pc : Nat} {lv : List (Nat × Value)} {st : List Value} {rt : FieldType} (C : Cx x g A cl cc nL own (some rt) F L) (hrt : (∃ n, rt = .object n) ∨ ∃ t, rt = .array t) {i : Nat} {K : Nat → Wd → Prop} (hd : decode cc pc = .ok (.areturn, 1)) (h : K i w) : J x g A cl nL (JQ x A (QcS g A cl K)) w pc lv [.ref (g.2.2.1 i)] :=
  fun ls H locs hl hP hS => W.aret C.1 C.2.1 C.2.2.2.2.2.2.2.2.2.1 hrt (Or.inr ⟨_, rfl⟩) (fun t ht hW => ⟨⟨(i, w), _, rfl, h, rfl, by subst ht; exact hP⟩, hS.F ht⟩) hS.2.2 hd C.2.2.2.2.2.2.2.2.1
theorem Wo_blind {Wd : Type} {g : Gd} {A : Nat → Prop} {cl : Wd → va_W} {w : Wd} {as : List Value} : FrameBlind (va_Pc as (Wo g A cl w)) := by
  intro a U gf mk h
  obtain ⟨h0, hP, hK, hD, hF⟩ := h
  exact ⟨h0, hP, va_K.moved (u := U) (U := U.calling gf mk a) (Vm.Alike.refl U.vm) hK, hD, StF.same (s := U) (U := U.calling gf mk a) rfl hF⟩
theorem Wo_in {Wd : Type} {g : Gd} {A : Nat → Prop} {cl : Wd → va_W} {w : Wd} {s U : State} {H : Heap} {locs : List Loc} (hK : va_K g.1 vwCl (gty g) s) (hD : ∀ w' : Wd, va_D A (cl w')) (hF : StF g A s s.heap) (hP : va_P g.1 vwCl (cl w) H) (hS : va_S A s.heap H locs) (hU : U.heap = H) (hW : s.WarmedH U.vm) : Wo g A cl w U := by
  refine ⟨by rw [hU]; exact hP, va_K.moved hW.alike hK, hD, ?_⟩
  rw [hU]
  exact (hF.kept hS.2.1).warm hW
theorem J_callVi {Wd : Type} {x : Mx} {g : Gd} {A : Nat → Prop} {cl : Wd → va_W} {cc : ByteArray} {nL : Nat} {own : String} {ret : Option FieldType} {F L : Nat} {Q : State → Prop} {w : Wd} {pc : Nat} {lv : List (Nat × Value)} {st : List Value} (C : Cx x g A cl cc nL own ret F L) {y : MethodName} {bytes : ByteArray} {maxL : Nat} {rt : Option FieldType} {F1 L1 index n b : Nat} {As : List Value} {K : Int32 → Wd → Prop} (hM : Kt x.2.1 y bytes maxL rt F1 L1 g A cl (.ref b :: As) w (QcI g A cl K)) (h1 : Cond.methodLink own index y ∈ gT) (h2 : Cond.instanceMethod y ∈ gT) (h3 : Cond.selects y.cls y y ∈ gT) (h4 : Cond.initialized y.cls ∈ gT) (h5 : Cond.code y bytes maxL rt ∈ gT) (hy : y.cls ≠ "java/lang/invoke/MethodHandle" ∧ y.cls ≠ "java/lang/invoke/VarHandle" ∧ (parseMethodDescriptor y.desc).map (fun d => d.parameters.length) = some n) (hR : F1 + 1 ≤ F ∧ 8 + (maxL + 11) + L1 ≤ L) (hn : As.length = n) (hrec : ∀ (H : Heap) (locs : List Loc), va_P g.1 vwCl (cl w) H → va_S A x.2.2.2.2.1.heap H locs → ∃ cell : Cell, H[b]? = some cell ∧ cell.vm.isStatics = false ∧ x.2.2.2.2.1.vm.findClass y.cls = some cell.cls) (hst : (st.map fun v => v.category).sum ≤ 8) (hd : decode cc pc = .ok (.invokevirtual index, 3)) (k : ∀ (r : Int32) (w' : Wd), K r w' → J x g A cl nL Q w' (pc + 3) lv (.int r :: st)) : J x g A cl nL Q w (pc) lv (As.reverse ++ .ref b :: st) := by
  intro ls H locs hl hP hS
  refine va_calli (va_runV (As := As) (rest := st) (b := b) ⟨C.1, C.2.1, C.2.2.1, C.2.2.2.1, C.2.2.2.2.1⟩ hM (cwV n C.2.2.2.2.1 (gin_V h1 h2 h3 h4 h5) rfl rfl rfl ⟨rfl, hy⟩ ⟨Nat.le_trans hR.1 C.2.2.2.2.2.2.2.2.2.2.1, Nat.le_trans hR.2 C.2.2.2.2.2.2.2.2.2.2.2⟩) ⟨Wo_blind, hrec H locs hP hS, fun U hU hW => ⟨rfl, Wo_in C.2.2.2.2.2.1 C.2.2.2.2.2.2.1 C.2.2.2.2.2.2.2.1 hP hS hU hW⟩⟩ rfl hn hl.1 rfl (lv_room hst) hd ⟨Nat.zero_le _, Nat.zero_le _⟩) hS (fun q _ h => h) (fun q h => h) ?_
  exact fun r u t H1 locs1 ht _ hK hB _ _ hS1 => k r u hK ls H1 locs1 hl (ht ▸ hB) hS1
theorem J_callVl {Wd : Type} {x : Mx} {g : Gd} {A : Nat → Prop} {cl : Wd → va_W} {cc : ByteArray} {nL : Nat} {own : String} {ret : Option FieldType} {F L : Nat} {Q : State → Prop} {w : Wd} {pc : Nat} {lv : List (Nat × Value)} {st : List Value} (C : Cx x g A cl cc nL own ret F L) {y : MethodName} {bytes : ByteArray} {maxL : Nat} {rt : Option FieldType} {F1 L1 index n b : Nat} {As : List Value} {K : Int64 → Wd → Prop} (hM : Kt x.2.1 y bytes maxL rt F1 L1 g A cl (.ref b :: As) w (QcL g A cl K)) (h1 : Cond.methodLink own index y ∈ gT) (h2 : Cond.instanceMethod y ∈ gT) (h3 : Cond.selects y.cls y y ∈ gT) (h4 : Cond.initialized y.cls ∈ gT) (h5 : Cond.code y bytes maxL rt ∈ gT) (hy : y.cls ≠ "java/lang/invoke/MethodHandle" ∧ y.cls ≠ "java/lang/invoke/VarHandle" ∧ (parseMethodDescriptor y.desc).map (fun d => d.parameters.length) = some n) (hR : F1 + 1 ≤ F ∧ 8 + (maxL + 11) + L1 ≤ L) (hn : As.length = n) (hrec : ∀ (H : Heap) (locs : List Loc), va_P g.1 vwCl (cl w) H → va_S A x.2.2.2.2.1.heap H locs → ∃ cell : Cell, H[b]? = some cell ∧ cell.vm.isStatics = false ∧ x.2.2.2.2.1.vm.findClass y.cls = some cell.cls) (hst : (st.map fun v => v.category).sum ≤ 8) (hd : decode cc pc = .ok (.invokevirtual index, 3)) (k : ∀ (r : Int64) (w' : Wd), K r w' → J x g A cl nL Q w' (pc + 3) lv (.long r :: st)) : J x g A cl nL Q w (pc) lv (As.reverse ++ .ref b :: st) := by
  intro ls H locs hl hP hS
  refine va_calll (va_runV (As := As) (rest := st) (b := b) ⟨C.1, C.2.1, C.2.2.1, C.2.2.2.1, C.2.2.2.2.1⟩ hM (cwV n C.2.2.2.2.1 (gin_V h1 h2 h3 h4 h5) rfl rfl rfl ⟨rfl, hy⟩ ⟨Nat.le_trans hR.1 C.2.2.2.2.2.2.2.2.2.2.1, Nat.le_trans hR.2 C.2.2.2.2.2.2.2.2.2.2.2⟩) ⟨Wo_blind, hrec H locs hP hS, fun U hU hW => ⟨rfl, Wo_in C.2.2.2.2.2.1 C.2.2.2.2.2.2.1 C.2.2.2.2.2.2.2.1 hP hS hU hW⟩⟩ rfl hn hl.1 rfl (lv_room hst) hd ⟨Nat.zero_le _, Nat.zero_le _⟩) hS (fun q _ h => h) (fun q h => h) ?_
  exact fun r u t H1 locs1 ht _ hK hB _ _ hS1 => k r u hK ls H1 locs1 hl (ht ▸ hB) hS1
theorem J_callVv {Wd : Type} {x : Mx} {g : Gd} {A : Nat → Prop} {cl : Wd → va_W} {cc : ByteArray} {nL : Nat} {own : String} {ret : Option FieldType} {F L : Nat} {Q : State → Prop} {w : Wd} {pc : Nat} {lv : List (Nat × Value)} {st : List Value} (C : Cx x g A cl cc nL own ret F L) {y : MethodName} {bytes : ByteArray} {maxL : Nat} {rt : Option FieldType} {F1 L1 index n b : Nat} {As : List Value} {K : Wd → Prop} (hM : Kt x.2.1 y bytes maxL rt F1 L1 g A cl (.ref b :: As) w (QcV g A cl K)) (h1 : Cond.methodLink own index y ∈ gT) (h2 : Cond.instanceMethod y ∈ gT) (h3 : Cond.selects y.cls y y ∈ gT) (h4 : Cond.initialized y.cls ∈ gT) (h5 : Cond.code y bytes maxL rt ∈ gT) (hy : y.cls ≠ "java/lang/invoke/MethodHandle" ∧ y.cls ≠ "java/lang/invoke/VarHandle" ∧ (parseMethodDescriptor y.desc).map (fun d => d.parameters.length) = some n) (hR : F1 + 1 ≤ F ∧ 8 + (maxL + 11) + L1 ≤ L) (hn : As.length = n) (hrec : ∀ (H : Heap) (locs : List Loc), va_P g.1 vwCl (cl w) H → va_S A x.2.2.2.2.1.heap H locs → ∃ cell : Cell, H[b]? = some cell ∧ cell.vm.isStatics = false ∧ x.2.2.2.2.1.vm.findClass y.cls = some cell.cls) (hst : (st.map fun v => v.category).sum ≤ 8) (hd : decode cc pc = .ok (.invokevirtual index, 3)) (k : ∀ (w' : Wd), K w' → J x g A cl nL Q w' (pc + 3) lv st) : J x g A cl nL Q w (pc) lv (As.reverse ++ .ref b :: st) := by
  intro ls H locs hl hP hS
  refine va_callv (va_runV (As := As) (rest := st) (b := b) ⟨C.1, C.2.1, C.2.2.1, C.2.2.2.1, C.2.2.2.2.1⟩ hM (cwV n C.2.2.2.2.1 (gin_V h1 h2 h3 h4 h5) rfl rfl rfl ⟨rfl, hy⟩ ⟨Nat.le_trans hR.1 C.2.2.2.2.2.2.2.2.2.2.1, Nat.le_trans hR.2 C.2.2.2.2.2.2.2.2.2.2.2⟩) ⟨Wo_blind, hrec H locs hP hS, fun U hU hW => ⟨rfl, Wo_in C.2.2.2.2.2.1 C.2.2.2.2.2.2.1 C.2.2.2.2.2.2.2.1 hP hS hU hW⟩⟩ rfl hn hl.1 rfl (lv_room hst) hd ⟨Nat.zero_le _, Nat.zero_le _⟩) hS (fun q _ h => h) (fun q h => h) ?_
  exact fun u t H1 locs1 ht _ hK hB _ _ hS1 => k u hK ls H1 locs1 hl (ht ▸ hB) hS1
theorem J_callVs {Wd : Type} {x : Mx} {g : Gd} {A : Nat → Prop} {cl : Wd → va_W} {cc : ByteArray} {nL : Nat} {own : String} {ret : Option FieldType} {F L : Nat} {Q : State → Prop} {w : Wd} {pc : Nat} {lv : List (Nat × Value)} {st : List Value} (C : Cx x g A cl cc nL own ret F L) {y : MethodName} {bytes : ByteArray} {maxL : Nat} {rt : Option FieldType} {F1 L1 index n b : Nat} {As : List Value} {K : Nat → Wd → Prop} (hM : Kt x.2.1 y bytes maxL rt F1 L1 g A cl (.ref b :: As) w (QcS g A cl K)) (h1 : Cond.methodLink own index y ∈ gT) (h2 : Cond.instanceMethod y ∈ gT) (h3 : Cond.selects y.cls y y ∈ gT) (h4 : Cond.initialized y.cls ∈ gT) (h5 : Cond.code y bytes maxL rt ∈ gT) (hy : y.cls ≠ "java/lang/invoke/MethodHandle" ∧ y.cls ≠ "java/lang/invoke/VarHandle" ∧ (parseMethodDescriptor y.desc).map (fun d => d.parameters.length) = some n) (hR : F1 + 1 ≤ F ∧ 8 + (maxL + 11) + L1 ≤ L) (hn : As.length = n) (hrec : ∀ (H : Heap) (locs : List Loc), va_P g.1 vwCl (cl w) H → va_S A x.2.2.2.2.1.heap H locs → ∃ cell : Cell, H[b]? = some cell ∧ cell.vm.isStatics = false ∧ x.2.2.2.2.1.vm.findClass y.cls = some cell.cls) (hst : (st.map fun v => v.category).sum ≤ 8) (hd : decode cc pc = .ok (.invokevirtual index, 3)) (k : ∀ (r : Nat) (w' : Wd), K r w' → J x g A cl nL Q w' (pc + 3) lv (.ref (g.2.2.1 r) :: st)) : J x g A cl nL Q w (pc) lv (As.reverse ++ .ref b :: st) := by
  intro ls H locs hl hP hS
  refine va_callr (va_runV (As := As) (rest := st) (b := b) ⟨C.1, C.2.1, C.2.2.1, C.2.2.2.1, C.2.2.2.2.1⟩ hM (cwV n C.2.2.2.2.1 (gin_V h1 h2 h3 h4 h5) rfl rfl rfl ⟨rfl, hy⟩ ⟨Nat.le_trans hR.1 C.2.2.2.2.2.2.2.2.2.2.1, Nat.le_trans hR.2 C.2.2.2.2.2.2.2.2.2.2.2⟩) ⟨Wo_blind, hrec H locs hP hS, fun U hU hW => ⟨rfl, Wo_in C.2.2.2.2.2.1 C.2.2.2.2.2.2.1 C.2.2.2.2.2.2.2.1 hP hS hU hW⟩⟩ rfl hn hl.1 rfl (lv_room hst) hd ⟨Nat.zero_le _, Nat.zero_le _⟩) hS (fun q _ h => h) (fun q h => h) ?_
  exact fun u ra t H1 locs1 ht _ hK hB _ _ hS1 => by
    obtain ⟨rfl, hB⟩ := hB
    exact k u.1 u.2 hK ls H1 locs1 hl (ht ▸ hB) hS1
theorem J_callSi {Wd : Type} {x : Mx} {g : Gd} {A : Nat → Prop} {cl : Wd → va_W} {cc : ByteArray} {nL : Nat} {own : String} {ret : Option FieldType} {F L : Nat} {Q : State → Prop} {w : Wd} {pc : Nat} {lv : List (Nat × Value)} {st : List Value} (C : Cx x g A cl cc nL own ret F L) {y : MethodName} {bytes : ByteArray} {maxL : Nat} {rt : Option FieldType} {F1 L1 index n : Nat} {As : List Value} {K : Int32 → Wd → Prop} (hM : Kt x.2.1 y bytes maxL rt F1 L1 g A cl As w (QcI g A cl K)) (h1 : Cond.methodLink own index y ∈ gT) (h2 : Cond.static y ∈ gT) (h4 : Cond.initialized y.cls ∈ gT) (h5 : Cond.code y bytes maxL rt ∈ gT) (hy : y.cls ≠ "java/lang/invoke/MethodHandle" ∧ y.cls ≠ "java/lang/invoke/VarHandle" ∧ (parseMethodDescriptor y.desc).map (fun d => d.parameters.length) = some n) (hR : F1 + 1 ≤ F ∧ 8 + (maxL + 11) + L1 ≤ L) (hn : As.length = n) (hst : (st.map fun v => v.category).sum ≤ 8) (hd : decode cc pc = .ok (.invokestatic index, 3)) (k : ∀ (r : Int32) (w' : Wd), K r w' → J x g A cl nL Q w' (pc + 3) lv (.int r :: st)) : J x g A cl nL Q w (pc) lv (As.reverse ++ st) := by
  intro ls H locs hl hP hS
  refine va_calli (va_runS (As := As) (rest := st) ⟨C.1, C.2.1, C.2.2.1, C.2.2.2.1, C.2.2.2.2.1⟩ hM (va_cwS n C.2.2.2.2.1 (gin_S h1 h2 h4 h5) rfl rfl rfl hy ⟨Nat.le_trans hR.1 C.2.2.2.2.2.2.2.2.2.2.1, Nat.le_trans hR.2 C.2.2.2.2.2.2.2.2.2.2.2⟩) ⟨Wo_blind, fun U hU hW => ⟨rfl, Wo_in C.2.2.2.2.2.1 C.2.2.2.2.2.2.1 C.2.2.2.2.2.2.2.1 hP hS hU hW⟩⟩ rfl hn hl.1 rfl (lv_room hst) hd ⟨Nat.zero_le _, Nat.zero_le _⟩) hS (fun q _ h => h) (fun q h => h) ?_
  exact fun r u t H1 locs1 ht _ hK hB _ _ hS1 => k r u hK ls H1 locs1 hl (ht ▸ hB) hS1
theorem J_callSl {Wd : Type} {x : Mx} {g : Gd} {A : Nat → Prop} {cl : Wd → va_W} {cc : ByteArray} {nL : Nat} {own : String} {ret : Option FieldType} {F L : Nat} {Q : State → Prop} {w : Wd} {pc : Nat} {lv : List (Nat × Value)} {st : List Value} (C : Cx x g A cl cc nL own ret F L) {y : MethodName} {bytes : ByteArray} {maxL : Nat} {rt : Option FieldType} {F1 L1 index n : Nat} {As : List Value} {K : Int64 → Wd → Prop} (hM : Kt x.2.1 y bytes maxL rt F1 L1 g A cl As w (QcL g A cl K)) (h1 : Cond.methodLink own index y ∈ gT) (h2 : Cond.static y ∈ gT) (h4 : Cond.initialized y.cls ∈ gT) (h5 : Cond.code y bytes maxL rt ∈ gT) (hy : y.cls ≠ "java/lang/invoke/MethodHandle" ∧ y.cls ≠ "java/lang/invoke/VarHandle" ∧ (parseMethodDescriptor y.desc).map (fun d => d.parameters.length) = some n) (hR : F1 + 1 ≤ F ∧ 8 + (maxL + 11) + L1 ≤ L) (hn : As.length = n) (hst : (st.map fun v => v.category).sum ≤ 8) (hd : decode cc pc = .ok (.invokestatic index, 3)) (k : ∀ (r : Int64) (w' : Wd), K r w' → J x g A cl nL Q w' (pc + 3) lv (.long r :: st)) : J x g A cl nL Q w (pc) lv (As.reverse ++ st) := by
  intro ls H locs hl hP hS
  refine va_calll (va_runS (As := As) (rest := st) ⟨C.1, C.2.1, C.2.2.1, C.2.2.2.1, C.2.2.2.2.1⟩ hM (va_cwS n C.2.2.2.2.1 (gin_S h1 h2 h4 h5) rfl rfl rfl hy ⟨Nat.le_trans hR.1 C.2.2.2.2.2.2.2.2.2.2.1, Nat.le_trans hR.2 C.2.2.2.2.2.2.2.2.2.2.2⟩) ⟨Wo_blind, fun U hU hW => ⟨rfl, Wo_in C.2.2.2.2.2.1 C.2.2.2.2.2.2.1 C.2.2.2.2.2.2.2.1 hP hS hU hW⟩⟩ rfl hn hl.1 rfl (lv_room hst) hd ⟨Nat.zero_le _, Nat.zero_le _⟩) hS (fun q _ h => h) (fun q h => h) ?_
  exact fun r u t H1 locs1 ht _ hK hB _ _ hS1 => k r u hK ls H1 locs1 hl (ht ▸ hB) hS1
theorem J_callSv {Wd : Type} {x : Mx} {g : Gd} {A : Nat → Prop} {cl : Wd → va_W} {cc : ByteArray} {nL : Nat} {own : String} {ret : Option FieldType} {F L : Nat} {Q : State → Prop} {w : Wd} {pc : Nat} {lv : List (Nat × Value)} {st : List Value} (C : Cx x g A cl cc nL own ret F L) {y : MethodName} {bytes : ByteArray} {maxL : Nat} {rt : Option FieldType} {F1 L1 index n : Nat} {As : List Value} {K : Wd → Prop} (hM : Kt x.2.1 y bytes maxL rt F1 L1 g A cl As w (QcV g A cl K)) (h1 : Cond.methodLink own index y ∈ gT) (h2 : Cond.static y ∈ gT) (h4 : Cond.initialized y.cls ∈ gT) (h5 : Cond.code y bytes maxL rt ∈ gT) (hy : y.cls ≠ "java/lang/invoke/MethodHandle" ∧ y.cls ≠ "java/lang/invoke/VarHandle" ∧ (parseMethodDescriptor y.desc).map (fun d => d.parameters.length) = some n) (hR : F1 + 1 ≤ F ∧ 8 + (maxL + 11) + L1 ≤ L) (hn : As.length = n) (hst : (st.map fun v => v.category).sum ≤ 8) (hd : decode cc pc = .ok (.invokestatic index, 3)) (k : ∀ (w' : Wd), K w' → J x g A cl nL Q w' (pc + 3) lv st) : J x g A cl nL Q w (pc) lv (As.reverse ++ st) := by
  intro ls H locs hl hP hS
  refine va_callv (va_runS (As := As) (rest := st) ⟨C.1, C.2.1, C.2.2.1, C.2.2.2.1, C.2.2.2.2.1⟩ hM (va_cwS n C.2.2.2.2.1 (gin_S h1 h2 h4 h5) rfl rfl rfl hy ⟨Nat.le_trans hR.1 C.2.2.2.2.2.2.2.2.2.2.1, Nat.le_trans hR.2 C.2.2.2.2.2.2.2.2.2.2.2⟩) ⟨Wo_blind, fun U hU hW => ⟨rfl, Wo_in C.2.2.2.2.2.1 C.2.2.2.2.2.2.1 C.2.2.2.2.2.2.2.1 hP hS hU hW⟩⟩ rfl hn hl.1 rfl (lv_room hst) hd ⟨Nat.zero_le _, Nat.zero_le _⟩) hS (fun q _ h => h) (fun q h => h) ?_
  exact fun u t H1 locs1 ht _ hK hB _ _ hS1 => k u hK ls H1 locs1 hl (ht ▸ hB) hS1
theorem J_callSs {Wd : Type} {x : Mx} {g : Gd} {A : Nat → Prop} {cl : Wd → va_W} {cc : ByteArray} {nL : Nat} {own : String} {ret : Option FieldType} {F L : Nat} {Q : State → Prop} {w : Wd} {pc : Nat} {lv : List (Nat × Value)} {st : List Value} (C : Cx x g A cl cc nL own ret F L) {y : MethodName} {bytes : ByteArray} {maxL : Nat} {rt : Option FieldType} {F1 L1 index n : Nat} {As : List Value} {K : Nat → Wd → Prop} (hM : Kt x.2.1 y bytes maxL rt F1 L1 g A cl As w (QcS g A cl K)) (h1 : Cond.methodLink own index y ∈ gT) (h2 : Cond.static y ∈ gT) (h4 : Cond.initialized y.cls ∈ gT) (h5 : Cond.code y bytes maxL rt ∈ gT) (hy : y.cls ≠ "java/lang/invoke/MethodHandle" ∧ y.cls ≠ "java/lang/invoke/VarHandle" ∧ (parseMethodDescriptor y.desc).map (fun d => d.parameters.length) = some n) (hR : F1 + 1 ≤ F ∧ 8 + (maxL + 11) + L1 ≤ L) (hn : As.length = n) (hst : (st.map fun v => v.category).sum ≤ 8) (hd : decode cc pc = .ok (.invokestatic index, 3)) (k : ∀ (r : Nat) (w' : Wd), K r w' → J x g A cl nL Q w' (pc + 3) lv (.ref (g.2.2.1 r) :: st)) : J x g A cl nL Q w (pc) lv (As.reverse ++ st) := by
  intro ls H locs hl hP hS
  refine va_callr (va_runS (As := As) (rest := st) ⟨C.1, C.2.1, C.2.2.1, C.2.2.2.1, C.2.2.2.2.1⟩ hM (va_cwS n C.2.2.2.2.1 (gin_S h1 h2 h4 h5) rfl rfl rfl hy ⟨Nat.le_trans hR.1 C.2.2.2.2.2.2.2.2.2.2.1, Nat.le_trans hR.2 C.2.2.2.2.2.2.2.2.2.2.2⟩) ⟨Wo_blind, fun U hU hW => ⟨rfl, Wo_in C.2.2.2.2.2.1 C.2.2.2.2.2.2.1 C.2.2.2.2.2.2.2.1 hP hS hU hW⟩⟩ rfl hn hl.1 rfl (lv_room hst) hd ⟨Nat.zero_le _, Nat.zero_le _⟩) hS (fun q _ h => h) (fun q h => h) ?_
  exact fun u ra t H1 locs1 ht _ hK hB _ _ hS1 => by
    obtain ⟨rfl, hB⟩ := hB
    exact k u.1 u.2 hK ls H1 locs1 hl (ht ▸ hB) hS1
end
