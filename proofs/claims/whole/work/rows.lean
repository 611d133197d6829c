section
-- ===== PART A: goes FIRST, ahead of the names: the tables' words, and 'selects' of the private methods out of them =====
/-- a private method of a class that the tables say can be made, by its rows of tables_1 -/
def lw_okq (q : MethodName × Nat) : Prop := (q.1.cls ≠ "java/lang/invoke/MethodHandle" ∧ q.1.cls ≠ "java/lang/invoke/VarHandle") ∧ Cond.instantiable q.1.cls q.2 ∈ tables_1 ∧ Cond.privateMethod q.1 ∈ tables_1 ∧ Cond.instanceMethod q.1 ∈ tables_1
theorem lw_p0 : lw_okq (⟨"java/lang/Throwable", "fillInStackTrace", "(I)Ljava/lang/Throwable;"⟩, 6) := ⟨⟨by decide +kernel, by decide +kernel⟩, List.mem_of_getElem? (i := 151) (by decide +kernel), List.mem_of_getElem? (i := 149) (by decide +kernel), List.mem_of_getElem? (i := 150) (by decide +kernel)⟩
theorem lw_p1 : lw_okq (⟨"BestParses$Text", "noteCopies", "(III)V"⟩, 7) := ⟨⟨by decide +kernel, by decide +kernel⟩, List.mem_of_getElem? (i := 44) (by decide +kernel), List.mem_of_getElem? (i := 679) (by decide +kernel), List.mem_of_getElem? (i := 680) (by decide +kernel)⟩
theorem lw_p2 : lw_okq (⟨"BestParses", "findBest", "(LBestParses$Parse;)V"⟩, 12) := ⟨⟨by decide +kernel, by decide +kernel⟩, List.mem_of_getElem? (i := 30) (by decide +kernel), List.mem_of_getElem? (i := 716) (by decide +kernel), List.mem_of_getElem? (i := 717) (by decide +kernel)⟩
theorem lw_p3 : lw_okq (⟨"BestParses$LatestForm", "begin", "(I)V"⟩, 12) := ⟨⟨by decide +kernel, by decide +kernel⟩, List.mem_of_getElem? (i := 495) (by decide +kernel), List.mem_of_getElem? (i := 726) (by decide +kernel), List.mem_of_getElem? (i := 727) (by decide +kernel)⟩
theorem lw_p4 : lw_okq (⟨"BestParses$Costs", "lengthCost", "(I)I"⟩, 5) := ⟨⟨by decide +kernel, by decide +kernel⟩, List.mem_of_getElem? (i := 91) (by decide +kernel), List.mem_of_getElem? (i := 734) (by decide +kernel), List.mem_of_getElem? (i := 735) (by decide +kernel)⟩
theorem lw_p5 : lw_okq (⟨"BestParses$Costs", "distanceCost", "(I)I"⟩, 5) := ⟨⟨by decide +kernel, by decide +kernel⟩, List.mem_of_getElem? (i := 91) (by decide +kernel), List.mem_of_getElem? (i := 745) (by decide +kernel), List.mem_of_getElem? (i := 746) (by decide +kernel)⟩
theorem lw_p6 : lw_okq (⟨"BestParses$LatestForm", "goFrom", "(II)V"⟩, 12) := ⟨⟨by decide +kernel, by decide +kernel⟩, List.mem_of_getElem? (i := 495) (by decide +kernel), List.mem_of_getElem? (i := 759) (by decide +kernel), List.mem_of_getElem? (i := 760) (by decide +kernel)⟩
theorem lw_p7 : lw_okq (⟨"BestParses$LatestForm", "copiesWereLed", "()Z"⟩, 12) := ⟨⟨by decide +kernel, by decide +kernel⟩, List.mem_of_getElem? (i := 495) (by decide +kernel), List.mem_of_getElem? (i := 764) (by decide +kernel), List.mem_of_getElem? (i := 765) (by decide +kernel)⟩
theorem lw_p8 : lw_okq (⟨"BestParses$LatestForm", "leadByCopies", "()V"⟩, 12) := ⟨⟨by decide +kernel, by decide +kernel⟩, List.mem_of_getElem? (i := 495) (by decide +kernel), List.mem_of_getElem? (i := 768) (by decide +kernel), List.mem_of_getElem? (i := 769) (by decide +kernel)⟩
theorem lw_p9 : lw_okq (⟨"BestParses$LatestForm", "lead", "(IIIJ)V"⟩, 12) := ⟨⟨by decide +kernel, by decide +kernel⟩, List.mem_of_getElem? (i := 495) (by decide +kernel), List.mem_of_getElem? (i := 791) (by decide +kernel), List.mem_of_getElem? (i := 792) (by decide +kernel)⟩
theorem lw_p10 : lw_okq (⟨"BestParses$LatestForm", "makeRoom", "(I)Z"⟩, 12) := ⟨⟨by decide +kernel, by decide +kernel⟩, List.mem_of_getElem? (i := 495) (by decide +kernel), List.mem_of_getElem? (i := 795) (by decide +kernel), List.mem_of_getElem? (i := 796) (by decide +kernel)⟩
theorem lw_p11 : lw_okq (⟨"BestParses$LatestForm", "insert", "(IIJI)V"⟩, 12) := ⟨⟨by decide +kernel, by decide +kernel⟩, List.mem_of_getElem? (i := 495) (by decide +kernel), List.mem_of_getElem? (i := 799) (by decide +kernel), List.mem_of_getElem? (i := 800) (by decide +kernel)⟩
theorem lw_p12 : lw_okq (⟨"BestParses$LatestForm", "leadByAgain", "(I)V"⟩, 12) := ⟨⟨by decide +kernel, by decide +kernel⟩, List.mem_of_getElem? (i := 495) (by decide +kernel), List.mem_of_getElem? (i := 803) (by decide +kernel), List.mem_of_getElem? (i := 804) (by decide +kernel)⟩
theorem lw_p13 : lw_okq (⟨"BestParses$LatestForm", "tellSteps", "(LBestParses$Parse;)V"⟩, 12) := ⟨⟨by decide +kernel, by decide +kernel⟩, List.mem_of_getElem? (i := 495) (by decide +kernel), List.mem_of_getElem? (i := 822) (by decide +kernel), List.mem_of_getElem? (i := 823) (by decide +kernel)⟩
theorem lw_p14 : lw_okq (⟨"BestParses$OctetForm", "findFirst", "(I)V"⟩, 7) := ⟨⟨by decide +kernel, by decide +kernel⟩, List.mem_of_getElem? (i := 468) (by decide +kernel), List.mem_of_getElem? (i := 849) (by decide +kernel), List.mem_of_getElem? (i := 850) (by decide +kernel)⟩
theorem lw_p15 : lw_okq (⟨"BestParses$OctetForm", "lead", "(II)V"⟩, 7) := ⟨⟨by decide +kernel, by decide +kernel⟩, List.mem_of_getElem? (i := 468) (by decide +kernel), List.mem_of_getElem? (i := 853) (by decide +kernel), List.mem_of_getElem? (i := 854) (by decide +kernel)⟩
def lw_privs_1 : List (MethodName × Nat) := [(⟨"java/lang/Throwable", "fillInStackTrace", "(I)Ljava/lang/Throwable;"⟩, 6), (⟨"BestParses$Text", "noteCopies", "(III)V"⟩, 7), (⟨"BestParses", "findBest", "(LBestParses$Parse;)V"⟩, 12), (⟨"BestParses$LatestForm", "begin", "(I)V"⟩, 12), (⟨"BestParses$Costs", "lengthCost", "(I)I"⟩, 5), (⟨"BestParses$Costs", "distanceCost", "(I)I"⟩, 5), (⟨"BestParses$LatestForm", "goFrom", "(II)V"⟩, 12), (⟨"BestParses$LatestForm", "copiesWereLed", "()Z"⟩, 12), (⟨"BestParses$LatestForm", "leadByCopies", "()V"⟩, 12), (⟨"BestParses$LatestForm", "lead", "(IIIJ)V"⟩, 12), (⟨"BestParses$LatestForm", "makeRoom", "(I)Z"⟩, 12), (⟨"BestParses$LatestForm", "insert", "(IIJI)V"⟩, 12), (⟨"BestParses$LatestForm", "leadByAgain", "(I)V"⟩, 12), (⟨"BestParses$LatestForm", "tellSteps", "(LBestParses$Parse;)V"⟩, 12), (⟨"BestParses$OctetForm", "findFirst", "(I)V"⟩, 7), (⟨"BestParses$OctetForm", "lead", "(II)V"⟩, 7)]
theorem lw_r1 : ∀ q ∈ lw_privs_1, lw_okq q := List.forall_mem_cons.mpr ⟨lw_p0, List.forall_mem_cons.mpr ⟨lw_p1, List.forall_mem_cons.mpr ⟨lw_p2, List.forall_mem_cons.mpr ⟨lw_p3, List.forall_mem_cons.mpr ⟨lw_p4, List.forall_mem_cons.mpr ⟨lw_p5, List.forall_mem_cons.mpr ⟨lw_p6, List.forall_mem_cons.mpr ⟨lw_p7, List.forall_mem_cons.mpr ⟨lw_p8, List.forall_mem_cons.mpr ⟨lw_p9, List.forall_mem_cons.mpr ⟨lw_p10, List.forall_mem_cons.mpr ⟨lw_p11, List.forall_mem_cons.mpr ⟨lw_p12, List.forall_mem_cons.mpr ⟨lw_p13, List.forall_mem_cons.mpr ⟨lw_p14, List.forall_mem_cons.mpr ⟨lw_p15, fun _ h => absurd h List.not_mem_nil⟩⟩⟩⟩⟩⟩⟩⟩⟩⟩⟩⟩⟩⟩⟩⟩
theorem lw_p16 : lw_okq (⟨"BestParses$OctetForm", "tellSteps", "(LBestParses$Parse;)V"⟩, 7) := ⟨⟨by decide +kernel, by decide +kernel⟩, List.mem_of_getElem? (i := 468) (by decide +kernel), List.mem_of_getElem? (i := 860) (by decide +kernel), List.mem_of_getElem? (i := 861) (by decide +kernel)⟩
theorem lw_p17 : lw_okq (⟨"BestParses$SlotForm", "lead", "(III)V"⟩, 4) := ⟨⟨by decide +kernel, by decide +kernel⟩, List.mem_of_getElem? (i := 436) (by decide +kernel), List.mem_of_getElem? (i := 877) (by decide +kernel), List.mem_of_getElem? (i := 878) (by decide +kernel)⟩
theorem lw_p18 : lw_okq (⟨"BestParses$SlotForm", "tellSteps", "(LBestParses$Parse;)V"⟩, 4) := ⟨⟨by decide +kernel, by decide +kernel⟩, List.mem_of_getElem? (i := 436) (by decide +kernel), List.mem_of_getElem? (i := 882) (by decide +kernel), List.mem_of_getElem? (i := 883) (by decide +kernel)⟩
theorem lw_p19 : lw_okq (⟨"BestParses$Parse", "tellBack", "(III)V"⟩, 8) := ⟨⟨by decide +kernel, by decide +kernel⟩, List.mem_of_getElem? (i := 586) (by decide +kernel), List.mem_of_getElem? (i := 913) (by decide +kernel), List.mem_of_getElem? (i := 914) (by decide +kernel)⟩
theorem lw_p20 : lw_okq (⟨"BestParses$Stepper", "longerAhead", "(III)Z"⟩, 2) := ⟨⟨by decide +kernel, by decide +kernel⟩, List.mem_of_getElem? (i := 536) (by decide +kernel), List.mem_of_getElem? (i := 924) (by decide +kernel), List.mem_of_getElem? (i := 925) (by decide +kernel)⟩
theorem lw_p21 : lw_okq (⟨"BestParses$Stepper", "againAsLong", "(JII)I"⟩, 2) := ⟨⟨by decide +kernel, by decide +kernel⟩, List.mem_of_getElem? (i := 536) (by decide +kernel), List.mem_of_getElem? (i := 929) (by decide +kernel), List.mem_of_getElem? (i := 930) (by decide +kernel)⟩
theorem lw_p22 : lw_okq (⟨"BestParses$Costs", "countSymbols", "(LBestParses$Parse;LBestParses$Text;)V"⟩, 5) := ⟨⟨by decide +kernel, by decide +kernel⟩, List.mem_of_getElem? (i := 91) (by decide +kernel), List.mem_of_getElem? (i := 969) (by decide +kernel), List.mem_of_getElem? (i := 970) (by decide +kernel)⟩
theorem lw_p23 : lw_okq (⟨"BestParses$Costs", "countOne", "(II)V"⟩, 5) := ⟨⟨by decide +kernel, by decide +kernel⟩, List.mem_of_getElem? (i := 91) (by decide +kernel), List.mem_of_getElem? (i := 974) (by decide +kernel), List.mem_of_getElem? (i := 975) (by decide +kernel)⟩
theorem lw_p24 : lw_okq (⟨"BestParses$Costs", "fitClass", "(I)V"⟩, 5) := ⟨⟨by decide +kernel, by decide +kernel⟩, List.mem_of_getElem? (i := 91) (by decide +kernel), List.mem_of_getElem? (i := 978) (by decide +kernel), List.mem_of_getElem? (i := 979) (by decide +kernel)⟩
theorem lw_p25 : lw_okq (⟨"BestParses", "takeSpare", "()V"⟩, 12) := ⟨⟨by decide +kernel, by decide +kernel⟩, List.mem_of_getElem? (i := 30) (by decide +kernel), List.mem_of_getElem? (i := 992) (by decide +kernel), List.mem_of_getElem? (i := 993) (by decide +kernel)⟩
theorem lw_p26 : lw_okq (⟨"BestParses$Blocks", "findRest", "(II)V"⟩, 9) := ⟨⟨by decide +kernel, by decide +kernel⟩, List.mem_of_getElem? (i := 549) (by decide +kernel), List.mem_of_getElem? (i := 1023) (by decide +kernel), List.mem_of_getElem? (i := 1024) (by decide +kernel)⟩
theorem lw_p27 : lw_okq (⟨"BestParses$Blocks", "placeOf", "(I)I"⟩, 9) := ⟨⟨by decide +kernel, by decide +kernel⟩, List.mem_of_getElem? (i := 549) (by decide +kernel), List.mem_of_getElem? (i := 1028) (by decide +kernel), List.mem_of_getElem? (i := 1029) (by decide +kernel)⟩
theorem lw_p28 : lw_okq (⟨"BestParses$Blocks", "countOctet", "(I)I"⟩, 9) := ⟨⟨by decide +kernel, by decide +kernel⟩, List.mem_of_getElem? (i := 549) (by decide +kernel), List.mem_of_getElem? (i := 1032) (by decide +kernel), List.mem_of_getElem? (i := 1033) (by decide +kernel)⟩
theorem lw_p29 : lw_okq (⟨"BestParsesModel", "start", "()V"⟩, 47) := ⟨⟨by decide +kernel, by decide +kernel⟩, List.mem_of_getElem? (i := 1070) (by decide +kernel), List.mem_of_getElem? (i := 1078) (by decide +kernel), List.mem_of_getElem? (i := 1079) (by decide +kernel)⟩
theorem lw_p30 : lw_okq (⟨"BestParsesModel", "isCost", "(II)Z"⟩, 47) := ⟨⟨by decide +kernel, by decide +kernel⟩, List.mem_of_getElem? (i := 1070) (by decide +kernel), List.mem_of_getElem? (i := 1237) (by decide +kernel), List.mem_of_getElem? (i := 1238) (by decide +kernel)⟩
theorem lw_p31 : lw_okq (⟨"BestParsesModel", "best", "()V"⟩, 47) := ⟨⟨by decide +kernel, by decide +kernel⟩, List.mem_of_getElem? (i := 1070) (by decide +kernel), List.mem_of_getElem? (i := 1256) (by decide +kernel), List.mem_of_getElem? (i := 1257) (by decide +kernel)⟩
def lw_privs_2 : List (MethodName × Nat) := [(⟨"BestParses$OctetForm", "tellSteps", "(LBestParses$Parse;)V"⟩, 7), (⟨"BestParses$SlotForm", "lead", "(III)V"⟩, 4), (⟨"BestParses$SlotForm", "tellSteps", "(LBestParses$Parse;)V"⟩, 4), (⟨"BestParses$Parse", "tellBack", "(III)V"⟩, 8), (⟨"BestParses$Stepper", "longerAhead", "(III)Z"⟩, 2), (⟨"BestParses$Stepper", "againAsLong", "(JII)I"⟩, 2), (⟨"BestParses$Costs", "countSymbols", "(LBestParses$Parse;LBestParses$Text;)V"⟩, 5), (⟨"BestParses$Costs", "countOne", "(II)V"⟩, 5), (⟨"BestParses$Costs", "fitClass", "(I)V"⟩, 5), (⟨"BestParses", "takeSpare", "()V"⟩, 12), (⟨"BestParses$Blocks", "findRest", "(II)V"⟩, 9), (⟨"BestParses$Blocks", "placeOf", "(I)I"⟩, 9), (⟨"BestParses$Blocks", "countOctet", "(I)I"⟩, 9), (⟨"BestParsesModel", "start", "()V"⟩, 47), (⟨"BestParsesModel", "isCost", "(II)Z"⟩, 47), (⟨"BestParsesModel", "best", "()V"⟩, 47)]
theorem lw_r2 : ∀ q ∈ lw_privs_2, lw_okq q := List.forall_mem_cons.mpr ⟨lw_p16, List.forall_mem_cons.mpr ⟨lw_p17, List.forall_mem_cons.mpr ⟨lw_p18, List.forall_mem_cons.mpr ⟨lw_p19, List.forall_mem_cons.mpr ⟨lw_p20, List.forall_mem_cons.mpr ⟨lw_p21, List.forall_mem_cons.mpr ⟨lw_p22, List.forall_mem_cons.mpr ⟨lw_p23, List.forall_mem_cons.mpr ⟨lw_p24, List.forall_mem_cons.mpr ⟨lw_p25, List.forall_mem_cons.mpr ⟨lw_p26, List.forall_mem_cons.mpr ⟨lw_p27, List.forall_mem_cons.mpr ⟨lw_p28, List.forall_mem_cons.mpr ⟨lw_p29, List.forall_mem_cons.mpr ⟨lw_p30, List.forall_mem_cons.mpr ⟨lw_p31, fun _ h => absurd h List.not_mem_nil⟩⟩⟩⟩⟩⟩⟩⟩⟩⟩⟩⟩⟩⟩⟩⟩
theorem lw_p32 : lw_okq (⟨"BestParsesModel", "layOut", "()V"⟩, 47) := ⟨⟨by decide +kernel, by decide +kernel⟩, List.mem_of_getElem? (i := 1070) (by decide +kernel), List.mem_of_getElem? (i := 1260) (by decide +kernel), List.mem_of_getElem? (i := 1261) (by decide +kernel)⟩
theorem lw_p33 : lw_okq (⟨"BestParsesModel", "greatest", "()I"⟩, 47) := ⟨⟨by decide +kernel, by decide +kernel⟩, List.mem_of_getElem? (i := 1070) (by decide +kernel), List.mem_of_getElem? (i := 1264) (by decide +kernel), List.mem_of_getElem? (i := 1265) (by decide +kernel)⟩
theorem lw_p34 : lw_okq (⟨"BestParsesModel", "bestWide", "()V"⟩, 47) := ⟨⟨by decide +kernel, by decide +kernel⟩, List.mem_of_getElem? (i := 1070) (by decide +kernel), List.mem_of_getElem? (i := 1268) (by decide +kernel), List.mem_of_getElem? (i := 1269) (by decide +kernel)⟩
theorem lw_p35 : lw_okq (⟨"BestParsesModel", "clearLatest", "()V"⟩, 47) := ⟨⟨by decide +kernel, by decide +kernel⟩, List.mem_of_getElem? (i := 1070) (by decide +kernel), List.mem_of_getElem? (i := 1272) (by decide +kernel), List.mem_of_getElem? (i := 1273) (by decide +kernel)⟩
theorem lw_p36 : lw_okq (⟨"BestParsesModel", "comes", "(IIIII)V"⟩, 47) := ⟨⟨by decide +kernel, by decide +kernel⟩, List.mem_of_getElem? (i := 1070) (by decide +kernel), List.mem_of_getElem? (i := 1276) (by decide +kernel), List.mem_of_getElem? (i := 1277) (by decide +kernel)⟩
theorem lw_p37 : lw_okq (⟨"BestParsesModel", "isState", "(I)Z"⟩, 47) := ⟨⟨by decide +kernel, by decide +kernel⟩, List.mem_of_getElem? (i := 1070) (by decide +kernel), List.mem_of_getElem? (i := 1280) (by decide +kernel), List.mem_of_getElem? (i := 1281) (by decide +kernel)⟩
theorem lw_p38 : lw_okq (⟨"BestParsesModel", "moveState", "(II)V"⟩, 47) := ⟨⟨by decide +kernel, by decide +kernel⟩, List.mem_of_getElem? (i := 1070) (by decide +kernel), List.mem_of_getElem? (i := 1284) (by decide +kernel), List.mem_of_getElem? (i := 1285) (by decide +kernel)⟩
theorem lw_p39 : lw_okq (⟨"BestParsesModel", "isBehind", "(II)Z"⟩, 47) := ⟨⟨by decide +kernel, by decide +kernel⟩, List.mem_of_getElem? (i := 1070) (by decide +kernel), List.mem_of_getElem? (i := 1288) (by decide +kernel), List.mem_of_getElem? (i := 1289) (by decide +kernel)⟩
theorem lw_p40 : lw_okq (⟨"BestParsesModel", "expand", "(II)V"⟩, 47) := ⟨⟨by decide +kernel, by decide +kernel⟩, List.mem_of_getElem? (i := 1070) (by decide +kernel), List.mem_of_getElem? (i := 1292) (by decide +kernel), List.mem_of_getElem? (i := 1293) (by decide +kernel)⟩
theorem lw_p41 : lw_okq (⟨"BestParsesModel", "longestCopy", "(I)I"⟩, 47) := ⟨⟨by decide +kernel, by decide +kernel⟩, List.mem_of_getElem? (i := 1070) (by decide +kernel), List.mem_of_getElem? (i := 1296) (by decide +kernel), List.mem_of_getElem? (i := 1297) (by decide +kernel)⟩
theorem lw_p42 : lw_okq (⟨"BestParsesModel", "shortest", "()I"⟩, 47) := ⟨⟨by decide +kernel, by decide +kernel⟩, List.mem_of_getElem? (i := 1070) (by decide +kernel), List.mem_of_getElem? (i := 1300) (by decide +kernel), List.mem_of_getElem? (i := 1301) (by decide +kernel)⟩
theorem lw_p43 : lw_okq (⟨"BestParsesModel", "takeLatest", "(I)V"⟩, 47) := ⟨⟨by decide +kernel, by decide +kernel⟩, List.mem_of_getElem? (i := 1070) (by decide +kernel), List.mem_of_getElem? (i := 1304) (by decide +kernel), List.mem_of_getElem? (i := 1305) (by decide +kernel)⟩
theorem lw_p44 : lw_okq (⟨"BestParsesModel", "ahead", "(II)V"⟩, 47) := ⟨⟨by decide +kernel, by decide +kernel⟩, List.mem_of_getElem? (i := 1070) (by decide +kernel), List.mem_of_getElem? (i := 1308) (by decide +kernel), List.mem_of_getElem? (i := 1309) (by decide +kernel)⟩
theorem lw_p45 : lw_okq (⟨"BestParsesModel", "stepCost", "(IIIII)I"⟩, 47) := ⟨⟨by decide +kernel, by decide +kernel⟩, List.mem_of_getElem? (i := 1070) (by decide +kernel), List.mem_of_getElem? (i := 1312) (by decide +kernel), List.mem_of_getElem? (i := 1313) (by decide +kernel)⟩
theorem lw_p46 : lw_okq (⟨"BestParsesModel", "kindCost", "(I)I"⟩, 47) := ⟨⟨by decide +kernel, by decide +kernel⟩, List.mem_of_getElem? (i := 1070) (by decide +kernel), List.mem_of_getElem? (i := 1319) (by decide +kernel), List.mem_of_getElem? (i := 1320) (by decide +kernel)⟩
theorem lw_p47 : lw_okq (⟨"BestParsesModel", "lengthCost", "(I)I"⟩, 47) := ⟨⟨by decide +kernel, by decide +kernel⟩, List.mem_of_getElem? (i := 1070) (by decide +kernel), List.mem_of_getElem? (i := 1323) (by decide +kernel), List.mem_of_getElem? (i := 1324) (by decide +kernel)⟩
def lw_privs_3 : List (MethodName × Nat) := [(⟨"BestParsesModel", "layOut", "()V"⟩, 47), (⟨"BestParsesModel", "greatest", "()I"⟩, 47), (⟨"BestParsesModel", "bestWide", "()V"⟩, 47), (⟨"BestParsesModel", "clearLatest", "()V"⟩, 47), (⟨"BestParsesModel", "comes", "(IIIII)V"⟩, 47), (⟨"BestParsesModel", "isState", "(I)Z"⟩, 47), (⟨"BestParsesModel", "moveState", "(II)V"⟩, 47), (⟨"BestParsesModel", "isBehind", "(II)Z"⟩, 47), (⟨"BestParsesModel", "expand", "(II)V"⟩, 47), (⟨"BestParsesModel", "longestCopy", "(I)I"⟩, 47), (⟨"BestParsesModel", "shortest", "()I"⟩, 47), (⟨"BestParsesModel", "takeLatest", "(I)V"⟩, 47), (⟨"BestParsesModel", "ahead", "(II)V"⟩, 47), (⟨"BestParsesModel", "stepCost", "(IIIII)I"⟩, 47), (⟨"BestParsesModel", "kindCost", "(I)I"⟩, 47), (⟨"BestParsesModel", "lengthCost", "(I)I"⟩, 47)]
theorem lw_r3 : ∀ q ∈ lw_privs_3, lw_okq q := List.forall_mem_cons.mpr ⟨lw_p32, List.forall_mem_cons.mpr ⟨lw_p33, List.forall_mem_cons.mpr ⟨lw_p34, List.forall_mem_cons.mpr ⟨lw_p35, List.forall_mem_cons.mpr ⟨lw_p36, List.forall_mem_cons.mpr ⟨lw_p37, List.forall_mem_cons.mpr ⟨lw_p38, List.forall_mem_cons.mpr ⟨lw_p39, List.forall_mem_cons.mpr ⟨lw_p40, List.forall_mem_cons.mpr ⟨lw_p41, List.forall_mem_cons.mpr ⟨lw_p42, List.forall_mem_cons.mpr ⟨lw_p43, List.forall_mem_cons.mpr ⟨lw_p44, List.forall_mem_cons.mpr ⟨lw_p45, List.forall_mem_cons.mpr ⟨lw_p46, List.forall_mem_cons.mpr ⟨lw_p47, fun _ h => absurd h List.not_mem_nil⟩⟩⟩⟩⟩⟩⟩⟩⟩⟩⟩⟩⟩⟩⟩⟩
theorem lw_p48 : lw_okq (⟨"BestParsesModel", "distanceCost", "(I)I"⟩, 47) := ⟨⟨by decide +kernel, by decide +kernel⟩, List.mem_of_getElem? (i := 1070) (by decide +kernel), List.mem_of_getElem? (i := 1336) (by decide +kernel), List.mem_of_getElem? (i := 1337) (by decide +kernel)⟩
theorem lw_p49 : lw_okq (⟨"BestParsesModel", "longestAgain", "(II)I"⟩, 47) := ⟨⟨by decide +kernel, by decide +kernel⟩, List.mem_of_getElem? (i := 1070) (by decide +kernel), List.mem_of_getElem? (i := 1346) (by decide +kernel), List.mem_of_getElem? (i := 1347) (by decide +kernel)⟩
theorem lw_p50 : lw_okq (⟨"BestParsesModel", "turnBack", "(I)V"⟩, 47) := ⟨⟨by decide +kernel, by decide +kernel⟩, List.mem_of_getElem? (i := 1070) (by decide +kernel), List.mem_of_getElem? (i := 1350) (by decide +kernel), List.mem_of_getElem? (i := 1351) (by decide +kernel)⟩
theorem lw_p51 : lw_okq (⟨"BestParsesModel", "addStep", "(IIII)V"⟩, 47) := ⟨⟨by decide +kernel, by decide +kernel⟩, List.mem_of_getElem? (i := 1070) (by decide +kernel), List.mem_of_getElem? (i := 1354) (by decide +kernel), List.mem_of_getElem? (i := 1355) (by decide +kernel)⟩
theorem lw_p52 : lw_okq (⟨"BestParsesModel", "bestPlain", "()V"⟩, 47) := ⟨⟨by decide +kernel, by decide +kernel⟩, List.mem_of_getElem? (i := 1070) (by decide +kernel), List.mem_of_getElem? (i := 1358) (by decide +kernel), List.mem_of_getElem? (i := 1359) (by decide +kernel)⟩
theorem lw_p53 : lw_okq (⟨"BestParsesModel", "clearTable", "()V"⟩, 47) := ⟨⟨by decide +kernel, by decide +kernel⟩, List.mem_of_getElem? (i := 1070) (by decide +kernel), List.mem_of_getElem? (i := 1362) (by decide +kernel), List.mem_of_getElem? (i := 1363) (by decide +kernel)⟩
theorem lw_p54 : lw_okq (⟨"BestParsesModel", "at", "(II)I"⟩, 47) := ⟨⟨by decide +kernel, by decide +kernel⟩, List.mem_of_getElem? (i := 1070) (by decide +kernel), List.mem_of_getElem? (i := 1366) (by decide +kernel), List.mem_of_getElem? (i := 1367) (by decide +kernel)⟩
theorem lw_p55 : lw_okq (⟨"BestParsesModel", "firstRow", "(I)I"⟩, 47) := ⟨⟨by decide +kernel, by decide +kernel⟩, List.mem_of_getElem? (i := 1070) (by decide +kernel), List.mem_of_getElem? (i := 1371) (by decide +kernel), List.mem_of_getElem? (i := 1372) (by decide +kernel)⟩
theorem lw_p56 : lw_okq (⟨"BestParsesModel", "copies", "(II)V"⟩, 47) := ⟨⟨by decide +kernel, by decide +kernel⟩, List.mem_of_getElem? (i := 1070) (by decide +kernel), List.mem_of_getElem? (i := 1375) (by decide +kernel), List.mem_of_getElem? (i := 1376) (by decide +kernel)⟩
theorem lw_p57 : lw_okq (⟨"BestParsesModel", "literals", "(I)V"⟩, 47) := ⟨⟨by decide +kernel, by decide +kernel⟩, List.mem_of_getElem? (i := 1070) (by decide +kernel), List.mem_of_getElem? (i := 1379) (by decide +kernel), List.mem_of_getElem? (i := 1380) (by decide +kernel)⟩
theorem lw_p58 : lw_okq (⟨"BestParsesModel", "backPlain", "()V"⟩, 47) := ⟨⟨by decide +kernel, by decide +kernel⟩, List.mem_of_getElem? (i := 1070) (by decide +kernel), List.mem_of_getElem? (i := 1383) (by decide +kernel), List.mem_of_getElem? (i := 1384) (by decide +kernel)⟩
theorem lw_p59 : lw_okq (⟨"BestParsesModel", "greedy", "(I)V"⟩, 47) := ⟨⟨by decide +kernel, by decide +kernel⟩, List.mem_of_getElem? (i := 1070) (by decide +kernel), List.mem_of_getElem? (i := 1388) (by decide +kernel), List.mem_of_getElem? (i := 1389) (by decide +kernel)⟩
theorem lw_p60 : lw_okq (⟨"BestParsesModel", "longestOf", "(I)I"⟩, 47) := ⟨⟨by decide +kernel, by decide +kernel⟩, List.mem_of_getElem? (i := 1070) (by decide +kernel), List.mem_of_getElem? (i := 1392) (by decide +kernel), List.mem_of_getElem? (i := 1393) (by decide +kernel)⟩
theorem lw_p61 : lw_okq (⟨"BestParsesModel", "allCost", "()J"⟩, 47) := ⟨⟨by decide +kernel, by decide +kernel⟩, List.mem_of_getElem? (i := 1070) (by decide +kernel), List.mem_of_getElem? (i := 1396) (by decide +kernel), List.mem_of_getElem? (i := 1397) (by decide +kernel)⟩
theorem lw_p62 : lw_okq (⟨"BestParsesModel", "fit", "()V"⟩, 47) := ⟨⟨by decide +kernel, by decide +kernel⟩, List.mem_of_getElem? (i := 1070) (by decide +kernel), List.mem_of_getElem? (i := 1405) (by decide +kernel), List.mem_of_getElem? (i := 1406) (by decide +kernel)⟩
theorem lw_p63 : lw_okq (⟨"BestParsesModel", "fillBlocks", "(I)V"⟩, 47) := ⟨⟨by decide +kernel, by decide +kernel⟩, List.mem_of_getElem? (i := 1070) (by decide +kernel), List.mem_of_getElem? (i := 1450) (by decide +kernel), List.mem_of_getElem? (i := 1451) (by decide +kernel)⟩
def lw_privs_4 : List (MethodName × Nat) := [(⟨"BestParsesModel", "distanceCost", "(I)I"⟩, 47), (⟨"BestParsesModel", "longestAgain", "(II)I"⟩, 47), (⟨"BestParsesModel", "turnBack", "(I)V"⟩, 47), (⟨"BestParsesModel", "addStep", "(IIII)V"⟩, 47), (⟨"BestParsesModel", "bestPlain", "()V"⟩, 47), (⟨"BestParsesModel", "clearTable", "()V"⟩, 47), (⟨"BestParsesModel", "at", "(II)I"⟩, 47), (⟨"BestParsesModel", "firstRow", "(I)I"⟩, 47), (⟨"BestParsesModel", "copies", "(II)V"⟩, 47), (⟨"BestParsesModel", "literals", "(I)V"⟩, 47), (⟨"BestParsesModel", "backPlain", "()V"⟩, 47), (⟨"BestParsesModel", "greedy", "(I)V"⟩, 47), (⟨"BestParsesModel", "longestOf", "(I)I"⟩, 47), (⟨"BestParsesModel", "allCost", "()J"⟩, 47), (⟨"BestParsesModel", "fit", "()V"⟩, 47), (⟨"BestParsesModel", "fillBlocks", "(I)V"⟩, 47)]
theorem lw_r4 : ∀ q ∈ lw_privs_4, lw_okq q := List.forall_mem_cons.mpr ⟨lw_p48, List.forall_mem_cons.mpr ⟨lw_p49, List.forall_mem_cons.mpr ⟨lw_p50, List.forall_mem_cons.mpr ⟨lw_p51, List.forall_mem_cons.mpr ⟨lw_p52, List.forall_mem_cons.mpr ⟨lw_p53, List.forall_mem_cons.mpr ⟨lw_p54, List.forall_mem_cons.mpr ⟨lw_p55, List.forall_mem_cons.mpr ⟨lw_p56, List.forall_mem_cons.mpr ⟨lw_p57, List.forall_mem_cons.mpr ⟨lw_p58, List.forall_mem_cons.mpr ⟨lw_p59, List.forall_mem_cons.mpr ⟨lw_p60, List.forall_mem_cons.mpr ⟨lw_p61, List.forall_mem_cons.mpr ⟨lw_p62, List.forall_mem_cons.mpr ⟨lw_p63, fun _ h => absurd h List.not_mem_nil⟩⟩⟩⟩⟩⟩⟩⟩⟩⟩⟩⟩⟩⟩⟩⟩
theorem lw_p64 : lw_okq (⟨"BestParsesModel", "border", "(I)I"⟩, 47) := ⟨⟨by decide +kernel, by decide +kernel⟩, List.mem_of_getElem? (i := 1070) (by decide +kernel), List.mem_of_getElem? (i := 1454) (by decide +kernel), List.mem_of_getElem? (i := 1455) (by decide +kernel)⟩
theorem lw_p65 : lw_okq (⟨"BestParsesModel", "setCost", "(I)J"⟩, 47) := ⟨⟨by decide +kernel, by decide +kernel⟩, List.mem_of_getElem? (i := 1070) (by decide +kernel), List.mem_of_getElem? (i := 1458) (by decide +kernel), List.mem_of_getElem? (i := 1459) (by decide +kernel)⟩
def lw_privs_5 : List (MethodName × Nat) := [(⟨"BestParsesModel", "border", "(I)I"⟩, 47), (⟨"BestParsesModel", "setCost", "(I)J"⟩, 47)]
theorem lw_r5 : ∀ q ∈ lw_privs_5, lw_okq q := List.forall_mem_cons.mpr ⟨lw_p64, List.forall_mem_cons.mpr ⟨lw_p65, fun _ h => absurd h List.not_mem_nil⟩⟩
def lw_privs : List (MethodName × Nat) := lw_privs_1 ++ (lw_privs_2 ++ (lw_privs_3 ++ (lw_privs_4 ++ (lw_privs_5))))
def lw_tbl : List Cond := k2_sels lw_privs ++ tables_1
theorem lw_privs_ok : ∀ q ∈ lw_privs, lw_okq q := by
  show ∀ q ∈ lw_privs_1 ++ (lw_privs_2 ++ (lw_privs_3 ++ (lw_privs_4 ++ (lw_privs_5)))), lw_okq q
  exact List.forall_mem_append.mpr ⟨lw_r1, List.forall_mem_append.mpr ⟨lw_r2, List.forall_mem_append.mpr ⟨lw_r3, List.forall_mem_append.mpr ⟨lw_r4, lw_r5⟩⟩⟩⟩
-- ===== end of PART A; then your names; then what follows =====
end
section
def RX0 : String := "BestParses$Blocks"
def TX0 : u_T := fun k => match k with
  | 0 => ("BestParses$Blocks", "text", "LBestParses$Text;", true)
  | 1 => ("BestParses$Blocks", "cuts", "[I", true)
  | 2 => ("BestParses$Blocks", "cutCount", "I", false)
  | 3 => ("BestParses$Blocks", "takenCuts", "[I", true)
  | 4 => ("BestParses$Blocks", "takenCount", "I", false)
  | 5 => ("BestParses$Blocks", "restCosts", "[J", true)
  | 6 => ("BestParses$Blocks", "restBlocks", "[I", true)
  | 7 => ("BestParses$Blocks", "nextBounds", "[I", true)
  | _ => ("BestParses$Blocks", "times", "[I", true)
def tyX0 : Nat → FieldType := fun k => match k with
  | 0 => .object "BestParses$Text"
  | 1 => .array .int
  | 2 => .int
  | 3 => .array .int
  | 4 => .int
  | 5 => .array .long
  | 6 => .array .int
  | 7 => .array .int
  | _ => .array .int
theorem nmX0 : ∀ a, a < 9 → ∀ b, b < 9 → a ≠ b → (TX0 a).2.1 ≠ (TX0 b).2.1 := by decide +kernel
theorem tyX0_ok : ∀ k, k < 9 → parseFieldDescriptor (TX0 k).2.2.1 = some (tyX0 k) := by decide +kernel
abbrev cX0_init : ByteArray := prog_2_method_1_code
def yX0_init : MethodName := ⟨RX0, "<init>", "(LBestParses$Text;)V"⟩
abbrev cX0_forget : ByteArray := prog_2_method_2_code
def yX0_forget : MethodName := ⟨RX0, "forget", "()V"⟩
abbrev cX0_addCut : ByteArray := prog_2_method_3_code
def yX0_addCut : MethodName := ⟨RX0, "addCut", "(I)Z"⟩
abbrev cX0_divide : ByteArray := prog_2_method_4_code
def yX0_divide : MethodName := ⟨RX0, "divide", "(I)J"⟩
abbrev cX0_findRest : ByteArray := prog_2_method_5_code
def yX0_findRest : MethodName := ⟨RX0, "findRest", "(II)V"⟩
abbrev cX0_countOctet : ByteArray := prog_2_method_6_code
def yX0_countOctet : MethodName := ⟨RX0, "countOctet", "(I)I"⟩
abbrev cX0_placeOf : ByteArray := prog_2_method_7_code
def yX0_placeOf : MethodName := ⟨RX0, "placeOf", "(I)I"⟩
def RX1 : String := "BestParses$Costs"
def TX1 : u_T := fun k => match k with
  | 0 => ("BestParses$Costs", "classes", "I", true)
  | 1 => ("BestParses$Costs", "values", "[I", true)
  | 2 => ("BestParses$Costs", "times", "[I", true)
  | 3 => ("BestParses$Costs", "lengthCosts", "[I", true)
  | _ => ("BestParses$Costs", "distanceCosts", "[I", true)
def tyX1 : Nat → FieldType := fun k => match k with
  | 0 => .int
  | 1 => .array .int
  | 2 => .array .int
  | 3 => .array .int
  | _ => .array .int
theorem nmX1 : ∀ a, a < 5 → ∀ b, b < 5 → a ≠ b → (TX1 a).2.1 ≠ (TX1 b).2.1 := by decide +kernel
theorem tyX1_ok : ∀ k, k < 5 → parseFieldDescriptor (TX1 k).2.2.1 = some (tyX1 k) := by decide +kernel
abbrev cX1_init : ByteArray := prog_3_method_1_code
def yX1_init : MethodName := ⟨RX1, "<init>", "(I)V"⟩
abbrev cX1_reset : ByteArray := prog_3_method_2_code
def yX1_reset : MethodName := ⟨RX1, "reset", "()V"⟩
abbrev cX1_has : ByteArray := prog_3_method_3_code
def yX1_has : MethodName := ⟨RX1, "has", "(II)Z"⟩
abbrev cX1_of : ByteArray := prog_3_method_4_code
def yX1_of : MethodName := ⟨RX1, "of", "(II)I"⟩
abbrev cX1_put : ByteArray := prog_3_method_5_code
def yX1_put : MethodName := ⟨RX1, "put", "(III)V"⟩
abbrev cX1_copyFrom : ByteArray := prog_3_method_6_code
def yX1_copyFrom : MethodName := ⟨RX1, "copyFrom", "(LBestParses$Costs;)V"⟩
abbrev cX1_prepare : ByteArray := prog_3_method_7_code
def yX1_prepare : MethodName := ⟨RX1, "prepare", "(LBestParses$Text;)V"⟩
abbrev cX1_literalCost : ByteArray := prog_3_method_8_code
def yX1_literalCost : MethodName := ⟨RX1, "literalCost", "(I)I"⟩
abbrev cX1_kindCost : ByteArray := prog_3_method_9_code
def yX1_kindCost : MethodName := ⟨RX1, "kindCost", "(I)I"⟩
abbrev cX1_stepCost : ByteArray := prog_3_method_10_code
def yX1_stepCost : MethodName := ⟨RX1, "stepCost", "(LBestParses$Parse;ILBestParses$Text;)I"⟩
abbrev cX1_lengthCost : ByteArray := prog_3_method_11_code
def yX1_lengthCost : MethodName := ⟨RX1, "lengthCost", "(I)I"⟩
abbrev cX1_distanceCost : ByteArray := prog_3_method_12_code
def yX1_distanceCost : MethodName := ⟨RX1, "distanceCost", "(I)I"⟩
abbrev cX1_lengthSlot : ByteArray := prog_3_method_13_code
def yX1_lengthSlot : MethodName := ⟨RX1, "lengthSlot", "(I)I"⟩
abbrev cX1_distanceSlot : ByteArray := prog_3_method_14_code
def yX1_distanceSlot : MethodName := ⟨RX1, "distanceSlot", "(I)I"⟩
abbrev cX1_fitTo : ByteArray := prog_3_method_15_code
def yX1_fitTo : MethodName := ⟨RX1, "fitTo", "(LBestParses$Parse;LBestParses$Text;)V"⟩
abbrev cX1_countSymbols : ByteArray := prog_3_method_16_code
def yX1_countSymbols : MethodName := ⟨RX1, "countSymbols", "(LBestParses$Parse;LBestParses$Text;)V"⟩
abbrev cX1_countOne : ByteArray := prog_3_method_17_code
def yX1_countOne : MethodName := ⟨RX1, "countOne", "(II)V"⟩
abbrev cX1_fitClass : ByteArray := prog_3_method_18_code
def yX1_fitClass : MethodName := ⟨RX1, "fitClass", "(I)V"⟩
def RX2 : String := "BestParses$Form"
def TX2 : u_T := fun k => match k with
  | _ => ("", "", "", false)
def tyX2 : Nat → FieldType := fun k => match k with
  | _ => .int
theorem nmX2 : ∀ a, a < 0 → ∀ b, b < 0 → a ≠ b → (TX2 a).2.1 ≠ (TX2 b).2.1 := by decide +kernel
theorem tyX2_ok : ∀ k, k < 0 → parseFieldDescriptor (TX2 k).2.2.1 = some (tyX2 k) := by decide +kernel
abbrev cX2_init : ByteArray := prog_4_method_1_code
def yX2_init : MethodName := ⟨RX2, "<init>", "(LBestParses$Text;LBestParses$Costs;)V"⟩
abbrev cX2_costOf : ByteArray := prog_4_method_3_code
def yX2_costOf : MethodName := ⟨RX2, "costOf", "(LBestParses$Parse;)J"⟩
def RX3 : String := "BestParses$Latest"
def TX3 : u_T := fun k => match k with
  | _ => ("", "", "", false)
def tyX3 : Nat → FieldType := fun k => match k with
  | _ => .int
theorem nmX3 : ∀ a, a < 0 → ∀ b, b < 0 → a ≠ b → (TX3 a).2.1 ≠ (TX3 b).2.1 := by decide +kernel
theorem tyX3_ok : ∀ k, k < 0 → parseFieldDescriptor (TX3 k).2.2.1 = some (tyX3 k) := by decide +kernel
abbrev cX3_at : ByteArray := prog_5_method_2_code
def yX3_at : MethodName := ⟨RX3, "at", "(JI)I"⟩
abbrev cX3_behindCopy : ByteArray := prog_5_method_3_code
def yX3_behindCopy : MethodName := ⟨RX3, "behindCopy", "(JI)J"⟩
abbrev cX3_behindAgain : ByteArray := prog_5_method_4_code
def yX3_behindAgain : MethodName := ⟨RX3, "behindAgain", "(JI)J"⟩
def RX4 : String := "BestParses$LatestForm"
def TX4 : u_T := fun k => match k with
  | 0 => ("BestParses$Form", "text", "LBestParses$Text;", true)
  | 1 => ("BestParses$Form", "costs", "LBestParses$Costs;", true)
  | 2 => ("BestParses$LatestForm", "keys", "[J", true)
  | 3 => ("BestParses$LatestForm", "cameBy", "[I", true)
  | 4 => ("BestParses$LatestForm", "held", "[I", true)
  | 5 => ("BestParses$LatestForm", "dropped", "[Z", true)
  | 6 => ("BestParses$LatestForm", "bounds", "[J", true)
  | 7 => ("BestParses$LatestForm", "keptStates", "I", false)
  | 8 => ("BestParses$LatestForm", "place", "I", false)
  | 9 => ("BestParses$LatestForm", "rank", "I", false)
  | 10 => ("BestParses$LatestForm", "sum", "J", false)
  | _ => ("BestParses$LatestForm", "latest", "J", false)
def tyX4 : Nat → FieldType := fun k => match k with
  | 0 => .object "BestParses$Text"
  | 1 => .object "BestParses$Costs"
  | 2 => .array .long
  | 3 => .array .int
  | 4 => .array .int
  | 5 => .array .boolean
  | 6 => .array .long
  | 7 => .int
  | 8 => .int
  | 9 => .int
  | 10 => .long
  | _ => .long
theorem nmX4 : ∀ a, a < 12 → ∀ b, b < 12 → a ≠ b → (TX4 a).2.1 ≠ (TX4 b).2.1 := by decide +kernel
theorem tyX4_ok : ∀ k, k < 12 → parseFieldDescriptor (TX4 k).2.2.1 = some (tyX4 k) := by decide +kernel
abbrev cX4_init : ByteArray := prog_6_method_1_code
def yX4_init : MethodName := ⟨RX4, "<init>", "(LBestParses$Text;LBestParses$Costs;)V"⟩
abbrev cX4_findBest : ByteArray := prog_6_method_2_code
def yX4_findBest : MethodName := ⟨RX4, "findBest", "(LBestParses$Parse;I)I"⟩
abbrev cX4_begin : ByteArray := prog_6_method_3_code
def yX4_begin : MethodName := ⟨RX4, "begin", "(I)V"⟩
abbrev cX4_goFrom : ByteArray := prog_6_method_4_code
def yX4_goFrom : MethodName := ⟨RX4, "goFrom", "(II)V"⟩
abbrev cX4_copiesWereLed : ByteArray := prog_6_method_5_code
def yX4_copiesWereLed : MethodName := ⟨RX4, "copiesWereLed", "()Z"⟩
abbrev cX4_leadByCopies : ByteArray := prog_6_method_6_code
def yX4_leadByCopies : MethodName := ⟨RX4, "leadByCopies", "()V"⟩
abbrev cX4_leadByAgain : ByteArray := prog_6_method_7_code
def yX4_leadByAgain : MethodName := ⟨RX4, "leadByAgain", "(I)V"⟩
abbrev cX4_lead : ByteArray := prog_6_method_8_code
def yX4_lead : MethodName := ⟨RX4, "lead", "(IIIJ)V"⟩
abbrev cX4_makeRoom : ByteArray := prog_6_method_9_code
def yX4_makeRoom : MethodName := ⟨RX4, "makeRoom", "(I)Z"⟩
abbrev cX4_insert : ByteArray := prog_6_method_10_code
def yX4_insert : MethodName := ⟨RX4, "insert", "(IIJI)V"⟩
abbrev cX4_tellSteps : ByteArray := prog_6_method_11_code
def yX4_tellSteps : MethodName := ⟨RX4, "tellSteps", "(LBestParses$Parse;)V"⟩
def RX5 : String := "BestParses$OctetForm"
def TX5 : u_T := fun k => match k with
  | 0 => ("BestParses$Form", "text", "LBestParses$Text;", true)
  | 1 => ("BestParses$Form", "costs", "LBestParses$Costs;", true)
  | 2 => ("BestParses$OctetForm", "sums", "[I", true)
  | 3 => ("BestParses$OctetForm", "cameBy", "[I", true)
  | 4 => ("BestParses$OctetForm", "firstLiterals", "[I", true)
  | 5 => ("BestParses$OctetForm", "firstSums", "[I", true)
  | _ => ("BestParses$OctetForm", "literalCosts", "[I", true)
def tyX5 : Nat → FieldType := fun k => match k with
  | 0 => .object "BestParses$Text"
  | 1 => .object "BestParses$Costs"
  | 2 => .array .int
  | 3 => .array .int
  | 4 => .array .int
  | 5 => .array .int
  | _ => .array .int
theorem nmX5 : ∀ a, a < 7 → ∀ b, b < 7 → a ≠ b → (TX5 a).2.1 ≠ (TX5 b).2.1 := by decide +kernel
theorem tyX5_ok : ∀ k, k < 7 → parseFieldDescriptor (TX5 k).2.2.1 = some (tyX5 k) := by decide +kernel
abbrev cX5_init : ByteArray := prog_7_method_1_code
def yX5_init : MethodName := ⟨RX5, "<init>", "(LBestParses$Text;LBestParses$Costs;)V"⟩
abbrev cX5_findBest : ByteArray := prog_7_method_2_code
def yX5_findBest : MethodName := ⟨RX5, "findBest", "(LBestParses$Parse;I)I"⟩
abbrev cX5_findFirst : ByteArray := prog_7_method_3_code
def yX5_findFirst : MethodName := ⟨RX5, "findFirst", "(I)V"⟩
abbrev cX5_lead : ByteArray := prog_7_method_4_code
def yX5_lead : MethodName := ⟨RX5, "lead", "(II)V"⟩
abbrev cX5_tellSteps : ByteArray := prog_7_method_5_code
def yX5_tellSteps : MethodName := ⟨RX5, "tellSteps", "(LBestParses$Parse;)V"⟩
abbrev cX5_costOf : ByteArray := prog_7_method_6_code
def yX5_costOf : MethodName := ⟨RX5, "costOf", "(LBestParses$Parse;)J"⟩
abbrev cX5_copyCost : ByteArray := prog_7_method_7_code
def yX5_copyCost : MethodName := ⟨RX5, "copyCost", "(I)I"⟩
abbrev cX5_beyond : ByteArray := prog_7_method_8_code
def yX5_beyond : MethodName := ⟨RX5, "beyond", "(II)I"⟩
def RX6 : String := "BestParses$Parse"
def TX6 : u_T := fun k => match k with
  | 0 => ("BestParses$Parse", "places", "[I", true)
  | 1 => ("BestParses$Parse", "lengths", "[I", true)
  | 2 => ("BestParses$Parse", "distances", "[I", true)
  | 3 => ("BestParses$Parse", "kinds", "[I", true)
  | 4 => ("BestParses$Parse", "toldOctets", "[I", true)
  | 5 => ("BestParses$Parse", "count", "I", false)
  | 6 => ("BestParses$Parse", "sumThen", "J", false)
  | _ => ("BestParses$Parse", "leastOfAll", "Z", false)
def tyX6 : Nat → FieldType := fun k => match k with
  | 0 => .array .int
  | 1 => .array .int
  | 2 => .array .int
  | 3 => .array .int
  | 4 => .array .int
  | 5 => .int
  | 6 => .long
  | _ => .boolean
theorem nmX6 : ∀ a, a < 8 → ∀ b, b < 8 → a ≠ b → (TX6 a).2.1 ≠ (TX6 b).2.1 := by decide +kernel
theorem tyX6_ok : ∀ k, k < 8 → parseFieldDescriptor (TX6 k).2.2.1 = some (tyX6 k) := by decide +kernel
abbrev cX6_init : ByteArray := prog_8_method_1_code
def yX6_init : MethodName := ⟨RX6, "<init>", "()V"⟩
abbrev cX6_hasStep : ByteArray := prog_8_method_2_code
def yX6_hasStep : MethodName := ⟨RX6, "hasStep", "(I)Z"⟩
abbrev cX6_begin : ByteArray := prog_8_method_3_code
def yX6_begin : MethodName := ⟨RX6, "begin", "()V"⟩
abbrev cX6_add : ByteArray := prog_8_method_4_code
def yX6_add : MethodName := ⟨RX6, "add", "(IIII)V"⟩
abbrev cX6_turnRound : ByteArray := prog_8_method_5_code
def yX6_turnRound : MethodName := ⟨RX6, "turnRound", "()V"⟩
abbrev cX6_swap : ByteArray := prog_8_method_6_code
def yX6_swap : MethodName := ⟨RX6, "swap", "([III)V"⟩
abbrev cX6_finish : ByteArray := prog_8_method_7_code
def yX6_finish : MethodName := ⟨RX6, "finish", "(LBestParses$Text;JZ)V"⟩
abbrev cX6_tellBack : ByteArray := prog_8_method_8_code
def yX6_tellBack : MethodName := ⟨RX6, "tellBack", "(III)V"⟩
def RX7 : String := "BestParses$SlotForm"
def TX7 : u_T := fun k => match k with
  | 0 => ("BestParses$Form", "text", "LBestParses$Text;", true)
  | 1 => ("BestParses$Form", "costs", "LBestParses$Costs;", true)
  | 2 => ("BestParses$SlotForm", "sums", "[I", true)
  | _ => ("BestParses$SlotForm", "cameBy", "[I", true)
def tyX7 : Nat → FieldType := fun k => match k with
  | 0 => .object "BestParses$Text"
  | 1 => .object "BestParses$Costs"
  | 2 => .array .int
  | _ => .array .int
theorem nmX7 : ∀ a, a < 4 → ∀ b, b < 4 → a ≠ b → (TX7 a).2.1 ≠ (TX7 b).2.1 := by decide +kernel
theorem tyX7_ok : ∀ k, k < 4 → parseFieldDescriptor (TX7 k).2.2.1 = some (tyX7 k) := by decide +kernel
abbrev cX7_init : ByteArray := prog_9_method_1_code
def yX7_init : MethodName := ⟨RX7, "<init>", "(LBestParses$Text;LBestParses$Costs;)V"⟩
abbrev cX7_findBest : ByteArray := prog_9_method_2_code
def yX7_findBest : MethodName := ⟨RX7, "findBest", "(LBestParses$Parse;I)I"⟩
abbrev cX7_lead : ByteArray := prog_9_method_3_code
def yX7_lead : MethodName := ⟨RX7, "lead", "(III)V"⟩
abbrev cX7_tellSteps : ByteArray := prog_9_method_4_code
def yX7_tellSteps : MethodName := ⟨RX7, "tellSteps", "(LBestParses$Parse;)V"⟩
def RX8 : String := "BestParses$Stepper"
def TX8 : u_T := fun k => match k with
  | 0 => ("BestParses$Stepper", "text", "LBestParses$Text;", true)
  | _ => ("BestParses$Stepper", "withLatest", "Z", true)
def tyX8 : Nat → FieldType := fun k => match k with
  | 0 => .object "BestParses$Text"
  | _ => .boolean
theorem nmX8 : ∀ a, a < 2 → ∀ b, b < 2 → a ≠ b → (TX8 a).2.1 ≠ (TX8 b).2.1 := by decide +kernel
theorem tyX8_ok : ∀ k, k < 2 → parseFieldDescriptor (TX8 k).2.2.1 = some (tyX8 k) := by decide +kernel
abbrev cX8_init : ByteArray := prog_10_method_1_code
def yX8_init : MethodName := ⟨RX8, "<init>", "(LBestParses$Text;Z)V"⟩
abbrev cX8_walk : ByteArray := prog_10_method_2_code
def yX8_walk : MethodName := ⟨RX8, "walk", "(LBestParses$Parse;I)V"⟩
abbrev cX8_longerAhead : ByteArray := prog_10_method_3_code
def yX8_longerAhead : MethodName := ⟨RX8, "longerAhead", "(III)Z"⟩
abbrev cX8_againAsLong : ByteArray := prog_10_method_4_code
def yX8_againAsLong : MethodName := ⟨RX8, "againAsLong", "(JII)I"⟩
def RX9 : String := "BestParses$Text"
def TX9 : u_T := fun k => match k with
  | 0 => ("BestParses$Text", "leastLength", "I", true)
  | 1 => ("BestParses$Text", "greatestLength", "I", true)
  | 2 => ("BestParses$Text", "octetRow", "[I", true)
  | 3 => ("BestParses$Text", "size", "I", false)
  | 4 => ("BestParses$Text", "endRuns", "[I", true)
  | 5 => ("BestParses$Text", "nearest", "[I", true)
  | _ => ("BestParses$Text", "longestRuns", "[I", true)
def tyX9 : Nat → FieldType := fun k => match k with
  | 0 => .int
  | 1 => .int
  | 2 => .array .int
  | 3 => .int
  | 4 => .array .int
  | 5 => .array .int
  | _ => .array .int
theorem nmX9 : ∀ a, a < 7 → ∀ b, b < 7 → a ≠ b → (TX9 a).2.1 ≠ (TX9 b).2.1 := by decide +kernel
theorem tyX9_ok : ∀ k, k < 7 → parseFieldDescriptor (TX9 k).2.2.1 = some (tyX9 k) := by decide +kernel
abbrev cX9_init : ByteArray := prog_11_method_1_code
def yX9_init : MethodName := ⟨RX9, "<init>", "(I)V"⟩
abbrev cX9_has : ByteArray := prog_11_method_2_code
def yX9_has : MethodName := ⟨RX9, "has", "(I)Z"⟩
abbrev cX9_append : ByteArray := prog_11_method_3_code
def yX9_append : MethodName := ⟨RX9, "append", "(I)V"⟩
abbrev cX9_noteCopies : ByteArray := prog_11_method_4_code
def yX9_noteCopies : MethodName := ⟨RX9, "noteCopies", "(III)V"⟩
abbrev cX9_longestCopy : ByteArray := prog_11_method_5_code
def yX9_longestCopy : MethodName := ⟨RX9, "longestCopy", "(I)I"⟩
abbrev cX9_copyDistance : ByteArray := prog_11_method_6_code
def yX9_copyDistance : MethodName := ⟨RX9, "copyDistance", "(II)I"⟩
abbrev cX9_sameBy : ByteArray := prog_11_method_7_code
def yX9_sameBy : MethodName := ⟨RX9, "sameBy", "(II)I"⟩
abbrev cX9_nearestIndex : ByteArray := prog_11_method_8_code
def yX9_nearestIndex : MethodName := ⟨RX9, "nearestIndex", "(II)I"⟩
def RX10 : String := "BestParses"
def TX10 : u_T := fun k => match k with
  | 0 => ("BestParses", "form", "I", true)
  | 1 => ("BestParses", "text", "LBestParses$Text;", true)
  | 2 => ("BestParses", "costs", "LBestParses$Costs;", true)
  | 3 => ("BestParses", "leastCosts", "LBestParses$Costs;", true)
  | 4 => ("BestParses", "rules", "LBestParses$Form;", true)
  | 5 => ("BestParses", "stepper", "LBestParses$Stepper;", true)
  | 6 => ("BestParses", "blocks", "LBestParses$Blocks;", true)
  | 7 => ("BestParses", "current", "LBestParses$Parse;", false)
  | 8 => ("BestParses", "spare", "LBestParses$Parse;", false)
  | 9 => ("BestParses", "parsed", "Z", false)
  | 10 => ("BestParses", "kept", "I", false)
  | _ => ("BestParses", "droppedPlaces", "I", false)
def tyX10 : Nat → FieldType := fun k => match k with
  | 0 => .int
  | 1 => .object "BestParses$Text"
  | 2 => .object "BestParses$Costs"
  | 3 => .object "BestParses$Costs"
  | 4 => .object "BestParses$Form"
  | 5 => .object "BestParses$Stepper"
  | 6 => .object "BestParses$Blocks"
  | 7 => .object "BestParses$Parse"
  | 8 => .object "BestParses$Parse"
  | 9 => .boolean
  | 10 => .int
  | _ => .int
theorem nmX10 : ∀ a, a < 12 → ∀ b, b < 12 → a ≠ b → (TX10 a).2.1 ≠ (TX10 b).2.1 := by decide +kernel
theorem tyX10_ok : ∀ k, k < 12 → parseFieldDescriptor (TX10 k).2.2.1 = some (tyX10 k) := by decide +kernel
abbrev cX10_init : ByteArray := prog_1_method_1_code
def yX10_init : MethodName := ⟨RX10, "<init>", "(I)V"⟩
abbrev cX10_octets : ByteArray := prog_1_method_2_code
def yX10_octets : MethodName := ⟨RX10, "octets", "(IJ)I"⟩
abbrev cX10_cost : ByteArray := prog_1_method_3_code
def yX10_cost : MethodName := ⟨RX10, "cost", "(III)I"⟩
abbrev cX10_price : ByteArray := prog_1_method_4_code
def yX10_price : MethodName := ⟨RX10, "price", "(II)I"⟩
abbrev cX10_keep : ByteArray := prog_1_method_5_code
def yX10_keep : MethodName := ⟨RX10, "keep", "(I)I"⟩
abbrev cX10_parse : ByteArray := prog_1_method_6_code
def yX10_parse : MethodName := ⟨RX10, "parse", "(I)I"⟩
abbrev cX10_step : ByteArray := prog_1_method_7_code
def yX10_step : MethodName := ⟨RX10, "step", "(II)I"⟩
abbrev cX10_sum : ByteArray := prog_1_method_8_code
def yX10_sum : MethodName := ⟨RX10, "sum", "()J"⟩
abbrev cX10_again : ByteArray := prog_1_method_9_code
def yX10_again : MethodName := ⟨RX10, "again", "()J"⟩
abbrev cX10_least : ByteArray := prog_1_method_10_code
def yX10_least : MethodName := ⟨RX10, "least", "()Z"⟩
abbrev cX10_told : ByteArray := prog_1_method_11_code
def yX10_told : MethodName := ⟨RX10, "told", "(I)I"⟩
abbrev cX10_rounds : ByteArray := prog_1_method_12_code
def yX10_rounds : MethodName := ⟨RX10, "rounds", "(I)J"⟩
abbrev cX10_longest : ByteArray := prog_1_method_13_code
def yX10_longest : MethodName := ⟨RX10, "longest", "(I)I"⟩
abbrev cX10_distance : ByteArray := prog_1_method_14_code
def yX10_distance : MethodName := ⟨RX10, "distance", "(II)I"⟩
abbrev cX10_cut : ByteArray := prog_1_method_15_code
def yX10_cut : MethodName := ⟨RX10, "cut", "(I)I"⟩
abbrev cX10_split : ByteArray := prog_1_method_16_code
def yX10_split : MethodName := ⟨RX10, "split", "(I)J"⟩
abbrev cX10_taken : ByteArray := prog_1_method_17_code
def yX10_taken : MethodName := ⟨RX10, "taken", "(I)I"⟩
abbrev cX10_many : ByteArray := prog_1_method_18_code
def yX10_many : MethodName := ⟨RX10, "many", "(I)I"⟩
abbrev cX10_clear : ByteArray := prog_1_method_19_code
def yX10_clear : MethodName := ⟨RX10, "clear", "()V"⟩
abbrev cX10_trier : ByteArray := prog_1_method_20_code
def yX10_trier : MethodName := ⟨RX10, "trier", "(I)I"⟩
abbrev cX10_findBest : ByteArray := prog_1_method_21_code
def yX10_findBest : MethodName := ⟨RX10, "findBest", "(LBestParses$Parse;)V"⟩
abbrev cX10_takeSpare : ByteArray := prog_1_method_22_code
def yX10_takeSpare : MethodName := ⟨RX10, "takeSpare", "()V"⟩
abbrev cX10_logOf : ByteArray := prog_1_method_23_code
def yX10_logOf : MethodName := ⟨RX10, "logOf", "(I)I"⟩
abbrev cX10_highestBit : ByteArray := prog_1_method_24_code
def yX10_highestBit : MethodName := ⟨RX10, "highestBit", "(I)I"⟩
def RX11 : String := "BestParsesModel"
def TX11 : u_T := fun k => match k with
  | 0 => ("BestParsesModel", "thrown", "I", false)
  | 1 => ("BestParsesModel", "form", "I", true)
  | 2 => ("BestParsesModel", "text", "[I", true)
  | 3 => ("BestParsesModel", "n", "I", false)
  | 4 => ("BestParsesModel", "costs", "[I", true)
  | 5 => ("BestParsesModel", "kept", "I", false)
  | 6 => ("BestParsesModel", "cuts", "[I", true)
  | 7 => ("BestParsesModel", "cutCount", "I", false)
  | 8 => ("BestParsesModel", "taken", "[I", true)
  | 9 => ("BestParsesModel", "takenCount", "I", false)
  | 10 => ("BestParsesModel", "isParse", "Z", false)
  | 11 => ("BestParsesModel", "steps", "I", false)
  | 12 => ("BestParsesModel", "stepAt", "[I", true)
  | 13 => ("BestParsesModel", "stepSize", "[I", true)
  | 14 => ("BestParsesModel", "stepBack", "[I", true)
  | 15 => ("BestParsesModel", "stepKind", "[I", true)
  | 16 => ("BestParsesModel", "sum", "J", false)
  | 17 => ("BestParsesModel", "isLeast", "Z", false)
  | 18 => ("BestParsesModel", "dropped", "I", false)
  | 19 => ("BestParsesModel", "same", "[I", true)
  | 20 => ("BestParsesModel", "nearest", "[I", true)
  | 21 => ("BestParsesModel", "latest", "[I", true)
  | 22 => ("BestParsesModel", "bestKind", "I", false)
  | 23 => ("BestParsesModel", "least", "[I", true)
  | 24 => ("BestParsesModel", "cameFrom", "[I", true)
  | 25 => ("BestParsesModel", "cameRow", "[I", true)
  | 26 => ("BestParsesModel", "cameBack", "[I", true)
  | 27 => ("BestParsesModel", "byLiteral", "[Z", true)
  | 28 => ("BestParsesModel", "turned", "[I", true)
  | 29 => ("BestParsesModel", "turnedKind", "[I", true)
  | 30 => ("BestParsesModel", "turnedBack", "[I", true)
  | 31 => ("BestParsesModel", "turnedSize", "[I", true)
  | 32 => ("BestParsesModel", "many", "[I", true)
  | 33 => ("BestParsesModel", "falls", "[Z", true)
  | 34 => ("BestParsesModel", "stateSum", "[I", true)
  | 35 => ("BestParsesModel", "stateBack", "[I", true)
  | 36 => ("BestParsesModel", "stateFrom", "[I", true)
  | 37 => ("BestParsesModel", "stateKind", "[I", true)
  | 38 => ("BestParsesModel", "stateOld", "[I", true)
  | 39 => ("BestParsesModel", "uses", "[I", true)
  | 40 => ("BestParsesModel", "keptCosts", "[I", true)
  | 41 => ("BestParsesModel", "keptAt", "[I", true)
  | 42 => ("BestParsesModel", "keptSize", "[I", true)
  | 43 => ("BestParsesModel", "keptBack", "[I", true)
  | 44 => ("BestParsesModel", "keptKind", "[I", true)
  | 45 => ("BestParsesModel", "made", "[I", true)
  | _ => ("BestParsesModel", "blockCost", "[J", true)
def tyX11 : Nat → FieldType := fun k => match k with
  | 0 => .int
  | 1 => .int
  | 2 => .array .int
  | 3 => .int
  | 4 => .array .int
  | 5 => .int
  | 6 => .array .int
  | 7 => .int
  | 8 => .array .int
  | 9 => .int
  | 10 => .boolean
  | 11 => .int
  | 12 => .array .int
  | 13 => .array .int
  | 14 => .array .int
  | 15 => .array .int
  | 16 => .long
  | 17 => .boolean
  | 18 => .int
  | 19 => .array .int
  | 20 => .array .int
  | 21 => .array .int
  | 22 => .int
  | 23 => .array .int
  | 24 => .array .int
  | 25 => .array .int
  | 26 => .array .int
  | 27 => .array .boolean
  | 28 => .array .int
  | 29 => .array .int
  | 30 => .array .int
  | 31 => .array .int
  | 32 => .array .int
  | 33 => .array .boolean
  | 34 => .array .int
  | 35 => .array .int
  | 36 => .array .int
  | 37 => .array .int
  | 38 => .array .int
  | 39 => .array .int
  | 40 => .array .int
  | 41 => .array .int
  | 42 => .array .int
  | 43 => .array .int
  | 44 => .array .int
  | 45 => .array .int
  | _ => .array .long
theorem nmX11 : ∀ a, a < 47 → ∀ b, b < 47 → a ≠ b → (TX11 a).2.1 ≠ (TX11 b).2.1 := by decide +kernel
theorem tyX11_ok : ∀ k, k < 47 → parseFieldDescriptor (TX11 k).2.2.1 = some (tyX11 k) := by decide +kernel
abbrev cX11_init : ByteArray := prog_13_method_1_code
def yX11_init : MethodName := ⟨RX11, "<init>", "(I)V"⟩
abbrev cX11_thrown : ByteArray := prog_13_method_2_code
def yX11_thrown : MethodName := ⟨RX11, "thrown", "()I"⟩
abbrev cX11_start : ByteArray := prog_13_method_3_code
def yX11_start : MethodName := ⟨RX11, "start", "()V"⟩
abbrev cX11_shortest : ByteArray := prog_13_method_4_code
def yX11_shortest : MethodName := ⟨RX11, "shortest", "()I"⟩
abbrev cX11_greatest : ByteArray := prog_13_method_5_code
def yX11_greatest : MethodName := ⟨RX11, "greatest", "()I"⟩
abbrev cX11_symbols : ByteArray := prog_13_method_6_code
def yX11_symbols : MethodName := ⟨RX11, "symbols", "(I)I"⟩
abbrev cX11_isCost : ByteArray := prog_13_method_7_code
def yX11_isCost : MethodName := ⟨RX11, "isCost", "(II)Z"⟩
abbrev cX11_octets : ByteArray := prog_13_method_8_code
def yX11_octets : MethodName := ⟨RX11, "octets", "(IJ)I"⟩
abbrev cX11_cost : ByteArray := prog_13_method_9_code
def yX11_cost : MethodName := ⟨RX11, "cost", "(III)I"⟩
abbrev cX11_price : ByteArray := prog_13_method_10_code
def yX11_price : MethodName := ⟨RX11, "price", "(II)I"⟩
abbrev cX11_keep : ByteArray := prog_13_method_11_code
def yX11_keep : MethodName := ⟨RX11, "keep", "(I)I"⟩
abbrev cX11_layOut : ByteArray := prog_13_method_12_code
def yX11_layOut : MethodName := ⟨RX11, "layOut", "()V"⟩
abbrev cX11_longestCopy : ByteArray := prog_13_method_13_code
def yX11_longestCopy : MethodName := ⟨RX11, "longestCopy", "(I)I"⟩
abbrev cX11_longestAgain : ByteArray := prog_13_method_14_code
def yX11_longestAgain : MethodName := ⟨RX11, "longestAgain", "(II)I"⟩
abbrev cX11_high : ByteArray := prog_13_method_15_code
def yX11_high : MethodName := ⟨RX11, "high", "(I)I"⟩
abbrev cX11_lengthSlot : ByteArray := prog_13_method_16_code
def yX11_lengthSlot : MethodName := ⟨RX11, "lengthSlot", "(I)I"⟩
abbrev cX11_lengthBits : ByteArray := prog_13_method_17_code
def yX11_lengthBits : MethodName := ⟨RX11, "lengthBits", "(I)I"⟩
abbrev cX11_distanceSlot : ByteArray := prog_13_method_18_code
def yX11_distanceSlot : MethodName := ⟨RX11, "distanceSlot", "(I)I"⟩
abbrev cX11_distanceBits : ByteArray := prog_13_method_19_code
def yX11_distanceBits : MethodName := ⟨RX11, "distanceBits", "(I)I"⟩
abbrev cX11_lengthCost : ByteArray := prog_13_method_20_code
def yX11_lengthCost : MethodName := ⟨RX11, "lengthCost", "(I)I"⟩
abbrev cX11_distanceCost : ByteArray := prog_13_method_21_code
def yX11_distanceCost : MethodName := ⟨RX11, "distanceCost", "(I)I"⟩
abbrev cX11_kindCost : ByteArray := prog_13_method_22_code
def yX11_kindCost : MethodName := ⟨RX11, "kindCost", "(I)I"⟩
abbrev cX11_more : ByteArray := prog_13_method_23_code
def yX11_more : MethodName := ⟨RX11, "more", "(II)I"⟩
abbrev cX11_stepCost : ByteArray := prog_13_method_24_code
def yX11_stepCost : MethodName := ⟨RX11, "stepCost", "(IIIII)I"⟩
abbrev cX11_allCost : ByteArray := prog_13_method_25_code
def yX11_allCost : MethodName := ⟨RX11, "allCost", "()J"⟩
abbrev cX11_clearLatest : ByteArray := prog_13_method_26_code
def yX11_clearLatest : MethodName := ⟨RX11, "clearLatest", "()V"⟩
abbrev cX11_ahead : ByteArray := prog_13_method_27_code
def yX11_ahead : MethodName := ⟨RX11, "ahead", "(II)V"⟩
abbrev cX11_longestOf : ByteArray := prog_13_method_28_code
def yX11_longestOf : MethodName := ⟨RX11, "longestOf", "(I)I"⟩
abbrev cX11_addStep : ByteArray := prog_13_method_29_code
def yX11_addStep : MethodName := ⟨RX11, "addStep", "(IIII)V"⟩
abbrev cX11_greedy : ByteArray := prog_13_method_30_code
def yX11_greedy : MethodName := ⟨RX11, "greedy", "(I)V"⟩
abbrev cX11_at : ByteArray := prog_13_method_31_code
def yX11_at : MethodName := ⟨RX11, "at", "(II)I"⟩
abbrev cX11_firstRow : ByteArray := prog_13_method_32_code
def yX11_firstRow : MethodName := ⟨RX11, "firstRow", "(I)I"⟩
abbrev cX11_clearTable : ByteArray := prog_13_method_33_code
def yX11_clearTable : MethodName := ⟨RX11, "clearTable", "()V"⟩
abbrev cX11_copies : ByteArray := prog_13_method_34_code
def yX11_copies : MethodName := ⟨RX11, "copies", "(II)V"⟩
abbrev cX11_literals : ByteArray := prog_13_method_35_code
def yX11_literals : MethodName := ⟨RX11, "literals", "(I)V"⟩
abbrev cX11_backPlain : ByteArray := prog_13_method_36_code
def yX11_backPlain : MethodName := ⟨RX11, "backPlain", "()V"⟩
abbrev cX11_turnBack : ByteArray := prog_13_method_37_code
def yX11_turnBack : MethodName := ⟨RX11, "turnBack", "(I)V"⟩
abbrev cX11_bestPlain : ByteArray := prog_13_method_38_code
def yX11_bestPlain : MethodName := ⟨RX11, "bestPlain", "()V"⟩
abbrev cX11_isState : ByteArray := prog_13_method_39_code
def yX11_isState : MethodName := ⟨RX11, "isState", "(I)Z"⟩
abbrev cX11_isBehind : ByteArray := prog_13_method_40_code
def yX11_isBehind : MethodName := ⟨RX11, "isBehind", "(II)Z"⟩
abbrev cX11_moveState : ByteArray := prog_13_method_41_code
def yX11_moveState : MethodName := ⟨RX11, "moveState", "(II)V"⟩
abbrev cX11_comes : ByteArray := prog_13_method_42_code
def yX11_comes : MethodName := ⟨RX11, "comes", "(IIIII)V"⟩
abbrev cX11_takeLatest : ByteArray := prog_13_method_43_code
def yX11_takeLatest : MethodName := ⟨RX11, "takeLatest", "(I)V"⟩
abbrev cX11_expand : ByteArray := prog_13_method_44_code
def yX11_expand : MethodName := ⟨RX11, "expand", "(II)V"⟩
abbrev cX11_bestWide : ByteArray := prog_13_method_45_code
def yX11_bestWide : MethodName := ⟨RX11, "bestWide", "()V"⟩
abbrev cX11_best : ByteArray := prog_13_method_46_code
def yX11_best : MethodName := ⟨RX11, "best", "()V"⟩
abbrev cX11_parse : ByteArray := prog_13_method_47_code
def yX11_parse : MethodName := ⟨RX11, "parse", "(I)I"⟩
abbrev cX11_log : ByteArray := prog_13_method_48_code
def yX11_log : MethodName := ⟨RX11, "log", "(I)I"⟩
abbrev cX11_fit : ByteArray := prog_13_method_49_code
def yX11_fit : MethodName := ⟨RX11, "fit", "()V"⟩
abbrev cX11_rounds : ByteArray := prog_13_method_50_code
def yX11_rounds : MethodName := ⟨RX11, "rounds", "(I)J"⟩
abbrev cX11_step : ByteArray := prog_13_method_51_code
def yX11_step : MethodName := ⟨RX11, "step", "(II)I"⟩
abbrev cX11_sum : ByteArray := prog_13_method_52_code
def yX11_sum : MethodName := ⟨RX11, "sum", "()J"⟩
abbrev cX11_again : ByteArray := prog_13_method_53_code
def yX11_again : MethodName := ⟨RX11, "again", "()J"⟩
abbrev cX11_least : ByteArray := prog_13_method_54_code
def yX11_least : MethodName := ⟨RX11, "least", "()Z"⟩
abbrev cX11_told : ByteArray := prog_13_method_55_code
def yX11_told : MethodName := ⟨RX11, "told", "(I)I"⟩
abbrev cX11_longest : ByteArray := prog_13_method_56_code
def yX11_longest : MethodName := ⟨RX11, "longest", "(I)I"⟩
abbrev cX11_distance : ByteArray := prog_13_method_57_code
def yX11_distance : MethodName := ⟨RX11, "distance", "(II)I"⟩
abbrev cX11_cut : ByteArray := prog_13_method_58_code
def yX11_cut : MethodName := ⟨RX11, "cut", "(I)I"⟩
abbrev cX11_border : ByteArray := prog_13_method_59_code
def yX11_border : MethodName := ⟨RX11, "border", "(I)I"⟩
abbrev cX11_fillBlocks : ByteArray := prog_13_method_60_code
def yX11_fillBlocks : MethodName := ⟨RX11, "fillBlocks", "(I)V"⟩
abbrev cX11_setCost : ByteArray := prog_13_method_61_code
def yX11_setCost : MethodName := ⟨RX11, "setCost", "(I)J"⟩
abbrev cX11_count : ByteArray := prog_13_method_62_code
def yX11_count : MethodName := ⟨RX11, "count", "(I)I"⟩
abbrev cX11_isBefore : ByteArray := prog_13_method_63_code
def yX11_isBefore : MethodName := ⟨RX11, "isBefore", "(II)Z"⟩
abbrev cX11_split : ByteArray := prog_13_method_64_code
def yX11_split : MethodName := ⟨RX11, "split", "(I)J"⟩
abbrev cX11_taken : ByteArray := prog_13_method_65_code
def yX11_taken : MethodName := ⟨RX11, "taken", "(I)I"⟩
abbrev cX11_many : ByteArray := prog_13_method_66_code
def yX11_many : MethodName := ⟨RX11, "many", "(I)I"⟩
abbrev cX11_clear : ByteArray := prog_13_method_67_code
def yX11_clear : MethodName := ⟨RX11, "clear", "()V"⟩
abbrev cX11_trier : ByteArray := prog_13_method_68_code
def yX11_trier : MethodName := ⟨RX11, "trier", "(I)I"⟩
def RJ7 : String := "java/util/Arrays"
def TJ7 : u_T := fun k => match k with
  | _ => ("", "", "", false)
def tyJ7 : Nat → FieldType := fun k => match k with
  | _ => .int
theorem nmJ7 : ∀ a, a < 0 → ∀ b, b < 0 → a ≠ b → (TJ7 a).2.1 ≠ (TJ7 b).2.1 := by decide +kernel
theorem tyJ7_ok : ∀ k, k < 0 → parseFieldDescriptor (TJ7 k).2.2.1 = some (tyJ7 k) := by decide +kernel
abbrev cJ7_rangeCheck_23922 : ByteArray := prog_28_method_30_code
def yJ7_rangeCheck_23922 : MethodName := ⟨RJ7, "rangeCheck", "(III)V"⟩
abbrev cJ7_fill_d0a16 : ByteArray := prog_28_method_101_code
def yJ7_fill_d0a16 : MethodName := ⟨RJ7, "fill", "([JJ)V"⟩
abbrev cJ7_fill_53178 : ByteArray := prog_28_method_103_code
def yJ7_fill_53178 : MethodName := ⟨RJ7, "fill", "([II)V"⟩
abbrev cJ7_fill_fda19 : ByteArray := prog_28_method_104_code
def yJ7_fill_fda19 : MethodName := ⟨RJ7, "fill", "([IIII)V"⟩
abbrev cJ7_copyOf_9075b : ByteArray := prog_28_method_121_code
def yJ7_copyOf_9075b : MethodName := ⟨RJ7, "copyOf", "([BI)[B"⟩
abbrev cJ7_checkLength_df160 : ByteArray := prog_28_method_131_code
def yJ7_checkLength_df160 : MethodName := ⟨RJ7, "checkLength", "(II)V"⟩
abbrev cJ7_copyOfRange_39247 : ByteArray := prog_28_method_132_code
def yJ7_copyOfRange_39247 : MethodName := ⟨RJ7, "copyOfRange", "([BII)[B"⟩
abbrev cJ7_copyOfRangeByte_39247 : ByteArray := prog_28_method_133_code
def yJ7_copyOfRangeByte_39247 : MethodName := ⟨RJ7, "copyOfRangeByte", "([BII)[B"⟩
def RL : String := "BestParsesLaw"
abbrev cL_cell : ByteArray := method_2_code
def yL_cell : MethodName := ⟨RL, "cell", "([II)I"⟩
abbrev cL_trier : ByteArray := method_3_code
def yL_trier : MethodName := ⟨RL, "trier", "(LBestParses;I[J)I"⟩
abbrev cL_law : ByteArray := code
def yL_law : MethodName := ⟨RL, "law", "([I)Z"⟩
end
section
/-! the classes of the light machine: kind k (1, 2 ..) is the class k - 1 of xCl; 11 says: one of the three forms -/
def xG : List Jvm.Cond := lw_tbl.filter goodWord
def xCl : List vw_C := [(RX0, TX0, 9), (RX1, TX1, 5), (RX4, TX4, 12), (RX5, TX5, 7), (RX6, TX6, 8), (RX7, TX7, 4), (RX8, TX8, 2), (RX9, TX9, 7), (RX10, TX10, 12), (RX11, TX11, 47)]
def xtyL : List (Nat → FieldType) := [tyX0, tyX1, tyX4, tyX5, tyX6, tyX7, tyX8, tyX9, tyX10, tyX11]
def xftL : List (List Nat) := [[], [3, 3, 0, 3, 0, 3, 3, 3, 3], [0, 3, 3, 3, 3], [3, 3, 3, 3, 3, 3, 3, 0, 0, 0, 1, 1], [3, 3, 3, 3, 3, 3, 3], [3, 3, 3, 3, 3, 0, 1, 2], [3, 3, 3, 3], [3, 2], [0, 0, 3, 0, 3, 3, 3], [0, 3, 3, 3, 3, 3, 3, 3, 3, 2, 0, 0], [0, 0, 3, 0, 3, 0, 3, 0, 3, 0, 2, 0, 3, 3, 3, 3, 1, 2, 0, 3, 3, 3, 0, 3, 3, 3, 3, 3, 3, 3, 3, 3, 3, 3, 3, 3, 3, 3, 3, 3, 3, 3, 3, 3, 3, 3, 3]]
def xft (k j : Nat) : Nat := (xftL.getD k []).getD j 9
def xsub (r k : Nat) : Bool := r == k || (r == 11 && (k == 3 || k == 4 || k == 6))
theorem xG_of {w : Jvm.Cond} (i : Nat) (h : tables_1[i]? = some w) (hg : goodWord w = true) : w ∈ xG := List.mem_filter.mpr ⟨List.mem_append_right _ (List.mem_of_getElem? h), hg⟩
theorem xG_sel {q : MethodName × Nat} (h : q ∈ lw_privs) : Jvm.Cond.selects q.1.cls q.1 q.1 ∈ k2_sels lw_privs := by
  first | exact List.mem_map.mpr ⟨q, h, rfl⟩ | (unfold k2_sels; exact List.mem_map.mpr ⟨q, h, rfl⟩)
def xok (f : FieldType) (n : Nat) : Bool := match f, n with
  | .int, 0 => true
  | .long, 1 => true
  | .boolean, 2 => true
  | .object _, 3 => true
  | .array _, 3 => true
  | _, _ => false
theorem xinX0 : ∀ w ∈ u_ws RX0 TX0 9, w ∈ xG := by
  intro w h
  obtain ⟨k, hk, rfl⟩ := List.mem_map.mp h
  have hk := List.mem_range.mp hk
  have h2 : ∀ k, k < 9 → tables_1[(([566, 568, 570, 572, 574, 576, 578, 580, 582] : List Nat).getD k 0)]? = some (u_lay RX0 TX0 k) ∧ goodWord (u_lay RX0 TX0 k) = true := by decide +kernel
  exact xG_of _ (h2 k hk).1 (h2 k hk).2
theorem xkdX0 : Jvm.Cond.instantiable RX0 9 ∈ xG ∧ Jvm.Cond.initialized RX0 ∈ xG := ⟨xG_of 549 (by decide +kernel) (by decide +kernel), xG_of 25 (by decide +kernel) (by decide +kernel)⟩
theorem xtkX0 : ∀ k, k < 9 → xok (tyX0 k) (xft 1 k) = true := by decide +kernel
theorem xinX1 : ∀ w ∈ u_ws RX1 TX1 5, w ∈ xG := by
  intro w h
  obtain ⟨k, hk, rfl⟩ := List.mem_map.mp h
  have hk := List.mem_range.mp hk
  have h2 : ∀ k, k < 5 → tables_1[(([424, 426, 428, 430, 432] : List Nat).getD k 0)]? = some (u_lay RX1 TX1 k) ∧ goodWord (u_lay RX1 TX1 k) = true := by decide +kernel
  exact xG_of _ (h2 k hk).1 (h2 k hk).2
theorem xkdX1 : Jvm.Cond.instantiable RX1 5 ∈ xG ∧ Jvm.Cond.initialized RX1 ∈ xG := ⟨xG_of 91 (by decide +kernel) (by decide +kernel), xG_of 4 (by decide +kernel) (by decide +kernel)⟩
theorem xtkX1 : ∀ k, k < 5 → xok (tyX1 k) (xft 2 k) = true := by decide +kernel
theorem xinX4 : ∀ w ∈ u_ws RX4 TX4 12, w ∈ xG := by
  intro w h
  obtain ⟨k, hk, rfl⟩ := List.mem_map.mp h
  have hk := List.mem_range.mp hk
  have h2 : ∀ k, k < 12 → tables_1[(([530, 531, 510, 512, 514, 516, 518, 520, 522, 524, 526, 528] : List Nat).getD k 0)]? = some (u_lay RX4 TX4 k) ∧ goodWord (u_lay RX4 TX4 k) = true := by decide +kernel
  exact xG_of _ (h2 k hk).1 (h2 k hk).2
theorem xkdX4 : Jvm.Cond.instantiable RX4 12 ∈ xG ∧ Jvm.Cond.initialized RX4 ∈ xG := ⟨xG_of 495 (by decide +kernel) (by decide +kernel), xG_of 23 (by decide +kernel) (by decide +kernel)⟩
theorem xtkX4 : ∀ k, k < 12 → xok (tyX4 k) (xft 3 k) = true := by decide +kernel
theorem xinX5 : ∀ w ∈ u_ws RX5 TX5 7, w ∈ xG := by
  intro w h
  obtain ⟨k, hk, rfl⟩ := List.mem_map.mp h
  have hk := List.mem_range.mp hk
  have h2 : ∀ k, k < 7 → tables_1[(([491, 492, 481, 483, 485, 487, 489] : List Nat).getD k 0)]? = some (u_lay RX5 TX5 k) ∧ goodWord (u_lay RX5 TX5 k) = true := by decide +kernel
  exact xG_of _ (h2 k hk).1 (h2 k hk).2
theorem xkdX5 : Jvm.Cond.instantiable RX5 7 ∈ xG ∧ Jvm.Cond.initialized RX5 ∈ xG := ⟨xG_of 468 (by decide +kernel) (by decide +kernel), xG_of 22 (by decide +kernel) (by decide +kernel)⟩
theorem xtkX5 : ∀ k, k < 7 → xok (tyX5 k) (xft 4 k) = true := by decide +kernel
theorem xinX6 : ∀ w ∈ u_ws RX6 TX6 8, w ∈ xG := by
  intro w h
  obtain ⟨k, hk, rfl⟩ := List.mem_map.mp h
  have hk := List.mem_range.mp hk
  have h2 : ∀ k, k < 8 → tables_1[(([616, 618, 620, 622, 624, 626, 628, 630] : List Nat).getD k 0)]? = some (u_lay RX6 TX6 k) ∧ goodWord (u_lay RX6 TX6 k) = true := by decide +kernel
  exact xG_of _ (h2 k hk).1 (h2 k hk).2
theorem xkdX6 : Jvm.Cond.instantiable RX6 8 ∈ xG ∧ Jvm.Cond.initialized RX6 ∈ xG := ⟨xG_of 586 (by decide +kernel) (by decide +kernel), xG_of 26 (by decide +kernel) (by decide +kernel)⟩
theorem xtkX6 : ∀ k, k < 8 → xok (tyX6 k) (xft 5 k) = true := by decide +kernel
theorem xinX7 : ∀ w ∈ u_ws RX7 TX7 4, w ∈ xG := by
  intro w h
  obtain ⟨k, hk, rfl⟩ := List.mem_map.mp h
  have hk := List.mem_range.mp hk
  have h2 : ∀ k, k < 4 → tables_1[(([462, 464, 458, 460] : List Nat).getD k 0)]? = some (u_lay RX7 TX7 k) ∧ goodWord (u_lay RX7 TX7 k) = true := by decide +kernel
  exact xG_of _ (h2 k hk).1 (h2 k hk).2
theorem xkdX7 : Jvm.Cond.instantiable RX7 4 ∈ xG ∧ Jvm.Cond.initialized RX7 ∈ xG := ⟨xG_of 436 (by decide +kernel) (by decide +kernel), xG_of 21 (by decide +kernel) (by decide +kernel)⟩
theorem xtkX7 : ∀ k, k < 4 → xok (tyX7 k) (xft 6 k) = true := by decide +kernel
theorem xinX8 : ∀ w ∈ u_ws RX8 TX8 2, w ∈ xG := by
  intro w h
  obtain ⟨k, hk, rfl⟩ := List.mem_map.mp h
  have hk := List.mem_range.mp hk
  have h2 : ∀ k, k < 2 → tables_1[(([543, 545] : List Nat).getD k 0)]? = some (u_lay RX8 TX8 k) ∧ goodWord (u_lay RX8 TX8 k) = true := by decide +kernel
  exact xG_of _ (h2 k hk).1 (h2 k hk).2
theorem xkdX8 : Jvm.Cond.instantiable RX8 2 ∈ xG ∧ Jvm.Cond.initialized RX8 ∈ xG := ⟨xG_of 536 (by decide +kernel) (by decide +kernel), xG_of 24 (by decide +kernel) (by decide +kernel)⟩
theorem xtkX8 : ∀ k, k < 2 → xok (tyX8 k) (xft 7 k) = true := by decide +kernel
theorem xinX9 : ∀ w ∈ u_ws RX9 TX9 7, w ∈ xG := by
  intro w h
  obtain ⟨k, hk, rfl⟩ := List.mem_map.mp h
  have hk := List.mem_range.mp hk
  have h2 : ∀ k, k < 7 → tables_1[(([74, 76, 78, 80, 82, 84, 86] : List Nat).getD k 0)]? = some (u_lay RX9 TX9 k) ∧ goodWord (u_lay RX9 TX9 k) = true := by decide +kernel
  exact xG_of _ (h2 k hk).1 (h2 k hk).2
theorem xkdX9 : Jvm.Cond.instantiable RX9 7 ∈ xG ∧ Jvm.Cond.initialized RX9 ∈ xG := ⟨xG_of 44 (by decide +kernel) (by decide +kernel), xG_of 3 (by decide +kernel) (by decide +kernel)⟩
theorem xtkX9 : ∀ k, k < 7 → xok (tyX9 k) (xft 8 k) = true := by decide +kernel
theorem xinX10 : ∀ w ∈ u_ws RX10 TX10 12, w ∈ xG := by
  intro w h
  obtain ⟨k, hk, rfl⟩ := List.mem_map.mp h
  have hk := List.mem_range.mp hk
  have h2 : ∀ k, k < 12 → tables_1[(([645, 647, 649, 651, 653, 655, 657, 659, 661, 663, 665, 667] : List Nat).getD k 0)]? = some (u_lay RX10 TX10 k) ∧ goodWord (u_lay RX10 TX10 k) = true := by decide +kernel
  exact xG_of _ (h2 k hk).1 (h2 k hk).2
theorem xkdX10 : Jvm.Cond.instantiable RX10 12 ∈ xG ∧ Jvm.Cond.initialized RX10 ∈ xG := ⟨xG_of 30 (by decide +kernel) (by decide +kernel), xG_of 1 (by decide +kernel) (by decide +kernel)⟩
theorem xtkX10 : ∀ k, k < 12 → xok (tyX10 k) (xft 9 k) = true := by decide +kernel
theorem xinX11 : ∀ w ∈ u_ws RX11 TX11 47, w ∈ xG := by
  intro w h
  obtain ⟨k, hk, rfl⟩ := List.mem_map.mp h
  have hk := List.mem_range.mp hk
  have h2 : ∀ k, k < 47 → tables_1[(([1128, 1130, 1132, 1134, 1136, 1138, 1140, 1142, 1144, 1146, 1148, 1150, 1152, 1154, 1156, 1158, 1160, 1162, 1164, 1166, 1168, 1170, 1172, 1174, 1176, 1178, 1180, 1182, 1184, 1186, 1188, 1190, 1192, 1194, 1196, 1198, 1200, 1202, 1204, 1206, 1208, 1210, 1212, 1214, 1216, 1218, 1220] : List Nat).getD k 0)]? = some (u_lay RX11 TX11 k) ∧ goodWord (u_lay RX11 TX11 k) = true := by decide +kernel
  exact xG_of _ (h2 k hk).1 (h2 k hk).2
theorem xkdX11 : Jvm.Cond.instantiable RX11 47 ∈ xG ∧ Jvm.Cond.initialized RX11 ∈ xG := ⟨xG_of 1070 (by decide +kernel) (by decide +kernel), xG_of 27 (by decide +kernel) (by decide +kernel)⟩
theorem xtkX11 : ∀ k, k < 47 → xok (tyX11 k) (xft 10 k) = true := by decide +kernel
/-- what is known of a class of the light machine -/
def xKnow (i : Nat) (q : vw_C) : Prop := (∀ w ∈ u_ws q.1 q.2.1 q.2.2, w ∈ xG) ∧ (Jvm.Cond.instantiable q.1 q.2.2 ∈ xG ∧ Jvm.Cond.initialized q.1 ∈ xG) ∧ (∀ a, a < q.2.2 → ∀ b, b < q.2.2 → a ≠ b → (q.2.1 a).2.1 ≠ (q.2.1 b).2.1) ∧ ∃ ty : Nat → FieldType, (∀ k, k < q.2.2 → parseFieldDescriptor (q.2.1 k).2.2.1 = some (ty k)) ∧ ∀ k, k < q.2.2 → xok (ty k) (xft (i + 1) k) = true
theorem xknow : ∀ (i : Nat) (q : vw_C), xCl[i]? = some q → xKnow i q := by
  intro i q h
  match i, h with
  | 0, h => cases h; exact ⟨xinX0, xkdX0, nmX0, tyX0, tyX0_ok, xtkX0⟩
  | 1, h => cases h; exact ⟨xinX1, xkdX1, nmX1, tyX1, tyX1_ok, xtkX1⟩
  | 2, h => cases h; exact ⟨xinX4, xkdX4, nmX4, tyX4, tyX4_ok, xtkX4⟩
  | 3, h => cases h; exact ⟨xinX5, xkdX5, nmX5, tyX5, tyX5_ok, xtkX5⟩
  | 4, h => cases h; exact ⟨xinX6, xkdX6, nmX6, tyX6, tyX6_ok, xtkX6⟩
  | 5, h => cases h; exact ⟨xinX7, xkdX7, nmX7, tyX7, tyX7_ok, xtkX7⟩
  | 6, h => cases h; exact ⟨xinX8, xkdX8, nmX8, tyX8, tyX8_ok, xtkX8⟩
  | 7, h => cases h; exact ⟨xinX9, xkdX9, nmX9, tyX9, tyX9_ok, xtkX9⟩
  | 8, h => cases h; exact ⟨xinX10, xkdX10, nmX10, tyX10, tyX10_ok, xtkX10⟩
  | 9, h => cases h; exact ⟨xinX11, xkdX11, nmX11, tyX11, tyX11_ok, xtkX11⟩
  | i + 10, h => simp [xCl] at h
end
section
/-! THE LIGHT MACHINE: cells by number, ints, longs and references by cell and place; a step is a function; nothing of frames, links and tables -/
abbrev xS : Type := (Nat → Nat × Nat) × (List Nat × Nat × Nat) × (Nat → Nat → Int32) × (Nat → Nat → Int64) × (Nat → Nat → Option Nat)
abbrev xL : Type := List (Option Value)
abbrev xF : Type := Nat × xL × List Value × xS
abbrev xI : Type := Instr × Nat × Nat × Nat
def xup {α : Type} (f : Nat → Nat → α) (a k : Nat) (v : α) : Nat → Nat → α := va_up f a (va_up (f a) k v)
def xat (pc : Nat) : List (Nat × xI) → Option xI
  | [] => none
  | e :: t => if e.1 = pc then some e.2 else xat pc t
theorem xat_mem {pc : Nat} {x : xI} : ∀ {t : List (Nat × xI)}, xat pc t = some x → (pc, x) ∈ t
  | [], h => by simp [xat] at h
  | e :: t, h => by
    unfold xat at h
    split at h
    · rename_i he
      cases h
      subst he
      exact List.mem_cons_self
    · exact List.mem_cons_of_mem _ (xat_mem h)
def xld (L : xL) (i : Nat) : Option Value := match L[i]? with
  | some o => o
  | none => none
def xclr (L : xL) (i : Nat) : xL := match i with
  | 0 => L
  | j + 1 => match xld L j with
    | some v => if v.category = 2 then L.set j none else L
    | none => L
def xst1 (L : xL) (i : Nat) (v : Value) : Option xL := if i < L.length then some ((xclr L i).set i (some v)) else none
def xst2 (L : xL) (i : Nat) (v : Value) : Option xL := if i + 1 < L.length then some (((xclr L i).set i (some v)).set (i + 1) none) else none
def xii (f : Int32 → Int32 → Int32) (st : List Value) : Option (List Value) := match st with
  | .int y :: .int x :: r => some (.int (f x y) :: r)
  | _ => none
def xjj (f : Int64 → Int64 → Int64) (st : List Value) : Option (List Value) := match st with
  | .long y :: .long x :: r => some (.long (f x y) :: r)
  | _ => none
def xji (f : Int64 → Int32 → Int64) (st : List Value) : Option (List Value) := match st with
  | .int y :: .long x :: r => some (.long (f x y) :: r)
  | _ => none
/-- instructions of the operand stack alone -/
def xop (ins : Instr) (r1 : Nat) (st : List Value) : Option (List Value) := match ins with
  | .iconst n => some (.int (Int32.ofInt n) :: st)
  | .bipush n => some (.int (Int8.ofInt n).toInt32 :: st)
  | .sipush n => some (.int (Int16.ofInt n).toInt32 :: st)
  | .lconst n => some (.long (Int64.ofNat (n : Nat)) :: st)
  | .ldc _ => some (.int (Int32.ofNat r1) :: st)
  | .ldc_w _ => some (.int (Int32.ofNat r1) :: st)
  | .ldc2_w _ => some (.long (Int64.ofNat r1) :: st)
  | .iadd => xii (fun x y => x + y) st
  | .isub => xii (fun x y => x - y) st
  | .imul => xii (fun x y => x * y) st
  | .iand => xii (fun x y => x &&& y) st
  | .ior => xii (fun x y => x ||| y) st
  | .ixor => xii (fun x y => x ^^^ y) st
  | .ishl => xii (fun x y => x <<< (y &&& 31)) st
  | .ishr => xii (fun x y => x >>> (y &&& 31)) st
  | .idiv => match st with
    | .int y :: .int x :: r => if y = 0 then none else some (.int (x / y) :: r)
    | _ => none
  | .ineg => match st with
    | .int x :: r => some (.int (-x) :: r)
    | _ => none
  | .i2l => match st with
    | .int x :: r => some (.long x.toInt64 :: r)
    | _ => none
  | .l2i => match st with
    | .long x :: r => some (.int x.toInt32 :: r)
    | _ => none
  | .ladd => xjj (fun x y => x + y) st
  | .lsub => xjj (fun x y => x - y) st
  | .lmul => xjj (fun x y => x * y) st
  | .land => xjj (fun x y => x &&& y) st
  | .lor => xjj (fun x y => x ||| y) st
  | .lxor => xjj (fun x y => x ^^^ y) st
  | .lshl => xji (fun x y => x <<< (y.toInt64 &&& 63)) st
  | .lshr => xji (fun x y => x >>> (y.toInt64 &&& 63)) st
  | .lushr => xji (fun x y => (x.toUInt64 >>> (y.toInt64.toUInt64 &&& Int64.toUInt64 63)).toInt64) st
  | .lcmp => match st with
    | .long y :: .long x :: r => some (.int (lg_cmp x y) :: r)
    | _ => none
  | .dup => match st with
    | v :: r => if v.category = 1 then some (v :: v :: r) else none
    | _ => none
  | .dup2 => match st with
    | v :: w :: r => if v.category = 1 ∧ w.category = 1 then some (v :: w :: v :: w :: r) else none
    | _ => none
  | _ => none
/-- loads and stores of the locals -/
def xlo (ins : Instr) (L : xL) (st : List Value) : Option (xL × List Value) := match ins with
  | .iload_n k => match xld L (k : Nat) with
    | some (.int x) => some (L, .int x :: st)
    | _ => none
  | .iload i => match xld L i with
    | some (.int x) => some (L, .int x :: st)
    | _ => none
  | .lload_n k => match xld L (k : Nat) with
    | some (.long x) => some (L, .long x :: st)
    | _ => none
  | .lload i => match xld L i with
    | some (.long x) => some (L, .long x :: st)
    | _ => none
  | .aload_n k => match xld L (k : Nat) with
    | some (.ref x) => some (L, .ref x :: st)
    | _ => none
  | .aload i => match xld L i with
    | some (.ref x) => some (L, .ref x :: st)
    | _ => none
  | .istore_n k => match st with
    | .int x :: r => (xst1 L (k : Nat) (.int x)).map (fun L' => (L', r))
    | _ => none
  | .istore i => match st with
    | .int x :: r => (xst1 L i (.int x)).map (fun L' => (L', r))
    | _ => none
  | .astore_n k => match st with
    | .ref x :: r => (xst1 L (k : Nat) (.ref x)).map (fun L' => (L', r))
    | _ => none
  | .astore i => match st with
    | .ref x :: r => (xst1 L i (.ref x)).map (fun L' => (L', r))
    | _ => none
  | .lstore_n k => match st with
    | .long x :: r => (xst2 L (k : Nat) (.long x)).map (fun L' => (L', r))
    | _ => none
  | .lstore i => match st with
    | .long x :: r => (xst2 L i (.long x)).map (fun L' => (L', r))
    | _ => none
  | .iinc i n => match xld L i with
    | some (.int x) => (xst1 L i (.int (x + Int32.ofInt n))).map (fun L' => (L', st))
    | _ => none
  | _ => none
def xcmp (c : Jvm.ClassFile.Cond) (x y : Int32) : Bool := match c with
  | .eq => decide (x = y)
  | .ne => decide (¬ x = y)
  | .lt => decide (x < y)
  | .ge => decide (y ≤ x)
  | .gt => decide (y < x)
  | .le => decide (x ≤ y)
/-- branches: r1 is where they go -/
def xbr (ins : Instr) (r1 pc : Nat) (st : List Value) : Option (Nat × List Value) := match ins with
  | .goto _ => some (r1, st)
  | .if_icmp c _ => match st with
    | .int y :: .int x :: r => some (if xcmp c x y = true then r1 else pc + 3, r)
    | _ => none
  | .ifCond c _ => match st with
    | .int x :: r => some (if xcmp c x 0 = true then r1 else pc + 3, r)
    | _ => none
  | .tableswitch dflt lo hi offs => match st with
    | .int x :: r => (if x.toInt < lo ∨ hi < x.toInt then some dflt else offs[(x.toInt - lo).toNat]?).bind (fun o => match (pc : Int) + o with
      | .ofNat t => some (t, r)
      | _ => none)
    | _ => none
  | _ => none
/-- how long an instruction is, where the step asks for it -/
def xlen (ins : Instr) : Nat := match ins with
  | .bipush _ | .ldc _ | .iload _ | .lload _ | .aload _ | .istore _ | .astore _ | .lstore _ | .newarray _ => 2
  | .sipush _ | .ldc_w _ | .ldc2_w _ | .iinc _ _ | .goto _ | .if_icmp _ _ | .ifCond _ _ | .getfield _ | .putfield _ | .getstatic _ | .new _ | .invokevirtual _ | .invokestatic _ | .invokespecial _ => 3
  | _ => 1
end
section
/-! THE LIGHT MACHINE'S STEPS ARE THE MACHINE'S: stack, locals, branches -/
def xsh (ad : Nat → Nat) (v : Value) : Value := match v with
  | .ref k => .ref (ad k)
  | v => v
theorem xsh_cat (ad : Nat → Nat) (v : Value) : (xsh ad v).category = v.category := by cases v <;> rfl
def xas (ad : Nat → Nat) (L : xL) : List (Nat × Value) := (List.range L.length).filterMap (fun i => (xld L i).map (fun v => (i, xsh ad v)))
theorem xld_lt {L : xL} {i : Nat} {v : Value} (h : xld L i = some v) : i < L.length := by
  unfold xld at h
  split at h
  · rename_i o ho
    exact (List.getElem?_eq_some_iff.mp ho).1
  · cases h
theorem xas_mem {ad : Nat → Nat} {L : xL} {i : Nat} {w : Value} : (i, w) ∈ xas ad L ↔ ∃ v, xld L i = some v ∧ w = xsh ad v := by
  unfold xas
  constructor
  · intro h
    obtain ⟨j, -, hj⟩ := List.mem_filterMap.mp h
    cases hv : xld L j with
    | none => rw [hv] at hj; cases hj
    | some v =>
      rw [hv] at hj
      cases hj
      exact ⟨v, hv, rfl⟩
  · rintro ⟨v, hv, rfl⟩
    exact List.mem_filterMap.mpr ⟨i, List.mem_range.mpr (xld_lt hv), by rw [hv]; rfl⟩
def xLH (ad : Nat → Nat) (ls : Array Slot) (L : xL) : Prop := lv_has ls L.length (xas ad L)
theorem xLH.at {ad : Nat → Nat} {ls : Array Slot} {L : xL} (h : xLH ad ls L) {i : Nat} {v : Value} (hv : xld L i = some v) : ls[i]? = some (.val (xsh ad v)) := h.2.2 (i, xsh ad v) (xas_mem.mpr ⟨v, hv, rfl⟩)
theorem xclr_len (L : xL) (i : Nat) : (xclr L i).length = L.length := by
  unfold xclr
  split
  · rfl
  · split
    · split
      · simp
      · rfl
    · rfl
theorem xld_set_ne {L : xL} {i j : Nat} {o : Option Value} (h : i ≠ j) : xld (L.set i o) j = xld L j := by
  unfold xld
  rw [List.getElem?_set_ne h]
theorem xld_set_self {L : xL} {i : Nat} {o : Option Value} (h : i < L.length) : xld (L.set i o) i = o := by
  unfold xld
  rw [List.getElem?_set_self h]
theorem xclr_ld {L : xL} {i j : Nat} {v : Value} (h : xld (xclr L i) j = some v) : xld L j = some v ∧ ¬ (j + 1 = i ∧ v.category = 2) := by
  unfold xclr at h
  split at h
  · exact ⟨h, fun z => by omega⟩
  · rename_i k
    split at h
    · rename_i u hu
      split at h
      · by_cases hjk : k = j
        · subst hjk
          rw [xld_set_self (xld_lt hu)] at h
          cases h
        · rw [xld_set_ne hjk] at h
          exact ⟨h, fun z => hjk (by omega)⟩
      · rename_i hc
        refine ⟨h, fun z => ?_⟩
        obtain ⟨z1, z2⟩ := z
        have : j = k := by omega
        subst this
        rw [hu] at h
        cases h
        exact hc z2
    · rename_i hn
      refine ⟨h, fun z => ?_⟩
      have : j = k := by omega
      subst this
      rw [hn] at h
      cases h
theorem xLH.st1 {ad : Nat → Nat} {ls : Array Slot} {L L' : xL} {i : Nat} {v : Value} (hs : xst1 L i v = some L') (h : lv_has ls L.length ((i, xsh ad v) :: (xas ad L).filter (fun q => !(q.1 == i) && !(q.1 + 1 == i && q.2.category == 2)))) : xLH ad ls L' := by
  unfold xst1 at hs
  split at hs
  · rename_i hi
    cases hs
    unfold xLH
    have hlen : ((xclr L i).set i (some v)).length = L.length := by simp [xclr_len]
    rw [hlen]
    refine ⟨h.1, h.2.1, fun q hq => ?_⟩
    obtain ⟨j, w⟩ := q
    obtain ⟨u, hu, rfl⟩ := xas_mem.mp hq
    by_cases hij : i = j
    · subst hij
      rw [xld_set_self (by rw [xclr_len]; exact hi)] at hu
      cases hu
      exact h.2.2 _ List.mem_cons_self
    · rw [xld_set_ne hij] at hu
      obtain ⟨h1, h2⟩ := xclr_ld hu
      refine h.2.2 (j, xsh ad u) (List.mem_cons_of_mem _ (List.mem_filter.mpr ⟨xas_mem.mpr ⟨u, h1, rfl⟩, ?_⟩))
      simp only [Bool.and_eq_true, Bool.not_eq_true', beq_eq_false_iff_ne, ne_eq, Bool.and_eq_false_iff]
      refine ⟨fun z => hij z.symm, ?_⟩
      by_cases hj : j + 1 = i
      · right
        rw [xsh_cat]
        exact fun z => h2 ⟨hj, z⟩
      · left
        exact hj
  · cases hs
theorem xLH.st2 {ad : Nat → Nat} {ls : Array Slot} {L L' : xL} {i : Nat} {v : Value} (hs : xst2 L i v = some L') (h : lv_has ls L.length ((i, xsh ad v) :: (xas ad L).filter (fun q => !(q.1 == i) && (!(q.1 == i + 1) && !(q.1 + 1 == i && q.2.category == 2))))) : xLH ad ls L' := by
  unfold xst2 at hs
  split at hs
  · rename_i hi
    cases hs
    unfold xLH
    have hlen : (((xclr L i).set i (some v)).set (i + 1) none).length = L.length := by simp [xclr_len]
    rw [hlen]
    refine ⟨h.1, h.2.1, fun q hq => ?_⟩
    obtain ⟨j, w⟩ := q
    obtain ⟨u, hu, rfl⟩ := xas_mem.mp hq
    by_cases hij1 : i + 1 = j
    · subst hij1
      rw [xld_set_self (by rw [List.length_set, xclr_len]; exact hi)] at hu
      cases hu
    rw [xld_set_ne hij1] at hu
    by_cases hij : i = j
    · subst hij
      rw [xld_set_self (by rw [xclr_len]; omega)] at hu
      cases hu
      exact h.2.2 _ List.mem_cons_self
    · rw [xld_set_ne hij] at hu
      obtain ⟨h1, h2⟩ := xclr_ld hu
      refine h.2.2 (j, xsh ad u) (List.mem_cons_of_mem _ (List.mem_filter.mpr ⟨xas_mem.mpr ⟨u, h1, rfl⟩, ?_⟩))
      simp only [Bool.and_eq_true, Bool.not_eq_true', beq_eq_false_iff_ne, ne_eq, Bool.and_eq_false_iff]
      refine ⟨fun z => hij z.symm, fun z => hij1 z.symm, ?_⟩
      by_cases hj : j + 1 = i
      · right
        rw [xsh_cat]
        exact fun z => h2 ⟨hj, z⟩
      · left
        exact hj
  · cases hs
theorem xst1_lt {L L' : xL} {i : Nat} {v : Value} (hs : xst1 L i v = some L') : i < L.length := by
  unfold xst1 at hs
  split at hs
  · assumption
  · cases hs
theorem xst2_lt {L L' : xL} {i : Nat} {v : Value} (hs : xst2 L i v = some L') : i + 1 < L.length := by
  unfold xst2 at hs
  split at hs
  · assumption
  · cases hs
section XA
variable {p : Program} {l : Launch} {e : Env} {R : Room} {s : State} {m : MethodId} {args : Array Value} {below : List Frame} {meth : Method} {c : Code} {H : Heap} {locs : List Loc} {cells slots : Nat} {Q : State → Prop}
variable {cc : ByteArray} {pc : Nat} {ls : Array Slot} {ad : Nat → Nat}
/-- what a constant's instruction asks of the words -/
def xcon (Ts : List Jvm.Cond) (own : String) (ins : Instr) (r1 : Nat) : Prop := match ins with
  | .ldc i => Jvm.Cond.constant own i (Int32.ofNat r1) ∈ Ts
  | .ldc_w i => Jvm.Cond.constant own i (Int32.ofNat r1) ∈ Ts
  | .ldc2_w i => Jvm.Cond.constantLong own i (Int64.ofNat r1) ∈ Ts
  | _ => True
set_option maxHeartbeats 4000000 in
theorem xop_ok (hexec : p.tables.exec = Jvm.exec) (hb : c.code = cc) {Ts : List Jvm.Cond} {own : String} (hown : s.vm.findClass own = some m.cls) (hts : ∀ w ∈ Ts, w.before args s = true) {ins : Instr} {r1 : Nat} (hd : decode cc pc = .ok (ins, xlen ins)) (hc : xcon Ts own ins r1)
    {st st' : List Value} (h : xop ins r1 st = some st') (k : W p l e R s m args below meth c H locs cells slots Q (F0 m (pc + xlen ins) ls (st'.map (xsh ad)))) : W p l e R s m args below meth c H locs cells slots Q (F0 m pc ls (st.map (xsh ad))) := by
  unfold xop at h
  split at h
  · cases h; exact lv_iconst hexec hb hd rfl k
  · cases h; exact lv_bipush hexec hb hd rfl k
  · cases h; exact lv_sipush hexec hb hd rfl k
  · cases h; exact lv_lconst hexec hb hd rfl k
  · cases h; exact lv_ldc hexec hb hown (hts _ hc) hd k
  · cases h; exact lv_ldcw hexec hb hown (hts _ hc) hd k
  · cases h; exact lv_ldc2 hexec hb hown (hts _ hc) hd k
  · unfold xii at h; split at h <;> cases h; exact lv_iadd hexec hb hd k
  · unfold xii at h; split at h <;> cases h; exact lv_isub hexec hb hd k
  · unfold xii at h; split at h <;> cases h; exact lv_imul hexec hb hd k
  · unfold xii at h; split at h <;> cases h; exact lv_iand hexec hb hd k
  · unfold xii at h; split at h <;> cases h; exact lv_ior hexec hb hd k
  · unfold xii at h; split at h <;> cases h; exact lv_ixor hexec hb hd k
  · unfold xii at h; split at h <;> cases h; exact lv_ishl hexec hb hd k
  · unfold xii at h; split at h <;> cases h; exact lv_ishr hexec hb hd k
  · split at h
    · split at h
      · cases h
      · rename_i hne
        cases h; exact lv_idiv hexec hb hd hne k
    · cases h
  · split at h <;> cases h; exact lv_ineg hexec hb hd k
  · split at h <;> cases h; exact lv_i2l hexec hb hd rfl k
  · split at h <;> cases h; exact lv_l2i hexec hb hd rfl k
  · unfold xjj at h; split at h <;> cases h; exact lv_ladd hexec hb hd k
  · unfold xjj at h; split at h <;> cases h; exact lv_lsub hexec hb hd k
  · unfold xjj at h; split at h <;> cases h; exact lv_lmul hexec hb hd k
  · unfold xjj at h; split at h <;> cases h; exact lv_land hexec hb hd k
  · unfold xjj at h; split at h <;> cases h; exact lv_lor hexec hb hd k
  · unfold xjj at h; split at h <;> cases h; exact lv_lxor hexec hb hd k
  · unfold xji at h; split at h <;> cases h; exact lv_lshl hexec hb hd rfl k
  · unfold xji at h; split at h <;> cases h; exact lv_lshr hexec hb hd rfl k
  · unfold xji at h; split at h <;> cases h; exact lv_lushr hexec hb hd rfl k
  · split at h <;> cases h; exact W.lcmp hexec hb hd k
  · split at h
    · split at h
      · rename_i v r hv
        cases h; exact lv_dup (va := xsh ad v) hexec hb hd (by rw [xsh_cat]; exact hv) k
      · cases h
    · cases h
  · split at h
    · split at h
      · rename_i v w r hv
        cases h; exact lv_dup2_11 (va := xsh ad v) (vb := xsh ad w) hexec hb hd (by rw [xsh_cat]; exact hv.1) (by rw [xsh_cat]; exact hv.2) k
      · cases h
    · cases h
  · cases h
set_option maxHeartbeats 4000000 in
theorem xlo_ok (hexec : p.tables.exec = Jvm.exec) (hb : c.code = cc) {ins : Instr} (hd : decode cc pc = .ok (ins, xlen ins))
    {L L' : xL} {st st' : List Value} (hl : xLH ad ls L) (h : xlo ins L st = some (L', st')) (k : ∀ ls', xLH ad ls' L' → W p l e R s m args below meth c H locs cells slots Q (F0 m (pc + xlen ins) ls' (st'.map (xsh ad)))) : W p l e R s m args below meth c H locs cells slots Q (F0 m pc ls (st.map (xsh ad))) := by
  unfold xlo at h
  split at h
  · split at h
    · rename_i hx
      cases h; exact lv_iload_n hexec hb hd rfl (hl.at hx) (k ls hl)
    · cases h
  · split at h
    · rename_i hx
      cases h; exact lv_iload hexec hb hd (hl.at hx) (k ls hl)
    · cases h
  · split at h
    · rename_i hx
      cases h; exact lv_lload_n hexec hb hd rfl (hl.at hx) (k ls hl)
    · cases h
  · split at h
    · rename_i hx
      cases h; exact lv_lload hexec hb hd (hl.at hx) (k ls hl)
    · cases h
  · split at h
    · rename_i hx
      cases h; exact lv_aload_n hexec hb hd rfl (hl.at hx) (k ls hl)
    · cases h
  · split at h
    · rename_i hx
      cases h; exact lv_aload hexec hb hd (hl.at hx) (k ls hl)
    · cases h
  · split at h
    · obtain ⟨L2, hs, he⟩ := Option.map_eq_some_iff.mp h
      cases he
      exact lv_istore_n hexec hb hd rfl hl (xst1_lt hs) rfl (fun ls' h' => k ls' (xLH.st1 hs h'))
    · cases h
  · split at h
    · obtain ⟨L2, hs, he⟩ := Option.map_eq_some_iff.mp h
      cases he
      exact lv_istore hexec hb hd hl (xst1_lt hs) rfl (fun ls' h' => k ls' (xLH.st1 hs h'))
    · cases h
  · split at h
    · obtain ⟨L2, hs, he⟩ := Option.map_eq_some_iff.mp h
      cases he
      exact lv_astore_n hexec hb hd rfl hl (xst1_lt hs) rfl (fun ls' h' => k ls' (xLH.st1 hs h'))
    · cases h
  · split at h
    · obtain ⟨L2, hs, he⟩ := Option.map_eq_some_iff.mp h
      cases he
      exact lv_astore hexec hb hd hl (xst1_lt hs) rfl (fun ls' h' => k ls' (xLH.st1 hs h'))
    · cases h
  · split at h
    · obtain ⟨L2, hs, he⟩ := Option.map_eq_some_iff.mp h
      cases he
      exact lv_lstore_n hexec hb hd rfl hl (xst2_lt hs) rfl (fun ls' h' => k ls' (xLH.st2 hs h'))
    · cases h
  · split at h
    · obtain ⟨L2, hs, he⟩ := Option.map_eq_some_iff.mp h
      cases he
      exact lv_lstore hexec hb hd hl (xst2_lt hs) rfl (fun ls' h' => k ls' (xLH.st2 hs h'))
    · cases h
  · split at h
    · rename_i x hx
      obtain ⟨L2, hs, he⟩ := Option.map_eq_some_iff.mp h
      cases he
      obtain ⟨kk, hkk⟩ := List.getElem?_of_mem (xas_mem.mpr ⟨_, hx, rfl⟩ : (_, xsh ad (.int x)) ∈ xas ad L)
      exact lv_iinc hexec hb hd hl hkk rfl (xst1_lt hs) rfl (fun ls' h' => k ls' (xLH.st1 hs h'))
    · cases h
  · cases h
/-- where a branch goes, and how long it is -/
def xbrk (ins : Instr) (r1 pc : Nat) : Prop := match ins with
  | .goto off => (pc : Int) + off = (r1 : Int)
  | .if_icmp _ off => (pc : Int) + off = (r1 : Int)
  | .ifCond _ off => (pc : Int) + off = (r1 : Int)
  | _ => True
set_option maxHeartbeats 4000000 in
theorem xbr_ok (hexec : p.tables.exec = Jvm.exec) (hb : c.code = cc) {ins : Instr} {len r1 : Nat} (hd : decode cc pc = .ok (ins, len)) (hlen : (∃ a b d o, ins = .tableswitch a b d o) ∨ len = xlen ins) (hk : xbrk ins r1 pc)
    {st st' : List Value} {pc' : Nat} (h : xbr ins r1 pc st = some (pc', st')) (k : W p l e R s m args below meth c H locs cells slots Q (F0 m pc' ls (st'.map (xsh ad)))) : W p l e R s m args below meth c H locs cells slots Q (F0 m pc ls (st.map (xsh ad))) := by
  unfold xbr at h
  split at h
  · obtain ⟨_, _, _, _, hq⟩ | rfl := hlen
    · cases hq
    · cases h; exact lv_goto hexec hb hd hk k
  · rename_i cd off
    obtain ⟨_, _, _, _, hq⟩ | rfl := hlen
    · cases hq
    split at h
    · cases h
      cases cd
      · refine lv_icmp_eq hexec hb hd hk (fun hz => ?_) (fun hz => ?_) <;> simpa [xcmp, hz] using k
      · refine lv_icmp_ne hexec hb hd hk (fun hz => ?_) (fun hz => ?_) <;> simpa [xcmp, hz] using k
      · refine lv_icmp_lt hexec hb hd hk (fun hz => by simpa only [xcmp, decide_eq_true_eq, if_pos hz] using k) (fun hz => by simpa only [xcmp, decide_eq_true_eq, if_neg hz] using k)
      · refine lv_icmp_ge hexec hb hd hk (fun hz => by simpa only [xcmp, decide_eq_true_eq, if_pos hz] using k) (fun hz => by simpa only [xcmp, decide_eq_true_eq, if_neg hz] using k)
      · refine lv_icmp_gt hexec hb hd hk (fun hz => by simpa only [xcmp, decide_eq_true_eq, if_pos hz] using k) (fun hz => by simpa only [xcmp, decide_eq_true_eq, if_neg hz] using k)
      · refine lv_icmp_le hexec hb hd hk (fun hz => by simpa only [xcmp, decide_eq_true_eq, if_pos hz] using k) (fun hz => by simpa only [xcmp, decide_eq_true_eq, if_neg hz] using k)
    · cases h
  · rename_i cd off
    obtain ⟨_, _, _, _, hq⟩ | rfl := hlen
    · cases hq
    split at h
    · cases h
      cases cd
      · refine lv_if_eq hexec hb hd hk (fun hz => ?_) (fun hz => ?_) <;> simpa [xcmp, hz] using k
      · refine lv_if_ne hexec hb hd hk (fun hz => ?_) (fun hz => ?_) <;> simpa [xcmp, hz] using k
      · refine lv_if_lt hexec hb hd hk (fun hz => by simpa only [xcmp, decide_eq_true_eq, if_pos hz] using k) (fun hz => by simpa only [xcmp, decide_eq_true_eq, if_neg hz] using k)
      · refine lv_if_ge hexec hb hd hk (fun hz => by simpa only [xcmp, decide_eq_true_eq, if_pos hz] using k) (fun hz => by simpa only [xcmp, decide_eq_true_eq, if_neg hz] using k)
      · refine lv_if_gt hexec hb hd hk (fun hz => by simpa only [xcmp, decide_eq_true_eq, if_pos hz] using k) (fun hz => by simpa only [xcmp, decide_eq_true_eq, if_neg hz] using k)
      · refine lv_if_le hexec hb hd hk (fun hz => by simpa only [xcmp, decide_eq_true_eq, if_pos hz] using k) (fun hz => by simpa only [xcmp, decide_eq_true_eq, if_neg hz] using k)
    · cases h
  · rename_i dflt lo hi offs
    split at h
    · rename_i x r
      obtain ⟨o, ho, h2⟩ := Option.bind_eq_some_iff.mp h
      split at h2
      · rename_i t ht
        cases h2
        by_cases hr : x.toInt < lo ∨ hi < x.toInt
        · rw [if_pos hr] at ho
          cases ho
          exact lv_tableOut hexec hb hd hr ht k
        · rw [if_neg hr] at ho
          rw [not_or] at hr
          exact lv_tableIn hexec hb hd hr.1 hr.2 ho ht k
      · cases h2
    · cases h
  · cases h
end XA
end
section
/-! THE LIGHT MACHINE'S HEAP -/
def xv (h : xS) (a k : Nat) : Value := if xft (h.1 a).1 k = 1 then .long (h.2.2.2.1 a k) else if xft (h.1 a).1 k = 3 then va_rf (h.2.2.2.2 a k) else .int (h.2.2.1 a k)
def xpf (h : xS) (a k : Nat) (v : Value) : Option xS := match v with
  | .int x => if xft (h.1 a).1 k = 0 ∨ (xft (h.1 a).1 k = 2 ∧ (x = 0 ∨ x = 1)) then some (h.1, h.2.1, xup h.2.2.1 a k x, h.2.2.2) else none
  | .long x => if xft (h.1 a).1 k = 1 then some (h.1, h.2.1, h.2.2.1, xup h.2.2.2.1 a k x, h.2.2.2.2) else none
  | .ref b => if xft (h.1 a).1 k = 3 then some (h.1, h.2.1, h.2.2.1, h.2.2.2.1, xup h.2.2.2.2 a k (some b)) else none
  | _ => none
/-- fields and arrays: r1 is the class's kind (or the cell of a static array), r2 the field -/
def xhp (ins : Instr) (r1 r2 : Nat) (st : List Value) (h : xS) : Option (List Value × xS) := match ins with
  | .getfield _ => match st with
    | .ref a :: r => if xsub r1 (h.1 a).1 = true then some (xv h a r2 :: r, h) else none
    | _ => none
  | .putfield _ => match st with
    | v :: .ref a :: r => if xsub r1 (h.1 a).1 = true then (xpf h a r2 v).map (fun h' => (r, h')) else none
    | _ => none
  | .getstatic _ => some (.ref r1 :: st, h)
  | .iaload => match st with
    | .int i :: .ref a :: r => if ((h.1 a).1 = 100 ∨ (h.1 a).1 = 103) ∧ ¬ (i < 0 ∨ (h.1 a).2 ≤ i.toNatClampNeg) then some (.int (h.2.2.1 a i.toNatClampNeg) :: r, h) else none
    | _ => none
  | .baload => match st with
    | .int i :: .ref a :: r => if (h.1 a).1 = 102 ∧ ¬ (i < 0 ∨ (h.1 a).2 ≤ i.toNatClampNeg) then some (.int (h.2.2.1 a i.toNatClampNeg) :: r, h) else none
    | _ => none
  | .laload => match st with
    | .int i :: .ref a :: r => if (h.1 a).1 = 101 ∧ ¬ (i < 0 ∨ (h.1 a).2 ≤ i.toNatClampNeg) then some (.long (h.2.2.2.1 a i.toNatClampNeg) :: r, h) else none
    | _ => none
  | .iastore => match st with
    | .int x :: .int i :: .ref a :: r => if (h.1 a).1 = 100 ∧ ¬ (i < 0 ∨ (h.1 a).2 ≤ i.toNatClampNeg) then some (r, (h.1, h.2.1, xup h.2.2.1 a i.toNatClampNeg x, h.2.2.2)) else none
    | _ => none
  | .bastore => match st with
    | .int x :: .int i :: .ref a :: r => if ((h.1 a).1 = 102 ∧ (x = 0 ∨ x = 1)) ∧ ¬ (i < 0 ∨ (h.1 a).2 ≤ i.toNatClampNeg) then some (r, (h.1, h.2.1, xup h.2.2.1 a i.toNatClampNeg x, h.2.2.2)) else none
    | _ => none
  | .lastore => match st with
    | .long x :: .int i :: .ref a :: r => if (h.1 a).1 = 101 ∧ ¬ (i < 0 ∨ (h.1 a).2 ≤ i.toNatClampNeg) then some (r, (h.1, h.2.1, h.2.2.1, xup h.2.2.2.1 a i.toNatClampNeg x, h.2.2.2.2)) else none
    | _ => none
  | .arraylength => match st with
    | .ref a :: r => if (h.1 a).1 = 100 ∨ (h.1 a).1 = 103 ∨ (h.1 a).1 = 101 then some (.int (Int32.ofNat (h.1 a).2) :: r, h) else none
    | _ => none
  | _ => none
/-- cells that are made: the next of the plan -/
def xal (ins : Instr) (r1 : Nat) (st : List Value) (h : xS) : Option (List Value × xS × Nat) := match ins with
  | .newarray t => match st, h.2.1.1 with
    | .int n :: r, a :: pl => if (h.1 a).1 = 0 ∧ ¬ n < 0 ∧ n.toNatClampNeg ≤ 1000000 then match t with
        | .int => some (.ref a :: r, (va_up h.1 a (100, n.toNatClampNeg), (pl, h.2.1.2.1 + 1, h.2.1.2.2 + n.toNatClampNeg), va_up h.2.2.1 a (fun _ => 0), h.2.2.2), n.toNatClampNeg)
        | .long => some (.ref a :: r, (va_up h.1 a (101, n.toNatClampNeg), (pl, h.2.1.2.1 + 1, h.2.1.2.2 + n.toNatClampNeg), h.2.2.1, va_up h.2.2.2.1 a (fun _ => 0), h.2.2.2.2), n.toNatClampNeg)
        | .boolean => some (.ref a :: r, (va_up h.1 a (102, n.toNatClampNeg), (pl, h.2.1.2.1 + 1, h.2.1.2.2 + n.toNatClampNeg), va_up h.2.2.1 a (fun _ => 0), h.2.2.2), n.toNatClampNeg)
        | _ => none
      else none
    | _, _ => none
  | .new _ => match h.2.1.1 with
    | a :: pl => if (h.1 a).1 = 0 ∧ r1 ≠ 0 ∧ r1 < 100 then match xCl[r1 - 1]? with
        | some q => some (.ref a :: st, (va_up h.1 a (r1, q.2.2), (pl, h.2.1.2.1 + 1, h.2.1.2.2 + q.2.2), va_up h.2.2.1 a (fun _ => 0), va_up h.2.2.2.1 a (fun _ => 0), va_up h.2.2.2.2 a (fun _ => none)), q.2.2)
        | none => none
      else none
    | _ => none
  | _ => none
def xown (h : xS) (a : Nat) : Prop := (h.1 a).1 ≠ 0 ∧ (h.1 a).1 ≠ 103
def xcell (D : va_G) (dA : Nat → ClassId) (ad : Nat → Nat) (h : xS) (a : Nat) (H : Heap) : Prop :=
  ((h.1 a).1 = 100 → H[ad a]? = some (arrV (dA 100) (h.1 a).2 (fun j => .int (h.2.2.1 a j)))) ∧
  ((h.1 a).1 = 101 → H[ad a]? = some (arrV (dA 101) (h.1 a).2 (fun j => .long (h.2.2.2.1 a j)))) ∧
  ((h.1 a).1 = 102 → H[ad a]? = some (arrV (dA 102) (h.1 a).2 (fun j => .int (h.2.2.1 a j)))) ∧
  ∀ q, (h.1 a).1 ≠ 0 → xCl[(h.1 a).1 - 1]? = some q → t_OB (ad a) (D.1 ((h.1 a).1 - 1)) q.2.2 (D.2 ((h.1 a).1 - 1)) H (fun k => xsh ad (xv h a k))
def xHO (D : va_G) (dA : Nat → ClassId) (ad : Nat → Nat) (base : Nat) (xe : Nat → Option (Nat × (Nat → Int32))) (h : xS) (H : Heap) : Prop :=
  (∀ a, xown h a → xcell D dA ad h a H ∧ base ≤ ad a ∧ ad a < H.size) ∧
  (∀ a b, xown h a → xown h b → ad a = ad b → a = b) ∧
  (∀ a, (h.1 a).1 = 103 → ∃ n f, xe a = some (n, f) ∧ h.1 a = (103, n) ∧ h.2.2.1 a = f) ∧
  ∀ (j a : Nat), h.2.1.1[j]? = some a → ad a = H.size + j
theorem xcell.congr {D : va_G} {dA : Nat → ClassId} {ad : Nat → Nat} {h h1 : xS} {a : Nat} {H H1 : Heap} (c : xcell D dA ad h a H) (eK : h1.1 a = h.1 a) (eI : h1.2.2.1 a = h.2.2.1 a) (eJ : h1.2.2.2.1 a = h.2.2.2.1 a) (eR : h1.2.2.2.2 a = h.2.2.2.2 a) (eH : H1[ad a]? = H[ad a]?) : xcell D dA ad h1 a H1 := by
  unfold xcell at c ⊢
  have ev : (fun k => xsh ad (xv h1 a k)) = fun k => xsh ad (xv h a k) := by
    funext k
    unfold xv
    rw [eK, eI, eJ, eR]
  rw [eK, eI, eJ, eH, ev]
  exact ⟨c.1, c.2.1, c.2.2.1, fun q h0 hq => (c.2.2.2 q h0 hq).kept eH⟩
/-- one cell changes -/
theorem xHO.put {D : va_G} {dA : Nat → ClassId} {ad : Nat → Nat} {base : Nat} {xe : Nat → Option (Nat × (Nat → Int32))} {h h1 : xS} {H H1 : Heap} (o : xHO D dA ad base xe h H) {a : Nat} (ha : xown h a) (eK : h1.1 = h.1) (eP : h1.2.1 = h.2.1) (eO : ∀ b, b ≠ a → h1.2.2.1 b = h.2.2.1 b ∧ h1.2.2.2.1 b = h.2.2.2.1 b ∧ h1.2.2.2.2 b = h.2.2.2.2 b)
    (z : H1.size = H.size) (oq : ∀ q : Nat, q ≠ ad a → H1[q]? = H[q]?) (hc : xcell D dA ad h1 a H1) : xHO D dA ad base xe h1 H1 := by
  obtain ⟨o1, o2, o3, o4⟩ := o
  refine ⟨fun b hb => ?_, fun b d hb hd => ?_, fun b hb => ?_, fun j b hj => ?_⟩
  · have hb' : xown h b := by unfold xown at hb ⊢; rw [← eK]; exact hb
    obtain ⟨c1, c2, c3⟩ := o1 b hb'
    refine ⟨?_, c2, by rw [z]; exact c3⟩
    by_cases hba : b = a
    · subst hba; exact hc
    · obtain ⟨e1, e2, e3⟩ := eO b hba
      exact c1.congr (by rw [eK]) e1 e2 e3 (oq _ (fun hz => hba (o2 b a hb' ha hz)))
  · unfold xown at hb hd
    rw [eK] at hb hd
    exact o2 b d hb hd
  · rw [eK] at hb ⊢
    obtain ⟨n, f, f1, f2, f3⟩ := o3 b hb
    refine ⟨n, f, f1, f2, ?_⟩
    rw [(eO b (fun hz => ha.2 (by rw [← hz]; exact hb))).1]
    exact f3
  · rw [eP] at hj
    rw [z]
    exact o4 j b hj
theorem xup_ne {α : Type} (f : Nat → Nat → α) {a b : Nat} (k : Nat) (v : α) (h : b ≠ a) : xup f a k v b = f b := va_up_ne _ _ h
theorem xup_at {α : Type} (f : Nat → Nat → α) (a k : Nat) (v : α) (j : Nat) : xup f a k v a j = if j = k then v else f a j := by unfold xup; rw [va_up_self]; rfl
/-- what a field's instruction asks of the words -/
def xGF (own : String) (idx k j : Nat) : Prop := ∃ q : vw_C, k ≠ 0 ∧ k < 100 ∧ xCl[k - 1]? = some q ∧ j < q.2.2 ∧ ∃ ref : String, Jvm.Cond.fieldLink own idx ref (q.2.1 j).2.1 (q.2.1 j).2.2.1 ∈ xG ∧ (ref = (q.2.1 j).1 ∨ Jvm.Cond.sameField ref (q.2.1 j).1 (q.2.1 j).2.1 (q.2.1 j).2.2.1 ∈ xG)
def xPF (own : String) (ini : Bool) (k j : Nat) : Prop := ∀ q : vw_C, xCl[k - 1]? = some q → (q.2.1 j).2.2.2 = false ∨ ((q.2.1 j).2.2.2 = true ∧ ini = true ∧ (q.2.1 j).1 = own)
/-- a static array: its field, and the cell that it is -/
def xST (own : String) (idx k : Nat) (D : Nat → Option (String × String × String)) : Prop := ∃ C n d, D k = some (C, n, d) ∧ Jvm.Cond.fieldLink own idx C n d ∈ xG
def xhw (sd : Nat → Option (String × String × String)) (own : String) (ini : Bool) (ins : Instr) (r1 r2 : Nat) : Prop := match ins with
  | .getfield i => ∀ k, xsub r1 k = true → xGF own i k r2
  | .putfield i => ∀ k, xsub r1 k = true → xGF own i k r2 ∧ xPF own ini k r2
  | .getstatic i => xST own i r1 sd
  | _ => True
abbrev xtys (dA : Nat → ClassId) : List (ClassId × FieldType) := [(dA 100, .int), (dA 101, .long), (dA 102, .boolean)]
/-- what stays true of the tables and of what the run doesn't own -/
def xKK (D : va_G) (dA : Nat → ClassId) (ad : Nat → Nat) (base : Nat) (xe : Nat → Option (Nat × (Nat → Int32))) (sd : Nat → Option (String × String × String)) (s : State) : Prop :=
  va_K D xCl (xtys dA) s ∧ (∀ a n f, xe a = some (n, f) → va_T .int (ad a) n (fun j => .int (f j)) (fun q => base ≤ q) s s.heap) ∧ ∀ k C n d, sd k = some (C, n, d) → va_Z C n d (.ref (ad k)) (fun q => base ≤ q) s s.heap
section XH
variable {p : Program} {l : Launch} {e : Env} {R : Room} {s : State} {m : MethodId} {args : Array Value} {below : List Frame} {meth : Method} {c : Code} {H : Heap} {locs : List Loc} {cells slots : Nat} {Q : State → Prop}
variable {cc : ByteArray} {pc nL : Nat} {ls : Array Slot} {ad : Nat → Nat} {D : va_G} {dA : Nat → ClassId} {base : Nat} {xe : Nat → Option (Nat × (Nat → Int32))} {sd : Nat → Option (String × String × String)} {own : String}
theorem xsh_rf (ad : Nat → Nat) (o : Option Nat) : xsh ad (va_rf o) = va_rf (o.map ad) := by cases o <;> rfl
theorem xgf_ok (S : CallFix p m c cc nL s args xG own) (hK : va_K D xCl (xtys dA) s) {h : xS} (hH : xHO D dA ad base xe h H) {a k idx : Nat} (hw : xGF own idx (h.1 a).1 k) (hd : decode cc pc = .ok (.getfield idx, 3)) {rest : List Value}
    (kk : W p l e R s m args below meth c H locs cells slots Q (F0 m (pc + 3) ls (xsh ad (xv h a k) :: rest))) : W p l e R s m args below meth c H locs cells slots Q (F0 m pc ls (.ref (ad a) :: rest)) := by
  obtain ⟨hexec, hb, -, hown, hts⟩ := S
  obtain ⟨q, hk0, hk1, hq, hj, ref, hl, hs⟩ := hw
  obtain ⟨hin, -, -, -, -, -⟩ := xknow _ q hq
  obtain ⟨⟨-, -, -, co⟩, -, -⟩ := hH.1 a ⟨hk0, by omega⟩
  obtain ⟨cell, q1, q2, q3, q4⟩ := co q hk0 hq
  obtain ⟨hS, hfc, kC, hkC, hkind⟩ := hK.1 _ q hq
  obtain ⟨cf, kf, fi, f, hi, hsl⟩ := hS k hj
  have hsame : ∀ x, s.fieldFound? (q.2.1 k).1 (q.2.1 k).2.1 (q.2.1 k).2.2.1 = some x → s.fieldFound? ref (q.2.1 k).2.1 (q.2.1 k).2.2.1 = some x := by
    rcases hs with hs | hs
    · subst hs; exact fun x hx => hx
    · exact u_same (hts _ hs)
  refine W.getf hexec hb hown (hts _ hl) (hsame _ hi) (u_facts hfc hkC (u_lays hts hin hj) hi).1 q1 (by rw [q3]; exact fun h => by cases h) (v := xsh ad (xv h a k)) ?_ rfl rfl hd kk
  rw [hsl, q4 k hj]
theorem xok_fit {f : FieldType} {n : Nat} (h : xok f n = true) {v : Value} (hv : (n = 0 ∧ ∃ x, v = .int x) ∨ (n = 2 ∧ ∃ x : Int32, v = .int x ∧ (x = 0 ∨ x = 1)) ∨ (n = 1 ∧ ∃ x, v = .long x) ∨ (n = 3 ∧ ∃ x, v = .ref x)) : narrow f v = v ∧ fits f v = true := by
  rcases hv with ⟨rfl, x, rfl⟩ | ⟨rfl, x, rfl, hx⟩ | ⟨rfl, x, rfl⟩ | ⟨rfl, x, rfl⟩
  · cases f <;> simp [xok] at h
    exact ⟨rfl, rfl⟩
  · cases f <;> simp [xok] at h
    rcases hx with rfl | rfl <;> exact ⟨by decide, by decide⟩
  · cases f <;> simp [xok] at h
    exact ⟨rfl, rfl⟩
  · cases f <;> simp [xok] at h
    · exact ⟨rfl, rfl⟩
    · exact ⟨rfl, rfl⟩
theorem xpf_ok (S : CallFix p m c cc nL s args xG own) (hK : va_K D xCl (xtys dA) s) {h h1 : xS} (hH : xHO D dA ad base xe h H) (hS0 : va_S (fun q => base ≤ q) s.heap H locs) {a k idx : Nat} {ini : Bool} (hw : xGF own idx (h.1 a).1 k ∧ xPF own ini (h.1 a).1 k) (hini : ini = true → meth.name = "<init>") (hd : decode cc pc = .ok (.putfield idx, 3)) {v : Value} {rest : List Value} (hx : xpf h a k v = some h1)
    (kk : ∀ H1 locs1, xHO D dA ad base xe h1 H1 → va_S (fun q => base ≤ q) s.heap H1 locs1 → W p l e R s m args below meth c H1 locs1 cells slots Q (F0 m (pc + 3) ls rest)) : W p l e R s m args below meth c H locs cells slots Q (F0 m pc ls (xsh ad v :: .ref (ad a) :: rest)) := by
  obtain ⟨hexec, hb, -, hown, hts⟩ := S
  obtain ⟨⟨q, hk0, hk1, hq, hj, ref, hl, hs⟩, hfin⟩ := hw
  obtain ⟨hin, -, hnm, ty, hty, hok⟩ := xknow _ q hq
  have hoa : xown h a := ⟨hk0, by omega⟩
  obtain ⟨⟨c1, c2, c3, co⟩, hba, -⟩ := hH.1 a hoa
  obtain ⟨cell, q1, q2, q3, q4⟩ := co q hk0 hq
  have hap := va_apart (own := own) hts hin ty hty hnm hK hq
  obtain ⟨hS, hfc, kC, hkC, hkind⟩ := hK.1 _ q hq
  obtain ⟨cf, kf, fi, f, hi, hsl⟩ := hS k hj
  have hsame : ∀ x, s.fieldFound? (q.2.1 k).1 (q.2.1 k).2.1 (q.2.1 k).2.2.1 = some x → s.fieldFound? ref (q.2.1 k).2.1 (q.2.1 k).2.2.1 = some x := by
    rcases hs with hs | hs
    · subst hs; exact fun x hx => hx
    · exact u_same (hts _ hs)
  have hokk := hok k hj
  rw [show (h.1 a).1 - 1 + 1 = (h.1 a).1 by omega] at hokk
  -- the value fits, the new picture is the old one with the value at k
  have key : (narrow (ty k) (xsh ad v) = xsh ad v ∧ fits (ty k) (xsh ad v) = true) ∧ h1.1 = h.1 ∧ h1.2.1 = h.2.1 ∧ (∀ b, b ≠ a → h1.2.2.1 b = h.2.2.1 b ∧ h1.2.2.2.1 b = h.2.2.2.1 b ∧ h1.2.2.2.2 b = h.2.2.2.2 b) ∧ ∀ j, updV (fun k => xsh ad (xv h a k)) k (xsh ad v) j = xsh ad (xv h1 a j) := by
    unfold xpf at hx
    split at hx
    · rename_i x
      split at hx
      · rename_i hc
        cases hx
        refine ⟨xok_fit hokk ?_, rfl, rfl, fun b hb => ⟨xup_ne _ _ _ hb, rfl, rfl⟩, fun j => ?_⟩
        · rcases hc with hc | ⟨hc, hc2⟩
          · exact Or.inl ⟨hc, x, rfl⟩
          · exact Or.inr (Or.inl ⟨hc, x, rfl, hc2⟩)
        · unfold updV xv
          by_cases hjk : j = k
          · subst hjk
            have h1 : xft (h.1 a).1 j ≠ 1 := by rcases hc with hc | ⟨hc, -⟩ <;> omega
            have h3 : xft (h.1 a).1 j ≠ 3 := by rcases hc with hc | ⟨hc, -⟩ <;> omega
            simp [h1, h3, xup_at]
          · simp [hjk, xup_at]
      · cases hx
    · rename_i x
      split at hx
      · rename_i hc
        cases hx
        refine ⟨xok_fit hokk (Or.inr (Or.inr (Or.inl ⟨hc, x, rfl⟩))), rfl, rfl, fun b hb => ⟨rfl, xup_ne _ _ _ hb, rfl⟩, fun j => ?_⟩
        unfold updV xv
        by_cases hjk : j = k
        · subst hjk
          simp [hc, xup_at]
        · simp [hjk, xup_at]
      · cases hx
    · rename_i x
      split at hx
      · rename_i hc
        cases hx
        refine ⟨xok_fit hokk (Or.inr (Or.inr (Or.inr ⟨hc, ad x, rfl⟩))), rfl, rfl, fun b hb => ⟨rfl, rfl, xup_ne _ _ _ hb⟩, fun j => ?_⟩
        unfold updV xv
        by_cases hjk : j = k
        · subst hjk
          simp [hc, xup_at]
          rfl
        · simp [hjk, xup_at]
      · cases hx
    · cases hx
  obtain ⟨⟨hn, hf⟩, eK, eP, eO, eV⟩ := key
  have fin : ∀ H1 : Heap, H1[ad a]? = some (cell.setSlot (D.2 ((h.1 a).1 - 1) k) (xsh ad v)) → H1.size = H.size → (∀ z : Nat, z ≠ ad a → H1[z]? = H[z]?) → W p l e R s m args below meth c H1 (locs ++ [⟨ad a, D.2 ((h.1 a).1 - 1) k⟩]) cells slots Q (F0 m (pc + 3) ls rest) := by
    intro H1 e1 e2 e3
    refine kk H1 _ (hH.put hoa eK eP eO e2 e3 ?_) (hS0.put e2 e3 hba)
    refine ⟨fun hz => ?_, fun hz => ?_, fun hz => ?_, fun r hr0 hr => ?_⟩
    · rw [eK] at hz; omega
    · rw [eK] at hz; omega
    · rw [eK] at hz; omega
    · rw [eK] at hr hr0 ⊢
      cases hq.symm.trans hr
      exact t_OB.to (V := updV (fun k => xsh ad (xv h a k)) k (xsh ad v)) ⟨_, e1, q2, q3, t_set q4 hap hj _⟩ (fun j _ => eV j)
  have hst := (u_facts hfc hkC (u_lays hts hin hj) hi).1
  have hlay := hts _ (hin _ (u_in_lay hj))
  unfold u_lay at hlay
  rcases hfin q hq with hfa | ⟨hfa, hi1, hdecl⟩
  · rw [if_neg (by rw [hfa]; decide)] at hlay
    have h6 := u_store hfc hkC hkind hlay hi (hty k hj) hn hf
    refine W.putK hexec hb (f := f) ⟨hown, hts _ hl, ⟨_, _, _, hsame _ hi⟩, hst⟩ (by rw [q2]; exact h6) q1 q3 (by rw [hsl]; exact k2_hasslot (q4 k hj)) rfl rfl hd fun H' e1 e2 e3 => ?_
    rw [hsl] at e1 ⊢
    exact fin H' e1 e2 e3
  · rw [if_pos hfa] at hlay
    have hcf : m.cls = cf := by
      obtain ⟨_, _, c', _, _, _, -, -, hf', -, -, -, hown2, -⟩ := Cond.laysFinal_spec hlay
      have e1 : c' = cf := by have := hi.symm.trans hf'; simp at this; exact this.1.symm
      rw [hdecl] at hown2
      rw [← e1]; exact Option.some.inj (hown.symm.trans hown2)
    have h6 := u_fits hfc hkC hkind (Or.inr hlay) hi (hty k hj) hn hf
    refine W.putFinK hexec hb hown (hts _ hl) (hsame _ hi) hst hcf (hini hi1) (by rw [q2]; exact h6) q1 q3 (by rw [hsl]; exact k2_hasslot (q4 k hj)) rfl rfl hd fun H' e1 e2 e3 => ?_
    rw [hsl] at e1 ⊢
    exact fin H' e1 e2 e3
end XH
end
section
/-! THE LIGHT MACHINE'S HEAP, instruction by instruction -/
section XH2
variable {p : Program} {l : Launch} {e : Env} {R : Room} {s : State} {m : MethodId} {args : Array Value} {below : List Frame} {meth : Method} {c : Code} {H : Heap} {locs : List Loc} {cells slots : Nat} {Q : State → Prop}
variable {cc : ByteArray} {pc nL : Nat} {ls : Array Slot} {ad : Nat → Nat} {D : va_G} {dA : Nat → ClassId} {base : Nat} {xe : Nat → Option (Nat × (Nat → Int32))} {sd : Nat → Option (String × String × String)} {own : String}
theorem xarr_I {cA : ClassId} {n k : Nat} {x : Int32} (I : Nat → Nat → Int32) (a : Nat) : (arrV cA n (fun j => .int (I a j))).setSlot k (.int x) = arrV cA n (fun j => .int (xup I a k x a j)) := by
  rw [arrV_store]
  congr 1
  funext j
  rw [xup_at]
  unfold updV
  split <;> rfl
theorem xarr_J {cA : ClassId} {n k : Nat} {x : Int64} (J : Nat → Nat → Int64) (a : Nat) : (arrV cA n (fun j => .long (J a j))).setSlot k (.long x) = arrV cA n (fun j => .long (xup J a k x a j)) := by
  rw [arrV_store]
  congr 1
  funext j
  rw [xup_at]
  unfold updV
  split <;> rfl
set_option maxHeartbeats 4000000 in
theorem xhp_ok (S : CallFix p m c cc nL s args xG own) (hKK : xKK D dA ad base xe sd s) {h h1 : xS} (hH : xHO D dA ad base xe h H) (hS0 : va_S (fun q => base ≤ q) s.heap H locs) {ini : Bool} (hini : ini = true → meth.name = "<init>") {ins : Instr} {r1 r2 : Nat} (hd : decode cc pc = .ok (ins, xlen ins)) (hw : xhw sd own ini ins r1 r2) {st st' : List Value} (hx : xhp ins r1 r2 st h = some (st', h1))
    (kk : ∀ H1 locs1, xHO D dA ad base xe h1 H1 → va_S (fun q => base ≤ q) s.heap H1 locs1 → W p l e R s m args below meth c H1 locs1 cells slots Q (F0 m (pc + xlen ins) ls (st'.map (xsh ad)))) : W p l e R s m args below meth c H locs cells slots Q (F0 m pc ls (st.map (xsh ad))) := by
  obtain ⟨hK, hE, hZ⟩ := hKK
  have S0 := S
  obtain ⟨hexec, hb, -, hown, hts⟩ := S
  unfold xhp at hx
  split at hx
  · split at hx
    · split at hx
      · rename_i hs
        cases hx
        exact xgf_ok S0 hK hH (hw _ hs) hd (kk _ _ hH hS0)
      · cases hx
    · cases hx
  · split at hx
    · split at hx
      · rename_i hs
        obtain ⟨h2, hp, he⟩ := Option.map_eq_some_iff.mp hx
        cases he
        exact xpf_ok S0 hK hH hS0 (hw _ hs) hini hd hp kk
      · cases hx
    · cases hx
  · cases hx
    obtain ⟨C, n, d, h1, h2⟩ := hw
    exact va_gets hexec hb (hZ _ _ _ _ h1) hS0 hown (hts _ h2) (fun x hx => hx) hd (kk _ _ hH hS0)
  · split at hx
    · rename_i i a r
      split at hx
      · rename_i hc
        obtain ⟨hc, hin⟩ := hc
        cases hx
        have hlt : i.toNatClampNeg < (h.1 a).2 := Nat.not_le.mp fun q => hin (Or.inr q)
        rcases hc with hc | hc
        · obtain ⟨⟨c1, -⟩, -, -⟩ := hH.1 a ⟨by omega, by omega⟩
          exact W.iald (v := .int (h.2.2.1 a i.toNatClampNeg)) hexec hb (c1 hc) ((hK.2 0 _ rfl).1 _ (fun j => .int (h.2.2.1 a j))) (fun q => by cases q) (by rw [arrV_size]; exact hin) (by rw [arrV_read _ _ hlt]) rfl rfl hd (kk _ _ hH hS0)
        · obtain ⟨n, f, f1, f2, f3⟩ := hH.2.2.1 a hc
          rw [f2] at hin
          exact va_ti hexec hb (hE a n f f1) hS0 hin rfl hd (by have := kk _ _ hH hS0; rw [f3] at this; exact this)
      · cases hx
    · cases hx
  · split at hx
    · rename_i i a r
      split at hx
      · rename_i hc
        obtain ⟨hc, hin⟩ := hc
        cases hx
        have hlt : i.toNatClampNeg < (h.1 a).2 := Nat.not_le.mp fun q => hin (Or.inr q)
        obtain ⟨⟨-, -, c1, -⟩, -, -⟩ := hH.1 a ⟨by omega, by omega⟩
        exact W.zald (v := .int (h.2.2.1 a i.toNatClampNeg)) hexec hb (c1 hc) ((hK.2 2 _ rfl).1 _ (fun j => .int (h.2.2.1 a j))) (fun q => by cases q) (by rw [arrV_size]; exact hin) (by rw [arrV_read _ _ hlt]) rfl rfl hd (kk _ _ hH hS0)
      · cases hx
    · cases hx
  · split at hx
    · rename_i i a r
      split at hx
      · rename_i hc
        obtain ⟨hc, hin⟩ := hc
        cases hx
        have hlt : i.toNatClampNeg < (h.1 a).2 := Nat.not_le.mp fun q => hin (Or.inr q)
        obtain ⟨⟨-, c1, -⟩, -, -⟩ := hH.1 a ⟨by omega, by omega⟩
        exact W.lald (v := .long (h.2.2.2.1 a i.toNatClampNeg)) hexec hb (c1 hc) ((hK.2 1 _ rfl).1 _ (fun j => .long (h.2.2.2.1 a j))) (fun q => by cases q) (by rw [arrV_size]; exact hin) (by rw [arrV_read _ _ hlt]) rfl rfl hd (kk _ _ hH hS0)
      · cases hx
    · cases hx
  · split at hx
    · rename_i x i a r
      split at hx
      · rename_i hc
        obtain ⟨hc, hin⟩ := hc
        cases hx
        have hoa : xown h a := ⟨by omega, by omega⟩
        obtain ⟨⟨c1, -⟩, hba, -⟩ := hH.1 a hoa
        refine W.iast hexec hb (c1 hc) ((hK.2 0 _ rfl).1 _ (fun j => .int (h.2.2.1 a j))) (fun q => by cases q) (by rw [arrV_size]; exact hin) rfl rfl hd fun H1 e1 z oq => ?_
        refine kk H1 _ (hH.put hoa rfl rfl (fun b hb => ⟨xup_ne _ _ _ hb, rfl, rfl⟩) z oq ⟨fun _ => ?_, fun hz => ?_, fun hz => ?_, fun q h0 hq => ?_⟩) (hS0.put z oq hba)
        · rw [e1, xarr_I]
        · exact absurd (hc.symm.trans hz) (by decide)
        · exact absurd (hc.symm.trans hz) (by decide)
        · rw [hc] at hq; simp [xCl] at hq
      · cases hx
    · cases hx
  · split at hx
    · rename_i x i a r
      split at hx
      · rename_i hc
        obtain ⟨⟨hc, hx01⟩, hin⟩ := hc
        cases hx
        have hoa : xown h a := ⟨by omega, by omega⟩
        obtain ⟨⟨-, -, c1, -⟩, hba, -⟩ := hH.1 a hoa
        refine W.zast hexec hb (c1 hc) ((hK.2 2 _ rfl).1 _ (fun j => .int (h.2.2.1 a j))) (fun q => by cases q) (by rw [arrV_size]; exact hin) rfl rfl hd fun H1 e1 z oq => ?_
        have hnar : narrow .boolean (.int x) = .int x := by rcases hx01 with rfl | rfl <;> decide
        rw [hnar] at e1
        refine kk H1 _ (hH.put hoa rfl rfl (fun b hb => ⟨xup_ne _ _ _ hb, rfl, rfl⟩) z oq ⟨fun hz => ?_, fun hz => ?_, fun _ => ?_, fun q h0 hq => ?_⟩) (hS0.put z oq hba)
        · exact absurd (hc.symm.trans hz) (by decide)
        · exact absurd (hc.symm.trans hz) (by decide)
        · rw [e1, xarr_I]
        · rw [hc] at hq; simp [xCl] at hq
      · cases hx
    · cases hx
  · split at hx
    · rename_i x i a r
      split at hx
      · rename_i hc
        obtain ⟨hc, hin⟩ := hc
        cases hx
        have hoa : xown h a := ⟨by omega, by omega⟩
        obtain ⟨⟨-, c1, -⟩, hba, -⟩ := hH.1 a hoa
        refine W.last hexec hb (c1 hc) ((hK.2 1 _ rfl).1 _ (fun j => .long (h.2.2.2.1 a j))) (fun q => by cases q) (by rw [arrV_size]; exact hin) rfl rfl hd fun H1 e1 z oq => ?_
        refine kk H1 _ (hH.put hoa rfl rfl (fun b hb => ⟨rfl, xup_ne _ _ _ hb, rfl⟩) z oq ⟨fun hz => ?_, fun _ => ?_, fun hz => ?_, fun q h0 hq => ?_⟩) (hS0.put z oq hba)
        · exact absurd (hc.symm.trans hz) (by decide)
        · rw [e1, xarr_J]
        · exact absurd (hc.symm.trans hz) (by decide)
        · rw [hc] at hq; simp [xCl] at hq
      · cases hx
    · cases hx
  · split at hx
    · rename_i a r
      split at hx
      · rename_i hc
        cases hx
        rcases hc with hc | hc | hc
        · obtain ⟨⟨c1, -⟩, -, -⟩ := hH.1 a ⟨by omega, by omega⟩
          exact W.alen (n := Int32.ofNat (h.1 a).2) hexec hb (c1 hc) ((hK.2 0 _ rfl).1 _ (fun j => .int (h.2.2.1 a j))) (by rw [arrV_size] <;> rfl) rfl rfl hd (kk _ _ hH hS0)
        · obtain ⟨n, f, f1, f2, f3⟩ := hH.2.2.1 a hc
          exact va_tlen hexec hb (hE a n f f1) hS0 rfl hd (by have := kk _ _ hH hS0; rw [f2] at this; exact this)
        · obtain ⟨⟨-, c1, -⟩, -, -⟩ := hH.1 a ⟨by omega, by omega⟩
          exact W.alen (n := Int32.ofNat (h.1 a).2) hexec hb (c1 hc) ((hK.2 1 _ rfl).1 _ (fun j => .long (h.2.2.2.1 a j))) (by rw [arrV_size] <;> rfl) rfl rfl hd (kk _ _ hH hS0)
      · cases hx
    · cases hx
  · cases hx
end XH2
end
section
/-! CELLS THAT ARE MADE -/
theorem xHO.push {D : va_G} {dA : Nat → ClassId} {ad : Nat → Nat} {base : Nat} {xe : Nat → Option (Nat × (Nat → Int32))} {h h1 : xS} {H H1 : Heap} (o : xHO D dA ad base xe h H) {a : Nat} {pl : List Nat} {kn : Nat × Nat} (hp : h.2.1.1 = a :: pl) (hdead : (h.1 a).1 = 0) (eK : h1.1 = va_up h.1 a kn) (hkn : kn.1 ≠ 0 ∧ kn.1 ≠ 103) (eP : h1.2.1.1 = pl) (eO : ∀ b, b ≠ a → h1.2.2.1 b = h.2.2.1 b ∧ h1.2.2.2.1 b = h.2.2.2.1 b ∧ h1.2.2.2.2 b = h.2.2.2.2 b)
    (hbase : base ≤ H.size) (z : H1.size = H.size + 1) (oq : ∀ q : Nat, q < H.size → H1[q]? = H[q]?) (hc : xcell D dA ad h1 a H1) : xHO D dA ad base xe h1 H1 := by
  obtain ⟨o1, o2, o3, o4⟩ := o
  have hada : ad a = H.size := by have := o4 0 a (by rw [hp]; rfl); omega
  have hKa : h1.1 a = kn := by rw [eK, va_up_self]
  have hKb : ∀ b, b ≠ a → h1.1 b = h.1 b := fun b hb => by rw [eK, va_up_ne _ _ hb]
  have old : ∀ b, b ≠ a → xown h1 b → xown h b := fun b hb hx => by unfold xown at hx ⊢; rw [← hKb b hb]; exact hx
  refine ⟨fun b hb => ?_, fun b d hb hd hbd => ?_, fun b hb => ?_, fun j b hj => ?_⟩
  · by_cases hba : b = a
    · subst hba
      exact ⟨hc, by rw [hada]; exact hbase, by rw [hada, z]; omega⟩
    · obtain ⟨c1, c2, c3⟩ := o1 b (old b hba hb)
      obtain ⟨e1, e2, e3⟩ := eO b hba
      exact ⟨c1.congr (hKb b hba) e1 e2 e3 (oq _ c3), c2, by rw [z]; omega⟩
  · by_cases hba : b = a
    · by_cases hda : d = a
      · rw [hba, hda]
      · have := (o1 d (old d hda hd)).2.2
        rw [hba, hada] at hbd
        omega
    · by_cases hda : d = a
      · have := (o1 b (old b hba hb)).2.2
        rw [hda, hada] at hbd
        omega
      · exact o2 b d (old b hba hb) (old d hda hd) hbd
  · by_cases hba : b = a
    · subst hba
      rw [hKa] at hb
      exact absurd hb hkn.2
    · rw [hKb b hba] at hb ⊢
      obtain ⟨n, f, f1, f2, f3⟩ := o3 b hb
      exact ⟨n, f, f1, f2, by rw [(eO b hba).1]; exact f3⟩
  · rw [eP] at hj
    have := o4 (j + 1) b (by rw [hp]; exact hj)
    rw [z]
    omega
def xaw (own : String) (ins : Instr) (r1 : Nat) : Prop := match ins with
  | .newarray t => Jvm.Cond.arrayClass (newarray.typeOf t) ∈ xG
  | .new i => ∀ q, xCl[r1 - 1]? = some q → Jvm.Cond.classLink own i q.1 ∈ xG
  | _ => True
section XAL
variable {p : Program} {l : Launch} {e : Env} {R : Room} {s : State} {m : MethodId} {args : Array Value} {below : List Frame} {meth : Method} {c : Code} {H : Heap} {locs : List Loc} {cells slots : Nat} {Q : State → Prop}
variable {cc : ByteArray} {pc nL : Nat} {ls : Array Slot} {ad : Nat → Nat} {D : va_G} {dA : Nat → ClassId} {base : Nat} {xe : Nat → Option (Nat × (Nat → Int32))} {sd : Nat → Option (String × String × String)} {own : String}
theorem xS_push {A : Nat → Prop} {H0 H H1 : Heap} {locs : List Loc} (hS : va_S A H0 H locs) (z : H1.size = H.size + 1) (oq : ∀ q : Nat, q < H.size → H1[q]? = H[q]?) : va_S A H0 H1 locs :=
  ⟨by have := hS.1; omega, fun q h1 h2 => (oq q (Nat.lt_of_lt_of_le h1 hS.1)).trans (hS.2.1 q h1 h2), hS.2.2⟩
theorem xdef_ok {f : FieldType} {n : Nat} (h : xok f n = true) : defaultValue f = if n = 1 then .long 0 else if n = 3 then .null else .int 0 := by
  unfold xok at h
  split at h <;> first | rfl | cases h
set_option maxHeartbeats 4000000 in
theorem xal_ok (S : CallFix p m c cc nL s args xG own) (hKK : xKK D dA ad base xe sd s) {h h1 : xS} (hH : xHO D dA ad base xe h H) (hS0 : va_S (fun q => base ≤ q) s.heap H locs) (hbase : base ≤ s.heap.size) {ins : Instr} {r1 ds : Nat} (hd : decode cc pc = .ok (ins, xlen ins)) (hw : xaw own ins r1) {st st' : List Value} (hx : xal ins r1 st h = some (st', h1, ds)) (hcells : cells + 1 ≤ R.cells) (hslots : slots + ds ≤ R.slots)
    (kk : ∀ H1, xHO D dA ad base xe h1 H1 → va_S (fun q => base ≤ q) s.heap H1 locs → W p l e R s m args below meth c H1 locs (cells + 1) (slots + ds) Q (F0 m (pc + xlen ins) ls (st'.map (xsh ad)))) : W p l e R s m args below meth c H locs cells slots Q (F0 m pc ls (st.map (xsh ad))) := by
  obtain ⟨hK, -, -⟩ := hKK
  obtain ⟨hexec, hb, -, hown, hts⟩ := S
  have hbH : base ≤ H.size := Nat.le_trans hbase hS0.1
  unfold xal at hx
  split at hx
  · rename_i t
    split at hx
    · rename_i n r a pl hpl
      have hada : ad a = H.size := by have := hH.2.2.2 0 a (by rw [hpl]; rfl); omega
      split at hx
      · rename_i hc
        obtain ⟨hdead, hn, hle⟩ := hc
        split at hx
        · cases hx
          refine va_newaK hexec hb (hts _ hw) rfl hd rfl hn rfl (by show n.toNatClampNeg * 4 ≤ _; omega) hcells hslots rfl fun H1 cA e1 z oq _ hNm => ?_
          have hcA : cA = dA 100 := Option.some.inj (hNm.symm.trans (hK.2 0 _ rfl).2)
          subst hcA
          have := kk H1 (hH.push hpl hdead rfl ⟨(fun z => by cases z), (fun z => by cases z)⟩ rfl (fun b hb => ⟨va_up_ne _ _ hb, rfl, rfl⟩) hbH z oq ⟨fun _ => ?_, fun hz => ?_, fun hz => ?_, fun q h0 hq => ?_⟩) (xS_push hS0 z oq)
          · rw [← hada]; exact this
          · rw [hada, e1]; simp only [va_up_self]; rfl
          · simp only [va_up_self] at hz; omega
          · simp only [va_up_self] at hz; omega
          · simp only [va_up_self] at hq; simp [xCl] at hq
        · cases hx
          refine va_newaK hexec hb (hts _ hw) rfl hd rfl hn rfl (by show n.toNatClampNeg * 8 ≤ _; omega) hcells hslots rfl fun H1 cA e1 z oq _ hNm => ?_
          have hcA : cA = dA 101 := Option.some.inj (hNm.symm.trans (hK.2 1 _ rfl).2)
          subst hcA
          have := kk H1 (hH.push hpl hdead rfl ⟨(fun z => by cases z), (fun z => by cases z)⟩ rfl (fun b hb => ⟨rfl, va_up_ne _ _ hb, rfl⟩) hbH z oq ⟨fun hz => ?_, fun _ => ?_, fun hz => ?_, fun q h0 hq => ?_⟩) (xS_push hS0 z oq)
          · rw [← hada]; exact this
          · simp only [va_up_self] at hz; omega
          · rw [hada, e1]; simp only [va_up_self]; rfl
          · simp only [va_up_self] at hz; omega
          · simp only [va_up_self] at hq; simp [xCl] at hq
        · cases hx
          refine va_newaK hexec hb (hts _ hw) rfl hd rfl hn rfl (by show n.toNatClampNeg * 1 ≤ _; omega) hcells hslots rfl fun H1 cA e1 z oq _ hNm => ?_
          have hcA : cA = dA 102 := Option.some.inj (hNm.symm.trans (hK.2 2 _ rfl).2)
          subst hcA
          have := kk H1 (hH.push hpl hdead rfl ⟨(fun z => by cases z), (fun z => by cases z)⟩ rfl (fun b hb => ⟨va_up_ne _ _ hb, rfl, rfl⟩) hbH z oq ⟨fun hz => ?_, fun hz => ?_, fun _ => ?_, fun q h0 hq => ?_⟩) (xS_push hS0 z oq)
          · rw [← hada]; exact this
          · simp only [va_up_self] at hz; omega
          · simp only [va_up_self] at hz; omega
          · rw [hada, e1]; simp only [va_up_self]; rfl
          · simp only [va_up_self] at hq; simp [xCl] at hq
        · cases hx
      · cases hx
    · cases hx
  · split at hx
    · rename_i a pl hpl
      have hada : ad a = H.size := by have := hH.2.2.2 0 a (by rw [hpl]; rfl); omega
      split at hx
      · rename_i hc
        obtain ⟨hdead, hr0, hr1⟩ := hc
        split at hx
        · rename_i q hq
          cases hx
          obtain ⟨hin, ⟨hins, hini⟩, hnm, ty, hty, hok⟩ := xknow _ q hq
          have hKn := hK.1 _ q hq
          refine W.newcK hexec hb hown (hts _ (hw q hq)) (hts _ hins) (hts _ hini) rfl hd hcells hslots hKn.2.1 rfl fun H1 kC hkC e1 z oq => ?_
          have := kk H1 (hH.push hpl hdead rfl ⟨hr0, by show r1 ≠ 103; omega⟩ rfl (fun b hb => ⟨va_up_ne _ _ hb, va_up_ne _ _ hb, va_up_ne _ _ hb⟩) hbH z oq ⟨fun hz => ?_, fun hz => ?_, fun hz => ?_, fun q2 h0 hq2 => ?_⟩) (xS_push hS0 z oq)
          · rw [← hada]; exact this
          · simp only [va_up_self] at hz; omega
          · simp only [va_up_self] at hz; omega
          · simp only [va_up_self] at hz; omega
          · simp only [va_up_self] at hq2 ⊢
            cases hq.symm.trans hq2
            rw [hada]
            refine (u_born ty hts hin hKn hkC e1 hty).to (fun k hk => ?_)
            rw [xdef_ok (hok k hk)]
            unfold xv
            simp only [va_up_self]
            rw [show r1 - 1 + 1 = r1 by omega]
            split
            · rfl
            · split <;> rfl
        · cases hx
      · cases hx
    · cases hx
  · cases hx
end XAL
end
section
/-! THE METHODS, as rows of the light machine -/
def kX0_init : List (Nat × xI) := [(0, .aload_n 0, 1, 0, 0), (1, .invokespecial 1, 3, 1003, 1), (4, .aload_n 0, 1, 0, 0), (5, .bipush 12, 2, 0, 0), (7, .newarray .int, 2, 0, 0), (9, .putfield 9, 3, 1, 1), (12, .aload_n 0, 1, 0, 0), (13, .bipush 12, 2, 0, 0), (15, .newarray .int, 2, 0, 0), (17, .putfield 13, 3, 1, 3), (20, .aload_n 0, 1, 0, 0), (21, .bipush 14, 2, 0, 0), (23, .newarray .long, 2, 0, 0), (25, .putfield 16, 3, 1, 5), (28, .aload_n 0, 1, 0, 0), (29, .bipush 14, 2, 0, 0), (31, .newarray .int, 2, 0, 0), (33, .putfield 20, 3, 1, 6), (36, .aload_n 0, 1, 0, 0), (37, .bipush 14, 2, 0, 0), (39, .newarray .int, 2, 0, 0), (41, .putfield 23, 3, 1, 7), (44, .aload_n 0, 1, 0, 0), (45, .sipush 256, 3, 0, 0), (48, .newarray .int, 2, 0, 0), (50, .putfield 26, 3, 1, 8), (53, .aload_n 0, 1, 0, 0), (54, .aload_n 1, 1, 0, 0), (55, .putfield 29, 3, 1, 0), (58, .return_, 1, 0, 0)]
def kX0_forget : List (Nat × xI) := [(0, .aload_n 0, 1, 0, 0), (1, .iconst 0, 1, 0, 0), (2, .putfield 33, 3, 1, 2), (5, .aload_n 0, 1, 0, 0), (6, .iconst 0, 1, 0, 0), (7, .putfield 37, 3, 1, 4), (10, .return_, 1, 0, 0)]
def kX0_addCut_0 : List (Nat × xI) := [(0, .iload_n 1, 1, 0, 0), (1, .iconst 1, 1, 0, 0), (2, .if_icmp .lt 23, 3, 25, 0), (5, .iload_n 1, 1, 0, 0), (6, .aload_n 0, 1, 0, 0), (7, .getfield 29, 3, 1, 0), (10, .getfield 40, 3, 8, 3), (13, .if_icmp .ge 12, 3, 25, 0), (16, .aload_n 0, 1, 0, 0), (17, .getfield 33, 3, 1, 2), (20, .bipush 12, 2, 0, 0), (22, .if_icmp .lt 5, 3, 27, 0), (25, .iconst 0, 1, 0, 0), (26, .ireturn, 1, 0, 0), (27, .iconst 0, 1, 0, 0), (28, .istore_n 2, 1, 0, 0), (29, .iload_n 2, 1, 0, 0), (30, .aload_n 0, 1, 0, 0), (31, .getfield 33, 3, 1, 2), (34, .if_icmp .ge 19, 3, 53, 0), (37, .aload_n 0, 1, 0, 0), (38, .getfield 9, 3, 1, 1), (41, .iload_n 2, 1, 0, 0), (42, .iaload, 1, 0, 0), (43, .iload_n 1, 1, 0, 0), (44, .if_icmp .ge 9, 3, 53, 0), (47, .iinc 2 1, 3, 0, 0), (50, .goto (-21), 3, 29, 0), (53, .iload_n 2, 1, 0, 0), (54, .aload_n 0, 1, 0, 0), (55, .getfield 33, 3, 1, 2), (58, .if_icmp .ge 15, 3, 73, 0), (61, .aload_n 0, 1, 0, 0), (62, .getfield 9, 3, 1, 1), (65, .iload_n 2, 1, 0, 0), (66, .iaload, 1, 0, 0), (67, .iload_n 1, 1, 0, 0), (68, .if_icmp .ne 5, 3, 73, 0), (71, .iconst 0, 1, 0, 0), (72, .ireturn, 1, 0, 0), (73, .aload_n 0, 1, 0, 0), (74, .getfield 33, 3, 1, 2), (77, .istore_n 3, 1, 0, 0), (78, .iload_n 3, 1, 0, 0), (79, .iload_n 2, 1, 0, 0), (80, .if_icmp .le 23, 3, 103, 0), (83, .aload_n 0, 1, 0, 0), (84, .getfield 9, 3, 1, 1), (87, .iload_n 3, 1, 0, 0), (88, .aload_n 0, 1, 0, 0), (89, .getfield 9, 3, 1, 1), (92, .iload_n 3, 1, 0, 0), (93, .iconst 1, 1, 0, 0), (94, .isub, 1, 0, 0), (95, .iaload, 1, 0, 0), (96, .iastore, 1, 0, 0), (97, .iinc 3 (-1), 3, 0, 0), (100, .goto (-22), 3, 78, 0), (103, .aload_n 0, 1, 0, 0), (104, .getfield 9, 3, 1, 1)]
def kX0_addCut_1 : List (Nat × xI) := [(107, .iload_n 2, 1, 0, 0), (108, .iload_n 1, 1, 0, 0), (109, .iastore, 1, 0, 0), (110, .aload_n 0, 1, 0, 0), (111, .dup, 1, 0, 0), (112, .getfield 33, 3, 1, 2), (115, .iconst 1, 1, 0, 0), (116, .iadd, 1, 0, 0), (117, .putfield 33, 3, 1, 2), (120, .iconst 1, 1, 0, 0), (121, .ireturn, 1, 0, 0)]
def kX0_addCut : List (Nat × xI) := kX0_addCut_0 ++ (kX0_addCut_1)
def kX0_divide_0 : List (Nat × xI) := [(0, .aload_n 0, 1, 0, 0), (1, .getfield 33, 3, 1, 2), (4, .iconst 1, 1, 0, 0), (5, .iadd, 1, 0, 0), (6, .istore_n 2, 1, 0, 0), (7, .aload_n 0, 1, 0, 0), (8, .getfield 16, 3, 1, 5), (11, .iload_n 2, 1, 0, 0), (12, .lconst 0, 1, 0, 0), (13, .lastore, 1, 0, 0), (14, .aload_n 0, 1, 0, 0), (15, .getfield 20, 3, 1, 6), (18, .iload_n 2, 1, 0, 0), (19, .iconst 0, 1, 0, 0), (20, .iastore, 1, 0, 0), (21, .aload_n 0, 1, 0, 0), (22, .getfield 33, 3, 1, 2), (25, .istore_n 3, 1, 0, 0), (26, .iload_n 3, 1, 0, 0), (27, .ifCond .lt 15, 3, 42, 0), (30, .aload_n 0, 1, 0, 0), (31, .iload_n 3, 1, 0, 0), (32, .iload_n 1, 1, 0, 0), (33, .invokevirtual 45, 3, 4, 3), (36, .iinc 3 (-1), 3, 0, 0), (39, .goto (-13), 3, 26, 0), (42, .aload_n 0, 1, 0, 0), (43, .iconst 0, 1, 0, 0), (44, .putfield 37, 3, 1, 4), (47, .aload_n 0, 1, 0, 0), (48, .getfield 23, 3, 1, 7), (51, .iconst 0, 1, 0, 0), (52, .iaload, 1, 0, 0), (53, .istore_n 3, 1, 0, 0), (54, .iload_n 3, 1, 0, 0), (55, .iload_n 2, 1, 0, 0), (56, .if_icmp .ge 46, 3, 102, 0), (59, .aload_n 0, 1, 0, 0), (60, .getfield 37, 3, 1, 4), (63, .bipush 12, 2, 0, 0), (65, .if_icmp .ge 37, 3, 102, 0), (68, .aload_n 0, 1, 0, 0), (69, .getfield 13, 3, 1, 3), (72, .aload_n 0, 1, 0, 0), (73, .getfield 37, 3, 1, 4), (76, .aload_n 0, 1, 0, 0), (77, .iload_n 3, 1, 0, 0), (78, .invokevirtual 49, 3, 6, 2), (81, .iastore, 1, 0, 0), (82, .aload_n 0, 1, 0, 0), (83, .dup, 1, 0, 0), (84, .getfield 37, 3, 1, 4), (87, .iconst 1, 1, 0, 0), (88, .iadd, 1, 0, 0), (89, .putfield 37, 3, 1, 4), (92, .aload_n 0, 1, 0, 0), (93, .getfield 23, 3, 1, 7), (96, .iload_n 3, 1, 0, 0), (97, .iaload, 1, 0, 0), (98, .istore_n 3, 1, 0, 0)]
def kX0_divide_1 : List (Nat × xI) := [(99, .goto (-45), 3, 54, 0), (102, .aload_n 0, 1, 0, 0), (103, .getfield 16, 3, 1, 5), (106, .iconst 0, 1, 0, 0), (107, .laload, 1, 0, 0), (108, .lreturn, 1, 0, 0)]
def kX0_divide : List (Nat × xI) := kX0_divide_0 ++ (kX0_divide_1)
def kX0_findRest_0 : List (Nat × xI) := [(0, .aload_n 0, 1, 0, 0), (1, .getfield 26, 3, 1, 8), (4, .iconst 0, 1, 0, 0), (5, .invokestatic 53, 3, 166, 2), (8, .aload_n 0, 1, 0, 0), (9, .iload_n 1, 1, 0, 0), (10, .invokevirtual 49, 3, 6, 2), (13, .istore_n 3, 1, 0, 0), (14, .iload_n 3, 1, 0, 0), (15, .istore 4, 2, 0, 0), (17, .iconst 0, 1, 0, 0), (18, .istore 5, 2, 0, 0), (20, .iload_n 1, 1, 0, 0), (21, .iconst 1, 1, 0, 0), (22, .iadd, 1, 0, 0), (23, .istore 6, 2, 0, 0), (25, .iload 6, 2, 0, 0), (27, .aload_n 0, 1, 0, 0), (28, .getfield 33, 3, 1, 2), (31, .iconst 1, 1, 0, 0), (32, .iadd, 1, 0, 0), (33, .if_icmp .gt 157, 3, 190, 0), (36, .aload_n 0, 1, 0, 0), (37, .iload 6, 2, 0, 0), (39, .invokevirtual 49, 3, 6, 2), (42, .istore 7, 2, 0, 0), (44, .iload 4, 2, 0, 0), (46, .iload 7, 2, 0, 0), (48, .if_icmp .ge 28, 3, 76, 0), (51, .iload 5, 2, 0, 0), (53, .aload_n 0, 1, 0, 0), (54, .aload_n 0, 1, 0, 0), (55, .getfield 29, 3, 1, 0), (58, .getfield 59, 3, 8, 2), (61, .iload 4, 2, 0, 0), (63, .iaload, 1, 0, 0), (64, .invokevirtual 62, 3, 5, 2), (67, .iadd, 1, 0, 0), (68, .istore 5, 2, 0, 0), (70, .iinc 4 1, 3, 0, 0), (73, .goto (-29), 3, 44, 0), (76, .iload 7, 2, 0, 0), (78, .iload_n 3, 1, 0, 0), (79, .isub, 1, 0, 0), (80, .istore 8, 2, 0, 0), (82, .iload_n 2, 1, 0, 0), (83, .iload 8, 2, 0, 0), (85, .iload 8, 2, 0, 0), (87, .invokestatic 65, 3, 94, 1), (90, .imul, 1, 0, 0), (91, .iadd, 1, 0, 0), (92, .iload 5, 2, 0, 0), (94, .isub, 1, 0, 0), (95, .i2l, 1, 0, 0), (96, .aload_n 0, 1, 0, 0), (97, .getfield 16, 3, 1, 5), (100, .iload 6, 2, 0, 0), (102, .laload, 1, 0, 0), (103, .ladd, 1, 0, 0), (104, .lstore 9, 2, 0, 0)]
def kX0_findRest_1 : List (Nat × xI) := [(106, .iconst 1, 1, 0, 0), (107, .aload_n 0, 1, 0, 0), (108, .getfield 20, 3, 1, 6), (111, .iload 6, 2, 0, 0), (113, .iaload, 1, 0, 0), (114, .iadd, 1, 0, 0), (115, .istore 11, 2, 0, 0), (117, .iload 6, 2, 0, 0), (119, .iload_n 1, 1, 0, 0), (120, .iconst 1, 1, 0, 0), (121, .iadd, 1, 0, 0), (122, .if_icmp .eq 38, 3, 160, 0), (125, .lload 9, 2, 0, 0), (127, .aload_n 0, 1, 0, 0), (128, .getfield 16, 3, 1, 5), (131, .iload_n 1, 1, 0, 0), (132, .laload, 1, 0, 0), (133, .lcmp, 1, 0, 0), (134, .ifCond .lt 26, 3, 160, 0), (137, .lload 9, 2, 0, 0), (139, .aload_n 0, 1, 0, 0), (140, .getfield 16, 3, 1, 5), (143, .iload_n 1, 1, 0, 0), (144, .laload, 1, 0, 0), (145, .lcmp, 1, 0, 0), (146, .ifCond .ne 38, 3, 184, 0), (149, .iload 11, 2, 0, 0), (151, .aload_n 0, 1, 0, 0), (152, .getfield 20, 3, 1, 6), (155, .iload_n 1, 1, 0, 0), (156, .iaload, 1, 0, 0), (157, .if_icmp .ge 27, 3, 184, 0), (160, .aload_n 0, 1, 0, 0), (161, .getfield 16, 3, 1, 5), (164, .iload_n 1, 1, 0, 0), (165, .lload 9, 2, 0, 0), (167, .lastore, 1, 0, 0), (168, .aload_n 0, 1, 0, 0), (169, .getfield 20, 3, 1, 6), (172, .iload_n 1, 1, 0, 0), (173, .iload 11, 2, 0, 0), (175, .iastore, 1, 0, 0), (176, .aload_n 0, 1, 0, 0), (177, .getfield 23, 3, 1, 7), (180, .iload_n 1, 1, 0, 0), (181, .iload 6, 2, 0, 0), (183, .iastore, 1, 0, 0), (184, .iinc 6 1, 3, 0, 0), (187, .goto (-162), 3, 25, 0), (190, .return_, 1, 0, 0)]
def kX0_findRest : List (Nat × xI) := kX0_findRest_0 ++ (kX0_findRest_1)
def kX0_countOctet : List (Nat × xI) := [(0, .aload_n 0, 1, 0, 0), (1, .getfield 26, 3, 1, 8), (4, .iload_n 1, 1, 0, 0), (5, .iaload, 1, 0, 0), (6, .istore_n 2, 1, 0, 0), (7, .aload_n 0, 1, 0, 0), (8, .getfield 26, 3, 1, 8), (11, .iload_n 1, 1, 0, 0), (12, .iload_n 2, 1, 0, 0), (13, .iconst 1, 1, 0, 0), (14, .iadd, 1, 0, 0), (15, .iastore, 1, 0, 0), (16, .iload_n 2, 1, 0, 0), (17, .iconst 1, 1, 0, 0), (18, .iadd, 1, 0, 0), (19, .iload_n 2, 1, 0, 0), (20, .iconst 1, 1, 0, 0), (21, .iadd, 1, 0, 0), (22, .invokestatic 65, 3, 94, 1), (25, .imul, 1, 0, 0), (26, .iload_n 2, 1, 0, 0), (27, .iload_n 2, 1, 0, 0), (28, .invokestatic 65, 3, 94, 1), (31, .imul, 1, 0, 0), (32, .isub, 1, 0, 0), (33, .ireturn, 1, 0, 0)]
def kX0_placeOf : List (Nat × xI) := [(0, .iload_n 1, 1, 0, 0), (1, .ifCond .gt 5, 3, 6, 0), (4, .iconst 0, 1, 0, 0), (5, .ireturn, 1, 0, 0), (6, .iload_n 1, 1, 0, 0), (7, .aload_n 0, 1, 0, 0), (8, .getfield 33, 3, 1, 2), (11, .if_icmp .gt 14, 3, 25, 0), (14, .aload_n 0, 1, 0, 0), (15, .getfield 9, 3, 1, 1), (18, .iload_n 1, 1, 0, 0), (19, .iconst 1, 1, 0, 0), (20, .isub, 1, 0, 0), (21, .iaload, 1, 0, 0), (22, .goto 10, 3, 32, 0), (25, .aload_n 0, 1, 0, 0), (26, .getfield 29, 3, 1, 0), (29, .getfield 40, 3, 8, 3), (32, .ireturn, 1, 0, 0)]
def kX1_init : List (Nat × xI) := [(0, .aload_n 0, 1, 0, 0), (1, .invokespecial 3, 3, 1003, 1), (4, .aload_n 0, 1, 0, 0), (5, .sipush 315, 3, 0, 0), (8, .newarray .int, 2, 0, 0), (10, .putfield 11, 3, 2, 1), (13, .aload_n 0, 1, 0, 0), (14, .sipush 315, 3, 0, 0), (17, .newarray .int, 2, 0, 0), (19, .putfield 15, 3, 2, 2), (22, .aload_n 0, 1, 0, 0), (23, .sipush 301, 3, 0, 0), (26, .newarray .int, 2, 0, 0), (28, .putfield 18, 3, 2, 3), (31, .aload_n 0, 1, 0, 0), (32, .sipush 300, 3, 0, 0), (35, .newarray .int, 2, 0, 0), (37, .putfield 21, 3, 2, 4), (40, .aload_n 0, 1, 0, 0), (41, .iload_n 1, 1, 0, 0), (42, .iconst 1, 1, 0, 0), (43, .if_icmp .ne 7, 3, 50, 0), (46, .iconst 0, 1, 0, 0), (47, .goto 12, 3, 59, 0), (50, .iload_n 1, 1, 0, 0), (51, .ifCond .ne 7, 3, 58, 0), (54, .iconst 3, 1, 0, 0), (55, .goto 4, 3, 59, 0), (58, .iconst 4, 1, 0, 0), (59, .putfield 24, 3, 2, 0), (62, .aload_n 0, 1, 0, 0), (63, .invokevirtual 28, 3, 8, 1), (66, .return_, 1, 0, 0)]
def kX1_reset : List (Nat × xI) := [(0, .iconst 0, 1, 0, 0), (1, .istore_n 1, 1, 0, 0), (2, .iload_n 1, 1, 0, 0), (3, .iconst 4, 1, 0, 0), (4, .if_icmp .ge 37, 3, 41, 0), (7, .aload_n 0, 1, 0, 0), (8, .getfield 11, 3, 2, 1), (11, .getstatic 31, 3, 2, 0), (14, .iload_n 1, 1, 0, 0), (15, .iaload, 1, 0, 0), (16, .getstatic 31, 3, 2, 0), (19, .iload_n 1, 1, 0, 0), (20, .iaload, 1, 0, 0), (21, .getstatic 34, 3, 1, 0), (24, .iload_n 1, 1, 0, 0), (25, .iaload, 1, 0, 0), (26, .iadd, 1, 0, 0), (27, .getstatic 37, 3, 3, 0), (30, .iload_n 1, 1, 0, 0), (31, .iaload, 1, 0, 0), (32, .invokestatic 40, 3, 167, 4), (35, .iinc 1 1, 3, 0, 0), (38, .goto (-36), 3, 2, 0), (41, .return_, 1, 0, 0)]
def kX1_has : List (Nat × xI) := [(0, .iload_n 1, 1, 0, 0), (1, .ifCond .lt 28, 3, 29, 0), (4, .iload_n 1, 1, 0, 0), (5, .aload_n 0, 1, 0, 0), (6, .getfield 24, 3, 2, 0), (9, .if_icmp .ge 20, 3, 29, 0), (12, .iload_n 2, 1, 0, 0), (13, .ifCond .lt 16, 3, 29, 0), (16, .iload_n 2, 1, 0, 0), (17, .getstatic 34, 3, 1, 0), (20, .iload_n 1, 1, 0, 0), (21, .iaload, 1, 0, 0), (22, .if_icmp .ge 7, 3, 29, 0), (25, .iconst 1, 1, 0, 0), (26, .goto 4, 3, 30, 0), (29, .iconst 0, 1, 0, 0), (30, .ireturn, 1, 0, 0)]
def kX1_of : List (Nat × xI) := [(0, .aload_n 0, 1, 0, 0), (1, .iload_n 1, 1, 0, 0), (2, .iload_n 2, 1, 0, 0), (3, .invokevirtual 46, 3, 9, 3), (6, .ifCond .eq 18, 3, 24, 0), (9, .aload_n 0, 1, 0, 0), (10, .getfield 11, 3, 2, 1), (13, .getstatic 31, 3, 2, 0), (16, .iload_n 1, 1, 0, 0), (17, .iaload, 1, 0, 0), (18, .iload_n 2, 1, 0, 0), (19, .iadd, 1, 0, 0), (20, .iaload, 1, 0, 0), (21, .goto 4, 3, 25, 0), (24, .iconst 0, 1, 0, 0), (25, .ireturn, 1, 0, 0)]
def kX1_put : List (Nat × xI) := [(0, .aload_n 0, 1, 0, 0), (1, .iload_n 1, 1, 0, 0), (2, .iload_n 2, 1, 0, 0), (3, .invokevirtual 46, 3, 9, 3), (6, .ifCond .eq 16, 3, 22, 0), (9, .aload_n 0, 1, 0, 0), (10, .getfield 11, 3, 2, 1), (13, .getstatic 31, 3, 2, 0), (16, .iload_n 1, 1, 0, 0), (17, .iaload, 1, 0, 0), (18, .iload_n 2, 1, 0, 0), (19, .iadd, 1, 0, 0), (20, .iload_n 3, 1, 0, 0), (21, .iastore, 1, 0, 0), (22, .return_, 1, 0, 0)]
def kX1_copyFrom : List (Nat × xI) := [(0, .aload_n 1, 1, 0, 0), (1, .getfield 11, 3, 2, 1), (4, .iconst 0, 1, 0, 0), (5, .aload_n 0, 1, 0, 0), (6, .getfield 11, 3, 2, 1), (9, .iconst 0, 1, 0, 0), (10, .sipush 315, 3, 0, 0), (13, .invokestatic 50, 3, 1002, 5), (16, .return_, 1, 0, 0)]
def kX1_prepare : List (Nat × xI) := [(0, .aload_n 1, 1, 0, 0), (1, .getfield 56, 3, 8, 0), (4, .istore_n 2, 1, 0, 0), (5, .iload_n 2, 1, 0, 0), (6, .aload_n 1, 1, 0, 0), (7, .getfield 61, 3, 8, 3), (10, .if_icmp .gt 25, 3, 35, 0), (13, .aload_n 0, 1, 0, 0), (14, .getfield 18, 3, 2, 3), (17, .iload_n 2, 1, 0, 0), (18, .aload_n 0, 1, 0, 0), (19, .iload_n 2, 1, 0, 0), (20, .aload_n 1, 1, 0, 0), (21, .getfield 56, 3, 8, 0), (24, .isub, 1, 0, 0), (25, .invokevirtual 64, 3, 17, 2), (28, .iastore, 1, 0, 0), (29, .iinc 2 1, 3, 0, 0), (32, .goto (-27), 3, 5, 0), (35, .iconst 1, 1, 0, 0), (36, .istore_n 2, 1, 0, 0), (37, .iload_n 2, 1, 0, 0), (38, .aload_n 1, 1, 0, 0), (39, .getfield 61, 3, 8, 3), (42, .if_icmp .ge 22, 3, 64, 0), (45, .aload_n 0, 1, 0, 0), (46, .getfield 21, 3, 2, 4), (49, .iload_n 2, 1, 0, 0), (50, .aload_n 0, 1, 0, 0), (51, .iload_n 2, 1, 0, 0), (52, .iconst 1, 1, 0, 0), (53, .isub, 1, 0, 0), (54, .invokevirtual 68, 3, 18, 2), (57, .iastore, 1, 0, 0), (58, .iinc 2 1, 3, 0, 0), (61, .goto (-24), 3, 37, 0), (64, .return_, 1, 0, 0)]
def kX1_literalCost : List (Nat × xI) := [(0, .aload_n 0, 1, 0, 0), (1, .iconst 0, 1, 0, 0), (2, .iload_n 1, 1, 0, 0), (3, .invokevirtual 71, 3, 10, 3), (6, .aload_n 0, 1, 0, 0), (7, .iconst 3, 1, 0, 0), (8, .iconst 0, 1, 0, 0), (9, .invokevirtual 71, 3, 10, 3), (12, .iadd, 1, 0, 0), (13, .ireturn, 1, 0, 0)]
def kX1_kindCost : List (Nat × xI) := [(0, .aload_n 0, 1, 0, 0), (1, .iconst 3, 1, 0, 0), (2, .iload_n 1, 1, 0, 0), (3, .invokevirtual 71, 3, 10, 3), (6, .ireturn, 1, 0, 0)]
def kX1_stepCost : List (Nat × xI) := [(0, .aload_n 1, 1, 0, 0), (1, .iload_n 2, 1, 0, 0), (2, .invokevirtual 75, 3, 50, 2), (5, .ifCond .ne 5, 3, 10, 0), (8, .iconst 0, 1, 0, 0), (9, .ireturn, 1, 0, 0), (10, .aload_n 1, 1, 0, 0), (11, .getfield 81, 3, 5, 3), (14, .iload_n 2, 1, 0, 0), (15, .iaload, 1, 0, 0), (16, .istore 4, 2, 0, 0), (18, .iload 4, 2, 0, 0), (20, .ifCond .ne 19, 3, 39, 0), (23, .aload_n 0, 1, 0, 0), (24, .aload_n 3, 1, 0, 0), (25, .getfield 84, 3, 8, 2), (28, .aload_n 1, 1, 0, 0), (29, .getfield 87, 3, 5, 0), (32, .iload_n 2, 1, 0, 0), (33, .iaload, 1, 0, 0), (34, .iaload, 1, 0, 0), (35, .invokevirtual 90, 3, 14, 2), (38, .ireturn, 1, 0, 0), (39, .iload 4, 2, 0, 0), (41, .bipush 6, 2, 0, 0), (43, .if_icmp .ne 10, 3, 53, 0), (46, .aload_n 0, 1, 0, 0), (47, .bipush 6, 2, 0, 0), (49, .invokevirtual 93, 3, 15, 2), (52, .ireturn, 1, 0, 0), (53, .aload_n 0, 1, 0, 0), (54, .iload 4, 2, 0, 0), (56, .invokevirtual 93, 3, 15, 2), (59, .aload_n 0, 1, 0, 0), (60, .aload_n 1, 1, 0, 0), (61, .getfield 96, 3, 5, 1), (64, .iload_n 2, 1, 0, 0), (65, .iaload, 1, 0, 0), (66, .aload_n 3, 1, 0, 0), (67, .getfield 56, 3, 8, 0), (70, .isub, 1, 0, 0), (71, .invokevirtual 64, 3, 17, 2), (74, .iadd, 1, 0, 0), (75, .istore 5, 2, 0, 0), (77, .iload 4, 2, 0, 0), (79, .iconst 1, 1, 0, 0), (80, .if_icmp .ne 21, 3, 101, 0), (83, .iload 5, 2, 0, 0), (85, .aload_n 0, 1, 0, 0), (86, .aload_n 1, 1, 0, 0), (87, .getfield 99, 3, 5, 2), (90, .iload_n 2, 1, 0, 0), (91, .iaload, 1, 0, 0), (92, .iconst 1, 1, 0, 0), (93, .isub, 1, 0, 0), (94, .invokevirtual 68, 3, 18, 2), (97, .iadd, 1, 0, 0), (98, .goto 5, 3, 103, 0), (101, .iload 5, 2, 0, 0), (103, .ireturn, 1, 0, 0)]
def kX1_lengthCost : List (Nat × xI) := [(0, .aload_n 0, 1, 0, 0), (1, .iconst 1, 1, 0, 0), (2, .iload_n 1, 1, 0, 0), (3, .invokestatic 102, 3, 19, 1), (6, .invokevirtual 71, 3, 10, 3), (9, .bipush 64, 2, 0, 0), (11, .iload_n 1, 1, 0, 0), (12, .bipush 8, 2, 0, 0), (14, .if_icmp .ge 7, 3, 21, 0), (17, .iconst 0, 1, 0, 0), (18, .goto 9, 3, 27, 0), (21, .iload_n 1, 1, 0, 0), (22, .invokestatic 105, 3, 95, 1), (25, .iconst 2, 1, 0, 0), (26, .isub, 1, 0, 0), (27, .imul, 1, 0, 0), (28, .iadd, 1, 0, 0), (29, .ireturn, 1, 0, 0)]
def kX1_distanceCost : List (Nat × xI) := [(0, .aload_n 0, 1, 0, 0), (1, .iconst 2, 1, 0, 0), (2, .iload_n 1, 1, 0, 0), (3, .invokestatic 108, 3, 20, 1), (6, .invokevirtual 71, 3, 10, 3), (9, .bipush 64, 2, 0, 0), (11, .iload_n 1, 1, 0, 0), (12, .iconst 4, 1, 0, 0), (13, .if_icmp .ge 7, 3, 20, 0), (16, .iconst 0, 1, 0, 0), (17, .goto 9, 3, 26, 0), (20, .iload_n 1, 1, 0, 0), (21, .invokestatic 105, 3, 95, 1), (24, .iconst 1, 1, 0, 0), (25, .isub, 1, 0, 0), (26, .imul, 1, 0, 0), (27, .iadd, 1, 0, 0), (28, .ireturn, 1, 0, 0)]
def kX1_lengthSlot : List (Nat × xI) := [(0, .iload_n 0, 1, 0, 0), (1, .bipush 8, 2, 0, 0), (3, .if_icmp .ge 5, 3, 8, 0), (6, .iload_n 0, 1, 0, 0), (7, .ireturn, 1, 0, 0), (8, .iload_n 0, 1, 0, 0), (9, .invokestatic 105, 3, 95, 1), (12, .istore_n 1, 1, 0, 0), (13, .iconst 4, 1, 0, 0), (14, .iload_n 1, 1, 0, 0), (15, .iconst 1, 1, 0, 0), (16, .isub, 1, 0, 0), (17, .imul, 1, 0, 0), (18, .iload_n 0, 1, 0, 0), (19, .iload_n 1, 1, 0, 0), (20, .iconst 2, 1, 0, 0), (21, .isub, 1, 0, 0), (22, .ishr, 1, 0, 0), (23, .iconst 3, 1, 0, 0), (24, .iand, 1, 0, 0), (25, .iadd, 1, 0, 0), (26, .ireturn, 1, 0, 0)]
def kX1_distanceSlot : List (Nat × xI) := [(0, .iload_n 0, 1, 0, 0), (1, .iconst 4, 1, 0, 0), (2, .if_icmp .ge 5, 3, 7, 0), (5, .iload_n 0, 1, 0, 0), (6, .ireturn, 1, 0, 0), (7, .iload_n 0, 1, 0, 0), (8, .invokestatic 105, 3, 95, 1), (11, .istore_n 1, 1, 0, 0), (12, .iconst 2, 1, 0, 0), (13, .iload_n 1, 1, 0, 0), (14, .imul, 1, 0, 0), (15, .iload_n 0, 1, 0, 0), (16, .iload_n 1, 1, 0, 0), (17, .iconst 1, 1, 0, 0), (18, .isub, 1, 0, 0), (19, .ishr, 1, 0, 0), (20, .iconst 1, 1, 0, 0), (21, .iand, 1, 0, 0), (22, .iadd, 1, 0, 0), (23, .ireturn, 1, 0, 0)]
def kX1_fitTo : List (Nat × xI) := [(0, .aload_n 0, 1, 0, 0), (1, .aload_n 1, 1, 0, 0), (2, .aload_n 2, 1, 0, 0), (3, .invokevirtual 111, 3, 22, 3), (6, .iconst 0, 1, 0, 0), (7, .istore_n 3, 1, 0, 0), (8, .iload_n 3, 1, 0, 0), (9, .aload_n 0, 1, 0, 0), (10, .getfield 24, 3, 2, 0), (13, .if_icmp .ge 14, 3, 27, 0), (16, .aload_n 0, 1, 0, 0), (17, .iload_n 3, 1, 0, 0), (18, .invokevirtual 115, 3, 24, 2), (21, .iinc 3 1, 3, 0, 0), (24, .goto (-16), 3, 8, 0), (27, .return_, 1, 0, 0)]
def kX1_countSymbols_0 : List (Nat × xI) := [(0, .aload_n 0, 1, 0, 0), (1, .getfield 15, 3, 2, 2), (4, .iconst 0, 1, 0, 0), (5, .invokestatic 119, 3, 166, 2), (8, .iconst 0, 1, 0, 0), (9, .istore_n 3, 1, 0, 0), (10, .iload_n 3, 1, 0, 0), (11, .aload_n 1, 1, 0, 0), (12, .getfield 122, 3, 5, 5), (15, .if_icmp .ge 96, 3, 111, 0), (18, .aload_n 1, 1, 0, 0), (19, .getfield 81, 3, 5, 3), (22, .iload_n 3, 1, 0, 0), (23, .iaload, 1, 0, 0), (24, .istore 4, 2, 0, 0), (26, .aload_n 0, 1, 0, 0), (27, .iconst 3, 1, 0, 0), (28, .iload 4, 2, 0, 0), (30, .invokevirtual 125, 3, 23, 3), (33, .iload 4, 2, 0, 0), (35, .ifCond .ne 22, 3, 57, 0), (38, .aload_n 0, 1, 0, 0), (39, .iconst 0, 1, 0, 0), (40, .aload_n 2, 1, 0, 0), (41, .getfield 84, 3, 8, 2), (44, .aload_n 1, 1, 0, 0), (45, .getfield 87, 3, 5, 0), (48, .iload_n 3, 1, 0, 0), (49, .iaload, 1, 0, 0), (50, .iaload, 1, 0, 0), (51, .invokevirtual 125, 3, 23, 3), (54, .goto 29, 3, 83, 0), (57, .iload 4, 2, 0, 0), (59, .bipush 6, 2, 0, 0), (61, .if_icmp .eq 22, 3, 83, 0), (64, .aload_n 0, 1, 0, 0), (65, .iconst 1, 1, 0, 0), (66, .aload_n 1, 1, 0, 0), (67, .getfield 96, 3, 5, 1), (70, .iload_n 3, 1, 0, 0), (71, .iaload, 1, 0, 0), (72, .aload_n 2, 1, 0, 0), (73, .getfield 56, 3, 8, 0), (76, .isub, 1, 0, 0), (77, .invokestatic 102, 3, 19, 1), (80, .invokevirtual 125, 3, 23, 3), (83, .iload 4, 2, 0, 0), (85, .iconst 1, 1, 0, 0), (86, .if_icmp .ne 19, 3, 105, 0), (89, .aload_n 0, 1, 0, 0), (90, .iconst 2, 1, 0, 0), (91, .aload_n 1, 1, 0, 0), (92, .getfield 99, 3, 5, 2), (95, .iload_n 3, 1, 0, 0), (96, .iaload, 1, 0, 0), (97, .iconst 1, 1, 0, 0), (98, .isub, 1, 0, 0), (99, .invokestatic 108, 3, 20, 1), (102, .invokevirtual 125, 3, 23, 3), (105, .iinc 3 1, 3, 0, 0)]
def kX1_countSymbols_1 : List (Nat × xI) := [(108, .goto (-98), 3, 10, 0), (111, .return_, 1, 0, 0)]
def kX1_countSymbols : List (Nat × xI) := kX1_countSymbols_0 ++ (kX1_countSymbols_1)
def kX1_countOne : List (Nat × xI) := [(0, .aload_n 0, 1, 0, 0), (1, .iload_n 1, 1, 0, 0), (2, .iload_n 2, 1, 0, 0), (3, .invokevirtual 46, 3, 9, 3), (6, .ifCond .eq 19, 3, 25, 0), (9, .aload_n 0, 1, 0, 0), (10, .getfield 15, 3, 2, 2), (13, .getstatic 31, 3, 2, 0), (16, .iload_n 1, 1, 0, 0), (17, .iaload, 1, 0, 0), (18, .iload_n 2, 1, 0, 0), (19, .iadd, 1, 0, 0), (20, .dup2, 1, 0, 0), (21, .iaload, 1, 0, 0), (22, .iconst 1, 1, 0, 0), (23, .iadd, 1, 0, 0), (24, .iastore, 1, 0, 0), (25, .return_, 1, 0, 0)]
def kX1_fitClass : List (Nat × xI) := [(0, .getstatic 31, 3, 2, 0), (3, .iload_n 1, 1, 0, 0), (4, .iaload, 1, 0, 0), (5, .getstatic 34, 3, 1, 0), (8, .iload_n 1, 1, 0, 0), (9, .iaload, 1, 0, 0), (10, .iadd, 1, 0, 0), (11, .istore_n 2, 1, 0, 0), (12, .iconst 0, 1, 0, 0), (13, .istore_n 3, 1, 0, 0), (14, .getstatic 31, 3, 2, 0), (17, .iload_n 1, 1, 0, 0), (18, .iaload, 1, 0, 0), (19, .istore 4, 2, 0, 0), (21, .iload 4, 2, 0, 0), (23, .iload_n 2, 1, 0, 0), (24, .if_icmp .ge 19, 3, 43, 0), (27, .iload_n 3, 1, 0, 0), (28, .aload_n 0, 1, 0, 0), (29, .getfield 15, 3, 2, 2), (32, .iload 4, 2, 0, 0), (34, .iaload, 1, 0, 0), (35, .iadd, 1, 0, 0), (36, .istore_n 3, 1, 0, 0), (37, .iinc 4 1, 3, 0, 0), (40, .goto (-19), 3, 21, 0), (43, .iload_n 3, 1, 0, 0), (44, .getstatic 34, 3, 1, 0), (47, .iload_n 1, 1, 0, 0), (48, .iaload, 1, 0, 0), (49, .iadd, 1, 0, 0), (50, .invokestatic 129, 3, 94, 1), (53, .istore 4, 2, 0, 0), (55, .getstatic 31, 3, 2, 0), (58, .iload_n 1, 1, 0, 0), (59, .iaload, 1, 0, 0), (60, .istore 5, 2, 0, 0), (62, .iload 5, 2, 0, 0), (64, .iload_n 2, 1, 0, 0), (65, .if_icmp .ge 35, 3, 100, 0), (68, .aload_n 0, 1, 0, 0), (69, .getfield 11, 3, 2, 1), (72, .iload 5, 2, 0, 0), (74, .iconst 1, 1, 0, 0), (75, .iload 4, 2, 0, 0), (77, .aload_n 0, 1, 0, 0), (78, .getfield 15, 3, 2, 2), (81, .iload 5, 2, 0, 0), (83, .iaload, 1, 0, 0), (84, .iconst 1, 1, 0, 0), (85, .iadd, 1, 0, 0), (86, .invokestatic 129, 3, 94, 1), (89, .isub, 1, 0, 0), (90, .invokestatic 132, 3, 1000, 2), (93, .iastore, 1, 0, 0), (94, .iinc 5 1, 3, 0, 0), (97, .goto (-35), 3, 62, 0), (100, .return_, 1, 0, 0)]
def kX2_init : List (Nat × xI) := [(0, .aload_n 0, 1, 0, 0), (1, .invokespecial 1, 3, 1003, 1), (4, .aload_n 0, 1, 0, 0), (5, .aload_n 1, 1, 0, 0), (6, .putfield 7, 3, 11, 0), (9, .aload_n 0, 1, 0, 0), (10, .aload_n 2, 1, 0, 0), (11, .putfield 13, 3, 11, 1), (14, .return_, 1, 0, 0)]
def kX2_costOf : List (Nat × xI) := [(0, .iconst 0, 1, 0, 0), (1, .istore_n 2, 1, 0, 0), (2, .iconst 0, 1, 0, 0), (3, .istore_n 3, 1, 0, 0), (4, .iload_n 3, 1, 0, 0), (5, .aload_n 1, 1, 0, 0), (6, .getfield 17, 3, 5, 5), (9, .if_icmp .ge 25, 3, 34, 0), (12, .iload_n 2, 1, 0, 0), (13, .aload_n 0, 1, 0, 0), (14, .getfield 13, 3, 11, 1), (17, .aload_n 1, 1, 0, 0), (18, .iload_n 3, 1, 0, 0), (19, .aload_n 0, 1, 0, 0), (20, .getfield 7, 3, 11, 0), (23, .invokevirtual 23, 3, 16, 4), (26, .iadd, 1, 0, 0), (27, .istore_n 2, 1, 0, 0), (28, .iinc 3 1, 3, 0, 0), (31, .goto (-27), 3, 4, 0), (34, .iload_n 2, 1, 0, 0), (35, .i2l, 1, 0, 0), (36, .lreturn, 1, 0, 0)]
def kX3_at : List (Nat × xI) := [(0, .lload_n 0, 1, 0, 0), (1, .bipush 9, 2, 0, 0), (3, .iconst 3, 1, 0, 0), (4, .iload_n 2, 1, 0, 0), (5, .isub, 1, 0, 0), (6, .imul, 1, 0, 0), (7, .lushr, 1, 0, 0), (8, .l2i, 1, 0, 0), (9, .sipush 511, 3, 0, 0), (12, .iand, 1, 0, 0), (13, .ireturn, 1, 0, 0)]
def kX3_behindCopy : List (Nat × xI) := [(0, .iload_n 2, 1, 0, 0), (1, .i2l, 1, 0, 0), (2, .bipush 27, 2, 0, 0), (4, .lshl, 1, 0, 0), (5, .lload_n 0, 1, 0, 0), (6, .bipush 9, 2, 0, 0), (8, .lushr, 1, 0, 0), (9, .lor, 1, 0, 0), (10, .lreturn, 1, 0, 0)]
def kX3_behindAgain : List (Nat × xI) := [(0, .bipush 9, 2, 0, 0), (2, .iconst 3, 1, 0, 0), (3, .iload_n 2, 1, 0, 0), (4, .isub, 1, 0, 0), (5, .imul, 1, 0, 0), (6, .istore_n 3, 1, 0, 0), (7, .lload_n 0, 1, 0, 0), (8, .lconst 1, 1, 0, 0), (9, .iload_n 3, 1, 0, 0), (10, .lshl, 1, 0, 0), (11, .lconst 1, 1, 0, 0), (12, .lsub, 1, 0, 0), (13, .land, 1, 0, 0), (14, .lstore 4, 2, 0, 0), (16, .lload_n 0, 1, 0, 0), (17, .iload_n 3, 1, 0, 0), (18, .bipush 9, 2, 0, 0), (20, .iadd, 1, 0, 0), (21, .lushr, 1, 0, 0), (22, .iload_n 3, 1, 0, 0), (23, .lshl, 1, 0, 0), (24, .lstore 6, 2, 0, 0), (26, .lload_n 0, 1, 0, 0), (27, .iload_n 2, 1, 0, 0), (28, .invokestatic 9, 3, 27, 2), (31, .i2l, 1, 0, 0), (32, .bipush 27, 2, 0, 0), (34, .lshl, 1, 0, 0), (35, .lload 6, 2, 0, 0), (37, .lor, 1, 0, 0), (38, .lload 4, 2, 0, 0), (40, .lor, 1, 0, 0), (41, .lreturn, 1, 0, 0)]
def kX4_init : List (Nat × xI) := [(0, .aload_n 0, 1, 0, 0), (1, .aload_n 1, 1, 0, 0), (2, .aload_n 2, 1, 0, 0), (3, .invokespecial 3, 3, 25, 3), (6, .aload_n 0, 1, 0, 0), (7, .sipush 12040, 3, 0, 0), (10, .newarray .long, 2, 0, 0), (12, .putfield 9, 3, 3, 2), (15, .aload_n 0, 1, 0, 0), (16, .sipush 12040, 3, 0, 0), (19, .newarray .int, 2, 0, 0), (21, .putfield 15, 3, 3, 3), (24, .aload_n 0, 1, 0, 0), (25, .sipush 301, 3, 0, 0), (28, .newarray .int, 2, 0, 0), (30, .putfield 19, 3, 3, 4), (33, .aload_n 0, 1, 0, 0), (34, .sipush 300, 3, 0, 0), (37, .newarray .boolean, 2, 0, 0), (39, .putfield 22, 3, 3, 5), (42, .aload_n 0, 1, 0, 0), (43, .sipush 301, 3, 0, 0), (46, .newarray .long, 2, 0, 0), (48, .putfield 26, 3, 3, 6), (51, .return_, 1, 0, 0)]
def kX4_findBest : List (Nat × xI) := [(0, .aload_n 0, 1, 0, 0), (1, .iload_n 2, 1, 0, 0), (2, .invokevirtual 29, 3, 32, 2), (5, .iconst 0, 1, 0, 0), (6, .istore_n 3, 1, 0, 0), (7, .iconst 0, 1, 0, 0), (8, .istore 4, 2, 0, 0), (10, .iload 4, 2, 0, 0), (12, .aload_n 0, 1, 0, 0), (13, .getfield 33, 3, 3, 0), (16, .getfield 37, 3, 8, 3), (19, .if_icmp .ge 51, 3, 70, 0), (22, .iconst 0, 1, 0, 0), (23, .istore 5, 2, 0, 0), (25, .iload 5, 2, 0, 0), (27, .aload_n 0, 1, 0, 0), (28, .getfield 19, 3, 3, 4), (31, .iload 4, 2, 0, 0), (33, .iaload, 1, 0, 0), (34, .if_icmp .ge 17, 3, 51, 0), (37, .aload_n 0, 1, 0, 0), (38, .iload 4, 2, 0, 0), (40, .iload 5, 2, 0, 0), (42, .invokevirtual 43, 3, 33, 3), (45, .iinc 5 1, 3, 0, 0), (48, .goto (-23), 3, 25, 0), (51, .aload_n 0, 1, 0, 0), (52, .getfield 22, 3, 3, 5), (55, .iload 4, 2, 0, 0), (57, .baload, 1, 0, 0), (58, .ifCond .eq 6, 3, 64, 0), (61, .iinc 3 1, 3, 0, 0), (64, .iinc 4 1, 3, 0, 0), (67, .goto (-57), 3, 10, 0), (70, .aload_n 0, 1, 0, 0), (71, .aload_n 1, 1, 0, 0), (72, .invokevirtual 47, 3, 40, 2), (75, .iload_n 3, 1, 0, 0), (76, .ireturn, 1, 0, 0)]
def kX4_begin : List (Nat × xI) := [(0, .aload_n 0, 1, 0, 0), (1, .getfield 51, 3, 3, 1), (4, .aload_n 0, 1, 0, 0), (5, .getfield 33, 3, 3, 0), (8, .invokevirtual 55, 3, 13, 2), (11, .aload_n 0, 1, 0, 0), (12, .iconst 1, 1, 0, 0), (13, .iload_n 1, 1, 0, 0), (14, .bipush 40, 2, 0, 0), (16, .invokestatic 61, 3, 1001, 2), (19, .invokestatic 67, 3, 1000, 2), (22, .putfield 70, 3, 3, 7), (25, .iconst 0, 1, 0, 0), (26, .istore_n 2, 1, 0, 0), (27, .iload_n 2, 1, 0, 0), (28, .aload_n 0, 1, 0, 0), (29, .getfield 33, 3, 3, 0), (32, .getfield 37, 3, 8, 3), (35, .if_icmp .ge 23, 3, 58, 0), (38, .aload_n 0, 1, 0, 0), (39, .getfield 19, 3, 3, 4), (42, .iload_n 2, 1, 0, 0), (43, .iconst 0, 1, 0, 0), (44, .iastore, 1, 0, 0), (45, .aload_n 0, 1, 0, 0), (46, .getfield 22, 3, 3, 5), (49, .iload_n 2, 1, 0, 0), (50, .iconst 0, 1, 0, 0), (51, .bastore, 1, 0, 0), (52, .iinc 2 1, 3, 0, 0), (55, .goto (-28), 3, 27, 0), (58, .aload_n 0, 1, 0, 0), (59, .getfield 19, 3, 3, 4), (62, .aload_n 0, 1, 0, 0), (63, .getfield 33, 3, 3, 0), (66, .getfield 37, 3, 8, 3), (69, .iconst 0, 1, 0, 0), (70, .iastore, 1, 0, 0), (71, .aload_n 0, 1, 0, 0), (72, .getfield 19, 3, 3, 4), (75, .iconst 0, 1, 0, 0), (76, .iconst 1, 1, 0, 0), (77, .iastore, 1, 0, 0), (78, .aload_n 0, 1, 0, 0), (79, .getfield 26, 3, 3, 6), (82, .ldc2_w 73, 3, 4611686018427387904, 0), (85, .invokestatic 75, 3, 165, 2), (88, .aload_n 0, 1, 0, 0), (89, .getfield 9, 3, 3, 2), (92, .iconst 0, 1, 0, 0), (93, .ldc2_w 83, 3, 134480385, 0), (96, .lastore, 1, 0, 0), (97, .return_, 1, 0, 0)]
def kX4_goFrom_0 : List (Nat × xI) := [(0, .aload_n 0, 1, 0, 0), (1, .iload_n 1, 1, 0, 0), (2, .putfield 85, 3, 3, 8), (5, .aload_n 0, 1, 0, 0), (6, .iload_n 2, 1, 0, 0), (7, .putfield 88, 3, 3, 9), (10, .aload_n 0, 1, 0, 0), (11, .getfield 9, 3, 3, 2), (14, .iload_n 1, 1, 0, 0), (15, .bipush 40, 2, 0, 0), (17, .imul, 1, 0, 0), (18, .iload_n 2, 1, 0, 0), (19, .iadd, 1, 0, 0), (20, .laload, 1, 0, 0), (21, .lstore_n 3, 1, 0, 0), (22, .aload_n 0, 1, 0, 0), (23, .lload_n 3, 1, 0, 0), (24, .bipush 36, 2, 0, 0), (26, .lushr, 1, 0, 0), (27, .putfield 91, 3, 3, 10), (30, .aload_n 0, 1, 0, 0), (31, .lload_n 3, 1, 0, 0), (32, .ldc2_w 95, 3, 68719476735, 0), (35, .land, 1, 0, 0), (36, .putfield 97, 3, 3, 11), (39, .aload_n 0, 1, 0, 0), (40, .invokevirtual 100, 3, 34, 1), (43, .ifCond .ne 7, 3, 50, 0), (46, .aload_n 0, 1, 0, 0), (47, .invokevirtual 104, 3, 35, 1), (50, .iconst 0, 1, 0, 0), (51, .istore 5, 2, 0, 0), (53, .iload 5, 2, 0, 0), (55, .iconst 4, 1, 0, 0), (56, .if_icmp .ge 15, 3, 71, 0), (59, .aload_n 0, 1, 0, 0), (60, .iload 5, 2, 0, 0), (62, .invokevirtual 108, 3, 36, 2), (65, .iinc 5 1, 3, 0, 0), (68, .goto (-15), 3, 53, 0), (71, .aload_n 0, 1, 0, 0), (72, .getfield 97, 3, 3, 11), (75, .iconst 0, 1, 0, 0), (76, .invokestatic 111, 3, 27, 2), (79, .istore 5, 2, 0, 0), (81, .iload 5, 2, 0, 0), (83, .aload_n 0, 1, 0, 0), (84, .getfield 85, 3, 3, 8), (87, .if_icmp .gt 53, 3, 140, 0), (90, .aload_n 0, 1, 0, 0), (91, .getfield 33, 3, 3, 0), (94, .getfield 115, 3, 8, 2), (97, .aload_n 0, 1, 0, 0), (98, .getfield 85, 3, 3, 8), (101, .iaload, 1, 0, 0), (102, .aload_n 0, 1, 0, 0), (103, .getfield 33, 3, 3, 0), (106, .getfield 115, 3, 8, 2), (109, .aload_n 0, 1, 0, 0), (110, .getfield 85, 3, 3, 8)]
def kX4_goFrom_1 : List (Nat × xI) := [(113, .iload 5, 2, 0, 0), (115, .isub, 1, 0, 0), (116, .iaload, 1, 0, 0), (117, .if_icmp .ne 23, 3, 140, 0), (120, .aload_n 0, 1, 0, 0), (121, .bipush 6, 2, 0, 0), (123, .iconst 1, 1, 0, 0), (124, .aload_n 0, 1, 0, 0), (125, .getfield 51, 3, 3, 1), (128, .bipush 6, 2, 0, 0), (130, .invokevirtual 118, 3, 15, 2), (133, .aload_n 0, 1, 0, 0), (134, .getfield 97, 3, 3, 11), (137, .invokevirtual 122, 3, 37, 5), (140, .aload_n 0, 1, 0, 0), (141, .iconst 0, 1, 0, 0), (142, .iconst 1, 1, 0, 0), (143, .aload_n 0, 1, 0, 0), (144, .getfield 51, 3, 3, 1), (147, .aload_n 0, 1, 0, 0), (148, .getfield 33, 3, 3, 0), (151, .getfield 115, 3, 8, 2), (154, .aload_n 0, 1, 0, 0), (155, .getfield 85, 3, 3, 8), (158, .iaload, 1, 0, 0), (159, .invokevirtual 126, 3, 14, 2), (162, .aload_n 0, 1, 0, 0), (163, .getfield 97, 3, 3, 11), (166, .invokevirtual 122, 3, 37, 5), (169, .return_, 1, 0, 0)]
def kX4_goFrom : List (Nat × xI) := kX4_goFrom_0 ++ (kX4_goFrom_1)
def kX4_copiesWereLed : List (Nat × xI) := [(0, .aload_n 0, 1, 0, 0), (1, .getfield 85, 3, 3, 8), (4, .bipush 40, 2, 0, 0), (6, .imul, 1, 0, 0), (7, .istore_n 1, 1, 0, 0), (8, .iload_n 1, 1, 0, 0), (9, .istore_n 2, 1, 0, 0), (10, .iload_n 2, 1, 0, 0), (11, .iload_n 1, 1, 0, 0), (12, .aload_n 0, 1, 0, 0), (13, .getfield 88, 3, 3, 9), (16, .iadd, 1, 0, 0), (17, .if_icmp .ge 34, 3, 51, 0), (20, .aload_n 0, 1, 0, 0), (21, .getfield 9, 3, 3, 2), (24, .iload_n 2, 1, 0, 0), (25, .laload, 1, 0, 0), (26, .aload_n 0, 1, 0, 0), (27, .getfield 97, 3, 3, 11), (30, .lxor, 1, 0, 0), (31, .ldc2_w 95, 3, 68719476735, 0), (34, .land, 1, 0, 0), (35, .bipush 9, 2, 0, 0), (37, .lushr, 1, 0, 0), (38, .lconst 0, 1, 0, 0), (39, .lcmp, 1, 0, 0), (40, .ifCond .ne 5, 3, 45, 0), (43, .iconst 1, 1, 0, 0), (44, .ireturn, 1, 0, 0), (45, .iinc 2 1, 3, 0, 0), (48, .goto (-38), 3, 10, 0), (51, .iconst 0, 1, 0, 0), (52, .ireturn, 1, 0, 0)]
def kX4_leadByCopies : List (Nat × xI) := [(0, .aload_n 0, 1, 0, 0), (1, .getfield 51, 3, 3, 1), (4, .iconst 1, 1, 0, 0), (5, .invokevirtual 118, 3, 15, 2), (8, .istore_n 1, 1, 0, 0), (9, .aload_n 0, 1, 0, 0), (10, .getfield 33, 3, 3, 0), (13, .aload_n 0, 1, 0, 0), (14, .getfield 85, 3, 3, 8), (17, .invokevirtual 129, 3, 69, 2), (20, .istore_n 2, 1, 0, 0), (21, .iload_n 2, 1, 0, 0), (22, .aload_n 0, 1, 0, 0), (23, .getfield 33, 3, 3, 0), (26, .getfield 132, 3, 8, 0), (29, .if_icmp .lt 61, 3, 90, 0), (32, .aload_n 0, 1, 0, 0), (33, .getfield 33, 3, 3, 0), (36, .aload_n 0, 1, 0, 0), (37, .getfield 85, 3, 3, 8), (40, .iload_n 2, 1, 0, 0), (41, .invokevirtual 135, 3, 70, 3), (44, .istore_n 3, 1, 0, 0), (45, .iload_n 1, 1, 0, 0), (46, .aload_n 0, 1, 0, 0), (47, .getfield 51, 3, 3, 1), (50, .getfield 138, 3, 2, 3), (53, .iload_n 2, 1, 0, 0), (54, .iaload, 1, 0, 0), (55, .iadd, 1, 0, 0), (56, .aload_n 0, 1, 0, 0), (57, .getfield 51, 3, 3, 1), (60, .getfield 141, 3, 2, 4), (63, .iload_n 3, 1, 0, 0), (64, .iaload, 1, 0, 0), (65, .iadd, 1, 0, 0), (66, .istore 4, 2, 0, 0), (68, .aload_n 0, 1, 0, 0), (69, .iconst 1, 1, 0, 0), (70, .iload_n 2, 1, 0, 0), (71, .iload 4, 2, 0, 0), (73, .aload_n 0, 1, 0, 0), (74, .getfield 97, 3, 3, 11), (77, .iload_n 3, 1, 0, 0), (78, .invokestatic 144, 3, 28, 2), (81, .invokevirtual 122, 3, 37, 5), (84, .iinc 2 (-1), 3, 0, 0), (87, .goto (-66), 3, 21, 0), (90, .return_, 1, 0, 0)]
def kX4_leadByAgain : List (Nat × xI) := [(0, .aload_n 0, 1, 0, 0), (1, .getfield 33, 3, 3, 0), (4, .aload_n 0, 1, 0, 0), (5, .getfield 85, 3, 3, 8), (8, .aload_n 0, 1, 0, 0), (9, .getfield 97, 3, 3, 11), (12, .iload_n 1, 1, 0, 0), (13, .invokestatic 111, 3, 27, 2), (16, .invokevirtual 148, 3, 71, 3), (19, .istore_n 2, 1, 0, 0), (20, .aload_n 0, 1, 0, 0), (21, .getfield 51, 3, 3, 1), (24, .iconst 2, 1, 0, 0), (25, .iload_n 1, 1, 0, 0), (26, .iadd, 1, 0, 0), (27, .invokevirtual 118, 3, 15, 2), (30, .istore_n 3, 1, 0, 0), (31, .aload_n 0, 1, 0, 0), (32, .getfield 97, 3, 3, 11), (35, .iload_n 1, 1, 0, 0), (36, .invokestatic 151, 3, 29, 2), (39, .lstore 4, 2, 0, 0), (41, .iload_n 2, 1, 0, 0), (42, .aload_n 0, 1, 0, 0), (43, .getfield 33, 3, 3, 0), (46, .getfield 132, 3, 8, 0), (49, .if_icmp .lt 30, 3, 79, 0), (52, .aload_n 0, 1, 0, 0), (53, .iconst 2, 1, 0, 0), (54, .iload_n 1, 1, 0, 0), (55, .iadd, 1, 0, 0), (56, .iload_n 2, 1, 0, 0), (57, .iload_n 3, 1, 0, 0), (58, .aload_n 0, 1, 0, 0), (59, .getfield 51, 3, 3, 1), (62, .getfield 138, 3, 2, 3), (65, .iload_n 2, 1, 0, 0), (66, .iaload, 1, 0, 0), (67, .iadd, 1, 0, 0), (68, .lload 4, 2, 0, 0), (70, .invokevirtual 122, 3, 37, 5), (73, .iinc 2 (-1), 3, 0, 0), (76, .goto (-35), 3, 41, 0), (79, .return_, 1, 0, 0)]
def kX4_lead_0 : List (Nat × xI) := [(0, .aload_n 0, 1, 0, 0), (1, .getfield 85, 3, 3, 8), (4, .iload_n 2, 1, 0, 0), (5, .iadd, 1, 0, 0), (6, .istore 6, 2, 0, 0), (8, .aload_n 0, 1, 0, 0), (9, .getfield 91, 3, 3, 10), (12, .iload_n 3, 1, 0, 0), (13, .i2l, 1, 0, 0), (14, .ladd, 1, 0, 0), (15, .bipush 36, 2, 0, 0), (17, .lshl, 1, 0, 0), (18, .lload 4, 2, 0, 0), (20, .lor, 1, 0, 0), (21, .lstore 7, 2, 0, 0), (23, .lload 7, 2, 0, 0), (25, .aload_n 0, 1, 0, 0), (26, .getfield 26, 3, 3, 6), (29, .iload 6, 2, 0, 0), (31, .laload, 1, 0, 0), (32, .lcmp, 1, 0, 0), (33, .ifCond .le 4, 3, 37, 0), (36, .return_, 1, 0, 0), (37, .iload 6, 2, 0, 0), (39, .bipush 40, 2, 0, 0), (41, .imul, 1, 0, 0), (42, .aload_n 0, 1, 0, 0), (43, .getfield 19, 3, 3, 4), (46, .iload 6, 2, 0, 0), (48, .iaload, 1, 0, 0), (49, .iadd, 1, 0, 0), (50, .istore 9, 2, 0, 0), (52, .iload 6, 2, 0, 0), (54, .bipush 40, 2, 0, 0), (56, .imul, 1, 0, 0), (57, .istore 10, 2, 0, 0), (59, .iload 10, 2, 0, 0), (61, .iload 9, 2, 0, 0), (63, .if_icmp .ge 40, 3, 103, 0), (66, .aload_n 0, 1, 0, 0), (67, .getfield 9, 3, 3, 2), (70, .iload 10, 2, 0, 0), (72, .laload, 1, 0, 0), (73, .lload 7, 2, 0, 0), (75, .lcmp, 1, 0, 0), (76, .ifCond .gt 27, 3, 103, 0), (79, .aload_n 0, 1, 0, 0), (80, .getfield 9, 3, 3, 2), (83, .iload 10, 2, 0, 0), (85, .laload, 1, 0, 0), (86, .ldc2_w 95, 3, 68719476735, 0), (89, .land, 1, 0, 0), (90, .lload 4, 2, 0, 0), (92, .lcmp, 1, 0, 0), (93, .ifCond .ne 4, 3, 97, 0), (96, .return_, 1, 0, 0), (97, .iinc 10 1, 3, 0, 0), (100, .goto (-41), 3, 59, 0), (103, .iload 10, 2, 0, 0), (105, .istore 11, 2, 0, 0)]
def kX4_lead_1 : List (Nat × xI) := [(107, .iload 11, 2, 0, 0), (109, .iload 9, 2, 0, 0), (111, .if_icmp .ge 26, 3, 137, 0), (114, .aload_n 0, 1, 0, 0), (115, .getfield 9, 3, 3, 2), (118, .iload 11, 2, 0, 0), (120, .laload, 1, 0, 0), (121, .ldc2_w 95, 3, 68719476735, 0), (124, .land, 1, 0, 0), (125, .lload 4, 2, 0, 0), (127, .lcmp, 1, 0, 0), (128, .ifCond .eq 9, 3, 137, 0), (131, .iinc 11 1, 3, 0, 0), (134, .goto (-27), 3, 107, 0), (137, .iload 11, 2, 0, 0), (139, .iload 9, 2, 0, 0), (141, .if_icmp .ne 15, 3, 156, 0), (144, .aload_n 0, 1, 0, 0), (145, .iload 6, 2, 0, 0), (147, .invokevirtual 154, 3, 38, 2), (150, .ifCond .ne 6, 3, 156, 0), (153, .iinc 11 (-1), 3, 0, 0), (156, .iload 10, 2, 0, 0), (158, .iload 11, 2, 0, 0), (160, .if_icmp .gt 26, 3, 186, 0), (163, .aload_n 0, 1, 0, 0), (164, .iload 10, 2, 0, 0), (166, .iload 11, 2, 0, 0), (168, .lload 7, 2, 0, 0), (170, .aload_n 0, 1, 0, 0), (171, .getfield 88, 3, 3, 9), (174, .bipush 12, 2, 0, 0), (176, .ishl, 1, 0, 0), (177, .iload_n 2, 1, 0, 0), (178, .iconst 3, 1, 0, 0), (179, .ishl, 1, 0, 0), (180, .ior, 1, 0, 0), (181, .iload_n 1, 1, 0, 0), (182, .ior, 1, 0, 0), (183, .invokevirtual 158, 3, 39, 5), (186, .iload 6, 2, 0, 0), (188, .aload_n 0, 1, 0, 0), (189, .getfield 33, 3, 3, 0), (192, .getfield 37, 3, 8, 3), (195, .if_icmp .eq 13, 3, 208, 0), (198, .aload_n 0, 1, 0, 0), (199, .getfield 22, 3, 3, 5), (202, .iload 6, 2, 0, 0), (204, .baload, 1, 0, 0), (205, .ifCond .eq 30, 3, 235, 0), (208, .aload_n 0, 1, 0, 0), (209, .getfield 26, 3, 3, 6), (212, .iload 6, 2, 0, 0), (214, .aload_n 0, 1, 0, 0), (215, .getfield 9, 3, 3, 2), (218, .iload 6, 2, 0, 0), (220, .bipush 40, 2, 0, 0), (222, .imul, 1, 0, 0), (223, .aload_n 0, 1, 0, 0), (224, .getfield 19, 3, 3, 4)]
def kX4_lead_2 : List (Nat × xI) := [(227, .iload 6, 2, 0, 0), (229, .iaload, 1, 0, 0), (230, .iadd, 1, 0, 0), (231, .iconst 1, 1, 0, 0), (232, .isub, 1, 0, 0), (233, .laload, 1, 0, 0), (234, .lastore, 1, 0, 0), (235, .return_, 1, 0, 0)]
def kX4_lead : List (Nat × xI) := kX4_lead_0 ++ (kX4_lead_1 ++ (kX4_lead_2))
def kX4_makeRoom : List (Nat × xI) := [(0, .aload_n 0, 1, 0, 0), (1, .getfield 19, 3, 3, 4), (4, .iload_n 1, 1, 0, 0), (5, .iaload, 1, 0, 0), (6, .iload_n 1, 1, 0, 0), (7, .aload_n 0, 1, 0, 0), (8, .getfield 33, 3, 3, 0), (11, .getfield 37, 3, 8, 3), (14, .if_icmp .ne 7, 3, 21, 0), (17, .iconst 1, 1, 0, 0), (18, .goto 7, 3, 25, 0), (21, .aload_n 0, 1, 0, 0), (22, .getfield 70, 3, 3, 7), (25, .if_icmp .ge 15, 3, 40, 0), (28, .aload_n 0, 1, 0, 0), (29, .getfield 19, 3, 3, 4), (32, .iload_n 1, 1, 0, 0), (33, .dup2, 1, 0, 0), (34, .iaload, 1, 0, 0), (35, .iconst 1, 1, 0, 0), (36, .iadd, 1, 0, 0), (37, .iastore, 1, 0, 0), (38, .iconst 1, 1, 0, 0), (39, .ireturn, 1, 0, 0), (40, .iload_n 1, 1, 0, 0), (41, .aload_n 0, 1, 0, 0), (42, .getfield 33, 3, 3, 0), (45, .getfield 37, 3, 8, 3), (48, .if_icmp .ge 10, 3, 58, 0), (51, .aload_n 0, 1, 0, 0), (52, .getfield 22, 3, 3, 5), (55, .iload_n 1, 1, 0, 0), (56, .iconst 1, 1, 0, 0), (57, .bastore, 1, 0, 0), (58, .iconst 0, 1, 0, 0), (59, .ireturn, 1, 0, 0)]
def kX4_insert : List (Nat × xI) := [(0, .iload_n 2, 1, 0, 0), (1, .istore 6, 2, 0, 0), (3, .iload 6, 2, 0, 0), (5, .iload_n 1, 1, 0, 0), (6, .if_icmp .le 41, 3, 47, 0), (9, .aload_n 0, 1, 0, 0), (10, .getfield 9, 3, 3, 2), (13, .iload 6, 2, 0, 0), (15, .aload_n 0, 1, 0, 0), (16, .getfield 9, 3, 3, 2), (19, .iload 6, 2, 0, 0), (21, .iconst 1, 1, 0, 0), (22, .isub, 1, 0, 0), (23, .laload, 1, 0, 0), (24, .lastore, 1, 0, 0), (25, .aload_n 0, 1, 0, 0), (26, .getfield 15, 3, 3, 3), (29, .iload 6, 2, 0, 0), (31, .aload_n 0, 1, 0, 0), (32, .getfield 15, 3, 3, 3), (35, .iload 6, 2, 0, 0), (37, .iconst 1, 1, 0, 0), (38, .isub, 1, 0, 0), (39, .iaload, 1, 0, 0), (40, .iastore, 1, 0, 0), (41, .iinc 6 (-1), 3, 0, 0), (44, .goto (-41), 3, 3, 0), (47, .aload_n 0, 1, 0, 0), (48, .getfield 9, 3, 3, 2), (51, .iload_n 1, 1, 0, 0), (52, .lload_n 3, 1, 0, 0), (53, .lastore, 1, 0, 0), (54, .aload_n 0, 1, 0, 0), (55, .getfield 15, 3, 3, 3), (58, .iload_n 1, 1, 0, 0), (59, .iload 5, 2, 0, 0), (61, .iastore, 1, 0, 0), (62, .return_, 1, 0, 0)]
def kX4_tellSteps_0 : List (Nat × xI) := [(0, .aload_n 1, 1, 0, 0), (1, .invokevirtual 162, 3, 51, 1), (4, .aload_n 0, 1, 0, 0), (5, .getfield 33, 3, 3, 0), (8, .getfield 37, 3, 8, 3), (11, .istore_n 2, 1, 0, 0), (12, .iload_n 2, 1, 0, 0), (13, .bipush 40, 2, 0, 0), (15, .imul, 1, 0, 0), (16, .istore_n 3, 1, 0, 0), (17, .iload_n 2, 1, 0, 0), (18, .ifCond .le 87, 3, 105, 0), (21, .aload_n 0, 1, 0, 0), (22, .getfield 15, 3, 3, 3), (25, .iload_n 3, 1, 0, 0), (26, .iaload, 1, 0, 0), (27, .istore 4, 2, 0, 0), (29, .iload 4, 2, 0, 0), (31, .bipush 7, 2, 0, 0), (33, .iand, 1, 0, 0), (34, .istore 5, 2, 0, 0), (36, .iconst 1, 1, 0, 0), (37, .iload 4, 2, 0, 0), (39, .iconst 3, 1, 0, 0), (40, .ishr, 1, 0, 0), (41, .sipush 511, 3, 0, 0), (44, .iand, 1, 0, 0), (45, .invokestatic 67, 3, 1000, 2), (48, .istore 6, 2, 0, 0), (50, .iload 5, 2, 0, 0), (52, .ifCond .ne 7, 3, 59, 0), (55, .iconst 0, 1, 0, 0), (56, .goto 17, 3, 73, 0), (59, .aload_n 0, 1, 0, 0), (60, .getfield 9, 3, 3, 2), (63, .iload_n 3, 1, 0, 0), (64, .laload, 1, 0, 0), (65, .ldc2_w 95, 3, 68719476735, 0), (68, .land, 1, 0, 0), (69, .iconst 0, 1, 0, 0), (70, .invokestatic 111, 3, 27, 2), (73, .istore 7, 2, 0, 0), (75, .iload_n 2, 1, 0, 0), (76, .iload 6, 2, 0, 0), (78, .isub, 1, 0, 0), (79, .istore_n 2, 1, 0, 0), (80, .aload_n 1, 1, 0, 0), (81, .iload 5, 2, 0, 0), (83, .iload_n 2, 1, 0, 0), (84, .iload 6, 2, 0, 0), (86, .iload 7, 2, 0, 0), (88, .invokevirtual 166, 3, 52, 5), (91, .iload_n 2, 1, 0, 0), (92, .bipush 40, 2, 0, 0), (94, .imul, 1, 0, 0), (95, .iload 4, 2, 0, 0), (97, .bipush 12, 2, 0, 0), (99, .ishr, 1, 0, 0), (100, .iadd, 1, 0, 0), (101, .istore_n 3, 1, 0, 0)]
def kX4_tellSteps_1 : List (Nat × xI) := [(102, .goto (-85), 3, 17, 0), (105, .aload_n 1, 1, 0, 0), (106, .invokevirtual 170, 3, 53, 1), (109, .return_, 1, 0, 0)]
def kX4_tellSteps : List (Nat × xI) := kX4_tellSteps_0 ++ (kX4_tellSteps_1)
def kX5_init : List (Nat × xI) := [(0, .aload_n 0, 1, 0, 0), (1, .aload_n 1, 1, 0, 0), (2, .aload_n 2, 1, 0, 0), (3, .invokespecial 3, 3, 25, 3), (6, .aload_n 0, 1, 0, 0), (7, .sipush 301, 3, 0, 0), (10, .newarray .int, 2, 0, 0), (12, .putfield 9, 3, 4, 2), (15, .aload_n 0, 1, 0, 0), (16, .sipush 301, 3, 0, 0), (19, .newarray .int, 2, 0, 0), (21, .putfield 15, 3, 4, 3), (24, .aload_n 0, 1, 0, 0), (25, .sipush 301, 3, 0, 0), (28, .newarray .int, 2, 0, 0), (30, .putfield 18, 3, 4, 4), (33, .aload_n 0, 1, 0, 0), (34, .sipush 301, 3, 0, 0), (37, .newarray .int, 2, 0, 0), (39, .putfield 21, 3, 4, 5), (42, .aload_n 0, 1, 0, 0), (43, .sipush 301, 3, 0, 0), (46, .newarray .int, 2, 0, 0), (48, .putfield 24, 3, 4, 6), (51, .iconst 0, 1, 0, 0), (52, .istore_n 3, 1, 0, 0), (53, .iload_n 3, 1, 0, 0), (54, .sipush 300, 3, 0, 0), (57, .if_icmp .gt 27, 3, 84, 0), (60, .aload_n 0, 1, 0, 0), (61, .getfield 24, 3, 4, 6), (64, .iload_n 3, 1, 0, 0), (65, .sipush 512, 3, 0, 0), (68, .iload_n 3, 1, 0, 0), (69, .iload_n 3, 1, 0, 0), (70, .bipush 15, 2, 0, 0), (72, .invokestatic 27, 3, 48, 2), (75, .iadd, 1, 0, 0), (76, .imul, 1, 0, 0), (77, .iastore, 1, 0, 0), (78, .iinc 3 1, 3, 0, 0), (81, .goto (-28), 3, 53, 0), (84, .return_, 1, 0, 0)]
def kX5_findBest : List (Nat × xI) := [(0, .aload_n 0, 1, 0, 0), (1, .getfield 9, 3, 4, 2), (4, .ldc 31, 2, 1073741824, 0), (6, .invokestatic 32, 3, 166, 2), (9, .aload_n 0, 1, 0, 0), (10, .getfield 9, 3, 4, 2), (13, .iconst 0, 1, 0, 0), (14, .iconst 0, 1, 0, 0), (15, .iastore, 1, 0, 0), (16, .iconst 0, 1, 0, 0), (17, .istore_n 3, 1, 0, 0), (18, .iload_n 3, 1, 0, 0), (19, .aload_n 0, 1, 0, 0), (20, .getfield 38, 3, 4, 0), (23, .getfield 42, 3, 8, 3), (26, .if_icmp .ge 54, 3, 80, 0), (29, .aload_n 0, 1, 0, 0), (30, .getfield 38, 3, 4, 0), (33, .iload_n 3, 1, 0, 0), (34, .invokevirtual 48, 3, 69, 2), (37, .istore 4, 2, 0, 0), (39, .iload 4, 2, 0, 0), (41, .ifCond .le 8, 3, 49, 0), (44, .aload_n 0, 1, 0, 0), (45, .iload_n 3, 1, 0, 0), (46, .invokevirtual 52, 3, 43, 2), (49, .iload 4, 2, 0, 0), (51, .aload_n 0, 1, 0, 0), (52, .getfield 38, 3, 4, 0), (55, .getfield 56, 3, 8, 0), (58, .if_icmp .lt 16, 3, 74, 0), (61, .aload_n 0, 1, 0, 0), (62, .iload_n 3, 1, 0, 0), (63, .iload 4, 2, 0, 0), (65, .invokevirtual 59, 3, 44, 3), (68, .iinc 4 (-1), 3, 0, 0), (71, .goto (-22), 3, 49, 0), (74, .iinc 3 1, 3, 0, 0), (77, .goto (-59), 3, 18, 0), (80, .aload_n 0, 1, 0, 0), (81, .aload_n 0, 1, 0, 0), (82, .getfield 38, 3, 4, 0), (85, .getfield 42, 3, 8, 3), (88, .invokevirtual 52, 3, 43, 2), (91, .aload_n 0, 1, 0, 0), (92, .aload_n 1, 1, 0, 0), (93, .invokevirtual 63, 3, 45, 2), (96, .iconst 0, 1, 0, 0), (97, .ireturn, 1, 0, 0)]
def kX5_findFirst : List (Nat × xI) := [(0, .ldc 31, 2, 1073741824, 0), (2, .istore_n 2, 1, 0, 0), (3, .iconst 0, 1, 0, 0), (4, .istore_n 3, 1, 0, 0), (5, .iload_n 3, 1, 0, 0), (6, .iload_n 1, 1, 0, 0), (7, .if_icmp .gt 56, 3, 63, 0), (10, .aload_n 0, 1, 0, 0), (11, .getfield 9, 3, 4, 2), (14, .iload_n 1, 1, 0, 0), (15, .iload_n 3, 1, 0, 0), (16, .isub, 1, 0, 0), (17, .iaload, 1, 0, 0), (18, .istore 4, 2, 0, 0), (20, .iload 4, 2, 0, 0), (22, .ldc 31, 2, 1073741824, 0), (24, .if_icmp .eq 33, 3, 57, 0), (27, .iload 4, 2, 0, 0), (29, .aload_n 0, 1, 0, 0), (30, .getfield 24, 3, 4, 6), (33, .iload_n 3, 1, 0, 0), (34, .iaload, 1, 0, 0), (35, .iadd, 1, 0, 0), (36, .iload_n 2, 1, 0, 0), (37, .if_icmp .ge 20, 3, 57, 0), (40, .iload 4, 2, 0, 0), (42, .aload_n 0, 1, 0, 0), (43, .getfield 24, 3, 4, 6), (46, .iload_n 3, 1, 0, 0), (47, .iaload, 1, 0, 0), (48, .iadd, 1, 0, 0), (49, .istore_n 2, 1, 0, 0), (50, .aload_n 0, 1, 0, 0), (51, .getfield 18, 3, 4, 4), (54, .iload_n 1, 1, 0, 0), (55, .iload_n 3, 1, 0, 0), (56, .iastore, 1, 0, 0), (57, .iinc 3 1, 3, 0, 0), (60, .goto (-55), 3, 5, 0), (63, .aload_n 0, 1, 0, 0), (64, .getfield 21, 3, 4, 5), (67, .iload_n 1, 1, 0, 0), (68, .iload_n 2, 1, 0, 0), (69, .iastore, 1, 0, 0), (70, .return_, 1, 0, 0)]
def kX5_lead : List (Nat × xI) := [(0, .aload_n 0, 1, 0, 0), (1, .getfield 21, 3, 4, 5), (4, .iload_n 1, 1, 0, 0), (5, .iaload, 1, 0, 0), (6, .iload_n 2, 1, 0, 0), (7, .invokestatic 67, 3, 47, 1), (10, .iadd, 1, 0, 0), (11, .istore_n 3, 1, 0, 0), (12, .iload_n 3, 1, 0, 0), (13, .aload_n 0, 1, 0, 0), (14, .getfield 9, 3, 4, 2), (17, .iload_n 1, 1, 0, 0), (18, .iload_n 2, 1, 0, 0), (19, .iadd, 1, 0, 0), (20, .iaload, 1, 0, 0), (21, .if_icmp .ge 21, 3, 42, 0), (24, .aload_n 0, 1, 0, 0), (25, .getfield 9, 3, 4, 2), (28, .iload_n 1, 1, 0, 0), (29, .iload_n 2, 1, 0, 0), (30, .iadd, 1, 0, 0), (31, .iload_n 3, 1, 0, 0), (32, .iastore, 1, 0, 0), (33, .aload_n 0, 1, 0, 0), (34, .getfield 15, 3, 4, 3), (37, .iload_n 1, 1, 0, 0), (38, .iload_n 2, 1, 0, 0), (39, .iadd, 1, 0, 0), (40, .iload_n 2, 1, 0, 0), (41, .iastore, 1, 0, 0), (42, .return_, 1, 0, 0)]
def kX5_tellSteps : List (Nat × xI) := [(0, .aload_n 1, 1, 0, 0), (1, .invokevirtual 70, 3, 51, 1), (4, .aload_n 0, 1, 0, 0), (5, .getfield 38, 3, 4, 0), (8, .getfield 42, 3, 8, 3), (11, .istore_n 2, 1, 0, 0), (12, .iload_n 2, 1, 0, 0), (13, .ifCond .le 82, 3, 95, 0), (16, .iload_n 2, 1, 0, 0), (17, .aload_n 0, 1, 0, 0), (18, .getfield 18, 3, 4, 4), (21, .iload_n 2, 1, 0, 0), (22, .iaload, 1, 0, 0), (23, .isub, 1, 0, 0), (24, .istore_n 3, 1, 0, 0), (25, .iload_n 2, 1, 0, 0), (26, .iconst 1, 1, 0, 0), (27, .isub, 1, 0, 0), (28, .istore 4, 2, 0, 0), (30, .iload 4, 2, 0, 0), (32, .iload_n 3, 1, 0, 0), (33, .if_icmp .lt 18, 3, 51, 0), (36, .aload_n 1, 1, 0, 0), (37, .iconst 0, 1, 0, 0), (38, .iload 4, 2, 0, 0), (40, .iconst 1, 1, 0, 0), (41, .iconst 0, 1, 0, 0), (42, .invokevirtual 76, 3, 52, 5), (45, .iinc 4 (-1), 3, 0, 0), (48, .goto (-18), 3, 30, 0), (51, .iload_n 3, 1, 0, 0), (52, .istore_n 2, 1, 0, 0), (53, .iload_n 3, 1, 0, 0), (54, .ifCond .le 38, 3, 92, 0), (57, .iconst 1, 1, 0, 0), (58, .aload_n 0, 1, 0, 0), (59, .getfield 15, 3, 4, 3), (62, .iload_n 3, 1, 0, 0), (63, .iaload, 1, 0, 0), (64, .invokestatic 80, 3, 1000, 2), (67, .istore 4, 2, 0, 0), (69, .iload_n 3, 1, 0, 0), (70, .iload 4, 2, 0, 0), (72, .isub, 1, 0, 0), (73, .istore_n 2, 1, 0, 0), (74, .aload_n 1, 1, 0, 0), (75, .iconst 1, 1, 0, 0), (76, .iload_n 2, 1, 0, 0), (77, .iload 4, 2, 0, 0), (79, .aload_n 0, 1, 0, 0), (80, .getfield 38, 3, 4, 0), (83, .iload_n 2, 1, 0, 0), (84, .iload 4, 2, 0, 0), (86, .invokevirtual 85, 3, 70, 3), (89, .invokevirtual 76, 3, 52, 5), (92, .goto (-80), 3, 12, 0), (95, .aload_n 1, 1, 0, 0), (96, .invokevirtual 88, 3, 53, 1), (99, .return_, 1, 0, 0)]
def kX5_costOf : List (Nat × xI) := [(0, .sipush 512, 3, 0, 0), (3, .istore_n 2, 1, 0, 0), (4, .iconst 0, 1, 0, 0), (5, .istore_n 3, 1, 0, 0), (6, .iconst 0, 1, 0, 0), (7, .istore 4, 2, 0, 0), (9, .iload 4, 2, 0, 0), (11, .aload_n 1, 1, 0, 0), (12, .getfield 91, 3, 5, 5), (15, .if_icmp .ge 47, 3, 62, 0), (18, .aload_n 1, 1, 0, 0), (19, .getfield 94, 3, 5, 3), (22, .iload 4, 2, 0, 0), (24, .iaload, 1, 0, 0), (25, .ifCond .ne 9, 3, 34, 0), (28, .iinc 3 1, 3, 0, 0), (31, .goto 25, 3, 56, 0), (34, .iload_n 2, 1, 0, 0), (35, .aload_n 0, 1, 0, 0), (36, .getfield 24, 3, 4, 6), (39, .iload_n 3, 1, 0, 0), (40, .iaload, 1, 0, 0), (41, .aload_n 1, 1, 0, 0), (42, .getfield 97, 3, 5, 1), (45, .iload 4, 2, 0, 0), (47, .iaload, 1, 0, 0), (48, .invokestatic 67, 3, 47, 1), (51, .iadd, 1, 0, 0), (52, .iadd, 1, 0, 0), (53, .istore_n 2, 1, 0, 0), (54, .iconst 0, 1, 0, 0), (55, .istore_n 3, 1, 0, 0), (56, .iinc 4 1, 3, 0, 0), (59, .goto (-50), 3, 9, 0), (62, .iload_n 2, 1, 0, 0), (63, .aload_n 0, 1, 0, 0), (64, .getfield 24, 3, 4, 6), (67, .iload_n 3, 1, 0, 0), (68, .iaload, 1, 0, 0), (69, .iadd, 1, 0, 0), (70, .i2l, 1, 0, 0), (71, .lreturn, 1, 0, 0)]
def kX5_copyCost : List (Nat × xI) := [(0, .sipush 512, 3, 0, 0), (3, .iconst 3, 1, 0, 0), (4, .iload_n 0, 1, 0, 0), (5, .bipush 19, 2, 0, 0), (7, .invokestatic 27, 3, 48, 2), (10, .iadd, 1, 0, 0), (11, .imul, 1, 0, 0), (12, .ireturn, 1, 0, 0)]
def kX5_beyond : List (Nat × xI) := [(0, .iload_n 0, 1, 0, 0), (1, .iload_n 1, 1, 0, 0), (2, .if_icmp .ge 7, 3, 9, 0), (5, .iconst 0, 1, 0, 0), (6, .goto 12, 3, 18, 0), (9, .iconst 1, 1, 0, 0), (10, .iload_n 0, 1, 0, 0), (11, .iload_n 1, 1, 0, 0), (12, .isub, 1, 0, 0), (13, .sipush 255, 3, 0, 0), (16, .idiv, 1, 0, 0), (17, .iadd, 1, 0, 0), (18, .ireturn, 1, 0, 0)]
def kX6_init : List (Nat × xI) := [(0, .aload_n 0, 1, 0, 0), (1, .invokespecial 3, 3, 1003, 1), (4, .aload_n 0, 1, 0, 0), (5, .sipush 300, 3, 0, 0), (8, .newarray .int, 2, 0, 0), (10, .putfield 9, 3, 5, 0), (13, .aload_n 0, 1, 0, 0), (14, .sipush 300, 3, 0, 0), (17, .newarray .int, 2, 0, 0), (19, .putfield 15, 3, 5, 1), (22, .aload_n 0, 1, 0, 0), (23, .sipush 300, 3, 0, 0), (26, .newarray .int, 2, 0, 0), (28, .putfield 18, 3, 5, 2), (31, .aload_n 0, 1, 0, 0), (32, .sipush 300, 3, 0, 0), (35, .newarray .int, 2, 0, 0), (37, .putfield 21, 3, 5, 3), (40, .aload_n 0, 1, 0, 0), (41, .sipush 300, 3, 0, 0), (44, .newarray .int, 2, 0, 0), (46, .putfield 24, 3, 5, 4), (49, .return_, 1, 0, 0)]
def kX6_hasStep : List (Nat × xI) := [(0, .iload_n 1, 1, 0, 0), (1, .ifCond .lt 15, 3, 16, 0), (4, .iload_n 1, 1, 0, 0), (5, .aload_n 0, 1, 0, 0), (6, .getfield 27, 3, 5, 5), (9, .if_icmp .ge 7, 3, 16, 0), (12, .iconst 1, 1, 0, 0), (13, .goto 4, 3, 17, 0), (16, .iconst 0, 1, 0, 0), (17, .ireturn, 1, 0, 0)]
def kX6_begin : List (Nat × xI) := [(0, .aload_n 0, 1, 0, 0), (1, .iconst 0, 1, 0, 0), (2, .putfield 27, 3, 5, 5), (5, .return_, 1, 0, 0)]
def kX6_add : List (Nat × xI) := [(0, .aload_n 0, 1, 0, 0), (1, .getfield 27, 3, 5, 5), (4, .sipush 300, 3, 0, 0), (7, .if_icmp .lt 4, 3, 11, 0), (10, .return_, 1, 0, 0), (11, .aload_n 0, 1, 0, 0), (12, .getfield 21, 3, 5, 3), (15, .aload_n 0, 1, 0, 0), (16, .getfield 27, 3, 5, 5), (19, .iload_n 1, 1, 0, 0), (20, .iastore, 1, 0, 0), (21, .aload_n 0, 1, 0, 0), (22, .getfield 9, 3, 5, 0), (25, .aload_n 0, 1, 0, 0), (26, .getfield 27, 3, 5, 5), (29, .iload_n 2, 1, 0, 0), (30, .iastore, 1, 0, 0), (31, .aload_n 0, 1, 0, 0), (32, .getfield 15, 3, 5, 1), (35, .aload_n 0, 1, 0, 0), (36, .getfield 27, 3, 5, 5), (39, .iload_n 3, 1, 0, 0), (40, .iastore, 1, 0, 0), (41, .aload_n 0, 1, 0, 0), (42, .getfield 18, 3, 5, 2), (45, .aload_n 0, 1, 0, 0), (46, .getfield 27, 3, 5, 5), (49, .iload 4, 2, 0, 0), (51, .iastore, 1, 0, 0), (52, .aload_n 0, 1, 0, 0), (53, .dup, 1, 0, 0), (54, .getfield 27, 3, 5, 5), (57, .iconst 1, 1, 0, 0), (58, .iadd, 1, 0, 0), (59, .putfield 27, 3, 5, 5), (62, .return_, 1, 0, 0)]
def kX6_turnRound : List (Nat × xI) := [(0, .iconst 0, 1, 0, 0), (1, .istore_n 1, 1, 0, 0), (2, .iload_n 1, 1, 0, 0), (3, .aload_n 0, 1, 0, 0), (4, .getfield 27, 3, 5, 5), (7, .iconst 2, 1, 0, 0), (8, .idiv, 1, 0, 0), (9, .if_icmp .ge 54, 3, 63, 0), (12, .aload_n 0, 1, 0, 0), (13, .getfield 27, 3, 5, 5), (16, .iconst 1, 1, 0, 0), (17, .isub, 1, 0, 0), (18, .iload_n 1, 1, 0, 0), (19, .isub, 1, 0, 0), (20, .istore_n 2, 1, 0, 0), (21, .aload_n 0, 1, 0, 0), (22, .getfield 21, 3, 5, 3), (25, .iload_n 1, 1, 0, 0), (26, .iload_n 2, 1, 0, 0), (27, .invokestatic 31, 3, 54, 3), (30, .aload_n 0, 1, 0, 0), (31, .getfield 9, 3, 5, 0), (34, .iload_n 1, 1, 0, 0), (35, .iload_n 2, 1, 0, 0), (36, .invokestatic 31, 3, 54, 3), (39, .aload_n 0, 1, 0, 0), (40, .getfield 15, 3, 5, 1), (43, .iload_n 1, 1, 0, 0), (44, .iload_n 2, 1, 0, 0), (45, .invokestatic 31, 3, 54, 3), (48, .aload_n 0, 1, 0, 0), (49, .getfield 18, 3, 5, 2), (52, .iload_n 1, 1, 0, 0), (53, .iload_n 2, 1, 0, 0), (54, .invokestatic 31, 3, 54, 3), (57, .iinc 1 1, 3, 0, 0), (60, .goto (-58), 3, 2, 0), (63, .return_, 1, 0, 0)]
def kX6_swap : List (Nat × xI) := [(0, .aload_n 0, 1, 0, 0), (1, .iload_n 1, 1, 0, 0), (2, .iaload, 1, 0, 0), (3, .istore_n 3, 1, 0, 0), (4, .aload_n 0, 1, 0, 0), (5, .iload_n 1, 1, 0, 0), (6, .aload_n 0, 1, 0, 0), (7, .iload_n 2, 1, 0, 0), (8, .iaload, 1, 0, 0), (9, .iastore, 1, 0, 0), (10, .aload_n 0, 1, 0, 0), (11, .iload_n 2, 1, 0, 0), (12, .iload_n 3, 1, 0, 0), (13, .iastore, 1, 0, 0), (14, .return_, 1, 0, 0)]
def kX6_finish : List (Nat × xI) := [(0, .aload_n 0, 1, 0, 0), (1, .lload_n 2, 1, 0, 0), (2, .putfield 35, 3, 5, 6), (5, .aload_n 0, 1, 0, 0), (6, .iload 4, 2, 0, 0), (8, .putfield 39, 3, 5, 7), (11, .iconst 0, 1, 0, 0), (12, .istore 5, 2, 0, 0), (14, .iload 5, 2, 0, 0), (16, .aload_n 0, 1, 0, 0), (17, .getfield 27, 3, 5, 5), (20, .if_icmp .ge 65, 3, 85, 0), (23, .aload_n 0, 1, 0, 0), (24, .getfield 9, 3, 5, 0), (27, .iload 5, 2, 0, 0), (29, .iaload, 1, 0, 0), (30, .istore 6, 2, 0, 0), (32, .aload_n 0, 1, 0, 0), (33, .getfield 21, 3, 5, 3), (36, .iload 5, 2, 0, 0), (38, .iaload, 1, 0, 0), (39, .ifCond .ne 20, 3, 59, 0), (42, .aload_n 0, 1, 0, 0), (43, .getfield 24, 3, 5, 4), (46, .iload 6, 2, 0, 0), (48, .aload_n 1, 1, 0, 0), (49, .getfield 43, 3, 8, 2), (52, .iload 6, 2, 0, 0), (54, .iaload, 1, 0, 0), (55, .iastore, 1, 0, 0), (56, .goto 23, 3, 79, 0), (59, .aload_n 0, 1, 0, 0), (60, .iload 6, 2, 0, 0), (62, .aload_n 0, 1, 0, 0), (63, .getfield 15, 3, 5, 1), (66, .iload 5, 2, 0, 0), (68, .iaload, 1, 0, 0), (69, .aload_n 0, 1, 0, 0), (70, .getfield 18, 3, 5, 2), (73, .iload 5, 2, 0, 0), (75, .iaload, 1, 0, 0), (76, .invokevirtual 48, 3, 56, 4), (79, .iinc 5 1, 3, 0, 0), (82, .goto (-68), 3, 14, 0), (85, .return_, 1, 0, 0)]
def kX6_tellBack : List (Nat × xI) := [(0, .iload_n 1, 1, 0, 0), (1, .istore 4, 2, 0, 0), (3, .iload 4, 2, 0, 0), (5, .iload_n 1, 1, 0, 0), (6, .iload_n 2, 1, 0, 0), (7, .iadd, 1, 0, 0), (8, .if_icmp .ge 25, 3, 33, 0), (11, .aload_n 0, 1, 0, 0), (12, .getfield 24, 3, 5, 4), (15, .iload 4, 2, 0, 0), (17, .aload_n 0, 1, 0, 0), (18, .getfield 24, 3, 5, 4), (21, .iload 4, 2, 0, 0), (23, .iload_n 3, 1, 0, 0), (24, .isub, 1, 0, 0), (25, .iaload, 1, 0, 0), (26, .iastore, 1, 0, 0), (27, .iinc 4 1, 3, 0, 0), (30, .goto (-27), 3, 3, 0), (33, .return_, 1, 0, 0)]
def kX7_init : List (Nat × xI) := [(0, .aload_n 0, 1, 0, 0), (1, .aload_n 1, 1, 0, 0), (2, .aload_n 2, 1, 0, 0), (3, .invokespecial 3, 3, 25, 3), (6, .aload_n 0, 1, 0, 0), (7, .sipush 301, 3, 0, 0), (10, .newarray .int, 2, 0, 0), (12, .putfield 9, 3, 6, 2), (15, .aload_n 0, 1, 0, 0), (16, .sipush 301, 3, 0, 0), (19, .newarray .int, 2, 0, 0), (21, .putfield 15, 3, 6, 3), (24, .return_, 1, 0, 0)]
def kX7_findBest_0 : List (Nat × xI) := [(0, .aload_n 0, 1, 0, 0), (1, .getfield 18, 3, 6, 1), (4, .aload_n 0, 1, 0, 0), (5, .getfield 22, 3, 6, 0), (8, .invokevirtual 26, 3, 13, 2), (11, .aload_n 0, 1, 0, 0), (12, .getfield 9, 3, 6, 2), (15, .ldc 32, 2, 1073741824, 0), (17, .invokestatic 33, 3, 166, 2), (20, .aload_n 0, 1, 0, 0), (21, .getfield 9, 3, 6, 2), (24, .iconst 0, 1, 0, 0), (25, .iconst 0, 1, 0, 0), (26, .iastore, 1, 0, 0), (27, .iconst 0, 1, 0, 0), (28, .istore_n 3, 1, 0, 0), (29, .iload_n 3, 1, 0, 0), (30, .aload_n 0, 1, 0, 0), (31, .getfield 22, 3, 6, 0), (34, .getfield 39, 3, 8, 3), (37, .if_icmp .ge 99, 3, 136, 0), (40, .aload_n 0, 1, 0, 0), (41, .getfield 22, 3, 6, 0), (44, .iload_n 3, 1, 0, 0), (45, .invokevirtual 45, 3, 69, 2), (48, .istore 4, 2, 0, 0), (50, .iload 4, 2, 0, 0), (52, .aload_n 0, 1, 0, 0), (53, .getfield 22, 3, 6, 0), (56, .getfield 49, 3, 8, 0), (59, .if_icmp .lt 49, 3, 108, 0), (62, .aload_n 0, 1, 0, 0), (63, .getfield 22, 3, 6, 0), (66, .iload_n 3, 1, 0, 0), (67, .iload 4, 2, 0, 0), (69, .invokevirtual 52, 3, 70, 3), (72, .istore 5, 2, 0, 0), (74, .aload_n 0, 1, 0, 0), (75, .iload_n 3, 1, 0, 0), (76, .iload 4, 2, 0, 0), (78, .aload_n 0, 1, 0, 0), (79, .getfield 18, 3, 6, 1), (82, .getfield 56, 3, 2, 3), (85, .iload 4, 2, 0, 0), (87, .iaload, 1, 0, 0), (88, .aload_n 0, 1, 0, 0), (89, .getfield 18, 3, 6, 1), (92, .getfield 59, 3, 2, 4), (95, .iload 5, 2, 0, 0), (97, .iaload, 1, 0, 0), (98, .iadd, 1, 0, 0), (99, .invokevirtual 62, 3, 59, 4), (102, .iinc 4 (-1), 3, 0, 0), (105, .goto (-55), 3, 50, 0), (108, .aload_n 0, 1, 0, 0), (109, .iload_n 3, 1, 0, 0), (110, .iconst 1, 1, 0, 0), (111, .aload_n 0, 1, 0, 0), (112, .getfield 18, 3, 6, 1), (115, .aload_n 0, 1, 0, 0)]
def kX7_findBest_1 : List (Nat × xI) := [(116, .getfield 22, 3, 6, 0), (119, .getfield 66, 3, 8, 2), (122, .iload_n 3, 1, 0, 0), (123, .iaload, 1, 0, 0), (124, .invokevirtual 69, 3, 14, 2), (127, .invokevirtual 62, 3, 59, 4), (130, .iinc 3 1, 3, 0, 0), (133, .goto (-104), 3, 29, 0), (136, .aload_n 0, 1, 0, 0), (137, .aload_n 1, 1, 0, 0), (138, .invokevirtual 72, 3, 60, 2), (141, .iconst 0, 1, 0, 0), (142, .ireturn, 1, 0, 0)]
def kX7_findBest : List (Nat × xI) := kX7_findBest_0 ++ (kX7_findBest_1)
def kX7_lead : List (Nat × xI) := [(0, .aload_n 0, 1, 0, 0), (1, .getfield 9, 3, 6, 2), (4, .iload_n 1, 1, 0, 0), (5, .iaload, 1, 0, 0), (6, .iload_n 3, 1, 0, 0), (7, .iadd, 1, 0, 0), (8, .istore 4, 2, 0, 0), (10, .iload 4, 2, 0, 0), (12, .aload_n 0, 1, 0, 0), (13, .getfield 9, 3, 6, 2), (16, .iload_n 1, 1, 0, 0), (17, .iload_n 2, 1, 0, 0), (18, .iadd, 1, 0, 0), (19, .iaload, 1, 0, 0), (20, .if_icmp .ge 22, 3, 42, 0), (23, .aload_n 0, 1, 0, 0), (24, .getfield 9, 3, 6, 2), (27, .iload_n 1, 1, 0, 0), (28, .iload_n 2, 1, 0, 0), (29, .iadd, 1, 0, 0), (30, .iload 4, 2, 0, 0), (32, .iastore, 1, 0, 0), (33, .aload_n 0, 1, 0, 0), (34, .getfield 15, 3, 6, 3), (37, .iload_n 1, 1, 0, 0), (38, .iload_n 2, 1, 0, 0), (39, .iadd, 1, 0, 0), (40, .iload_n 2, 1, 0, 0), (41, .iastore, 1, 0, 0), (42, .return_, 1, 0, 0)]
def kX7_tellSteps : List (Nat × xI) := [(0, .aload_n 1, 1, 0, 0), (1, .invokevirtual 76, 3, 51, 1), (4, .aload_n 0, 1, 0, 0), (5, .getfield 22, 3, 6, 0), (8, .getfield 39, 3, 8, 3), (11, .istore_n 2, 1, 0, 0), (12, .iload_n 2, 1, 0, 0), (13, .ifCond .le 53, 3, 66, 0), (16, .iconst 1, 1, 0, 0), (17, .aload_n 0, 1, 0, 0), (18, .getfield 15, 3, 6, 3), (21, .iload_n 2, 1, 0, 0), (22, .iaload, 1, 0, 0), (23, .invokestatic 82, 3, 1000, 2), (26, .istore_n 3, 1, 0, 0), (27, .iload_n 2, 1, 0, 0), (28, .iload_n 3, 1, 0, 0), (29, .isub, 1, 0, 0), (30, .istore_n 2, 1, 0, 0), (31, .iload_n 3, 1, 0, 0), (32, .iconst 1, 1, 0, 0), (33, .if_icmp .ne 14, 3, 47, 0), (36, .aload_n 1, 1, 0, 0), (37, .iconst 0, 1, 0, 0), (38, .iload_n 2, 1, 0, 0), (39, .iconst 1, 1, 0, 0), (40, .iconst 0, 1, 0, 0), (41, .invokevirtual 87, 3, 52, 5), (44, .goto 19, 3, 63, 0), (47, .aload_n 1, 1, 0, 0), (48, .iconst 1, 1, 0, 0), (49, .iload_n 2, 1, 0, 0), (50, .iload_n 3, 1, 0, 0), (51, .aload_n 0, 1, 0, 0), (52, .getfield 22, 3, 6, 0), (55, .iload_n 2, 1, 0, 0), (56, .iload_n 3, 1, 0, 0), (57, .invokevirtual 52, 3, 70, 3), (60, .invokevirtual 87, 3, 52, 5), (63, .goto (-51), 3, 12, 0), (66, .aload_n 1, 1, 0, 0), (67, .invokevirtual 91, 3, 53, 1), (70, .return_, 1, 0, 0)]
def kX8_init : List (Nat × xI) := [(0, .aload_n 0, 1, 0, 0), (1, .invokespecial 3, 3, 1003, 1), (4, .aload_n 0, 1, 0, 0), (5, .aload_n 1, 1, 0, 0), (6, .putfield 9, 3, 7, 0), (9, .aload_n 0, 1, 0, 0), (10, .iload_n 2, 1, 0, 0), (11, .putfield 15, 3, 7, 1), (14, .return_, 1, 0, 0)]
def kX8_walk_0 : List (Nat × xI) := [(0, .aload_n 1, 1, 0, 0), (1, .invokevirtual 19, 3, 51, 1), (4, .ldc2_w 26, 3, 134480385, 0), (7, .lstore_n 3, 1, 0, 0), (8, .iconst 0, 1, 0, 0), (9, .istore 5, 2, 0, 0), (11, .iload 5, 2, 0, 0), (13, .aload_n 0, 1, 0, 0), (14, .getfield 9, 3, 7, 0), (17, .getfield 28, 3, 8, 3), (20, .if_icmp .ge 132, 3, 152, 0), (23, .aload_n 0, 1, 0, 0), (24, .getfield 9, 3, 7, 0), (27, .iload 5, 2, 0, 0), (29, .invokevirtual 34, 3, 69, 2), (32, .istore 6, 2, 0, 0), (34, .iload 6, 2, 0, 0), (36, .ifCond .eq 15, 3, 51, 0), (39, .aload_n 0, 1, 0, 0), (40, .iload 5, 2, 0, 0), (42, .iload 6, 2, 0, 0), (44, .iload_n 2, 1, 0, 0), (45, .invokevirtual 38, 3, 63, 4), (48, .ifCond .eq 18, 3, 66, 0), (51, .aload_n 1, 1, 0, 0), (52, .iconst 0, 1, 0, 0), (53, .iload 5, 2, 0, 0), (55, .iconst 1, 1, 0, 0), (56, .iconst 0, 1, 0, 0), (57, .invokevirtual 42, 3, 52, 5), (60, .iinc 5 1, 3, 0, 0), (63, .goto (-52), 3, 11, 0), (66, .aload_n 0, 1, 0, 0), (67, .lload_n 3, 1, 0, 0), (68, .iload 5, 2, 0, 0), (70, .iload 6, 2, 0, 0), (72, .invokevirtual 46, 3, 64, 4), (75, .istore 7, 2, 0, 0), (77, .iload 7, 2, 0, 0), (79, .iconst 4, 1, 0, 0), (80, .if_icmp .ge 31, 3, 111, 0), (83, .aload_n 1, 1, 0, 0), (84, .iconst 2, 1, 0, 0), (85, .iload 7, 2, 0, 0), (87, .iadd, 1, 0, 0), (88, .iload 5, 2, 0, 0), (90, .iload 6, 2, 0, 0), (92, .lload_n 3, 1, 0, 0), (93, .iload 7, 2, 0, 0), (95, .invokestatic 50, 3, 27, 2), (98, .invokevirtual 42, 3, 52, 5), (101, .lload_n 3, 1, 0, 0), (102, .iload 7, 2, 0, 0), (104, .invokestatic 54, 3, 29, 2), (107, .lstore_n 3, 1, 0, 0), (108, .goto 34, 3, 142, 0), (111, .aload_n 0, 1, 0, 0), (112, .getfield 9, 3, 7, 0), (115, .iload 5, 2, 0, 0), (117, .iload 6, 2, 0, 0)]
def kX8_walk_1 : List (Nat × xI) := [(119, .invokevirtual 58, 3, 70, 3), (122, .istore 8, 2, 0, 0), (124, .aload_n 1, 1, 0, 0), (125, .iconst 1, 1, 0, 0), (126, .iload 5, 2, 0, 0), (128, .iload 6, 2, 0, 0), (130, .iload 8, 2, 0, 0), (132, .invokevirtual 42, 3, 52, 5), (135, .lload_n 3, 1, 0, 0), (136, .iload 8, 2, 0, 0), (138, .invokestatic 62, 3, 28, 2), (141, .lstore_n 3, 1, 0, 0), (142, .iload 5, 2, 0, 0), (144, .iload 6, 2, 0, 0), (146, .iadd, 1, 0, 0), (147, .istore 5, 2, 0, 0), (149, .goto (-138), 3, 11, 0), (152, .return_, 1, 0, 0)]
def kX8_walk : List (Nat × xI) := kX8_walk_0 ++ (kX8_walk_1)
def kX8_longerAhead : List (Nat × xI) := [(0, .iconst 1, 1, 0, 0), (1, .istore 4, 2, 0, 0), (3, .iload 4, 2, 0, 0), (5, .iload_n 3, 1, 0, 0), (6, .if_icmp .gt 26, 3, 32, 0), (9, .aload_n 0, 1, 0, 0), (10, .getfield 9, 3, 7, 0), (13, .iload_n 1, 1, 0, 0), (14, .iload 4, 2, 0, 0), (16, .iadd, 1, 0, 0), (17, .invokevirtual 34, 3, 69, 2), (20, .iload_n 2, 1, 0, 0), (21, .if_icmp .le 5, 3, 26, 0), (24, .iconst 1, 1, 0, 0), (25, .ireturn, 1, 0, 0), (26, .iinc 4 1, 3, 0, 0), (29, .goto (-26), 3, 3, 0), (32, .iconst 0, 1, 0, 0), (33, .ireturn, 1, 0, 0)]
def kX8_againAsLong : List (Nat × xI) := [(0, .aload_n 0, 1, 0, 0), (1, .getfield 15, 3, 7, 1), (4, .ifCond .ne 5, 3, 9, 0), (7, .iconst 4, 1, 0, 0), (8, .ireturn, 1, 0, 0), (9, .iconst 0, 1, 0, 0), (10, .istore 5, 2, 0, 0), (12, .iload 5, 2, 0, 0), (14, .iconst 4, 1, 0, 0), (15, .if_icmp .ge 28, 3, 43, 0), (18, .aload_n 0, 1, 0, 0), (19, .getfield 9, 3, 7, 0), (22, .iload_n 3, 1, 0, 0), (23, .lload_n 1, 1, 0, 0), (24, .iload 5, 2, 0, 0), (26, .invokestatic 50, 3, 27, 2), (29, .invokevirtual 65, 3, 71, 3), (32, .iload 4, 2, 0, 0), (34, .if_icmp .ge 9, 3, 43, 0), (37, .iinc 5 1, 3, 0, 0), (40, .goto (-28), 3, 12, 0), (43, .iload 5, 2, 0, 0), (45, .ireturn, 1, 0, 0)]
def kX9_init : List (Nat × xI) := [(0, .aload_n 0, 1, 0, 0), (1, .invokespecial 3, 3, 1003, 1), (4, .aload_n 0, 1, 0, 0), (5, .sipush 300, 3, 0, 0), (8, .newarray .int, 2, 0, 0), (10, .putfield 9, 3, 8, 2), (13, .aload_n 0, 1, 0, 0), (14, .sipush 300, 3, 0, 0), (17, .newarray .int, 2, 0, 0), (19, .putfield 15, 3, 8, 4), (22, .aload_n 0, 1, 0, 0), (23, .ldc 18, 2, 44850, 0), (25, .newarray .int, 2, 0, 0), (27, .putfield 19, 3, 8, 5), (30, .aload_n 0, 1, 0, 0), (31, .sipush 300, 3, 0, 0), (34, .newarray .int, 2, 0, 0), (36, .putfield 22, 3, 8, 6), (39, .aload_n 0, 1, 0, 0), (40, .iload_n 1, 1, 0, 0), (41, .ifCond .ne 7, 3, 48, 0), (44, .iconst 3, 1, 0, 0), (45, .goto 13, 3, 58, 0), (48, .iload_n 1, 1, 0, 0), (49, .iconst 1, 1, 0, 0), (50, .if_icmp .ne 7, 3, 57, 0), (53, .iconst 4, 1, 0, 0), (54, .goto 4, 3, 58, 0), (57, .iconst 2, 1, 0, 0), (58, .putfield 25, 3, 8, 0), (61, .aload_n 0, 1, 0, 0), (62, .iload_n 1, 1, 0, 0), (63, .ifCond .ne 9, 3, 72, 0), (66, .sipush 258, 3, 0, 0), (69, .goto 17, 3, 86, 0), (72, .iload_n 1, 1, 0, 0), (73, .iconst 1, 1, 0, 0), (74, .if_icmp .ne 9, 3, 83, 0), (77, .sipush 300, 3, 0, 0), (80, .goto 6, 3, 86, 0), (83, .sipush 273, 3, 0, 0), (86, .putfield 29, 3, 8, 1), (89, .return_, 1, 0, 0)]
def kX9_has : List (Nat × xI) := [(0, .iload_n 1, 1, 0, 0), (1, .ifCond .lt 15, 3, 16, 0), (4, .iload_n 1, 1, 0, 0), (5, .aload_n 0, 1, 0, 0), (6, .getfield 32, 3, 8, 3), (9, .if_icmp .ge 7, 3, 16, 0), (12, .iconst 1, 1, 0, 0), (13, .goto 4, 3, 17, 0), (16, .iconst 0, 1, 0, 0), (17, .ireturn, 1, 0, 0)]
def kX9_append_0 : List (Nat × xI) := [(0, .aload_n 0, 1, 0, 0), (1, .getfield 32, 3, 8, 3), (4, .sipush 300, 3, 0, 0), (7, .if_icmp .lt 4, 3, 11, 0), (10, .return_, 1, 0, 0), (11, .aload_n 0, 1, 0, 0), (12, .getfield 32, 3, 8, 3), (15, .istore_n 2, 1, 0, 0), (16, .aload_n 0, 1, 0, 0), (17, .getfield 9, 3, 8, 2), (20, .iload_n 2, 1, 0, 0), (21, .iload_n 1, 1, 0, 0), (22, .iastore, 1, 0, 0), (23, .aload_n 0, 1, 0, 0), (24, .getfield 22, 3, 8, 6), (27, .iload_n 2, 1, 0, 0), (28, .iconst 0, 1, 0, 0), (29, .iastore, 1, 0, 0), (30, .aload_n 0, 1, 0, 0), (31, .getfield 15, 3, 8, 4), (34, .iload_n 2, 1, 0, 0), (35, .iconst 0, 1, 0, 0), (36, .iastore, 1, 0, 0), (37, .aload_n 0, 1, 0, 0), (38, .dup, 1, 0, 0), (39, .getfield 32, 3, 8, 3), (42, .iconst 1, 1, 0, 0), (43, .iadd, 1, 0, 0), (44, .putfield 32, 3, 8, 3), (47, .iconst 0, 1, 0, 0), (48, .istore_n 3, 1, 0, 0), (49, .iconst 1, 1, 0, 0), (50, .istore 4, 2, 0, 0), (52, .iload 4, 2, 0, 0), (54, .iload_n 2, 1, 0, 0), (55, .if_icmp .gt 71, 3, 126, 0), (58, .aload_n 0, 1, 0, 0), (59, .getfield 15, 3, 8, 4), (62, .iload 4, 2, 0, 0), (64, .aload_n 0, 1, 0, 0), (65, .getfield 9, 3, 8, 2), (68, .iload_n 2, 1, 0, 0), (69, .iload 4, 2, 0, 0), (71, .isub, 1, 0, 0), (72, .iaload, 1, 0, 0), (73, .iload_n 1, 1, 0, 0), (74, .if_icmp .ne 15, 3, 89, 0), (77, .aload_n 0, 1, 0, 0), (78, .getfield 15, 3, 8, 4), (81, .iload 4, 2, 0, 0), (83, .iaload, 1, 0, 0), (84, .iconst 1, 1, 0, 0), (85, .iadd, 1, 0, 0), (86, .goto 4, 3, 90, 0), (89, .iconst 0, 1, 0, 0), (90, .iastore, 1, 0, 0), (91, .aload_n 0, 1, 0, 0), (92, .getfield 15, 3, 8, 4), (95, .iload 4, 2, 0, 0), (97, .iaload, 1, 0, 0)]
def kX9_append_1 : List (Nat × xI) := [(98, .iload_n 3, 1, 0, 0), (99, .if_icmp .le 21, 3, 120, 0), (102, .aload_n 0, 1, 0, 0), (103, .iload_n 2, 1, 0, 0), (104, .iload 4, 2, 0, 0), (106, .iload_n 3, 1, 0, 0), (107, .iconst 1, 1, 0, 0), (108, .iadd, 1, 0, 0), (109, .invokevirtual 35, 3, 68, 4), (112, .aload_n 0, 1, 0, 0), (113, .getfield 15, 3, 8, 4), (116, .iload 4, 2, 0, 0), (118, .iaload, 1, 0, 0), (119, .istore_n 3, 1, 0, 0), (120, .iinc 4 1, 3, 0, 0), (123, .goto (-71), 3, 52, 0), (126, .return_, 1, 0, 0)]
def kX9_append : List (Nat × xI) := kX9_append_0 ++ (kX9_append_1)
def kX9_noteCopies : List (Nat × xI) := [(0, .aload_n 0, 1, 0, 0), (1, .getfield 15, 3, 8, 4), (4, .iload_n 2, 1, 0, 0), (5, .iaload, 1, 0, 0), (6, .aload_n 0, 1, 0, 0), (7, .getfield 29, 3, 8, 1), (10, .invokestatic 39, 3, 1001, 2), (13, .istore 4, 2, 0, 0), (15, .iload_n 3, 1, 0, 0), (16, .istore 5, 2, 0, 0), (18, .iload 5, 2, 0, 0), (20, .iload 4, 2, 0, 0), (22, .if_icmp .gt 34, 3, 56, 0), (25, .aload_n 0, 1, 0, 0), (26, .getfield 19, 3, 8, 5), (29, .iload_n 1, 1, 0, 0), (30, .iload 5, 2, 0, 0), (32, .invokestatic 45, 3, 72, 2), (35, .iload_n 2, 1, 0, 0), (36, .iastore, 1, 0, 0), (37, .aload_n 0, 1, 0, 0), (38, .getfield 22, 3, 8, 6), (41, .iload_n 1, 1, 0, 0), (42, .iload 5, 2, 0, 0), (44, .isub, 1, 0, 0), (45, .iconst 1, 1, 0, 0), (46, .iadd, 1, 0, 0), (47, .iload 5, 2, 0, 0), (49, .iastore, 1, 0, 0), (50, .iinc 5 1, 3, 0, 0), (53, .goto (-35), 3, 18, 0), (56, .return_, 1, 0, 0)]
def kX9_longestCopy : List (Nat × xI) := [(0, .aload_n 0, 1, 0, 0), (1, .iload_n 1, 1, 0, 0), (2, .invokevirtual 48, 3, 66, 2), (5, .ifCond .eq 25, 3, 30, 0), (8, .aload_n 0, 1, 0, 0), (9, .getfield 22, 3, 8, 6), (12, .iload_n 1, 1, 0, 0), (13, .iaload, 1, 0, 0), (14, .aload_n 0, 1, 0, 0), (15, .getfield 25, 3, 8, 0), (18, .if_icmp .lt 12, 3, 30, 0), (21, .aload_n 0, 1, 0, 0), (22, .getfield 22, 3, 8, 6), (25, .iload_n 1, 1, 0, 0), (26, .iaload, 1, 0, 0), (27, .goto 4, 3, 31, 0), (30, .iconst 0, 1, 0, 0), (31, .ireturn, 1, 0, 0)]
def kX9_copyDistance : List (Nat × xI) := [(0, .aload_n 0, 1, 0, 0), (1, .iload_n 1, 1, 0, 0), (2, .invokevirtual 48, 3, 66, 2), (5, .ifCond .eq 21, 3, 26, 0), (8, .iload_n 2, 1, 0, 0), (9, .aload_n 0, 1, 0, 0), (10, .getfield 25, 3, 8, 0), (13, .if_icmp .lt 13, 3, 26, 0), (16, .iload_n 2, 1, 0, 0), (17, .aload_n 0, 1, 0, 0), (18, .getfield 22, 3, 8, 6), (21, .iload_n 1, 1, 0, 0), (22, .iaload, 1, 0, 0), (23, .if_icmp .le 5, 3, 28, 0), (26, .iconst 0, 1, 0, 0), (27, .ireturn, 1, 0, 0), (28, .aload_n 0, 1, 0, 0), (29, .getfield 19, 3, 8, 5), (32, .iload_n 1, 1, 0, 0), (33, .iload_n 2, 1, 0, 0), (34, .iadd, 1, 0, 0), (35, .iconst 1, 1, 0, 0), (36, .isub, 1, 0, 0), (37, .iload_n 2, 1, 0, 0), (38, .invokestatic 45, 3, 72, 2), (41, .iaload, 1, 0, 0), (42, .ireturn, 1, 0, 0)]
def kX9_sameBy : List (Nat × xI) := [(0, .iload_n 2, 1, 0, 0), (1, .iconst 1, 1, 0, 0), (2, .if_icmp .lt 8, 3, 10, 0), (5, .iload_n 2, 1, 0, 0), (6, .iload_n 1, 1, 0, 0), (7, .if_icmp .le 5, 3, 12, 0), (10, .iconst 0, 1, 0, 0), (11, .ireturn, 1, 0, 0), (12, .aload_n 0, 1, 0, 0), (13, .getfield 32, 3, 8, 3), (16, .iload_n 1, 1, 0, 0), (17, .isub, 1, 0, 0), (18, .aload_n 0, 1, 0, 0), (19, .getfield 29, 3, 8, 1), (22, .invokestatic 39, 3, 1001, 2), (25, .istore_n 3, 1, 0, 0), (26, .iconst 0, 1, 0, 0), (27, .istore 4, 2, 0, 0), (29, .iload 4, 2, 0, 0), (31, .iload_n 3, 1, 0, 0), (32, .if_icmp .ge 32, 3, 64, 0), (35, .aload_n 0, 1, 0, 0), (36, .getfield 9, 3, 8, 2), (39, .iload_n 1, 1, 0, 0), (40, .iload 4, 2, 0, 0), (42, .iadd, 1, 0, 0), (43, .iaload, 1, 0, 0), (44, .aload_n 0, 1, 0, 0), (45, .getfield 9, 3, 8, 2), (48, .iload_n 1, 1, 0, 0), (49, .iload 4, 2, 0, 0), (51, .iadd, 1, 0, 0), (52, .iload_n 2, 1, 0, 0), (53, .isub, 1, 0, 0), (54, .iaload, 1, 0, 0), (55, .if_icmp .ne 9, 3, 64, 0), (58, .iinc 4 1, 3, 0, 0), (61, .goto (-32), 3, 29, 0), (64, .iload 4, 2, 0, 0), (66, .ireturn, 1, 0, 0)]
def kX9_nearestIndex : List (Nat × xI) := [(0, .iload_n 0, 1, 0, 0), (1, .iload_n 0, 1, 0, 0), (2, .iconst 1, 1, 0, 0), (3, .isub, 1, 0, 0), (4, .imul, 1, 0, 0), (5, .iconst 2, 1, 0, 0), (6, .idiv, 1, 0, 0), (7, .iload_n 1, 1, 0, 0), (8, .iadd, 1, 0, 0), (9, .iconst 1, 1, 0, 0), (10, .isub, 1, 0, 0), (11, .ireturn, 1, 0, 0)]
def kX10_init_0 : List (Nat × xI) := [(0, .aload_n 0, 1, 0, 0), (1, .invokespecial 1, 3, 1003, 1), (4, .aload_n 0, 1, 0, 0), (5, .iconst 0, 1, 0, 0), (6, .iload_n 1, 1, 0, 0), (7, .iconst 2, 1, 0, 0), (8, .invokestatic 9, 3, 1001, 2), (11, .invokestatic 15, 3, 1000, 2), (14, .putfield 18, 3, 9, 0), (17, .aload_n 0, 1, 0, 0), (18, .new 22, 3, 8, 0), (21, .dup, 1, 0, 0), (22, .aload_n 0, 1, 0, 0), (23, .getfield 18, 3, 9, 0), (26, .invokespecial 24, 3, 65, 2), (29, .putfield 27, 3, 9, 1), (32, .aload_n 0, 1, 0, 0), (33, .new 31, 3, 2, 0), (36, .dup, 1, 0, 0), (37, .aload_n 0, 1, 0, 0), (38, .getfield 18, 3, 9, 0), (41, .invokespecial 33, 3, 7, 2), (44, .putfield 34, 3, 9, 2), (47, .aload_n 0, 1, 0, 0), (48, .new 31, 3, 2, 0), (51, .dup, 1, 0, 0), (52, .aload_n 0, 1, 0, 0), (53, .getfield 18, 3, 9, 0), (56, .invokespecial 33, 3, 7, 2), (59, .putfield 38, 3, 9, 3), (62, .aload_n 0, 1, 0, 0), (63, .getfield 18, 3, 9, 0), (66, .ifCond .ne 25, 3, 91, 0), (69, .aload_n 0, 1, 0, 0), (70, .new 41, 3, 6, 0), (73, .dup, 1, 0, 0), (74, .aload_n 0, 1, 0, 0), (75, .getfield 27, 3, 9, 1), (78, .aload_n 0, 1, 0, 0), (79, .getfield 34, 3, 9, 2), (82, .invokespecial 43, 3, 57, 3), (85, .putfield 46, 3, 9, 4), (88, .goto 52, 3, 140, 0), (91, .aload_n 0, 1, 0, 0), (92, .getfield 18, 3, 9, 0), (95, .iconst 1, 1, 0, 0), (96, .if_icmp .ne 25, 3, 121, 0), (99, .aload_n 0, 1, 0, 0), (100, .new 50, 3, 4, 0), (103, .dup, 1, 0, 0), (104, .aload_n 0, 1, 0, 0), (105, .getfield 27, 3, 9, 1), (108, .aload_n 0, 1, 0, 0), (109, .getfield 34, 3, 9, 2), (112, .invokespecial 52, 3, 41, 3), (115, .putfield 46, 3, 9, 4), (118, .goto 22, 3, 140, 0), (121, .aload_n 0, 1, 0, 0), (122, .new 53, 3, 3, 0), (125, .dup, 1, 0, 0)]
def kX10_init_1 : List (Nat × xI) := [(126, .aload_n 0, 1, 0, 0), (127, .getfield 27, 3, 9, 1), (130, .aload_n 0, 1, 0, 0), (131, .getfield 34, 3, 9, 2), (134, .invokespecial 55, 3, 30, 3), (137, .putfield 46, 3, 9, 4), (140, .aload_n 0, 1, 0, 0), (141, .new 56, 3, 7, 0), (144, .dup, 1, 0, 0), (145, .aload_n 0, 1, 0, 0), (146, .getfield 27, 3, 9, 1), (149, .aload_n 0, 1, 0, 0), (150, .getfield 18, 3, 9, 0), (153, .iconst 2, 1, 0, 0), (154, .if_icmp .ne 7, 3, 161, 0), (157, .iconst 1, 1, 0, 0), (158, .goto 4, 3, 162, 0), (161, .iconst 0, 1, 0, 0), (162, .invokespecial 58, 3, 61, 3), (165, .putfield 61, 3, 9, 5), (168, .aload_n 0, 1, 0, 0), (169, .new 65, 3, 1, 0), (172, .dup, 1, 0, 0), (173, .aload_n 0, 1, 0, 0), (174, .getfield 27, 3, 9, 1), (177, .invokespecial 67, 3, 0, 2), (180, .putfield 70, 3, 9, 6), (183, .aload_n 0, 1, 0, 0), (184, .new 74, 3, 5, 0), (187, .dup, 1, 0, 0), (188, .invokespecial 76, 3, 49, 1), (191, .putfield 77, 3, 9, 7), (194, .aload_n 0, 1, 0, 0), (195, .new 74, 3, 5, 0), (198, .dup, 1, 0, 0), (199, .invokespecial 76, 3, 49, 1), (202, .putfield 81, 3, 9, 8), (205, .aload_n 0, 1, 0, 0), (206, .bipush 8, 2, 0, 0), (208, .putfield 84, 3, 9, 10), (211, .return_, 1, 0, 0)]
def kX10_init : List (Nat × xI) := kX10_init_0 ++ (kX10_init_1)
def kX10_octets : List (Nat × xI) := [(0, .iload_n 1, 1, 0, 0), (1, .iconst 1, 1, 0, 0), (2, .if_icmp .lt 24, 3, 26, 0), (5, .iload_n 1, 1, 0, 0), (6, .bipush 8, 2, 0, 0), (8, .if_icmp .gt 18, 3, 26, 0), (11, .aload_n 0, 1, 0, 0), (12, .getfield 27, 3, 9, 1), (15, .getfield 87, 3, 8, 3), (18, .iload_n 1, 1, 0, 0), (19, .iadd, 1, 0, 0), (20, .sipush 300, 3, 0, 0), (23, .if_icmp .le 5, 3, 28, 0), (26, .iconst (-1), 1, 0, 0), (27, .ireturn, 1, 0, 0), (28, .iconst 0, 1, 0, 0), (29, .istore 4, 2, 0, 0), (31, .iload 4, 2, 0, 0), (33, .iload_n 1, 1, 0, 0), (34, .if_icmp .ge 28, 3, 62, 0), (37, .aload_n 0, 1, 0, 0), (38, .getfield 27, 3, 9, 1), (41, .lload_n 2, 1, 0, 0), (42, .bipush 8, 2, 0, 0), (44, .iload 4, 2, 0, 0), (46, .imul, 1, 0, 0), (47, .lushr, 1, 0, 0), (48, .l2i, 1, 0, 0), (49, .sipush 255, 3, 0, 0), (52, .iand, 1, 0, 0), (53, .invokevirtual 90, 3, 67, 2), (56, .iinc 4 1, 3, 0, 0), (59, .goto (-28), 3, 31, 0), (62, .aload_n 0, 1, 0, 0), (63, .iconst 0, 1, 0, 0), (64, .putfield 93, 3, 9, 9), (67, .aload_n 0, 1, 0, 0), (68, .getfield 27, 3, 9, 1), (71, .getfield 87, 3, 8, 3), (74, .ireturn, 1, 0, 0)]
def kX10_cost : List (Nat × xI) := [(0, .aload_n 0, 1, 0, 0), (1, .getfield 34, 3, 9, 2), (4, .iload_n 1, 1, 0, 0), (5, .iload_n 2, 1, 0, 0), (6, .invokevirtual 97, 3, 9, 3), (9, .ifCond .eq 15, 3, 24, 0), (12, .iload_n 3, 1, 0, 0), (13, .iconst 1, 1, 0, 0), (14, .if_icmp .lt 10, 3, 24, 0), (17, .iload_n 3, 1, 0, 0), (18, .sipush 10000, 3, 0, 0), (21, .if_icmp .le 5, 3, 26, 0), (24, .iconst (-1), 1, 0, 0), (25, .ireturn, 1, 0, 0), (26, .aload_n 0, 1, 0, 0), (27, .getfield 34, 3, 9, 2), (30, .iload_n 1, 1, 0, 0), (31, .iload_n 2, 1, 0, 0), (32, .invokevirtual 101, 3, 10, 3), (35, .istore 4, 2, 0, 0), (37, .aload_n 0, 1, 0, 0), (38, .getfield 34, 3, 9, 2), (41, .iload_n 1, 1, 0, 0), (42, .iload_n 2, 1, 0, 0), (43, .iload_n 3, 1, 0, 0), (44, .invokevirtual 104, 3, 11, 4), (47, .iload 4, 2, 0, 0), (49, .ireturn, 1, 0, 0)]
def kX10_price : List (Nat × xI) := [(0, .aload_n 0, 1, 0, 0), (1, .getfield 34, 3, 9, 2), (4, .iload_n 1, 1, 0, 0), (5, .iload_n 2, 1, 0, 0), (6, .invokevirtual 97, 3, 9, 3), (9, .ifCond .eq 15, 3, 24, 0), (12, .aload_n 0, 1, 0, 0), (13, .getfield 34, 3, 9, 2), (16, .iload_n 1, 1, 0, 0), (17, .iload_n 2, 1, 0, 0), (18, .invokevirtual 101, 3, 10, 3), (21, .goto 4, 3, 25, 0), (24, .iconst (-1), 1, 0, 0), (25, .ireturn, 1, 0, 0)]
def kX10_keep : List (Nat × xI) := [(0, .iload_n 1, 1, 0, 0), (1, .iconst 1, 1, 0, 0), (2, .if_icmp .lt 17, 3, 19, 0), (5, .iload_n 1, 1, 0, 0), (6, .bipush 40, 2, 0, 0), (8, .if_icmp .gt 11, 3, 19, 0), (11, .aload_n 0, 1, 0, 0), (12, .getfield 18, 3, 9, 0), (15, .iconst 2, 1, 0, 0), (16, .if_icmp .eq 5, 3, 21, 0), (19, .iconst (-1), 1, 0, 0), (20, .ireturn, 1, 0, 0), (21, .aload_n 0, 1, 0, 0), (22, .getfield 84, 3, 9, 10), (25, .istore_n 2, 1, 0, 0), (26, .aload_n 0, 1, 0, 0), (27, .iload_n 1, 1, 0, 0), (28, .putfield 84, 3, 9, 10), (31, .iload_n 2, 1, 0, 0), (32, .ireturn, 1, 0, 0)]
def kX10_parse : List (Nat × xI) := [(0, .iload_n 1, 1, 0, 0), (1, .ifCond .lt 8, 3, 9, 0), (4, .iload_n 1, 1, 0, 0), (5, .iconst 3, 1, 0, 0), (6, .if_icmp .le 5, 3, 11, 0), (9, .iconst (-1), 1, 0, 0), (10, .ireturn, 1, 0, 0), (11, .iload_n 1, 1, 0, 0), (12, .iconst 3, 1, 0, 0), (13, .if_icmp .ne 14, 3, 27, 0), (16, .aload_n 0, 1, 0, 0), (17, .aload_n 0, 1, 0, 0), (18, .getfield 77, 3, 9, 7), (21, .invokevirtual 108, 3, 92, 2), (24, .goto 38, 3, 62, 0), (27, .aload_n 0, 1, 0, 0), (28, .getfield 61, 3, 9, 5), (31, .aload_n 0, 1, 0, 0), (32, .getfield 77, 3, 9, 7), (35, .iload_n 1, 1, 0, 0), (36, .invokevirtual 112, 3, 62, 3), (39, .aload_n 0, 1, 0, 0), (40, .getfield 77, 3, 9, 7), (43, .aload_n 0, 1, 0, 0), (44, .getfield 27, 3, 9, 1), (47, .aload_n 0, 1, 0, 0), (48, .getfield 46, 3, 9, 4), (51, .aload_n 0, 1, 0, 0), (52, .getfield 77, 3, 9, 7), (55, .invokevirtual 116, 3, 2000, 2), (58, .iconst 0, 1, 0, 0), (59, .invokevirtual 122, 3, 55, 4), (62, .aload_n 0, 1, 0, 0), (63, .iconst 1, 1, 0, 0), (64, .putfield 93, 3, 9, 9), (67, .aload_n 0, 1, 0, 0), (68, .getfield 77, 3, 9, 7), (71, .getfield 126, 3, 5, 5), (74, .ireturn, 1, 0, 0)]
def kX10_step : List (Nat × xI) := [(0, .aload_n 0, 1, 0, 0), (1, .getfield 93, 3, 9, 9), (4, .ifCond .eq 14, 3, 18, 0), (7, .aload_n 0, 1, 0, 0), (8, .getfield 77, 3, 9, 7), (11, .iload_n 1, 1, 0, 0), (12, .invokevirtual 129, 3, 50, 2), (15, .ifCond .ne 5, 3, 20, 0), (18, .iconst (-1), 1, 0, 0), (19, .ireturn, 1, 0, 0), (20, .iload_n 2, 1, 0, 0), (21, .tableswitch 71 0 3 #[31, 41, 51, 61], 31, 0, 0), (52, .aload_n 0, 1, 0, 0), (53, .getfield 77, 3, 9, 7), (56, .getfield 133, 3, 5, 0), (59, .iload_n 1, 1, 0, 0), (60, .iaload, 1, 0, 0), (61, .ireturn, 1, 0, 0), (62, .aload_n 0, 1, 0, 0), (63, .getfield 77, 3, 9, 7), (66, .getfield 137, 3, 5, 1), (69, .iload_n 1, 1, 0, 0), (70, .iaload, 1, 0, 0), (71, .ireturn, 1, 0, 0), (72, .aload_n 0, 1, 0, 0), (73, .getfield 77, 3, 9, 7), (76, .getfield 140, 3, 5, 2), (79, .iload_n 1, 1, 0, 0), (80, .iaload, 1, 0, 0), (81, .ireturn, 1, 0, 0), (82, .aload_n 0, 1, 0, 0), (83, .getfield 77, 3, 9, 7), (86, .getfield 143, 3, 5, 3), (89, .iload_n 1, 1, 0, 0), (90, .iaload, 1, 0, 0), (91, .ireturn, 1, 0, 0), (92, .iconst (-1), 1, 0, 0), (93, .ireturn, 1, 0, 0)]
def kX10_sum : List (Nat × xI) := [(0, .aload_n 0, 1, 0, 0), (1, .getfield 93, 3, 9, 9), (4, .ifCond .eq 13, 3, 17, 0), (7, .aload_n 0, 1, 0, 0), (8, .getfield 77, 3, 9, 7), (11, .getfield 146, 3, 5, 6), (14, .goto 6, 3, 20, 0), (17, .ldc2_w 150, 3, 18446744073709551615, 0), (20, .lreturn, 1, 0, 0)]
def kX10_again : List (Nat × xI) := [(0, .aload_n 0, 1, 0, 0), (1, .getfield 93, 3, 9, 9), (4, .ifCond .eq 17, 3, 21, 0), (7, .aload_n 0, 1, 0, 0), (8, .getfield 46, 3, 9, 4), (11, .aload_n 0, 1, 0, 0), (12, .getfield 77, 3, 9, 7), (15, .invokevirtual 116, 3, 2000, 2), (18, .goto 6, 3, 24, 0), (21, .ldc2_w 150, 3, 18446744073709551615, 0), (24, .lreturn, 1, 0, 0)]
def kX10_least : List (Nat × xI) := [(0, .aload_n 0, 1, 0, 0), (1, .getfield 93, 3, 9, 9), (4, .ifCond .eq 17, 3, 21, 0), (7, .aload_n 0, 1, 0, 0), (8, .getfield 77, 3, 9, 7), (11, .getfield 152, 3, 5, 7), (14, .ifCond .eq 7, 3, 21, 0), (17, .iconst 1, 1, 0, 0), (18, .goto 4, 3, 22, 0), (21, .iconst 0, 1, 0, 0), (22, .ireturn, 1, 0, 0)]
def kX10_told : List (Nat × xI) := [(0, .aload_n 0, 1, 0, 0), (1, .getfield 93, 3, 9, 9), (4, .ifCond .eq 26, 3, 30, 0), (7, .aload_n 0, 1, 0, 0), (8, .getfield 27, 3, 9, 1), (11, .iload_n 1, 1, 0, 0), (12, .invokevirtual 155, 3, 66, 2), (15, .ifCond .eq 15, 3, 30, 0), (18, .aload_n 0, 1, 0, 0), (19, .getfield 77, 3, 9, 7), (22, .getfield 157, 3, 5, 4), (25, .iload_n 1, 1, 0, 0), (26, .iaload, 1, 0, 0), (27, .goto 4, 3, 31, 0), (30, .iconst (-1), 1, 0, 0), (31, .ireturn, 1, 0, 0)]
def kX10_rounds_0 : List (Nat × xI) := [(0, .iload_n 1, 1, 0, 0), (1, .iconst 1, 1, 0, 0), (2, .if_icmp .lt 27, 3, 29, 0), (5, .iload_n 1, 1, 0, 0), (6, .bipush 8, 2, 0, 0), (8, .if_icmp .gt 21, 3, 29, 0), (11, .aload_n 0, 1, 0, 0), (12, .getfield 18, 3, 9, 0), (15, .iconst 1, 1, 0, 0), (16, .if_icmp .eq 13, 3, 29, 0), (19, .aload_n 0, 1, 0, 0), (20, .getfield 27, 3, 9, 1), (23, .getfield 87, 3, 8, 3), (26, .ifCond .ne 7, 3, 33, 0), (29, .ldc2_w 150, 3, 18446744073709551615, 0), (32, .lreturn, 1, 0, 0), (33, .lconst 0, 1, 0, 0), (34, .lstore_n 2, 1, 0, 0), (35, .iconst 0, 1, 0, 0), (36, .istore 4, 2, 0, 0), (38, .iload 4, 2, 0, 0), (40, .iload_n 1, 1, 0, 0), (41, .if_icmp .ge 75, 3, 116, 0), (44, .aload_n 0, 1, 0, 0), (45, .aload_n 0, 1, 0, 0), (46, .getfield 81, 3, 9, 8), (49, .invokevirtual 108, 3, 92, 2), (52, .aload_n 0, 1, 0, 0), (53, .getfield 34, 3, 9, 2), (56, .aload_n 0, 1, 0, 0), (57, .getfield 81, 3, 9, 8), (60, .aload_n 0, 1, 0, 0), (61, .getfield 27, 3, 9, 1), (64, .invokevirtual 160, 3, 21, 3), (67, .aload_n 0, 1, 0, 0), (68, .getfield 46, 3, 9, 4), (71, .aload_n 0, 1, 0, 0), (72, .getfield 81, 3, 9, 8), (75, .invokevirtual 116, 3, 2000, 2), (78, .lstore 5, 2, 0, 0), (80, .iload 4, 2, 0, 0), (82, .ifCond .eq 10, 3, 92, 0), (85, .lload 5, 2, 0, 0), (87, .lload_n 2, 1, 0, 0), (88, .lcmp, 1, 0, 0), (89, .ifCond .ge 21, 3, 110, 0), (92, .lload 5, 2, 0, 0), (94, .lstore_n 2, 1, 0, 0), (95, .aload_n 0, 1, 0, 0), (96, .getfield 38, 3, 9, 3), (99, .aload_n 0, 1, 0, 0), (100, .getfield 34, 3, 9, 2), (103, .invokevirtual 164, 3, 12, 2), (106, .aload_n 0, 1, 0, 0), (107, .invokevirtual 168, 3, 93, 1), (110, .iinc 4 1, 3, 0, 0), (113, .goto (-75), 3, 38, 0), (116, .aload_n 0, 1, 0, 0), (117, .getfield 34, 3, 9, 2), (120, .aload_n 0, 1, 0, 0)]
def kX10_rounds_1 : List (Nat × xI) := [(121, .getfield 38, 3, 9, 3), (124, .invokevirtual 164, 3, 12, 2), (127, .aload_n 0, 1, 0, 0), (128, .iconst 1, 1, 0, 0), (129, .putfield 93, 3, 9, 9), (132, .lload_n 2, 1, 0, 0), (133, .lreturn, 1, 0, 0)]
def kX10_rounds : List (Nat × xI) := kX10_rounds_0 ++ (kX10_rounds_1)
def kX10_longest : List (Nat × xI) := [(0, .aload_n 0, 1, 0, 0), (1, .getfield 27, 3, 9, 1), (4, .iload_n 1, 1, 0, 0), (5, .invokevirtual 155, 3, 66, 2), (8, .ifCond .eq 14, 3, 22, 0), (11, .aload_n 0, 1, 0, 0), (12, .getfield 27, 3, 9, 1), (15, .iload_n 1, 1, 0, 0), (16, .invokevirtual 171, 3, 69, 2), (19, .goto 4, 3, 23, 0), (22, .iconst (-1), 1, 0, 0), (23, .ireturn, 1, 0, 0)]
def kX10_distance : List (Nat × xI) := [(0, .aload_n 0, 1, 0, 0), (1, .getfield 27, 3, 9, 1), (4, .iload_n 1, 1, 0, 0), (5, .iload_n 2, 1, 0, 0), (6, .invokevirtual 175, 3, 70, 3), (9, .istore_n 3, 1, 0, 0), (10, .iload_n 3, 1, 0, 0), (11, .ifCond .le 7, 3, 18, 0), (14, .iload_n 3, 1, 0, 0), (15, .goto 4, 3, 19, 0), (18, .iconst (-1), 1, 0, 0), (19, .ireturn, 1, 0, 0)]
def kX10_cut : List (Nat × xI) := [(0, .aload_n 0, 1, 0, 0), (1, .getfield 70, 3, 9, 6), (4, .iload_n 1, 1, 0, 0), (5, .invokevirtual 178, 3, 2, 2), (8, .ifCond .eq 13, 3, 21, 0), (11, .aload_n 0, 1, 0, 0), (12, .getfield 70, 3, 9, 6), (15, .getfield 181, 3, 1, 2), (18, .goto 4, 3, 22, 0), (21, .iconst (-1), 1, 0, 0), (22, .ireturn, 1, 0, 0)]
def kX10_split : List (Nat × xI) := [(0, .iload_n 1, 1, 0, 0), (1, .ifCond .lt 19, 3, 20, 0), (4, .iload_n 1, 1, 0, 0), (5, .ldc 184, 2, 100000, 0), (7, .if_icmp .gt 13, 3, 20, 0), (10, .aload_n 0, 1, 0, 0), (11, .getfield 27, 3, 9, 1), (14, .getfield 87, 3, 8, 3), (17, .ifCond .ne 7, 3, 24, 0), (20, .ldc2_w 150, 3, 18446744073709551615, 0), (23, .lreturn, 1, 0, 0), (24, .aload_n 0, 1, 0, 0), (25, .getfield 70, 3, 9, 6), (28, .iload_n 1, 1, 0, 0), (29, .invokevirtual 185, 3, 3, 2), (32, .lreturn, 1, 0, 0)]
def kX10_taken : List (Nat × xI) := [(0, .iload_n 1, 1, 0, 0), (1, .ifCond .lt 26, 3, 27, 0), (4, .iload_n 1, 1, 0, 0), (5, .aload_n 0, 1, 0, 0), (6, .getfield 70, 3, 9, 6), (9, .getfield 189, 3, 1, 4), (12, .if_icmp .ge 15, 3, 27, 0), (15, .aload_n 0, 1, 0, 0), (16, .getfield 70, 3, 9, 6), (19, .getfield 192, 3, 1, 3), (22, .iload_n 1, 1, 0, 0), (23, .iaload, 1, 0, 0), (24, .goto 4, 3, 28, 0), (27, .iconst (-1), 1, 0, 0), (28, .ireturn, 1, 0, 0)]
def kX10_many : List (Nat × xI) := [(0, .iload_n 1, 1, 0, 0), (1, .tableswitch 101 0 6 #[43, 51, 70, 78, 86, 91, 96], 43, 0, 0), (44, .aload_n 0, 1, 0, 0), (45, .getfield 27, 3, 9, 1), (48, .getfield 87, 3, 8, 3), (51, .ireturn, 1, 0, 0), (52, .aload_n 0, 1, 0, 0), (53, .getfield 93, 3, 9, 9), (56, .ifCond .eq 13, 3, 69, 0), (59, .aload_n 0, 1, 0, 0), (60, .getfield 77, 3, 9, 7), (63, .getfield 126, 3, 5, 5), (66, .goto 4, 3, 70, 0), (69, .iconst 0, 1, 0, 0), (70, .ireturn, 1, 0, 0), (71, .aload_n 0, 1, 0, 0), (72, .getfield 70, 3, 9, 6), (75, .getfield 181, 3, 1, 2), (78, .ireturn, 1, 0, 0), (79, .aload_n 0, 1, 0, 0), (80, .getfield 70, 3, 9, 6), (83, .getfield 189, 3, 1, 4), (86, .ireturn, 1, 0, 0), (87, .aload_n 0, 1, 0, 0), (88, .getfield 195, 3, 9, 11), (91, .ireturn, 1, 0, 0), (92, .aload_n 0, 1, 0, 0), (93, .getfield 84, 3, 9, 10), (96, .ireturn, 1, 0, 0), (97, .aload_n 0, 1, 0, 0), (98, .getfield 18, 3, 9, 0), (101, .ireturn, 1, 0, 0), (102, .iconst (-1), 1, 0, 0), (103, .ireturn, 1, 0, 0)]
def kX10_clear : List (Nat × xI) := [(0, .aload_n 0, 1, 0, 0), (1, .getfield 27, 3, 9, 1), (4, .iconst 0, 1, 0, 0), (5, .putfield 87, 3, 8, 3), (8, .aload_n 0, 1, 0, 0), (9, .getfield 70, 3, 9, 6), (12, .invokevirtual 198, 3, 1, 1), (15, .aload_n 0, 1, 0, 0), (16, .getfield 34, 3, 9, 2), (19, .invokevirtual 201, 3, 8, 1), (22, .aload_n 0, 1, 0, 0), (23, .iconst 0, 1, 0, 0), (24, .putfield 93, 3, 9, 9), (27, .aload_n 0, 1, 0, 0), (28, .bipush 8, 2, 0, 0), (30, .putfield 84, 3, 9, 10), (33, .aload_n 0, 1, 0, 0), (34, .iconst 0, 1, 0, 0), (35, .putfield 195, 3, 9, 11), (38, .return_, 1, 0, 0)]
def kX10_findBest : List (Nat × xI) := [(0, .aload_n 0, 1, 0, 0), (1, .aload_n 0, 1, 0, 0), (2, .getfield 46, 3, 9, 4), (5, .aload_n 1, 1, 0, 0), (6, .aload_n 0, 1, 0, 0), (7, .getfield 84, 3, 9, 10), (10, .invokevirtual 214, 3, 2001, 3), (13, .putfield 195, 3, 9, 11), (16, .aload_n 1, 1, 0, 0), (17, .aload_n 0, 1, 0, 0), (18, .getfield 27, 3, 9, 1), (21, .aload_n 0, 1, 0, 0), (22, .getfield 46, 3, 9, 4), (25, .aload_n 1, 1, 0, 0), (26, .invokevirtual 116, 3, 2000, 2), (29, .aload_n 0, 1, 0, 0), (30, .getfield 195, 3, 9, 11), (33, .ifCond .ne 7, 3, 40, 0), (36, .iconst 1, 1, 0, 0), (37, .goto 4, 3, 41, 0), (40, .iconst 0, 1, 0, 0), (41, .invokevirtual 122, 3, 55, 4), (44, .return_, 1, 0, 0)]
def kX10_takeSpare : List (Nat × xI) := [(0, .aload_n 0, 1, 0, 0), (1, .getfield 77, 3, 9, 7), (4, .astore_n 1, 1, 0, 0), (5, .aload_n 0, 1, 0, 0), (6, .aload_n 0, 1, 0, 0), (7, .getfield 81, 3, 9, 8), (10, .putfield 77, 3, 9, 7), (13, .aload_n 0, 1, 0, 0), (14, .aload_n 1, 1, 0, 0), (15, .putfield 81, 3, 9, 8), (18, .return_, 1, 0, 0)]
def kX10_logOf : List (Nat × xI) := [(0, .iload_n 0, 1, 0, 0), (1, .iconst 1, 1, 0, 0), (2, .if_icmp .ge 5, 3, 7, 0), (5, .iconst 0, 1, 0, 0), (6, .ireturn, 1, 0, 0), (7, .iload_n 0, 1, 0, 0), (8, .invokestatic 217, 3, 95, 1), (11, .istore_n 1, 1, 0, 0), (12, .bipush 64, 2, 0, 0), (14, .iload_n 1, 1, 0, 0), (15, .imul, 1, 0, 0), (16, .bipush 64, 2, 0, 0), (18, .iload_n 0, 1, 0, 0), (19, .imul, 1, 0, 0), (20, .iload_n 1, 1, 0, 0), (21, .ishr, 1, 0, 0), (22, .iadd, 1, 0, 0), (23, .bipush 64, 2, 0, 0), (25, .isub, 1, 0, 0), (26, .ireturn, 1, 0, 0)]
def kX10_highestBit : List (Nat × xI) := [(0, .iconst 0, 1, 0, 0), (1, .istore_n 1, 1, 0, 0), (2, .iload_n 1, 1, 0, 0), (3, .bipush 30, 2, 0, 0), (5, .if_icmp .ge 17, 3, 22, 0), (8, .iload_n 0, 1, 0, 0), (9, .iload_n 1, 1, 0, 0), (10, .iconst 1, 1, 0, 0), (11, .iadd, 1, 0, 0), (12, .ishr, 1, 0, 0), (13, .ifCond .le 9, 3, 22, 0), (16, .iinc 1 1, 3, 0, 0), (19, .goto (-17), 3, 2, 0), (22, .iload_n 1, 1, 0, 0), (23, .ireturn, 1, 0, 0)]
def kX11_init_0 : List (Nat × xI) := [(0, .aload_n 0, 1, 0, 0), (1, .invokespecial 1, 3, 1003, 1), (4, .aload_n 0, 1, 0, 0), (5, .sipush 301, 3, 0, 0), (8, .newarray .int, 2, 0, 0), (10, .putfield 7, 3, 10, 2), (13, .aload_n 0, 1, 0, 0), (14, .sipush 1024, 3, 0, 0), (17, .newarray .int, 2, 0, 0), (19, .putfield 13, 3, 10, 4), (22, .aload_n 0, 1, 0, 0), (23, .bipush 8, 2, 0, 0), (25, .putfield 16, 3, 10, 5), (28, .aload_n 0, 1, 0, 0), (29, .bipush 12, 2, 0, 0), (31, .newarray .int, 2, 0, 0), (33, .putfield 20, 3, 10, 6), (36, .aload_n 0, 1, 0, 0), (37, .bipush 12, 2, 0, 0), (39, .newarray .int, 2, 0, 0), (41, .putfield 23, 3, 10, 8), (44, .aload_n 0, 1, 0, 0), (45, .sipush 301, 3, 0, 0), (48, .newarray .int, 2, 0, 0), (50, .putfield 26, 3, 10, 12), (53, .aload_n 0, 1, 0, 0), (54, .sipush 301, 3, 0, 0), (57, .newarray .int, 2, 0, 0), (59, .putfield 29, 3, 10, 13), (62, .aload_n 0, 1, 0, 0), (63, .sipush 301, 3, 0, 0), (66, .newarray .int, 2, 0, 0), (68, .putfield 32, 3, 10, 14), (71, .aload_n 0, 1, 0, 0), (72, .sipush 301, 3, 0, 0), (75, .newarray .int, 2, 0, 0), (77, .putfield 35, 3, 10, 15), (80, .aload_n 0, 1, 0, 0), (81, .ldc 38, 2, 90601, 0), (83, .newarray .int, 2, 0, 0), (85, .putfield 39, 3, 10, 19), (88, .aload_n 0, 1, 0, 0), (89, .ldc 38, 2, 90601, 0), (91, .newarray .int, 2, 0, 0), (93, .putfield 42, 3, 10, 20), (96, .aload_n 0, 1, 0, 0), (97, .iconst 4, 1, 0, 0), (98, .newarray .int, 2, 0, 0), (100, .putfield 45, 3, 10, 21), (103, .aload_n 0, 1, 0, 0), (104, .ldc 38, 2, 90601, 0), (106, .newarray .int, 2, 0, 0), (108, .putfield 48, 3, 10, 23), (111, .aload_n 0, 1, 0, 0), (112, .sipush 301, 3, 0, 0), (115, .newarray .int, 2, 0, 0), (117, .putfield 51, 3, 10, 24), (120, .aload_n 0, 1, 0, 0), (121, .sipush 301, 3, 0, 0), (124, .newarray .int, 2, 0, 0)]
def kX11_init_1 : List (Nat × xI) := [(126, .putfield 54, 3, 10, 25), (129, .aload_n 0, 1, 0, 0), (130, .sipush 301, 3, 0, 0), (133, .newarray .int, 2, 0, 0), (135, .putfield 57, 3, 10, 26), (138, .aload_n 0, 1, 0, 0), (139, .sipush 301, 3, 0, 0), (142, .newarray .boolean, 2, 0, 0), (144, .putfield 60, 3, 10, 27), (147, .aload_n 0, 1, 0, 0), (148, .sipush 301, 3, 0, 0), (151, .newarray .int, 2, 0, 0), (153, .putfield 64, 3, 10, 28), (156, .aload_n 0, 1, 0, 0), (157, .sipush 301, 3, 0, 0), (160, .newarray .int, 2, 0, 0), (162, .putfield 67, 3, 10, 29), (165, .aload_n 0, 1, 0, 0), (166, .sipush 301, 3, 0, 0), (169, .newarray .int, 2, 0, 0), (171, .putfield 70, 3, 10, 30), (174, .aload_n 0, 1, 0, 0), (175, .sipush 301, 3, 0, 0), (178, .newarray .int, 2, 0, 0), (180, .putfield 73, 3, 10, 31), (183, .aload_n 0, 1, 0, 0), (184, .sipush 301, 3, 0, 0), (187, .newarray .int, 2, 0, 0), (189, .putfield 76, 3, 10, 32), (192, .aload_n 0, 1, 0, 0), (193, .sipush 301, 3, 0, 0), (196, .newarray .boolean, 2, 0, 0), (198, .putfield 79, 3, 10, 33), (201, .aload_n 0, 1, 0, 0), (202, .sipush 12040, 3, 0, 0), (205, .newarray .int, 2, 0, 0), (207, .putfield 82, 3, 10, 34), (210, .aload_n 0, 1, 0, 0), (211, .ldc 85, 2, 48160, 0), (213, .newarray .int, 2, 0, 0), (215, .putfield 86, 3, 10, 35), (218, .aload_n 0, 1, 0, 0), (219, .sipush 12040, 3, 0, 0), (222, .newarray .int, 2, 0, 0), (224, .putfield 89, 3, 10, 36), (227, .aload_n 0, 1, 0, 0), (228, .sipush 12040, 3, 0, 0), (231, .newarray .int, 2, 0, 0), (233, .putfield 92, 3, 10, 37), (236, .aload_n 0, 1, 0, 0), (237, .sipush 12040, 3, 0, 0), (240, .newarray .int, 2, 0, 0), (242, .putfield 95, 3, 10, 38), (245, .aload_n 0, 1, 0, 0), (246, .sipush 1024, 3, 0, 0), (249, .newarray .int, 2, 0, 0), (251, .putfield 98, 3, 10, 39), (254, .aload_n 0, 1, 0, 0), (255, .sipush 1024, 3, 0, 0), (258, .newarray .int, 2, 0, 0)]
def kX11_init_2 : List (Nat × xI) := [(260, .putfield 101, 3, 10, 40), (263, .aload_n 0, 1, 0, 0), (264, .sipush 301, 3, 0, 0), (267, .newarray .int, 2, 0, 0), (269, .putfield 104, 3, 10, 41), (272, .aload_n 0, 1, 0, 0), (273, .sipush 301, 3, 0, 0), (276, .newarray .int, 2, 0, 0), (278, .putfield 107, 3, 10, 42), (281, .aload_n 0, 1, 0, 0), (282, .sipush 301, 3, 0, 0), (285, .newarray .int, 2, 0, 0), (287, .putfield 110, 3, 10, 43), (290, .aload_n 0, 1, 0, 0), (291, .sipush 301, 3, 0, 0), (294, .newarray .int, 2, 0, 0), (296, .putfield 113, 3, 10, 44), (299, .aload_n 0, 1, 0, 0), (300, .sipush 301, 3, 0, 0), (303, .newarray .int, 2, 0, 0), (305, .putfield 116, 3, 10, 45), (308, .aload_n 0, 1, 0, 0), (309, .sipush 196, 3, 0, 0), (312, .newarray .long, 2, 0, 0), (314, .putfield 119, 3, 10, 46), (317, .aload_n 0, 1, 0, 0), (318, .iload_n 1, 1, 0, 0), (319, .ifCond .ge 7, 3, 326, 0), (322, .iconst 0, 1, 0, 0), (323, .goto 13, 3, 336, 0), (326, .iload_n 1, 1, 0, 0), (327, .iconst 2, 1, 0, 0), (328, .if_icmp .le 7, 3, 335, 0), (331, .iconst 2, 1, 0, 0), (332, .goto 4, 3, 336, 0), (335, .iload_n 1, 1, 0, 0), (336, .putfield 123, 3, 10, 1), (339, .aload_n 0, 1, 0, 0), (340, .invokevirtual 126, 3, 98, 1), (343, .return_, 1, 0, 0)]
def kX11_init : List (Nat × xI) := kX11_init_0 ++ (kX11_init_1 ++ (kX11_init_2))
def kX11_thrown : List (Nat × xI) := [(0, .aload_n 0, 1, 0, 0), (1, .getfield 129, 3, 10, 0), (4, .ireturn, 1, 0, 0)]
def kX11_start : List (Nat × xI) := [(0, .iconst 0, 1, 0, 0), (1, .istore_n 1, 1, 0, 0), (2, .iload_n 1, 1, 0, 0), (3, .sipush 1024, 3, 0, 0), (6, .if_icmp .ge 43, 3, 49, 0), (9, .aload_n 0, 1, 0, 0), (10, .getfield 13, 3, 10, 4), (13, .iload_n 1, 1, 0, 0), (14, .iload_n 1, 1, 0, 0), (15, .sipush 256, 3, 0, 0), (18, .if_icmp .ge 9, 3, 27, 0), (21, .sipush 512, 3, 0, 0), (24, .goto 18, 3, 42, 0), (27, .iload_n 1, 1, 0, 0), (28, .sipush 768, 3, 0, 0), (31, .if_icmp .ge 9, 3, 40, 0), (34, .sipush 320, 3, 0, 0), (37, .goto 5, 3, 42, 0), (40, .bipush 64, 2, 0, 0), (42, .iastore, 1, 0, 0), (43, .iinc 1 1, 3, 0, 0), (46, .goto (-44), 3, 2, 0), (49, .aload_n 0, 1, 0, 0), (50, .bipush 8, 2, 0, 0), (52, .putfield 16, 3, 10, 5), (55, .return_, 1, 0, 0)]
def kX11_shortest : List (Nat × xI) := [(0, .aload_n 0, 1, 0, 0), (1, .getfield 123, 3, 10, 1), (4, .ifCond .ne 7, 3, 11, 0), (7, .iconst 3, 1, 0, 0), (8, .goto 16, 3, 24, 0), (11, .aload_n 0, 1, 0, 0), (12, .getfield 123, 3, 10, 1), (15, .iconst 1, 1, 0, 0), (16, .if_icmp .ne 7, 3, 23, 0), (19, .iconst 4, 1, 0, 0), (20, .goto 4, 3, 24, 0), (23, .iconst 2, 1, 0, 0), (24, .ireturn, 1, 0, 0)]
def kX11_greatest : List (Nat × xI) := [(0, .aload_n 0, 1, 0, 0), (1, .getfield 123, 3, 10, 1), (4, .ifCond .ne 9, 3, 13, 0), (7, .sipush 258, 3, 0, 0), (10, .goto 20, 3, 30, 0), (13, .aload_n 0, 1, 0, 0), (14, .getfield 123, 3, 10, 1), (17, .iconst 1, 1, 0, 0), (18, .if_icmp .ne 9, 3, 27, 0), (21, .sipush 300, 3, 0, 0), (24, .goto 6, 3, 30, 0), (27, .sipush 273, 3, 0, 0), (30, .ireturn, 1, 0, 0)]
def kX11_symbols : List (Nat × xI) := [(0, .iload_n 0, 1, 0, 0), (1, .ifCond .ne 9, 3, 10, 0), (4, .sipush 256, 3, 0, 0), (7, .goto 25, 3, 32, 0), (10, .iload_n 0, 1, 0, 0), (11, .iconst 1, 1, 0, 0), (12, .if_icmp .ne 8, 3, 20, 0), (15, .bipush 32, 2, 0, 0), (17, .goto 15, 3, 32, 0), (20, .iload_n 0, 1, 0, 0), (21, .iconst 2, 1, 0, 0), (22, .if_icmp .ne 8, 3, 30, 0), (25, .bipush 20, 2, 0, 0), (27, .goto 5, 3, 32, 0), (30, .bipush 7, 2, 0, 0), (32, .ireturn, 1, 0, 0)]
def kX11_isCost : List (Nat × xI) := [(0, .aload_n 0, 1, 0, 0), (1, .getfield 123, 3, 10, 1), (4, .iconst 1, 1, 0, 0), (5, .if_icmp .eq 39, 3, 44, 0), (8, .iload_n 1, 1, 0, 0), (9, .ifCond .lt 35, 3, 44, 0), (12, .iload_n 1, 1, 0, 0), (13, .aload_n 0, 1, 0, 0), (14, .getfield 123, 3, 10, 1), (17, .ifCond .ne 7, 3, 24, 0), (20, .iconst 3, 1, 0, 0), (21, .goto 4, 3, 25, 0), (24, .iconst 4, 1, 0, 0), (25, .if_icmp .ge 19, 3, 44, 0), (28, .iload_n 2, 1, 0, 0), (29, .ifCond .lt 15, 3, 44, 0), (32, .iload_n 2, 1, 0, 0), (33, .iload_n 1, 1, 0, 0), (34, .invokestatic 132, 3, 101, 1), (37, .if_icmp .ge 7, 3, 44, 0), (40, .iconst 1, 1, 0, 0), (41, .goto 4, 3, 45, 0), (44, .iconst 0, 1, 0, 0), (45, .ireturn, 1, 0, 0)]
def kX11_octets : List (Nat × xI) := [(0, .aload_n 0, 1, 0, 0), (1, .iconst 0, 1, 0, 0), (2, .putfield 129, 3, 10, 0), (5, .iload_n 1, 1, 0, 0), (6, .iconst 1, 1, 0, 0), (7, .if_icmp .lt 21, 3, 28, 0), (10, .iload_n 1, 1, 0, 0), (11, .bipush 8, 2, 0, 0), (13, .if_icmp .gt 15, 3, 28, 0), (16, .aload_n 0, 1, 0, 0), (17, .getfield 136, 3, 10, 3), (20, .iload_n 1, 1, 0, 0), (21, .iadd, 1, 0, 0), (22, .sipush 300, 3, 0, 0), (25, .if_icmp .le 5, 3, 30, 0), (28, .iconst (-1), 1, 0, 0), (29, .ireturn, 1, 0, 0), (30, .iconst 0, 1, 0, 0), (31, .istore 4, 2, 0, 0), (33, .iload 4, 2, 0, 0), (35, .iload_n 1, 1, 0, 0), (36, .if_icmp .ge 40, 3, 76, 0), (39, .aload_n 0, 1, 0, 0), (40, .getfield 7, 3, 10, 2), (43, .aload_n 0, 1, 0, 0), (44, .getfield 136, 3, 10, 3), (47, .lload_n 2, 1, 0, 0), (48, .bipush 8, 2, 0, 0), (50, .iload 4, 2, 0, 0), (52, .imul, 1, 0, 0), (53, .lshr, 1, 0, 0), (54, .ldc2_w 139, 3, 255, 0), (57, .land, 1, 0, 0), (58, .l2i, 1, 0, 0), (59, .iastore, 1, 0, 0), (60, .aload_n 0, 1, 0, 0), (61, .dup, 1, 0, 0), (62, .getfield 136, 3, 10, 3), (65, .iconst 1, 1, 0, 0), (66, .iadd, 1, 0, 0), (67, .putfield 136, 3, 10, 3), (70, .iinc 4 1, 3, 0, 0), (73, .goto (-40), 3, 33, 0), (76, .aload_n 0, 1, 0, 0), (77, .iconst 0, 1, 0, 0), (78, .putfield 141, 3, 10, 10), (81, .aload_n 0, 1, 0, 0), (82, .getfield 136, 3, 10, 3), (85, .ireturn, 1, 0, 0)]
def kX11_cost : List (Nat × xI) := [(0, .aload_n 0, 1, 0, 0), (1, .iconst 0, 1, 0, 0), (2, .putfield 129, 3, 10, 0), (5, .aload_n 0, 1, 0, 0), (6, .iload_n 1, 1, 0, 0), (7, .iload_n 2, 1, 0, 0), (8, .invokevirtual 145, 3, 102, 3), (11, .ifCond .eq 15, 3, 26, 0), (14, .iload_n 3, 1, 0, 0), (15, .iconst 1, 1, 0, 0), (16, .if_icmp .lt 10, 3, 26, 0), (19, .iload_n 3, 1, 0, 0), (20, .sipush 10000, 3, 0, 0), (23, .if_icmp .le 5, 3, 28, 0), (26, .iconst (-1), 1, 0, 0), (27, .ireturn, 1, 0, 0), (28, .aload_n 0, 1, 0, 0), (29, .getfield 13, 3, 10, 4), (32, .sipush 256, 3, 0, 0), (35, .iload_n 1, 1, 0, 0), (36, .imul, 1, 0, 0), (37, .iload_n 2, 1, 0, 0), (38, .iadd, 1, 0, 0), (39, .iaload, 1, 0, 0), (40, .istore 4, 2, 0, 0), (42, .aload_n 0, 1, 0, 0), (43, .getfield 13, 3, 10, 4), (46, .sipush 256, 3, 0, 0), (49, .iload_n 1, 1, 0, 0), (50, .imul, 1, 0, 0), (51, .iload_n 2, 1, 0, 0), (52, .iadd, 1, 0, 0), (53, .iload_n 3, 1, 0, 0), (54, .iastore, 1, 0, 0), (55, .iload 4, 2, 0, 0), (57, .ireturn, 1, 0, 0)]
def kX11_price : List (Nat × xI) := [(0, .aload_n 0, 1, 0, 0), (1, .iconst 0, 1, 0, 0), (2, .putfield 129, 3, 10, 0), (5, .aload_n 0, 1, 0, 0), (6, .iload_n 1, 1, 0, 0), (7, .iload_n 2, 1, 0, 0), (8, .invokevirtual 145, 3, 102, 3), (11, .ifCond .eq 18, 3, 29, 0), (14, .aload_n 0, 1, 0, 0), (15, .getfield 13, 3, 10, 4), (18, .sipush 256, 3, 0, 0), (21, .iload_n 1, 1, 0, 0), (22, .imul, 1, 0, 0), (23, .iload_n 2, 1, 0, 0), (24, .iadd, 1, 0, 0), (25, .iaload, 1, 0, 0), (26, .goto 4, 3, 30, 0), (29, .iconst (-1), 1, 0, 0), (30, .ireturn, 1, 0, 0)]
def kX11_keep : List (Nat × xI) := [(0, .aload_n 0, 1, 0, 0), (1, .iconst 0, 1, 0, 0), (2, .putfield 129, 3, 10, 0), (5, .iload_n 1, 1, 0, 0), (6, .iconst 1, 1, 0, 0), (7, .if_icmp .lt 17, 3, 24, 0), (10, .iload_n 1, 1, 0, 0), (11, .bipush 40, 2, 0, 0), (13, .if_icmp .gt 11, 3, 24, 0), (16, .aload_n 0, 1, 0, 0), (17, .getfield 123, 3, 10, 1), (20, .iconst 2, 1, 0, 0), (21, .if_icmp .eq 5, 3, 26, 0), (24, .iconst (-1), 1, 0, 0), (25, .ireturn, 1, 0, 0), (26, .aload_n 0, 1, 0, 0), (27, .getfield 16, 3, 10, 5), (30, .istore_n 2, 1, 0, 0), (31, .aload_n 0, 1, 0, 0), (32, .iload_n 1, 1, 0, 0), (33, .putfield 16, 3, 10, 5), (36, .iload_n 2, 1, 0, 0), (37, .ireturn, 1, 0, 0)]
def kX11_layOut_0 : List (Nat × xI) := [(0, .iconst 1, 1, 0, 0), (1, .istore_n 1, 1, 0, 0), (2, .iload_n 1, 1, 0, 0), (3, .sipush 300, 3, 0, 0), (6, .if_icmp .gt 67, 3, 73, 0), (9, .iconst 0, 1, 0, 0), (10, .istore_n 2, 1, 0, 0), (11, .aload_n 0, 1, 0, 0), (12, .getfield 136, 3, 10, 3), (15, .iconst 1, 1, 0, 0), (16, .isub, 1, 0, 0), (17, .istore_n 3, 1, 0, 0), (18, .iload_n 3, 1, 0, 0), (19, .iload_n 1, 1, 0, 0), (20, .if_icmp .lt 47, 3, 67, 0), (23, .aload_n 0, 1, 0, 0), (24, .getfield 7, 3, 10, 2), (27, .iload_n 3, 1, 0, 0), (28, .iaload, 1, 0, 0), (29, .aload_n 0, 1, 0, 0), (30, .getfield 7, 3, 10, 2), (33, .iload_n 3, 1, 0, 0), (34, .iload_n 1, 1, 0, 0), (35, .isub, 1, 0, 0), (36, .iaload, 1, 0, 0), (37, .if_icmp .ne 9, 3, 46, 0), (40, .iload_n 2, 1, 0, 0), (41, .iconst 1, 1, 0, 0), (42, .iadd, 1, 0, 0), (43, .goto 4, 3, 47, 0), (46, .iconst 0, 1, 0, 0), (47, .istore_n 2, 1, 0, 0), (48, .aload_n 0, 1, 0, 0), (49, .getfield 39, 3, 10, 19), (52, .sipush 301, 3, 0, 0), (55, .iload_n 3, 1, 0, 0), (56, .imul, 1, 0, 0), (57, .iload_n 1, 1, 0, 0), (58, .iadd, 1, 0, 0), (59, .iload_n 2, 1, 0, 0), (60, .iastore, 1, 0, 0), (61, .iinc 3 (-1), 3, 0, 0), (64, .goto (-46), 3, 18, 0), (67, .iinc 1 1, 3, 0, 0), (70, .goto (-68), 3, 2, 0), (73, .iconst 0, 1, 0, 0), (74, .istore_n 1, 1, 0, 0), (75, .iload_n 1, 1, 0, 0), (76, .aload_n 0, 1, 0, 0), (77, .getfield 136, 3, 10, 3), (80, .if_icmp .ge 133, 3, 213, 0), (83, .iconst 0, 1, 0, 0), (84, .istore_n 2, 1, 0, 0), (85, .iconst 1, 1, 0, 0), (86, .istore_n 3, 1, 0, 0), (87, .iload_n 3, 1, 0, 0), (88, .iload_n 1, 1, 0, 0), (89, .if_icmp .gt 88, 3, 177, 0), (92, .aload_n 0, 1, 0, 0), (93, .getfield 39, 3, 10, 19)]
def kX11_layOut_1 : List (Nat × xI) := [(96, .sipush 301, 3, 0, 0), (99, .iload_n 1, 1, 0, 0), (100, .imul, 1, 0, 0), (101, .iload_n 3, 1, 0, 0), (102, .iadd, 1, 0, 0), (103, .iaload, 1, 0, 0), (104, .istore 4, 2, 0, 0), (106, .iload 4, 2, 0, 0), (108, .aload_n 0, 1, 0, 0), (109, .invokevirtual 149, 3, 100, 1), (112, .if_icmp .le 10, 3, 122, 0), (115, .aload_n 0, 1, 0, 0), (116, .invokevirtual 149, 3, 100, 1), (119, .goto 5, 3, 124, 0), (122, .iload 4, 2, 0, 0), (124, .istore 4, 2, 0, 0), (126, .iload_n 2, 1, 0, 0), (127, .iconst 1, 1, 0, 0), (128, .iadd, 1, 0, 0), (129, .istore 5, 2, 0, 0), (131, .iload 5, 2, 0, 0), (133, .iload 4, 2, 0, 0), (135, .if_icmp .gt 23, 3, 158, 0), (138, .aload_n 0, 1, 0, 0), (139, .getfield 42, 3, 10, 20), (142, .sipush 301, 3, 0, 0), (145, .iload_n 1, 1, 0, 0), (146, .imul, 1, 0, 0), (147, .iload 5, 2, 0, 0), (149, .iadd, 1, 0, 0), (150, .iload_n 3, 1, 0, 0), (151, .iastore, 1, 0, 0), (152, .iinc 5 1, 3, 0, 0), (155, .goto (-24), 3, 131, 0), (158, .iload 4, 2, 0, 0), (160, .iload_n 2, 1, 0, 0), (161, .if_icmp .le 8, 3, 169, 0), (164, .iload 4, 2, 0, 0), (166, .goto 4, 3, 170, 0), (169, .iload_n 2, 1, 0, 0), (170, .istore_n 2, 1, 0, 0), (171, .iinc 3 1, 3, 0, 0), (174, .goto (-87), 3, 87, 0), (177, .iload_n 2, 1, 0, 0), (178, .iconst 1, 1, 0, 0), (179, .iadd, 1, 0, 0), (180, .istore_n 3, 1, 0, 0), (181, .iload_n 3, 1, 0, 0), (182, .sipush 300, 3, 0, 0), (185, .if_icmp .gt 22, 3, 207, 0), (188, .aload_n 0, 1, 0, 0), (189, .getfield 42, 3, 10, 20), (192, .sipush 301, 3, 0, 0), (195, .iload_n 1, 1, 0, 0), (196, .imul, 1, 0, 0), (197, .iload_n 3, 1, 0, 0), (198, .iadd, 1, 0, 0), (199, .iconst 0, 1, 0, 0), (200, .iastore, 1, 0, 0), (201, .iinc 3 1, 3, 0, 0)]
def kX11_layOut_2 : List (Nat × xI) := [(204, .goto (-23), 3, 181, 0), (207, .iinc 1 1, 3, 0, 0), (210, .goto (-135), 3, 75, 0), (213, .return_, 1, 0, 0)]
def kX11_layOut : List (Nat × xI) := kX11_layOut_0 ++ (kX11_layOut_1 ++ (kX11_layOut_2))
def kX11_longestCopy : List (Nat × xI) := [(0, .aload_n 0, 1, 0, 0), (1, .invokevirtual 149, 3, 100, 1), (4, .istore_n 2, 1, 0, 0), (5, .iload_n 2, 1, 0, 0), (6, .aload_n 0, 1, 0, 0), (7, .invokevirtual 153, 3, 99, 1), (10, .if_icmp .lt 24, 3, 34, 0), (13, .aload_n 0, 1, 0, 0), (14, .getfield 42, 3, 10, 20), (17, .sipush 301, 3, 0, 0), (20, .iload_n 1, 1, 0, 0), (21, .imul, 1, 0, 0), (22, .iload_n 2, 1, 0, 0), (23, .iadd, 1, 0, 0), (24, .iaload, 1, 0, 0), (25, .ifCond .ne 9, 3, 34, 0), (28, .iinc 2 (-1), 3, 0, 0), (31, .goto (-26), 3, 5, 0), (34, .iload_n 2, 1, 0, 0), (35, .aload_n 0, 1, 0, 0), (36, .invokevirtual 153, 3, 99, 1), (39, .if_icmp .ge 7, 3, 46, 0), (42, .iconst 0, 1, 0, 0), (43, .goto 4, 3, 47, 0), (46, .iload_n 2, 1, 0, 0), (47, .ireturn, 1, 0, 0)]
def kX11_longestAgain : List (Nat × xI) := [(0, .iload_n 2, 1, 0, 0), (1, .iload_n 1, 1, 0, 0), (2, .if_icmp .le 7, 3, 9, 0), (5, .iconst 0, 1, 0, 0), (6, .goto 15, 3, 21, 0), (9, .aload_n 0, 1, 0, 0), (10, .getfield 39, 3, 10, 19), (13, .sipush 301, 3, 0, 0), (16, .iload_n 1, 1, 0, 0), (17, .imul, 1, 0, 0), (18, .iload_n 2, 1, 0, 0), (19, .iadd, 1, 0, 0), (20, .iaload, 1, 0, 0), (21, .istore_n 3, 1, 0, 0), (22, .iload_n 3, 1, 0, 0), (23, .aload_n 0, 1, 0, 0), (24, .invokevirtual 149, 3, 100, 1), (27, .if_icmp .le 10, 3, 37, 0), (30, .aload_n 0, 1, 0, 0), (31, .invokevirtual 149, 3, 100, 1), (34, .goto 4, 3, 38, 0), (37, .iload_n 3, 1, 0, 0), (38, .istore_n 3, 1, 0, 0), (39, .iload_n 3, 1, 0, 0), (40, .iconst 2, 1, 0, 0), (41, .if_icmp .ge 7, 3, 48, 0), (44, .iconst 0, 1, 0, 0), (45, .goto 4, 3, 49, 0), (48, .iload_n 3, 1, 0, 0), (49, .ireturn, 1, 0, 0)]
def kX11_high : List (Nat × xI) := [(0, .iconst 0, 1, 0, 0), (1, .istore_n 1, 1, 0, 0), (2, .iload_n 0, 1, 0, 0), (3, .iload_n 1, 1, 0, 0), (4, .iconst 1, 1, 0, 0), (5, .iadd, 1, 0, 0), (6, .ishr, 1, 0, 0), (7, .ifCond .le 9, 3, 16, 0), (10, .iinc 1 1, 3, 0, 0), (13, .goto (-11), 3, 2, 0), (16, .iload_n 1, 1, 0, 0), (17, .ireturn, 1, 0, 0)]
def kX11_lengthSlot : List (Nat × xI) := [(0, .iload_n 0, 1, 0, 0), (1, .invokestatic 156, 3, 110, 1), (4, .istore_n 1, 1, 0, 0), (5, .iload_n 0, 1, 0, 0), (6, .bipush 8, 2, 0, 0), (8, .if_icmp .ge 7, 3, 15, 0), (11, .iload_n 0, 1, 0, 0), (12, .goto 16, 3, 28, 0), (15, .iconst 4, 1, 0, 0), (16, .iload_n 1, 1, 0, 0), (17, .iconst 1, 1, 0, 0), (18, .isub, 1, 0, 0), (19, .imul, 1, 0, 0), (20, .iload_n 0, 1, 0, 0), (21, .iload_n 1, 1, 0, 0), (22, .iconst 2, 1, 0, 0), (23, .isub, 1, 0, 0), (24, .ishr, 1, 0, 0), (25, .iconst 3, 1, 0, 0), (26, .iand, 1, 0, 0), (27, .iadd, 1, 0, 0), (28, .ireturn, 1, 0, 0)]
def kX11_lengthBits : List (Nat × xI) := [(0, .iload_n 0, 1, 0, 0), (1, .bipush 8, 2, 0, 0), (3, .if_icmp .ge 7, 3, 10, 0), (6, .iconst 0, 1, 0, 0), (7, .goto 9, 3, 16, 0), (10, .iload_n 0, 1, 0, 0), (11, .invokestatic 156, 3, 110, 1), (14, .iconst 2, 1, 0, 0), (15, .isub, 1, 0, 0), (16, .ireturn, 1, 0, 0)]
def kX11_distanceSlot : List (Nat × xI) := [(0, .iload_n 0, 1, 0, 0), (1, .invokestatic 156, 3, 110, 1), (4, .istore_n 1, 1, 0, 0), (5, .iload_n 0, 1, 0, 0), (6, .iconst 4, 1, 0, 0), (7, .if_icmp .ge 7, 3, 14, 0), (10, .iload_n 0, 1, 0, 0), (11, .goto 14, 3, 25, 0), (14, .iconst 2, 1, 0, 0), (15, .iload_n 1, 1, 0, 0), (16, .imul, 1, 0, 0), (17, .iload_n 0, 1, 0, 0), (18, .iload_n 1, 1, 0, 0), (19, .iconst 1, 1, 0, 0), (20, .isub, 1, 0, 0), (21, .ishr, 1, 0, 0), (22, .iconst 1, 1, 0, 0), (23, .iand, 1, 0, 0), (24, .iadd, 1, 0, 0), (25, .ireturn, 1, 0, 0)]
def kX11_distanceBits : List (Nat × xI) := [(0, .iload_n 0, 1, 0, 0), (1, .iconst 4, 1, 0, 0), (2, .if_icmp .ge 7, 3, 9, 0), (5, .iconst 0, 1, 0, 0), (6, .goto 9, 3, 15, 0), (9, .iload_n 0, 1, 0, 0), (10, .invokestatic 156, 3, 110, 1), (13, .iconst 1, 1, 0, 0), (14, .isub, 1, 0, 0), (15, .ireturn, 1, 0, 0)]
def kX11_lengthCost : List (Nat × xI) := [(0, .iload_n 1, 1, 0, 0), (1, .aload_n 0, 1, 0, 0), (2, .invokevirtual 153, 3, 99, 1), (5, .isub, 1, 0, 0), (6, .istore_n 2, 1, 0, 0), (7, .aload_n 0, 1, 0, 0), (8, .getfield 13, 3, 10, 4), (11, .sipush 256, 3, 0, 0), (14, .iload_n 2, 1, 0, 0), (15, .invokestatic 159, 3, 111, 1), (18, .iadd, 1, 0, 0), (19, .iaload, 1, 0, 0), (20, .bipush 64, 2, 0, 0), (22, .iload_n 2, 1, 0, 0), (23, .invokestatic 162, 3, 112, 1), (26, .imul, 1, 0, 0), (27, .iadd, 1, 0, 0), (28, .ireturn, 1, 0, 0)]
def kX11_distanceCost : List (Nat × xI) := [(0, .aload_n 0, 1, 0, 0), (1, .getfield 13, 3, 10, 4), (4, .sipush 512, 3, 0, 0), (7, .iload_n 1, 1, 0, 0), (8, .iconst 1, 1, 0, 0), (9, .isub, 1, 0, 0), (10, .invokestatic 165, 3, 113, 1), (13, .iadd, 1, 0, 0), (14, .iaload, 1, 0, 0), (15, .bipush 64, 2, 0, 0), (17, .iload_n 1, 1, 0, 0), (18, .iconst 1, 1, 0, 0), (19, .isub, 1, 0, 0), (20, .invokestatic 168, 3, 114, 1), (23, .imul, 1, 0, 0), (24, .iadd, 1, 0, 0), (25, .ireturn, 1, 0, 0)]
def kX11_kindCost : List (Nat × xI) := [(0, .aload_n 0, 1, 0, 0), (1, .getfield 123, 3, 10, 1), (4, .iconst 2, 1, 0, 0), (5, .if_icmp .ne 16, 3, 21, 0), (8, .aload_n 0, 1, 0, 0), (9, .getfield 13, 3, 10, 4), (12, .sipush 768, 3, 0, 0), (15, .iload_n 1, 1, 0, 0), (16, .iadd, 1, 0, 0), (17, .iaload, 1, 0, 0), (18, .goto 4, 3, 22, 0), (21, .iconst 0, 1, 0, 0), (22, .ireturn, 1, 0, 0)]
def kX11_more : List (Nat × xI) := [(0, .iload_n 0, 1, 0, 0), (1, .iload_n 1, 1, 0, 0), (2, .if_icmp .ge 7, 3, 9, 0), (5, .iconst 0, 1, 0, 0), (6, .goto 12, 3, 18, 0), (9, .iconst 1, 1, 0, 0), (10, .iload_n 0, 1, 0, 0), (11, .iload_n 1, 1, 0, 0), (12, .isub, 1, 0, 0), (13, .sipush 255, 3, 0, 0), (16, .idiv, 1, 0, 0), (17, .iadd, 1, 0, 0), (18, .ireturn, 1, 0, 0)]
def kX11_stepCost_0 : List (Nat × xI) := [(0, .aload_n 0, 1, 0, 0), (1, .getfield 123, 3, 10, 1), (4, .iconst 1, 1, 0, 0), (5, .if_icmp .ne 46, 3, 51, 0), (8, .iload_n 1, 1, 0, 0), (9, .ifCond .ne 29, 3, 38, 0), (12, .sipush 512, 3, 0, 0), (15, .iconst 1, 1, 0, 0), (16, .iload 5, 2, 0, 0), (18, .iconst 1, 1, 0, 0), (19, .iadd, 1, 0, 0), (20, .bipush 15, 2, 0, 0), (22, .invokestatic 171, 3, 118, 2), (25, .iadd, 1, 0, 0), (26, .iload 5, 2, 0, 0), (28, .bipush 15, 2, 0, 0), (30, .invokestatic 171, 3, 118, 2), (33, .isub, 1, 0, 0), (34, .imul, 1, 0, 0), (35, .goto 15, 3, 50, 0), (38, .sipush 512, 3, 0, 0), (41, .iconst 3, 1, 0, 0), (42, .iload_n 2, 1, 0, 0), (43, .bipush 19, 2, 0, 0), (45, .invokestatic 171, 3, 118, 2), (48, .iadd, 1, 0, 0), (49, .imul, 1, 0, 0), (50, .ireturn, 1, 0, 0), (51, .iload_n 1, 1, 0, 0), (52, .ifCond .ne 17, 3, 69, 0), (55, .aload_n 0, 1, 0, 0), (56, .getfield 13, 3, 10, 4), (59, .iload 4, 2, 0, 0), (61, .iaload, 1, 0, 0), (62, .aload_n 0, 1, 0, 0), (63, .iconst 0, 1, 0, 0), (64, .invokevirtual 175, 3, 117, 2), (67, .iadd, 1, 0, 0), (68, .ireturn, 1, 0, 0), (69, .iload_n 1, 1, 0, 0), (70, .iconst 1, 1, 0, 0), (71, .if_icmp .ne 21, 3, 92, 0), (74, .aload_n 0, 1, 0, 0), (75, .iconst 1, 1, 0, 0), (76, .invokevirtual 175, 3, 117, 2), (79, .aload_n 0, 1, 0, 0), (80, .iload_n 2, 1, 0, 0), (81, .invokevirtual 178, 3, 115, 2), (84, .iadd, 1, 0, 0), (85, .aload_n 0, 1, 0, 0), (86, .iload_n 3, 1, 0, 0), (87, .invokevirtual 181, 3, 116, 2), (90, .iadd, 1, 0, 0), (91, .ireturn, 1, 0, 0), (92, .iload_n 1, 1, 0, 0), (93, .bipush 6, 2, 0, 0), (95, .if_icmp .ne 12, 3, 107, 0), (98, .aload_n 0, 1, 0, 0), (99, .bipush 6, 2, 0, 0), (101, .invokevirtual 175, 3, 117, 2)]
def kX11_stepCost_1 : List (Nat × xI) := [(104, .goto 14, 3, 118, 0), (107, .aload_n 0, 1, 0, 0), (108, .iload_n 1, 1, 0, 0), (109, .invokevirtual 175, 3, 117, 2), (112, .aload_n 0, 1, 0, 0), (113, .iload_n 2, 1, 0, 0), (114, .invokevirtual 178, 3, 115, 2), (117, .iadd, 1, 0, 0), (118, .ireturn, 1, 0, 0)]
def kX11_stepCost : List (Nat × xI) := kX11_stepCost_0 ++ (kX11_stepCost_1)
def kX11_allCost : List (Nat × xI) := [(0, .aload_n 0, 1, 0, 0), (1, .getfield 123, 3, 10, 1), (4, .iconst 1, 1, 0, 0), (5, .if_icmp .ne 9, 3, 14, 0), (8, .ldc2_w 184, 3, 512, 0), (11, .goto 4, 3, 15, 0), (14, .lconst 0, 1, 0, 0), (15, .lstore_n 1, 1, 0, 0), (16, .iconst 0, 1, 0, 0), (17, .istore_n 3, 1, 0, 0), (18, .iconst 0, 1, 0, 0), (19, .istore 4, 2, 0, 0), (21, .iload 4, 2, 0, 0), (23, .aload_n 0, 1, 0, 0), (24, .getfield 186, 3, 10, 11), (27, .if_icmp .ge 69, 3, 96, 0), (30, .lload_n 1, 1, 0, 0), (31, .aload_n 0, 1, 0, 0), (32, .aload_n 0, 1, 0, 0), (33, .getfield 35, 3, 10, 15), (36, .iload 4, 2, 0, 0), (38, .iaload, 1, 0, 0), (39, .aload_n 0, 1, 0, 0), (40, .getfield 29, 3, 10, 13), (43, .iload 4, 2, 0, 0), (45, .iaload, 1, 0, 0), (46, .aload_n 0, 1, 0, 0), (47, .getfield 32, 3, 10, 14), (50, .iload 4, 2, 0, 0), (52, .iaload, 1, 0, 0), (53, .aload_n 0, 1, 0, 0), (54, .getfield 7, 3, 10, 2), (57, .aload_n 0, 1, 0, 0), (58, .getfield 26, 3, 10, 12), (61, .iload 4, 2, 0, 0), (63, .iaload, 1, 0, 0), (64, .iaload, 1, 0, 0), (65, .iload_n 3, 1, 0, 0), (66, .invokevirtual 189, 3, 119, 6), (69, .i2l, 1, 0, 0), (70, .ladd, 1, 0, 0), (71, .lstore_n 1, 1, 0, 0), (72, .aload_n 0, 1, 0, 0), (73, .getfield 35, 3, 10, 15), (76, .iload 4, 2, 0, 0), (78, .iaload, 1, 0, 0), (79, .ifCond .ne 9, 3, 88, 0), (82, .iload_n 3, 1, 0, 0), (83, .iconst 1, 1, 0, 0), (84, .iadd, 1, 0, 0), (85, .goto 4, 3, 89, 0), (88, .iconst 0, 1, 0, 0), (89, .istore_n 3, 1, 0, 0), (90, .iinc 4 1, 3, 0, 0), (93, .goto (-72), 3, 21, 0), (96, .lload_n 1, 1, 0, 0), (97, .lreturn, 1, 0, 0)]
def kX11_clearLatest : List (Nat × xI) := [(0, .iconst 0, 1, 0, 0), (1, .istore_n 1, 1, 0, 0), (2, .iload_n 1, 1, 0, 0), (3, .iconst 4, 1, 0, 0), (4, .if_icmp .ge 16, 3, 20, 0), (7, .aload_n 0, 1, 0, 0), (8, .getfield 45, 3, 10, 21), (11, .iload_n 1, 1, 0, 0), (12, .iconst 1, 1, 0, 0), (13, .iastore, 1, 0, 0), (14, .iinc 1 1, 3, 0, 0), (17, .goto (-15), 3, 2, 0), (20, .return_, 1, 0, 0)]
def kX11_ahead : List (Nat × xI) := [(0, .iload_n 2, 1, 0, 0), (1, .istore_n 3, 1, 0, 0), (2, .iload_n 3, 1, 0, 0), (3, .ifCond .le 23, 3, 26, 0), (6, .aload_n 0, 1, 0, 0), (7, .getfield 45, 3, 10, 21), (10, .iload_n 3, 1, 0, 0), (11, .aload_n 0, 1, 0, 0), (12, .getfield 45, 3, 10, 21), (15, .iload_n 3, 1, 0, 0), (16, .iconst 1, 1, 0, 0), (17, .isub, 1, 0, 0), (18, .iaload, 1, 0, 0), (19, .iastore, 1, 0, 0), (20, .iinc 3 (-1), 3, 0, 0), (23, .goto (-21), 3, 2, 0), (26, .aload_n 0, 1, 0, 0), (27, .getfield 45, 3, 10, 21), (30, .iconst 0, 1, 0, 0), (31, .iload_n 1, 1, 0, 0), (32, .iastore, 1, 0, 0), (33, .return_, 1, 0, 0)]
def kX11_longestOf : List (Nat × xI) := [(0, .iload_n 1, 1, 0, 0), (1, .aload_n 0, 1, 0, 0), (2, .getfield 136, 3, 10, 3), (5, .if_icmp .ge 11, 3, 16, 0), (8, .aload_n 0, 1, 0, 0), (9, .iload_n 1, 1, 0, 0), (10, .invokevirtual 193, 3, 108, 2), (13, .goto 4, 3, 17, 0), (16, .iconst 0, 1, 0, 0), (17, .istore_n 2, 1, 0, 0), (18, .aload_n 0, 1, 0, 0), (19, .iconst 1, 1, 0, 0), (20, .putfield 196, 3, 10, 22), (23, .aload_n 0, 1, 0, 0), (24, .getfield 123, 3, 10, 1), (27, .iconst 2, 1, 0, 0), (28, .if_icmp .ne 63, 3, 91, 0), (31, .iload_n 1, 1, 0, 0), (32, .aload_n 0, 1, 0, 0), (33, .getfield 136, 3, 10, 3), (36, .if_icmp .ge 55, 3, 91, 0), (39, .iconst 3, 1, 0, 0), (40, .istore_n 3, 1, 0, 0), (41, .iload_n 3, 1, 0, 0), (42, .ifCond .lt 49, 3, 91, 0), (45, .aload_n 0, 1, 0, 0), (46, .iload_n 1, 1, 0, 0), (47, .aload_n 0, 1, 0, 0), (48, .getfield 45, 3, 10, 21), (51, .iload_n 3, 1, 0, 0), (52, .iaload, 1, 0, 0), (53, .invokevirtual 199, 3, 109, 3), (56, .istore 4, 2, 0, 0), (58, .iload 4, 2, 0, 0), (60, .ifCond .le 25, 3, 85, 0), (63, .iload 4, 2, 0, 0), (65, .iload_n 2, 1, 0, 0), (66, .if_icmp .gt 9, 3, 75, 0), (69, .iload 4, 2, 0, 0), (71, .iload_n 2, 1, 0, 0), (72, .if_icmp .ne 13, 3, 85, 0), (75, .iload 4, 2, 0, 0), (77, .istore_n 2, 1, 0, 0), (78, .aload_n 0, 1, 0, 0), (79, .iconst 2, 1, 0, 0), (80, .iload_n 3, 1, 0, 0), (81, .iadd, 1, 0, 0), (82, .putfield 196, 3, 10, 22), (85, .iinc 3 (-1), 3, 0, 0), (88, .goto (-47), 3, 41, 0), (91, .iload_n 2, 1, 0, 0), (92, .ireturn, 1, 0, 0)]
def kX11_addStep : List (Nat × xI) := [(0, .aload_n 0, 1, 0, 0), (1, .getfield 26, 3, 10, 12), (4, .aload_n 0, 1, 0, 0), (5, .getfield 186, 3, 10, 11), (8, .iload_n 1, 1, 0, 0), (9, .iastore, 1, 0, 0), (10, .aload_n 0, 1, 0, 0), (11, .getfield 35, 3, 10, 15), (14, .aload_n 0, 1, 0, 0), (15, .getfield 186, 3, 10, 11), (18, .iload_n 2, 1, 0, 0), (19, .iastore, 1, 0, 0), (20, .aload_n 0, 1, 0, 0), (21, .getfield 29, 3, 10, 13), (24, .aload_n 0, 1, 0, 0), (25, .getfield 186, 3, 10, 11), (28, .iload_n 3, 1, 0, 0), (29, .iastore, 1, 0, 0), (30, .aload_n 0, 1, 0, 0), (31, .getfield 32, 3, 10, 14), (34, .aload_n 0, 1, 0, 0), (35, .getfield 186, 3, 10, 11), (38, .iload 4, 2, 0, 0), (40, .iastore, 1, 0, 0), (41, .aload_n 0, 1, 0, 0), (42, .dup, 1, 0, 0), (43, .getfield 186, 3, 10, 11), (46, .iconst 1, 1, 0, 0), (47, .iadd, 1, 0, 0), (48, .putfield 186, 3, 10, 11), (51, .return_, 1, 0, 0)]
def kX11_greedy_0 : List (Nat × xI) := [(0, .aload_n 0, 1, 0, 0), (1, .iconst 0, 1, 0, 0), (2, .putfield 186, 3, 10, 11), (5, .aload_n 0, 1, 0, 0), (6, .invokevirtual 202, 3, 121, 1), (9, .iconst 0, 1, 0, 0), (10, .istore_n 2, 1, 0, 0), (11, .iload_n 2, 1, 0, 0), (12, .aload_n 0, 1, 0, 0), (13, .getfield 136, 3, 10, 3), (16, .if_icmp .ge 178, 3, 194, 0), (19, .aload_n 0, 1, 0, 0), (20, .iload_n 2, 1, 0, 0), (21, .invokevirtual 205, 3, 123, 2), (24, .istore_n 3, 1, 0, 0), (25, .iconst 0, 1, 0, 0), (26, .istore 4, 2, 0, 0), (28, .iconst 1, 1, 0, 0), (29, .istore 5, 2, 0, 0), (31, .iload 5, 2, 0, 0), (33, .iload_n 1, 1, 0, 0), (34, .if_icmp .gt 42, 3, 76, 0), (37, .iload 4, 2, 0, 0), (39, .iload_n 2, 1, 0, 0), (40, .iload 5, 2, 0, 0), (42, .iadd, 1, 0, 0), (43, .aload_n 0, 1, 0, 0), (44, .getfield 136, 3, 10, 3), (47, .if_icmp .ge 19, 3, 66, 0), (50, .aload_n 0, 1, 0, 0), (51, .iload_n 2, 1, 0, 0), (52, .iload 5, 2, 0, 0), (54, .iadd, 1, 0, 0), (55, .invokevirtual 205, 3, 123, 2), (58, .iload_n 3, 1, 0, 0), (59, .if_icmp .le 7, 3, 66, 0), (62, .iconst 1, 1, 0, 0), (63, .goto 4, 3, 67, 0), (66, .iconst 0, 1, 0, 0), (67, .ior, 1, 0, 0), (68, .istore 4, 2, 0, 0), (70, .iinc 5 1, 3, 0, 0), (73, .goto (-42), 3, 31, 0), (76, .aload_n 0, 1, 0, 0), (77, .iload_n 2, 1, 0, 0), (78, .invokevirtual 205, 3, 123, 2), (81, .istore_n 3, 1, 0, 0), (82, .iload_n 3, 1, 0, 0), (83, .ifCond .eq 8, 3, 91, 0), (86, .iload 4, 2, 0, 0), (88, .ifCond .eq 17, 3, 105, 0), (91, .aload_n 0, 1, 0, 0), (92, .iload_n 2, 1, 0, 0), (93, .iconst 0, 1, 0, 0), (94, .iconst 1, 1, 0, 0), (95, .iconst 0, 1, 0, 0), (96, .invokevirtual 208, 3, 124, 5), (99, .iinc 2 1, 3, 0, 0), (102, .goto 89, 3, 191, 0), (105, .aload_n 0, 1, 0, 0)]
def kX11_greedy_1 : List (Nat × xI) := [(106, .getfield 196, 3, 10, 22), (109, .iconst 1, 1, 0, 0), (110, .if_icmp .ne 40, 3, 150, 0), (113, .aload_n 0, 1, 0, 0), (114, .getfield 42, 3, 10, 20), (117, .sipush 301, 3, 0, 0), (120, .iload_n 2, 1, 0, 0), (121, .imul, 1, 0, 0), (122, .iload_n 3, 1, 0, 0), (123, .iadd, 1, 0, 0), (124, .iaload, 1, 0, 0), (125, .istore 5, 2, 0, 0), (127, .aload_n 0, 1, 0, 0), (128, .iload_n 2, 1, 0, 0), (129, .iconst 1, 1, 0, 0), (130, .iload_n 3, 1, 0, 0), (131, .iload 5, 2, 0, 0), (133, .invokevirtual 208, 3, 124, 5), (136, .aload_n 0, 1, 0, 0), (137, .iload 5, 2, 0, 0), (139, .iconst 3, 1, 0, 0), (140, .invokevirtual 212, 3, 122, 3), (143, .iload_n 2, 1, 0, 0), (144, .iload_n 3, 1, 0, 0), (145, .iadd, 1, 0, 0), (146, .istore_n 2, 1, 0, 0), (147, .goto 44, 3, 191, 0), (150, .aload_n 0, 1, 0, 0), (151, .getfield 45, 3, 10, 21), (154, .aload_n 0, 1, 0, 0), (155, .getfield 196, 3, 10, 22), (158, .iconst 2, 1, 0, 0), (159, .isub, 1, 0, 0), (160, .iaload, 1, 0, 0), (161, .istore 5, 2, 0, 0), (163, .aload_n 0, 1, 0, 0), (164, .iload_n 2, 1, 0, 0), (165, .aload_n 0, 1, 0, 0), (166, .getfield 196, 3, 10, 22), (169, .iload_n 3, 1, 0, 0), (170, .iload 5, 2, 0, 0), (172, .invokevirtual 208, 3, 124, 5), (175, .aload_n 0, 1, 0, 0), (176, .iload 5, 2, 0, 0), (178, .aload_n 0, 1, 0, 0), (179, .getfield 196, 3, 10, 22), (182, .iconst 2, 1, 0, 0), (183, .isub, 1, 0, 0), (184, .invokevirtual 212, 3, 122, 3), (187, .iload_n 2, 1, 0, 0), (188, .iload_n 3, 1, 0, 0), (189, .iadd, 1, 0, 0), (190, .istore_n 2, 1, 0, 0), (191, .goto (-180), 3, 11, 0), (194, .aload_n 0, 1, 0, 0), (195, .aload_n 0, 1, 0, 0), (196, .invokevirtual 216, 3, 120, 1), (199, .putfield 220, 3, 10, 16), (202, .aload_n 0, 1, 0, 0), (203, .iconst 0, 1, 0, 0)]
def kX11_greedy_2 : List (Nat × xI) := [(204, .putfield 224, 3, 10, 17), (207, .return_, 1, 0, 0)]
def kX11_greedy : List (Nat × xI) := kX11_greedy_0 ++ (kX11_greedy_1 ++ (kX11_greedy_2))
def kX11_at : List (Nat × xI) := [(0, .sipush 301, 3, 0, 0), (3, .iload_n 1, 1, 0, 0), (4, .imul, 1, 0, 0), (5, .iload_n 2, 1, 0, 0), (6, .iadd, 1, 0, 0), (7, .ireturn, 1, 0, 0)]
def kX11_firstRow : List (Nat × xI) := [(0, .iconst 0, 1, 0, 0), (1, .istore_n 2, 1, 0, 0), (2, .iconst 1, 1, 0, 0), (3, .istore_n 3, 1, 0, 0), (4, .iload_n 3, 1, 0, 0), (5, .iload_n 1, 1, 0, 0), (6, .if_icmp .gt 44, 3, 50, 0), (9, .aload_n 0, 1, 0, 0), (10, .getfield 123, 3, 10, 1), (13, .iconst 1, 1, 0, 0), (14, .if_icmp .ne 36, 3, 50, 0), (17, .aload_n 0, 1, 0, 0), (18, .getfield 48, 3, 10, 23), (21, .aload_n 0, 1, 0, 0), (22, .iload_n 1, 1, 0, 0), (23, .iload_n 3, 1, 0, 0), (24, .invokevirtual 227, 3, 126, 3), (27, .iaload, 1, 0, 0), (28, .aload_n 0, 1, 0, 0), (29, .getfield 48, 3, 10, 23), (32, .aload_n 0, 1, 0, 0), (33, .iload_n 1, 1, 0, 0), (34, .iload_n 2, 1, 0, 0), (35, .invokevirtual 227, 3, 126, 3), (38, .iaload, 1, 0, 0), (39, .if_icmp .ge 5, 3, 44, 0), (42, .iload_n 3, 1, 0, 0), (43, .istore_n 2, 1, 0, 0), (44, .iinc 3 1, 3, 0, 0), (47, .goto (-43), 3, 4, 0), (50, .iload_n 2, 1, 0, 0), (51, .ireturn, 1, 0, 0)]
def kX11_clearTable : List (Nat × xI) := [(0, .iconst 0, 1, 0, 0), (1, .istore_n 1, 1, 0, 0), (2, .iload_n 1, 1, 0, 0), (3, .aload_n 0, 1, 0, 0), (4, .getfield 136, 3, 10, 3), (7, .if_icmp .gt 54, 3, 61, 0), (10, .iconst 0, 1, 0, 0), (11, .istore_n 2, 1, 0, 0), (12, .iload_n 2, 1, 0, 0), (13, .aload_n 0, 1, 0, 0), (14, .getfield 123, 3, 10, 1), (17, .iconst 1, 1, 0, 0), (18, .if_icmp .ne 7, 3, 25, 0), (21, .iload_n 1, 1, 0, 0), (22, .goto 4, 3, 26, 0), (25, .iconst 0, 1, 0, 0), (26, .if_icmp .gt 22, 3, 48, 0), (29, .aload_n 0, 1, 0, 0), (30, .getfield 48, 3, 10, 23), (33, .aload_n 0, 1, 0, 0), (34, .iload_n 1, 1, 0, 0), (35, .iload_n 2, 1, 0, 0), (36, .invokevirtual 227, 3, 126, 3), (39, .ldc 230, 2, 2000000000, 0), (41, .iastore, 1, 0, 0), (42, .iinc 2 1, 3, 0, 0), (45, .goto (-33), 3, 12, 0), (48, .aload_n 0, 1, 0, 0), (49, .getfield 60, 3, 10, 27), (52, .iload_n 1, 1, 0, 0), (53, .iconst 0, 1, 0, 0), (54, .bastore, 1, 0, 0), (55, .iinc 1 1, 3, 0, 0), (58, .goto (-56), 3, 2, 0), (61, .aload_n 0, 1, 0, 0), (62, .getfield 48, 3, 10, 23), (65, .iconst 0, 1, 0, 0), (66, .iconst 0, 1, 0, 0), (67, .iastore, 1, 0, 0), (68, .return_, 1, 0, 0)]
def kX11_copies_0 : List (Nat × xI) := [(0, .aload_n 0, 1, 0, 0), (1, .getfield 48, 3, 10, 23), (4, .aload_n 0, 1, 0, 0), (5, .iload_n 1, 1, 0, 0), (6, .iload_n 2, 1, 0, 0), (7, .invokevirtual 227, 3, 126, 3), (10, .iaload, 1, 0, 0), (11, .istore_n 3, 1, 0, 0), (12, .aload_n 0, 1, 0, 0), (13, .iload_n 1, 1, 0, 0), (14, .invokevirtual 193, 3, 108, 2), (17, .istore 4, 2, 0, 0), (19, .iload 4, 2, 0, 0), (21, .aload_n 0, 1, 0, 0), (22, .invokevirtual 153, 3, 99, 1), (25, .if_icmp .lt 115, 3, 140, 0), (28, .aload_n 0, 1, 0, 0), (29, .getfield 42, 3, 10, 20), (32, .sipush 301, 3, 0, 0), (35, .iload_n 1, 1, 0, 0), (36, .imul, 1, 0, 0), (37, .iload 4, 2, 0, 0), (39, .iadd, 1, 0, 0), (40, .iaload, 1, 0, 0), (41, .istore 5, 2, 0, 0), (43, .iload_n 3, 1, 0, 0), (44, .aload_n 0, 1, 0, 0), (45, .iconst 1, 1, 0, 0), (46, .iload 4, 2, 0, 0), (48, .iload 5, 2, 0, 0), (50, .iconst 0, 1, 0, 0), (51, .iconst 0, 1, 0, 0), (52, .invokevirtual 189, 3, 119, 6), (55, .iadd, 1, 0, 0), (56, .istore 6, 2, 0, 0), (58, .iload 6, 2, 0, 0), (60, .aload_n 0, 1, 0, 0), (61, .getfield 48, 3, 10, 23), (64, .aload_n 0, 1, 0, 0), (65, .iload_n 1, 1, 0, 0), (66, .iload 4, 2, 0, 0), (68, .iadd, 1, 0, 0), (69, .iconst 0, 1, 0, 0), (70, .invokevirtual 227, 3, 126, 3), (73, .iaload, 1, 0, 0), (74, .if_icmp .ge 60, 3, 134, 0), (77, .aload_n 0, 1, 0, 0), (78, .getfield 48, 3, 10, 23), (81, .aload_n 0, 1, 0, 0), (82, .iload_n 1, 1, 0, 0), (83, .iload 4, 2, 0, 0), (85, .iadd, 1, 0, 0), (86, .iconst 0, 1, 0, 0), (87, .invokevirtual 227, 3, 126, 3), (90, .iload 6, 2, 0, 0), (92, .iastore, 1, 0, 0), (93, .aload_n 0, 1, 0, 0), (94, .getfield 51, 3, 10, 24), (97, .iload_n 1, 1, 0, 0), (98, .iload 4, 2, 0, 0)]
def kX11_copies_1 : List (Nat × xI) := [(100, .iadd, 1, 0, 0), (101, .iload_n 1, 1, 0, 0), (102, .iastore, 1, 0, 0), (103, .aload_n 0, 1, 0, 0), (104, .getfield 54, 3, 10, 25), (107, .iload_n 1, 1, 0, 0), (108, .iload 4, 2, 0, 0), (110, .iadd, 1, 0, 0), (111, .iload_n 2, 1, 0, 0), (112, .iastore, 1, 0, 0), (113, .aload_n 0, 1, 0, 0), (114, .getfield 57, 3, 10, 26), (117, .iload_n 1, 1, 0, 0), (118, .iload 4, 2, 0, 0), (120, .iadd, 1, 0, 0), (121, .iload 5, 2, 0, 0), (123, .iastore, 1, 0, 0), (124, .aload_n 0, 1, 0, 0), (125, .getfield 60, 3, 10, 27), (128, .iload_n 1, 1, 0, 0), (129, .iload 4, 2, 0, 0), (131, .iadd, 1, 0, 0), (132, .iconst 0, 1, 0, 0), (133, .bastore, 1, 0, 0), (134, .iinc 4 (-1), 3, 0, 0), (137, .goto (-118), 3, 19, 0), (140, .return_, 1, 0, 0)]
def kX11_copies : List (Nat × xI) := kX11_copies_0 ++ (kX11_copies_1)
def kX11_literals_0 : List (Nat × xI) := [(0, .iconst 0, 1, 0, 0), (1, .istore_n 2, 1, 0, 0), (2, .iload_n 2, 1, 0, 0), (3, .aload_n 0, 1, 0, 0), (4, .getfield 123, 3, 10, 1), (7, .iconst 1, 1, 0, 0), (8, .if_icmp .ne 7, 3, 15, 0), (11, .iload_n 1, 1, 0, 0), (12, .goto 4, 3, 16, 0), (15, .iconst 0, 1, 0, 0), (16, .if_icmp .gt 106, 3, 122, 0), (19, .aload_n 0, 1, 0, 0), (20, .getfield 48, 3, 10, 23), (23, .aload_n 0, 1, 0, 0), (24, .iload_n 1, 1, 0, 0), (25, .iload_n 2, 1, 0, 0), (26, .invokevirtual 227, 3, 126, 3), (29, .iaload, 1, 0, 0), (30, .istore_n 3, 1, 0, 0), (31, .iload_n 3, 1, 0, 0), (32, .ldc 230, 2, 2000000000, 0), (34, .if_icmp .ge 82, 3, 116, 0), (37, .iload_n 3, 1, 0, 0), (38, .aload_n 0, 1, 0, 0), (39, .iconst 0, 1, 0, 0), (40, .iconst 1, 1, 0, 0), (41, .iconst 0, 1, 0, 0), (42, .aload_n 0, 1, 0, 0), (43, .getfield 7, 3, 10, 2), (46, .iload_n 1, 1, 0, 0), (47, .iaload, 1, 0, 0), (48, .iload_n 2, 1, 0, 0), (49, .invokevirtual 189, 3, 119, 6), (52, .iadd, 1, 0, 0), (53, .istore 4, 2, 0, 0), (55, .aload_n 0, 1, 0, 0), (56, .iload_n 1, 1, 0, 0), (57, .iconst 1, 1, 0, 0), (58, .iadd, 1, 0, 0), (59, .aload_n 0, 1, 0, 0), (60, .getfield 123, 3, 10, 1), (63, .iconst 1, 1, 0, 0), (64, .if_icmp .ne 9, 3, 73, 0), (67, .iload_n 2, 1, 0, 0), (68, .iconst 1, 1, 0, 0), (69, .iadd, 1, 0, 0), (70, .goto 4, 3, 74, 0), (73, .iconst 0, 1, 0, 0), (74, .invokevirtual 227, 3, 126, 3), (77, .istore 5, 2, 0, 0), (79, .iload 4, 2, 0, 0), (81, .aload_n 0, 1, 0, 0), (82, .getfield 48, 3, 10, 23), (85, .iload 5, 2, 0, 0), (87, .iaload, 1, 0, 0), (88, .if_icmp .ge 28, 3, 116, 0), (91, .aload_n 0, 1, 0, 0), (92, .getfield 48, 3, 10, 23), (95, .iload 5, 2, 0, 0), (97, .iload 4, 2, 0, 0)]
def kX11_literals_1 : List (Nat × xI) := [(99, .iastore, 1, 0, 0), (100, .aload_n 0, 1, 0, 0), (101, .getfield 123, 3, 10, 1), (104, .ifCond .ne 12, 3, 116, 0), (107, .aload_n 0, 1, 0, 0), (108, .getfield 60, 3, 10, 27), (111, .iload_n 1, 1, 0, 0), (112, .iconst 1, 1, 0, 0), (113, .iadd, 1, 0, 0), (114, .iconst 1, 1, 0, 0), (115, .bastore, 1, 0, 0), (116, .iinc 2 1, 3, 0, 0), (119, .goto (-117), 3, 2, 0), (122, .return_, 1, 0, 0)]
def kX11_literals : List (Nat × xI) := kX11_literals_0 ++ (kX11_literals_1)
def kX11_backPlain_0 : List (Nat × xI) := [(0, .aload_n 0, 1, 0, 0), (1, .getfield 136, 3, 10, 3), (4, .istore_n 1, 1, 0, 0), (5, .aload_n 0, 1, 0, 0), (6, .aload_n 0, 1, 0, 0), (7, .getfield 136, 3, 10, 3), (10, .invokevirtual 231, 3, 127, 2), (13, .istore_n 2, 1, 0, 0), (14, .aload_n 0, 1, 0, 0), (15, .aload_n 0, 1, 0, 0), (16, .getfield 48, 3, 10, 23), (19, .aload_n 0, 1, 0, 0), (20, .aload_n 0, 1, 0, 0), (21, .getfield 136, 3, 10, 3), (24, .iload_n 2, 1, 0, 0), (25, .invokevirtual 227, 3, 126, 3), (28, .iaload, 1, 0, 0), (29, .i2l, 1, 0, 0), (30, .aload_n 0, 1, 0, 0), (31, .getfield 123, 3, 10, 1), (34, .iconst 1, 1, 0, 0), (35, .if_icmp .ne 9, 3, 44, 0), (38, .ldc2_w 184, 3, 512, 0), (41, .goto 4, 3, 45, 0), (44, .lconst 0, 1, 0, 0), (45, .ladd, 1, 0, 0), (46, .putfield 220, 3, 10, 16), (49, .iconst 0, 1, 0, 0), (50, .istore_n 3, 1, 0, 0), (51, .iload_n 1, 1, 0, 0), (52, .ifCond .le 144, 3, 196, 0), (55, .aload_n 0, 1, 0, 0), (56, .getfield 123, 3, 10, 1), (59, .iconst 1, 1, 0, 0), (60, .if_icmp .ne 15, 3, 75, 0), (63, .iload_n 2, 1, 0, 0), (64, .ifCond .le 7, 3, 71, 0), (67, .iconst 1, 1, 0, 0), (68, .goto 13, 3, 81, 0), (71, .iconst 0, 1, 0, 0), (72, .goto 9, 3, 81, 0), (75, .aload_n 0, 1, 0, 0), (76, .getfield 60, 3, 10, 27), (79, .iload_n 1, 1, 0, 0), (80, .baload, 1, 0, 0), (81, .istore 4, 2, 0, 0), (83, .iload 4, 2, 0, 0), (85, .ifCond .eq 9, 3, 94, 0), (88, .iload_n 1, 1, 0, 0), (89, .iconst 1, 1, 0, 0), (90, .isub, 1, 0, 0), (91, .goto 9, 3, 100, 0), (94, .aload_n 0, 1, 0, 0), (95, .getfield 51, 3, 10, 24), (98, .iload_n 1, 1, 0, 0), (99, .iaload, 1, 0, 0), (100, .istore 5, 2, 0, 0), (102, .aload_n 0, 1, 0, 0), (103, .getfield 64, 3, 10, 28), (106, .iload_n 3, 1, 0, 0)]
def kX11_backPlain_1 : List (Nat × xI) := [(107, .iload 5, 2, 0, 0), (109, .iastore, 1, 0, 0), (110, .aload_n 0, 1, 0, 0), (111, .getfield 67, 3, 10, 29), (114, .iload_n 3, 1, 0, 0), (115, .iload 4, 2, 0, 0), (117, .ifCond .eq 7, 3, 124, 0), (120, .iconst 0, 1, 0, 0), (121, .goto 4, 3, 125, 0), (124, .iconst 1, 1, 0, 0), (125, .iastore, 1, 0, 0), (126, .aload_n 0, 1, 0, 0), (127, .getfield 70, 3, 10, 30), (130, .iload_n 3, 1, 0, 0), (131, .iload 4, 2, 0, 0), (133, .ifCond .eq 7, 3, 140, 0), (136, .iconst 0, 1, 0, 0), (137, .goto 9, 3, 146, 0), (140, .aload_n 0, 1, 0, 0), (141, .getfield 57, 3, 10, 26), (144, .iload_n 1, 1, 0, 0), (145, .iaload, 1, 0, 0), (146, .iastore, 1, 0, 0), (147, .aload_n 0, 1, 0, 0), (148, .getfield 73, 3, 10, 31), (151, .iload_n 3, 1, 0, 0), (152, .iload_n 1, 1, 0, 0), (153, .iload 5, 2, 0, 0), (155, .isub, 1, 0, 0), (156, .iastore, 1, 0, 0), (157, .iinc 3 1, 3, 0, 0), (160, .iload 4, 2, 0, 0), (162, .ifCond .eq 21, 3, 183, 0), (165, .aload_n 0, 1, 0, 0), (166, .getfield 123, 3, 10, 1), (169, .iconst 1, 1, 0, 0), (170, .if_icmp .ne 9, 3, 179, 0), (173, .iload_n 2, 1, 0, 0), (174, .iconst 1, 1, 0, 0), (175, .isub, 1, 0, 0), (176, .goto 13, 3, 189, 0), (179, .iconst 0, 1, 0, 0), (180, .goto 9, 3, 189, 0), (183, .aload_n 0, 1, 0, 0), (184, .getfield 54, 3, 10, 25), (187, .iload_n 1, 1, 0, 0), (188, .iaload, 1, 0, 0), (189, .istore_n 2, 1, 0, 0), (190, .iload 5, 2, 0, 0), (192, .istore_n 1, 1, 0, 0), (193, .goto (-142), 3, 51, 0), (196, .aload_n 0, 1, 0, 0), (197, .iload_n 3, 1, 0, 0), (198, .invokevirtual 234, 3, 132, 2), (201, .return_, 1, 0, 0)]
def kX11_backPlain : List (Nat × xI) := kX11_backPlain_0 ++ (kX11_backPlain_1)
def kX11_turnBack : List (Nat × xI) := [(0, .aload_n 0, 1, 0, 0), (1, .iconst 0, 1, 0, 0), (2, .putfield 186, 3, 10, 11), (5, .iload_n 1, 1, 0, 0), (6, .iconst 1, 1, 0, 0), (7, .isub, 1, 0, 0), (8, .istore_n 2, 1, 0, 0), (9, .iload_n 2, 1, 0, 0), (10, .ifCond .lt 37, 3, 47, 0), (13, .aload_n 0, 1, 0, 0), (14, .aload_n 0, 1, 0, 0), (15, .getfield 64, 3, 10, 28), (18, .iload_n 2, 1, 0, 0), (19, .iaload, 1, 0, 0), (20, .aload_n 0, 1, 0, 0), (21, .getfield 67, 3, 10, 29), (24, .iload_n 2, 1, 0, 0), (25, .iaload, 1, 0, 0), (26, .aload_n 0, 1, 0, 0), (27, .getfield 73, 3, 10, 31), (30, .iload_n 2, 1, 0, 0), (31, .iaload, 1, 0, 0), (32, .aload_n 0, 1, 0, 0), (33, .getfield 70, 3, 10, 30), (36, .iload_n 2, 1, 0, 0), (37, .iaload, 1, 0, 0), (38, .invokevirtual 208, 3, 124, 5), (41, .iinc 2 (-1), 3, 0, 0), (44, .goto (-35), 3, 9, 0), (47, .return_, 1, 0, 0)]
def kX11_bestPlain : List (Nat × xI) := [(0, .aload_n 0, 1, 0, 0), (1, .invokevirtual 238, 3, 128, 1), (4, .iconst 0, 1, 0, 0), (5, .istore_n 1, 1, 0, 0), (6, .iload_n 1, 1, 0, 0), (7, .aload_n 0, 1, 0, 0), (8, .getfield 136, 3, 10, 3), (11, .if_icmp .ge 24, 3, 35, 0), (14, .aload_n 0, 1, 0, 0), (15, .iload_n 1, 1, 0, 0), (16, .aload_n 0, 1, 0, 0), (17, .iload_n 1, 1, 0, 0), (18, .invokevirtual 231, 3, 127, 2), (21, .invokevirtual 241, 3, 129, 3), (24, .aload_n 0, 1, 0, 0), (25, .iload_n 1, 1, 0, 0), (26, .invokevirtual 244, 3, 130, 2), (29, .iinc 1 1, 3, 0, 0), (32, .goto (-26), 3, 6, 0), (35, .aload_n 0, 1, 0, 0), (36, .invokevirtual 247, 3, 131, 1), (39, .aload_n 0, 1, 0, 0), (40, .iconst 1, 1, 0, 0), (41, .putfield 224, 3, 10, 17), (44, .aload_n 0, 1, 0, 0), (45, .iconst 0, 1, 0, 0), (46, .putfield 250, 3, 10, 18), (49, .return_, 1, 0, 0)]
def kX11_isState : List (Nat × xI) := [(0, .iconst 1, 1, 0, 0), (1, .istore_n 2, 1, 0, 0), (2, .iconst 0, 1, 0, 0), (3, .istore_n 3, 1, 0, 0), (4, .iload_n 3, 1, 0, 0), (5, .iconst 4, 1, 0, 0), (6, .if_icmp .ge 36, 3, 42, 0), (9, .iload_n 2, 1, 0, 0), (10, .aload_n 0, 1, 0, 0), (11, .getfield 86, 3, 10, 35), (14, .iconst 4, 1, 0, 0), (15, .iload_n 1, 1, 0, 0), (16, .imul, 1, 0, 0), (17, .iload_n 3, 1, 0, 0), (18, .iadd, 1, 0, 0), (19, .iaload, 1, 0, 0), (20, .aload_n 0, 1, 0, 0), (21, .getfield 45, 3, 10, 21), (24, .iload_n 3, 1, 0, 0), (25, .iaload, 1, 0, 0), (26, .if_icmp .ne 7, 3, 33, 0), (29, .iconst 1, 1, 0, 0), (30, .goto 4, 3, 34, 0), (33, .iconst 0, 1, 0, 0), (34, .iand, 1, 0, 0), (35, .istore_n 2, 1, 0, 0), (36, .iinc 3 1, 3, 0, 0), (39, .goto (-35), 3, 4, 0), (42, .iload_n 2, 1, 0, 0), (43, .ireturn, 1, 0, 0)]
def kX11_isBehind : List (Nat × xI) := [(0, .aload_n 0, 1, 0, 0), (1, .getfield 82, 3, 10, 34), (4, .iload_n 1, 1, 0, 0), (5, .iaload, 1, 0, 0), (6, .iload_n 2, 1, 0, 0), (7, .if_icmp .eq 19, 3, 26, 0), (10, .aload_n 0, 1, 0, 0), (11, .getfield 82, 3, 10, 34), (14, .iload_n 1, 1, 0, 0), (15, .iaload, 1, 0, 0), (16, .iload_n 2, 1, 0, 0), (17, .if_icmp .le 7, 3, 24, 0), (20, .iconst 1, 1, 0, 0), (21, .goto 4, 3, 25, 0), (24, .iconst 0, 1, 0, 0), (25, .ireturn, 1, 0, 0), (26, .iconst 0, 1, 0, 0), (27, .istore_n 3, 1, 0, 0), (28, .iload_n 3, 1, 0, 0), (29, .iconst 4, 1, 0, 0), (30, .if_icmp .ge 53, 3, 83, 0), (33, .aload_n 0, 1, 0, 0), (34, .getfield 86, 3, 10, 35), (37, .iconst 4, 1, 0, 0), (38, .iload_n 1, 1, 0, 0), (39, .imul, 1, 0, 0), (40, .iload_n 3, 1, 0, 0), (41, .iadd, 1, 0, 0), (42, .iaload, 1, 0, 0), (43, .aload_n 0, 1, 0, 0), (44, .getfield 45, 3, 10, 21), (47, .iload_n 3, 1, 0, 0), (48, .iaload, 1, 0, 0), (49, .if_icmp .eq 28, 3, 77, 0), (52, .aload_n 0, 1, 0, 0), (53, .getfield 86, 3, 10, 35), (56, .iconst 4, 1, 0, 0), (57, .iload_n 1, 1, 0, 0), (58, .imul, 1, 0, 0), (59, .iload_n 3, 1, 0, 0), (60, .iadd, 1, 0, 0), (61, .iaload, 1, 0, 0), (62, .aload_n 0, 1, 0, 0), (63, .getfield 45, 3, 10, 21), (66, .iload_n 3, 1, 0, 0), (67, .iaload, 1, 0, 0), (68, .if_icmp .le 7, 3, 75, 0), (71, .iconst 1, 1, 0, 0), (72, .goto 4, 3, 76, 0), (75, .iconst 0, 1, 0, 0), (76, .ireturn, 1, 0, 0), (77, .iinc 3 1, 3, 0, 0), (80, .goto (-52), 3, 28, 0), (83, .iconst 0, 1, 0, 0), (84, .ireturn, 1, 0, 0)]
def kX11_moveState : List (Nat × xI) := [(0, .aload_n 0, 1, 0, 0), (1, .getfield 82, 3, 10, 34), (4, .iload_n 2, 1, 0, 0), (5, .aload_n 0, 1, 0, 0), (6, .getfield 82, 3, 10, 34), (9, .iload_n 1, 1, 0, 0), (10, .iaload, 1, 0, 0), (11, .iastore, 1, 0, 0), (12, .aload_n 0, 1, 0, 0), (13, .getfield 89, 3, 10, 36), (16, .iload_n 2, 1, 0, 0), (17, .aload_n 0, 1, 0, 0), (18, .getfield 89, 3, 10, 36), (21, .iload_n 1, 1, 0, 0), (22, .iaload, 1, 0, 0), (23, .iastore, 1, 0, 0), (24, .aload_n 0, 1, 0, 0), (25, .getfield 92, 3, 10, 37), (28, .iload_n 2, 1, 0, 0), (29, .aload_n 0, 1, 0, 0), (30, .getfield 92, 3, 10, 37), (33, .iload_n 1, 1, 0, 0), (34, .iaload, 1, 0, 0), (35, .iastore, 1, 0, 0), (36, .aload_n 0, 1, 0, 0), (37, .getfield 95, 3, 10, 38), (40, .iload_n 2, 1, 0, 0), (41, .aload_n 0, 1, 0, 0), (42, .getfield 95, 3, 10, 38), (45, .iload_n 1, 1, 0, 0), (46, .iaload, 1, 0, 0), (47, .iastore, 1, 0, 0), (48, .iconst 0, 1, 0, 0), (49, .istore_n 3, 1, 0, 0), (50, .iload_n 3, 1, 0, 0), (51, .iconst 4, 1, 0, 0), (52, .if_icmp .ge 29, 3, 81, 0), (55, .aload_n 0, 1, 0, 0), (56, .getfield 86, 3, 10, 35), (59, .iconst 4, 1, 0, 0), (60, .iload_n 2, 1, 0, 0), (61, .imul, 1, 0, 0), (62, .iload_n 3, 1, 0, 0), (63, .iadd, 1, 0, 0), (64, .aload_n 0, 1, 0, 0), (65, .getfield 86, 3, 10, 35), (68, .iconst 4, 1, 0, 0), (69, .iload_n 1, 1, 0, 0), (70, .imul, 1, 0, 0), (71, .iload_n 3, 1, 0, 0), (72, .iadd, 1, 0, 0), (73, .iaload, 1, 0, 0), (74, .iastore, 1, 0, 0), (75, .iinc 3 1, 3, 0, 0), (78, .goto (-28), 3, 50, 0), (81, .return_, 1, 0, 0)]
def kX11_comes_0 : List (Nat × xI) := [(0, .bipush 40, 2, 0, 0), (2, .iload_n 1, 1, 0, 0), (3, .imul, 1, 0, 0), (4, .istore 6, 2, 0, 0), (6, .aload_n 0, 1, 0, 0), (7, .getfield 76, 3, 10, 32), (10, .iload_n 1, 1, 0, 0), (11, .iaload, 1, 0, 0), (12, .istore 7, 2, 0, 0), (14, .iconst 0, 1, 0, 0), (15, .istore 8, 2, 0, 0), (17, .iload 8, 2, 0, 0), (19, .iload 7, 2, 0, 0), (21, .if_icmp .ge 78, 3, 99, 0), (24, .aload_n 0, 1, 0, 0), (25, .iload 6, 2, 0, 0), (27, .iload 8, 2, 0, 0), (29, .iadd, 1, 0, 0), (30, .invokevirtual 253, 3, 134, 2), (33, .ifCond .eq 60, 3, 93, 0), (36, .aload_n 0, 1, 0, 0), (37, .getfield 82, 3, 10, 34), (40, .iload 6, 2, 0, 0), (42, .iload 8, 2, 0, 0), (44, .iadd, 1, 0, 0), (45, .iaload, 1, 0, 0), (46, .iload_n 2, 1, 0, 0), (47, .if_icmp .gt 4, 3, 51, 0), (50, .return_, 1, 0, 0), (51, .iload 8, 2, 0, 0), (53, .istore 9, 2, 0, 0), (55, .iload 9, 2, 0, 0), (57, .iconst 1, 1, 0, 0), (58, .iadd, 1, 0, 0), (59, .iload 7, 2, 0, 0), (61, .if_icmp .ge 25, 3, 86, 0), (64, .aload_n 0, 1, 0, 0), (65, .iload 6, 2, 0, 0), (67, .iload 9, 2, 0, 0), (69, .iadd, 1, 0, 0), (70, .iconst 1, 1, 0, 0), (71, .iadd, 1, 0, 0), (72, .iload 6, 2, 0, 0), (74, .iload 9, 2, 0, 0), (76, .iadd, 1, 0, 0), (77, .invokevirtual 257, 3, 136, 3), (80, .iinc 9 1, 3, 0, 0), (83, .goto (-28), 3, 55, 0), (86, .iinc 7 (-1), 3, 0, 0), (89, .iload 7, 2, 0, 0), (91, .istore 8, 2, 0, 0), (93, .iinc 8 1, 3, 0, 0), (96, .goto (-79), 3, 17, 0), (99, .iload 7, 2, 0, 0), (101, .aload_n 0, 1, 0, 0), (102, .getfield 16, 3, 10, 5), (105, .if_icmp .ne 37, 3, 142, 0), (108, .aload_n 0, 1, 0, 0), (109, .getfield 79, 3, 10, 33), (112, .iload_n 1, 1, 0, 0)]
def kX11_comes_1 : List (Nat × xI) := [(113, .iconst 1, 1, 0, 0), (114, .bastore, 1, 0, 0), (115, .aload_n 0, 1, 0, 0), (116, .iload 6, 2, 0, 0), (118, .iload 7, 2, 0, 0), (120, .iadd, 1, 0, 0), (121, .iconst 1, 1, 0, 0), (122, .isub, 1, 0, 0), (123, .iload_n 2, 1, 0, 0), (124, .invokevirtual 260, 3, 135, 3), (127, .ifCond .ne 12, 3, 139, 0), (130, .aload_n 0, 1, 0, 0), (131, .getfield 76, 3, 10, 32), (134, .iload_n 1, 1, 0, 0), (135, .iload 7, 2, 0, 0), (137, .iastore, 1, 0, 0), (138, .return_, 1, 0, 0), (139, .iinc 7 (-1), 3, 0, 0), (142, .iload 7, 2, 0, 0), (144, .istore 8, 2, 0, 0), (146, .iload 8, 2, 0, 0), (148, .ifCond .le 40, 3, 188, 0), (151, .aload_n 0, 1, 0, 0), (152, .iload 6, 2, 0, 0), (154, .iload 8, 2, 0, 0), (156, .iadd, 1, 0, 0), (157, .iconst 1, 1, 0, 0), (158, .isub, 1, 0, 0), (159, .iload_n 2, 1, 0, 0), (160, .invokevirtual 260, 3, 135, 3), (163, .ifCond .eq 25, 3, 188, 0), (166, .aload_n 0, 1, 0, 0), (167, .iload 6, 2, 0, 0), (169, .iload 8, 2, 0, 0), (171, .iadd, 1, 0, 0), (172, .iconst 1, 1, 0, 0), (173, .isub, 1, 0, 0), (174, .iload 6, 2, 0, 0), (176, .iload 8, 2, 0, 0), (178, .iadd, 1, 0, 0), (179, .invokevirtual 257, 3, 136, 3), (182, .iinc 8 (-1), 3, 0, 0), (185, .goto (-39), 3, 146, 0), (188, .aload_n 0, 1, 0, 0), (189, .getfield 82, 3, 10, 34), (192, .iload 6, 2, 0, 0), (194, .iload 8, 2, 0, 0), (196, .iadd, 1, 0, 0), (197, .iload_n 2, 1, 0, 0), (198, .iastore, 1, 0, 0), (199, .aload_n 0, 1, 0, 0), (200, .getfield 89, 3, 10, 36), (203, .iload 6, 2, 0, 0), (205, .iload 8, 2, 0, 0), (207, .iadd, 1, 0, 0), (208, .iload_n 3, 1, 0, 0), (209, .iastore, 1, 0, 0), (210, .aload_n 0, 1, 0, 0), (211, .getfield 95, 3, 10, 38), (214, .iload 6, 2, 0, 0)]
def kX11_comes_2 : List (Nat × xI) := [(216, .iload 8, 2, 0, 0), (218, .iadd, 1, 0, 0), (219, .iload 4, 2, 0, 0), (221, .iastore, 1, 0, 0), (222, .aload_n 0, 1, 0, 0), (223, .getfield 92, 3, 10, 37), (226, .iload 6, 2, 0, 0), (228, .iload 8, 2, 0, 0), (230, .iadd, 1, 0, 0), (231, .iload 5, 2, 0, 0), (233, .iastore, 1, 0, 0), (234, .iconst 0, 1, 0, 0), (235, .istore 9, 2, 0, 0), (237, .iload 9, 2, 0, 0), (239, .iconst 4, 1, 0, 0), (240, .if_icmp .ge 31, 3, 271, 0), (243, .aload_n 0, 1, 0, 0), (244, .getfield 86, 3, 10, 35), (247, .iconst 4, 1, 0, 0), (248, .iload 6, 2, 0, 0), (250, .iload 8, 2, 0, 0), (252, .iadd, 1, 0, 0), (253, .imul, 1, 0, 0), (254, .iload 9, 2, 0, 0), (256, .iadd, 1, 0, 0), (257, .aload_n 0, 1, 0, 0), (258, .getfield 45, 3, 10, 21), (261, .iload 9, 2, 0, 0), (263, .iaload, 1, 0, 0), (264, .iastore, 1, 0, 0), (265, .iinc 9 1, 3, 0, 0), (268, .goto (-31), 3, 237, 0), (271, .aload_n 0, 1, 0, 0), (272, .getfield 76, 3, 10, 32), (275, .iload_n 1, 1, 0, 0), (276, .iload 7, 2, 0, 0), (278, .iconst 1, 1, 0, 0), (279, .iadd, 1, 0, 0), (280, .iastore, 1, 0, 0), (281, .return_, 1, 0, 0)]
def kX11_comes : List (Nat × xI) := kX11_comes_0 ++ (kX11_comes_1 ++ (kX11_comes_2))
def kX11_takeLatest : List (Nat × xI) := [(0, .iconst 0, 1, 0, 0), (1, .istore_n 2, 1, 0, 0), (2, .iload_n 2, 1, 0, 0), (3, .iconst 4, 1, 0, 0), (4, .if_icmp .ge 25, 3, 29, 0), (7, .aload_n 0, 1, 0, 0), (8, .getfield 45, 3, 10, 21), (11, .iload_n 2, 1, 0, 0), (12, .aload_n 0, 1, 0, 0), (13, .getfield 86, 3, 10, 35), (16, .iconst 4, 1, 0, 0), (17, .iload_n 1, 1, 0, 0), (18, .imul, 1, 0, 0), (19, .iload_n 2, 1, 0, 0), (20, .iadd, 1, 0, 0), (21, .iaload, 1, 0, 0), (22, .iastore, 1, 0, 0), (23, .iinc 2 1, 3, 0, 0), (26, .goto (-24), 3, 2, 0), (29, .return_, 1, 0, 0)]
def kX11_expand_0 : List (Nat × xI) := [(0, .bipush 40, 2, 0, 0), (2, .iload_n 1, 1, 0, 0), (3, .imul, 1, 0, 0), (4, .iload_n 2, 1, 0, 0), (5, .iadd, 1, 0, 0), (6, .istore_n 3, 1, 0, 0), (7, .aload_n 0, 1, 0, 0), (8, .getfield 82, 3, 10, 34), (11, .iload_n 3, 1, 0, 0), (12, .iaload, 1, 0, 0), (13, .istore 4, 2, 0, 0), (15, .aload_n 0, 1, 0, 0), (16, .iload_n 1, 1, 0, 0), (17, .invokevirtual 193, 3, 108, 2), (20, .istore 5, 2, 0, 0), (22, .iload 5, 2, 0, 0), (24, .aload_n 0, 1, 0, 0), (25, .invokevirtual 153, 3, 99, 1), (28, .if_icmp .lt 61, 3, 89, 0), (31, .aload_n 0, 1, 0, 0), (32, .iload_n 3, 1, 0, 0), (33, .invokevirtual 263, 3, 138, 2), (36, .aload_n 0, 1, 0, 0), (37, .getfield 42, 3, 10, 20), (40, .sipush 301, 3, 0, 0), (43, .iload_n 1, 1, 0, 0), (44, .imul, 1, 0, 0), (45, .iload 5, 2, 0, 0), (47, .iadd, 1, 0, 0), (48, .iaload, 1, 0, 0), (49, .istore 6, 2, 0, 0), (51, .aload_n 0, 1, 0, 0), (52, .iload 6, 2, 0, 0), (54, .iconst 3, 1, 0, 0), (55, .invokevirtual 212, 3, 122, 3), (58, .aload_n 0, 1, 0, 0), (59, .iload_n 1, 1, 0, 0), (60, .iload 5, 2, 0, 0), (62, .iadd, 1, 0, 0), (63, .iload 4, 2, 0, 0), (65, .aload_n 0, 1, 0, 0), (66, .iconst 1, 1, 0, 0), (67, .iload 5, 2, 0, 0), (69, .iload 6, 2, 0, 0), (71, .iconst 0, 1, 0, 0), (72, .iconst 0, 1, 0, 0), (73, .invokevirtual 189, 3, 119, 6), (76, .iadd, 1, 0, 0), (77, .iload_n 1, 1, 0, 0), (78, .iload_n 2, 1, 0, 0), (79, .iconst 1, 1, 0, 0), (80, .invokevirtual 266, 3, 137, 6), (83, .iinc 5 (-1), 3, 0, 0), (86, .goto (-64), 3, 22, 0), (89, .iconst 0, 1, 0, 0), (90, .istore 5, 2, 0, 0), (92, .iload 5, 2, 0, 0), (94, .iconst 4, 1, 0, 0), (95, .if_icmp .ge 83, 3, 178, 0), (98, .aload_n 0, 1, 0, 0)]
def kX11_expand_1 : List (Nat × xI) := [(99, .iload_n 3, 1, 0, 0), (100, .invokevirtual 263, 3, 138, 2), (103, .aload_n 0, 1, 0, 0), (104, .getfield 45, 3, 10, 21), (107, .iload 5, 2, 0, 0), (109, .iaload, 1, 0, 0), (110, .istore 6, 2, 0, 0), (112, .aload_n 0, 1, 0, 0), (113, .iload 6, 2, 0, 0), (115, .iload 5, 2, 0, 0), (117, .invokevirtual 212, 3, 122, 3), (120, .aload_n 0, 1, 0, 0), (121, .iload_n 1, 1, 0, 0), (122, .iload 6, 2, 0, 0), (124, .invokevirtual 199, 3, 109, 3), (127, .istore 7, 2, 0, 0), (129, .iload 7, 2, 0, 0), (131, .iconst 2, 1, 0, 0), (132, .if_icmp .lt 40, 3, 172, 0), (135, .aload_n 0, 1, 0, 0), (136, .iload_n 1, 1, 0, 0), (137, .iload 7, 2, 0, 0), (139, .iadd, 1, 0, 0), (140, .iload 4, 2, 0, 0), (142, .aload_n 0, 1, 0, 0), (143, .iconst 2, 1, 0, 0), (144, .iload 5, 2, 0, 0), (146, .iadd, 1, 0, 0), (147, .iload 7, 2, 0, 0), (149, .iload 6, 2, 0, 0), (151, .iconst 0, 1, 0, 0), (152, .iconst 0, 1, 0, 0), (153, .invokevirtual 189, 3, 119, 6), (156, .iadd, 1, 0, 0), (157, .iload_n 1, 1, 0, 0), (158, .iload_n 2, 1, 0, 0), (159, .iconst 2, 1, 0, 0), (160, .iload 5, 2, 0, 0), (162, .iadd, 1, 0, 0), (163, .invokevirtual 266, 3, 137, 6), (166, .iinc 7 (-1), 3, 0, 0), (169, .goto (-40), 3, 129, 0), (172, .iinc 5 1, 3, 0, 0), (175, .goto (-83), 3, 92, 0), (178, .aload_n 0, 1, 0, 0), (179, .iload_n 3, 1, 0, 0), (180, .invokevirtual 263, 3, 138, 2), (183, .aload_n 0, 1, 0, 0), (184, .getfield 45, 3, 10, 21), (187, .iconst 0, 1, 0, 0), (188, .iaload, 1, 0, 0), (189, .iload_n 1, 1, 0, 0), (190, .if_icmp .gt 54, 3, 244, 0), (193, .aload_n 0, 1, 0, 0), (194, .getfield 7, 3, 10, 2), (197, .iload_n 1, 1, 0, 0), (198, .iaload, 1, 0, 0), (199, .aload_n 0, 1, 0, 0), (200, .getfield 7, 3, 10, 2), (203, .iload_n 1, 1, 0, 0)]
def kX11_expand_2 : List (Nat × xI) := [(204, .aload_n 0, 1, 0, 0), (205, .getfield 45, 3, 10, 21), (208, .iconst 0, 1, 0, 0), (209, .iaload, 1, 0, 0), (210, .isub, 1, 0, 0), (211, .iaload, 1, 0, 0), (212, .if_icmp .ne 32, 3, 244, 0), (215, .aload_n 0, 1, 0, 0), (216, .iload_n 1, 1, 0, 0), (217, .iconst 1, 1, 0, 0), (218, .iadd, 1, 0, 0), (219, .iload 4, 2, 0, 0), (221, .aload_n 0, 1, 0, 0), (222, .bipush 6, 2, 0, 0), (224, .iconst 1, 1, 0, 0), (225, .aload_n 0, 1, 0, 0), (226, .getfield 45, 3, 10, 21), (229, .iconst 0, 1, 0, 0), (230, .iaload, 1, 0, 0), (231, .iconst 0, 1, 0, 0), (232, .iconst 0, 1, 0, 0), (233, .invokevirtual 189, 3, 119, 6), (236, .iadd, 1, 0, 0), (237, .iload_n 1, 1, 0, 0), (238, .iload_n 2, 1, 0, 0), (239, .bipush 6, 2, 0, 0), (241, .invokevirtual 266, 3, 137, 6), (244, .aload_n 0, 1, 0, 0), (245, .iload_n 1, 1, 0, 0), (246, .iconst 1, 1, 0, 0), (247, .iadd, 1, 0, 0), (248, .iload 4, 2, 0, 0), (250, .aload_n 0, 1, 0, 0), (251, .iconst 0, 1, 0, 0), (252, .iconst 1, 1, 0, 0), (253, .iconst 0, 1, 0, 0), (254, .aload_n 0, 1, 0, 0), (255, .getfield 7, 3, 10, 2), (258, .iload_n 1, 1, 0, 0), (259, .iaload, 1, 0, 0), (260, .iconst 0, 1, 0, 0), (261, .invokevirtual 189, 3, 119, 6), (264, .iadd, 1, 0, 0), (265, .iload_n 1, 1, 0, 0), (266, .iload_n 2, 1, 0, 0), (267, .iconst 0, 1, 0, 0), (268, .invokevirtual 266, 3, 137, 6), (271, .return_, 1, 0, 0)]
def kX11_expand : List (Nat × xI) := kX11_expand_0 ++ (kX11_expand_1 ++ (kX11_expand_2))
def kX11_bestWide_0 : List (Nat × xI) := [(0, .iconst 0, 1, 0, 0), (1, .istore_n 1, 1, 0, 0), (2, .iload_n 1, 1, 0, 0), (3, .aload_n 0, 1, 0, 0), (4, .getfield 136, 3, 10, 3), (7, .if_icmp .gt 23, 3, 30, 0), (10, .aload_n 0, 1, 0, 0), (11, .getfield 76, 3, 10, 32), (14, .iload_n 1, 1, 0, 0), (15, .iconst 0, 1, 0, 0), (16, .iastore, 1, 0, 0), (17, .aload_n 0, 1, 0, 0), (18, .getfield 79, 3, 10, 33), (21, .iload_n 1, 1, 0, 0), (22, .iconst 0, 1, 0, 0), (23, .bastore, 1, 0, 0), (24, .iinc 1 1, 3, 0, 0), (27, .goto (-25), 3, 2, 0), (30, .aload_n 0, 1, 0, 0), (31, .invokevirtual 202, 3, 121, 1), (34, .aload_n 0, 1, 0, 0), (35, .iconst 0, 1, 0, 0), (36, .iconst 0, 1, 0, 0), (37, .iconst 0, 1, 0, 0), (38, .iconst 0, 1, 0, 0), (39, .iconst 0, 1, 0, 0), (40, .invokevirtual 266, 3, 137, 6), (43, .iconst 0, 1, 0, 0), (44, .istore_n 1, 1, 0, 0), (45, .iload_n 1, 1, 0, 0), (46, .aload_n 0, 1, 0, 0), (47, .getfield 136, 3, 10, 3), (50, .if_icmp .ge 33, 3, 83, 0), (53, .iconst 0, 1, 0, 0), (54, .istore_n 2, 1, 0, 0), (55, .iload_n 2, 1, 0, 0), (56, .aload_n 0, 1, 0, 0), (57, .getfield 76, 3, 10, 32), (60, .iload_n 1, 1, 0, 0), (61, .iaload, 1, 0, 0), (62, .if_icmp .ge 15, 3, 77, 0), (65, .aload_n 0, 1, 0, 0), (66, .iload_n 1, 1, 0, 0), (67, .iload_n 2, 1, 0, 0), (68, .invokevirtual 270, 3, 139, 3), (71, .iinc 2 1, 3, 0, 0), (74, .goto (-19), 3, 55, 0), (77, .iinc 1 1, 3, 0, 0), (80, .goto (-35), 3, 45, 0), (83, .aload_n 0, 1, 0, 0), (84, .iconst 0, 1, 0, 0), (85, .putfield 250, 3, 10, 18), (88, .iconst 0, 1, 0, 0), (89, .istore_n 1, 1, 0, 0), (90, .iload_n 1, 1, 0, 0), (91, .aload_n 0, 1, 0, 0), (92, .getfield 136, 3, 10, 3), (95, .if_icmp .ge 32, 3, 127, 0), (98, .aload_n 0, 1, 0, 0), (99, .dup, 1, 0, 0)]
def kX11_bestWide_1 : List (Nat × xI) := [(100, .getfield 250, 3, 10, 18), (103, .aload_n 0, 1, 0, 0), (104, .getfield 79, 3, 10, 33), (107, .iload_n 1, 1, 0, 0), (108, .baload, 1, 0, 0), (109, .ifCond .eq 7, 3, 116, 0), (112, .iconst 1, 1, 0, 0), (113, .goto 4, 3, 117, 0), (116, .iconst 0, 1, 0, 0), (117, .iadd, 1, 0, 0), (118, .putfield 250, 3, 10, 18), (121, .iinc 1 1, 3, 0, 0), (124, .goto (-34), 3, 90, 0), (127, .aload_n 0, 1, 0, 0), (128, .aload_n 0, 1, 0, 0), (129, .getfield 250, 3, 10, 18), (132, .ifCond .ne 7, 3, 139, 0), (135, .iconst 1, 1, 0, 0), (136, .goto 4, 3, 140, 0), (139, .iconst 0, 1, 0, 0), (140, .putfield 224, 3, 10, 17), (143, .aload_n 0, 1, 0, 0), (144, .aload_n 0, 1, 0, 0), (145, .getfield 82, 3, 10, 34), (148, .bipush 40, 2, 0, 0), (150, .aload_n 0, 1, 0, 0), (151, .getfield 136, 3, 10, 3), (154, .imul, 1, 0, 0), (155, .iaload, 1, 0, 0), (156, .i2l, 1, 0, 0), (157, .putfield 220, 3, 10, 16), (160, .iconst 0, 1, 0, 0), (161, .istore_n 1, 1, 0, 0), (162, .aload_n 0, 1, 0, 0), (163, .getfield 136, 3, 10, 3), (166, .istore_n 2, 1, 0, 0), (167, .iconst 0, 1, 0, 0), (168, .istore_n 3, 1, 0, 0), (169, .iload_n 2, 1, 0, 0), (170, .ifCond .le 96, 3, 266, 0), (173, .bipush 40, 2, 0, 0), (175, .iload_n 2, 1, 0, 0), (176, .imul, 1, 0, 0), (177, .iload_n 3, 1, 0, 0), (178, .iadd, 1, 0, 0), (179, .istore 4, 2, 0, 0), (181, .aload_n 0, 1, 0, 0), (182, .getfield 89, 3, 10, 36), (185, .iload 4, 2, 0, 0), (187, .iaload, 1, 0, 0), (188, .istore 5, 2, 0, 0), (190, .aload_n 0, 1, 0, 0), (191, .getfield 92, 3, 10, 37), (194, .iload 4, 2, 0, 0), (196, .iaload, 1, 0, 0), (197, .istore 6, 2, 0, 0), (199, .aload_n 0, 1, 0, 0), (200, .getfield 64, 3, 10, 28), (203, .iload_n 1, 1, 0, 0), (204, .iload 5, 2, 0, 0)]
def kX11_bestWide_2 : List (Nat × xI) := [(206, .iastore, 1, 0, 0), (207, .aload_n 0, 1, 0, 0), (208, .getfield 67, 3, 10, 29), (211, .iload_n 1, 1, 0, 0), (212, .iload 6, 2, 0, 0), (214, .iastore, 1, 0, 0), (215, .aload_n 0, 1, 0, 0), (216, .getfield 73, 3, 10, 31), (219, .iload_n 1, 1, 0, 0), (220, .iload_n 2, 1, 0, 0), (221, .iload 5, 2, 0, 0), (223, .isub, 1, 0, 0), (224, .iastore, 1, 0, 0), (225, .aload_n 0, 1, 0, 0), (226, .getfield 70, 3, 10, 30), (229, .iload_n 1, 1, 0, 0), (230, .iload 6, 2, 0, 0), (232, .ifCond .ne 7, 3, 239, 0), (235, .iconst 0, 1, 0, 0), (236, .goto 12, 3, 248, 0), (239, .aload_n 0, 1, 0, 0), (240, .getfield 86, 3, 10, 35), (243, .iconst 4, 1, 0, 0), (244, .iload 4, 2, 0, 0), (246, .imul, 1, 0, 0), (247, .iaload, 1, 0, 0), (248, .iastore, 1, 0, 0), (249, .iinc 1 1, 3, 0, 0), (252, .aload_n 0, 1, 0, 0), (253, .getfield 95, 3, 10, 38), (256, .iload 4, 2, 0, 0), (258, .iaload, 1, 0, 0), (259, .istore_n 3, 1, 0, 0), (260, .iload 5, 2, 0, 0), (262, .istore_n 2, 1, 0, 0), (263, .goto (-94), 3, 169, 0), (266, .aload_n 0, 1, 0, 0), (267, .iload_n 1, 1, 0, 0), (268, .invokevirtual 234, 3, 132, 2), (271, .return_, 1, 0, 0)]
def kX11_bestWide : List (Nat × xI) := kX11_bestWide_0 ++ (kX11_bestWide_1 ++ (kX11_bestWide_2))
def kX11_best : List (Nat × xI) := [(0, .aload_n 0, 1, 0, 0), (1, .invokevirtual 273, 3, 107, 1), (4, .aload_n 0, 1, 0, 0), (5, .getfield 123, 3, 10, 1), (8, .iconst 2, 1, 0, 0), (9, .if_icmp .ne 10, 3, 19, 0), (12, .aload_n 0, 1, 0, 0), (13, .invokevirtual 276, 3, 140, 1), (16, .goto 7, 3, 23, 0), (19, .aload_n 0, 1, 0, 0), (20, .invokevirtual 279, 3, 133, 1), (23, .return_, 1, 0, 0)]
def kX11_parse : List (Nat × xI) := [(0, .aload_n 0, 1, 0, 0), (1, .iconst 0, 1, 0, 0), (2, .putfield 129, 3, 10, 0), (5, .iload_n 1, 1, 0, 0), (6, .ifCond .lt 8, 3, 14, 0), (9, .iload_n 1, 1, 0, 0), (10, .iconst 3, 1, 0, 0), (11, .if_icmp .le 5, 3, 16, 0), (14, .iconst (-1), 1, 0, 0), (15, .ireturn, 1, 0, 0), (16, .aload_n 0, 1, 0, 0), (17, .iconst 1, 1, 0, 0), (18, .putfield 141, 3, 10, 10), (21, .iload_n 1, 1, 0, 0), (22, .iconst 3, 1, 0, 0), (23, .if_icmp .ne 10, 3, 33, 0), (26, .aload_n 0, 1, 0, 0), (27, .invokevirtual 282, 3, 141, 1), (30, .goto 12, 3, 42, 0), (33, .aload_n 0, 1, 0, 0), (34, .invokevirtual 273, 3, 107, 1), (37, .aload_n 0, 1, 0, 0), (38, .iload_n 1, 1, 0, 0), (39, .invokevirtual 285, 3, 125, 2), (42, .aload_n 0, 1, 0, 0), (43, .getfield 186, 3, 10, 11), (46, .ireturn, 1, 0, 0)]
def kX11_log : List (Nat × xI) := [(0, .iload_n 0, 1, 0, 0), (1, .invokestatic 156, 3, 110, 1), (4, .istore_n 1, 1, 0, 0), (5, .bipush 64, 2, 0, 0), (7, .iload_n 1, 1, 0, 0), (8, .imul, 1, 0, 0), (9, .ldc2_w 288, 3, 64, 0), (12, .iload_n 0, 1, 0, 0), (13, .i2l, 1, 0, 0), (14, .lmul, 1, 0, 0), (15, .iload_n 1, 1, 0, 0), (16, .lshr, 1, 0, 0), (17, .l2i, 1, 0, 0), (18, .iadd, 1, 0, 0), (19, .bipush 64, 2, 0, 0), (21, .isub, 1, 0, 0), (22, .ireturn, 1, 0, 0)]
def kX11_fit_0 : List (Nat × xI) := [(0, .iconst 0, 1, 0, 0), (1, .istore_n 1, 1, 0, 0), (2, .iload_n 1, 1, 0, 0), (3, .sipush 1024, 3, 0, 0), (6, .if_icmp .ge 16, 3, 22, 0), (9, .aload_n 0, 1, 0, 0), (10, .getfield 98, 3, 10, 39), (13, .iload_n 1, 1, 0, 0), (14, .iconst 0, 1, 0, 0), (15, .iastore, 1, 0, 0), (16, .iinc 1 1, 3, 0, 0), (19, .goto (-17), 3, 2, 0), (22, .iconst 0, 1, 0, 0), (23, .istore_n 1, 1, 0, 0), (24, .iload_n 1, 1, 0, 0), (25, .aload_n 0, 1, 0, 0), (26, .getfield 186, 3, 10, 11), (29, .if_icmp .ge 119, 3, 148, 0), (32, .aload_n 0, 1, 0, 0), (33, .getfield 35, 3, 10, 15), (36, .iload_n 1, 1, 0, 0), (37, .iaload, 1, 0, 0), (38, .istore_n 2, 1, 0, 0), (39, .iload_n 2, 1, 0, 0), (40, .ifCond .ne 26, 3, 66, 0), (43, .aload_n 0, 1, 0, 0), (44, .getfield 98, 3, 10, 39), (47, .aload_n 0, 1, 0, 0), (48, .getfield 7, 3, 10, 2), (51, .aload_n 0, 1, 0, 0), (52, .getfield 26, 3, 10, 12), (55, .iload_n 1, 1, 0, 0), (56, .iaload, 1, 0, 0), (57, .iaload, 1, 0, 0), (58, .dup2, 1, 0, 0), (59, .iaload, 1, 0, 0), (60, .iconst 1, 1, 0, 0), (61, .iadd, 1, 0, 0), (62, .iastore, 1, 0, 0), (63, .goto 36, 3, 99, 0), (66, .iload_n 2, 1, 0, 0), (67, .bipush 6, 2, 0, 0), (69, .if_icmp .eq 30, 3, 99, 0), (72, .aload_n 0, 1, 0, 0), (73, .getfield 98, 3, 10, 39), (76, .sipush 256, 3, 0, 0), (79, .aload_n 0, 1, 0, 0), (80, .getfield 29, 3, 10, 13), (83, .iload_n 1, 1, 0, 0), (84, .iaload, 1, 0, 0), (85, .aload_n 0, 1, 0, 0), (86, .invokevirtual 153, 3, 99, 1), (89, .isub, 1, 0, 0), (90, .invokestatic 159, 3, 111, 1), (93, .iadd, 1, 0, 0), (94, .dup2, 1, 0, 0), (95, .iaload, 1, 0, 0), (96, .iconst 1, 1, 0, 0), (97, .iadd, 1, 0, 0), (98, .iastore, 1, 0, 0)]
def kX11_fit_1 : List (Nat × xI) := [(99, .iload_n 2, 1, 0, 0), (100, .iconst 1, 1, 0, 0), (101, .if_icmp .ne 27, 3, 128, 0), (104, .aload_n 0, 1, 0, 0), (105, .getfield 98, 3, 10, 39), (108, .sipush 512, 3, 0, 0), (111, .aload_n 0, 1, 0, 0), (112, .getfield 32, 3, 10, 14), (115, .iload_n 1, 1, 0, 0), (116, .iaload, 1, 0, 0), (117, .iconst 1, 1, 0, 0), (118, .isub, 1, 0, 0), (119, .invokestatic 165, 3, 113, 1), (122, .iadd, 1, 0, 0), (123, .dup2, 1, 0, 0), (124, .iaload, 1, 0, 0), (125, .iconst 1, 1, 0, 0), (126, .iadd, 1, 0, 0), (127, .iastore, 1, 0, 0), (128, .aload_n 0, 1, 0, 0), (129, .getfield 98, 3, 10, 39), (132, .sipush 768, 3, 0, 0), (135, .iload_n 2, 1, 0, 0), (136, .iadd, 1, 0, 0), (137, .dup2, 1, 0, 0), (138, .iaload, 1, 0, 0), (139, .iconst 1, 1, 0, 0), (140, .iadd, 1, 0, 0), (141, .iastore, 1, 0, 0), (142, .iinc 1 1, 3, 0, 0), (145, .goto (-121), 3, 24, 0), (148, .iconst 0, 1, 0, 0), (149, .istore_n 1, 1, 0, 0), (150, .iload_n 1, 1, 0, 0), (151, .aload_n 0, 1, 0, 0), (152, .getfield 123, 3, 10, 1), (155, .ifCond .ne 7, 3, 162, 0), (158, .iconst 3, 1, 0, 0), (159, .goto 4, 3, 163, 0), (162, .iconst 4, 1, 0, 0), (163, .if_icmp .ge 111, 3, 274, 0), (166, .iconst 0, 1, 0, 0), (167, .istore_n 2, 1, 0, 0), (168, .iconst 0, 1, 0, 0), (169, .istore_n 3, 1, 0, 0), (170, .iload_n 3, 1, 0, 0), (171, .iload_n 1, 1, 0, 0), (172, .invokestatic 132, 3, 101, 1), (175, .if_icmp .ge 24, 3, 199, 0), (178, .iload_n 2, 1, 0, 0), (179, .aload_n 0, 1, 0, 0), (180, .getfield 98, 3, 10, 39), (183, .sipush 256, 3, 0, 0), (186, .iload_n 1, 1, 0, 0), (187, .imul, 1, 0, 0), (188, .iload_n 3, 1, 0, 0), (189, .iadd, 1, 0, 0), (190, .iaload, 1, 0, 0), (191, .iadd, 1, 0, 0), (192, .istore_n 2, 1, 0, 0)]
def kX11_fit_2 : List (Nat × xI) := [(193, .iinc 3 1, 3, 0, 0), (196, .goto (-26), 3, 170, 0), (199, .iconst 0, 1, 0, 0), (200, .istore_n 3, 1, 0, 0), (201, .iload_n 3, 1, 0, 0), (202, .iload_n 1, 1, 0, 0), (203, .invokestatic 132, 3, 101, 1), (206, .if_icmp .ge 62, 3, 268, 0), (209, .iload_n 2, 1, 0, 0), (210, .iload_n 1, 1, 0, 0), (211, .invokestatic 132, 3, 101, 1), (214, .iadd, 1, 0, 0), (215, .invokestatic 290, 3, 143, 1), (218, .aload_n 0, 1, 0, 0), (219, .getfield 98, 3, 10, 39), (222, .sipush 256, 3, 0, 0), (225, .iload_n 1, 1, 0, 0), (226, .imul, 1, 0, 0), (227, .iload_n 3, 1, 0, 0), (228, .iadd, 1, 0, 0), (229, .iaload, 1, 0, 0), (230, .iconst 1, 1, 0, 0), (231, .iadd, 1, 0, 0), (232, .invokestatic 290, 3, 143, 1), (235, .isub, 1, 0, 0), (236, .istore 4, 2, 0, 0), (238, .aload_n 0, 1, 0, 0), (239, .getfield 13, 3, 10, 4), (242, .sipush 256, 3, 0, 0), (245, .iload_n 1, 1, 0, 0), (246, .imul, 1, 0, 0), (247, .iload_n 3, 1, 0, 0), (248, .iadd, 1, 0, 0), (249, .iload 4, 2, 0, 0), (251, .iconst 1, 1, 0, 0), (252, .if_icmp .ge 7, 3, 259, 0), (255, .iconst 1, 1, 0, 0), (256, .goto 5, 3, 261, 0), (259, .iload 4, 2, 0, 0), (261, .iastore, 1, 0, 0), (262, .iinc 3 1, 3, 0, 0), (265, .goto (-64), 3, 201, 0), (268, .iinc 1 1, 3, 0, 0), (271, .goto (-121), 3, 150, 0), (274, .return_, 1, 0, 0)]
def kX11_fit : List (Nat × xI) := kX11_fit_0 ++ (kX11_fit_1 ++ (kX11_fit_2))
def kX11_rounds_0 : List (Nat × xI) := [(0, .aload_n 0, 1, 0, 0), (1, .iconst 0, 1, 0, 0), (2, .putfield 129, 3, 10, 0), (5, .iload_n 1, 1, 0, 0), (6, .iconst 1, 1, 0, 0), (7, .if_icmp .lt 24, 3, 31, 0), (10, .iload_n 1, 1, 0, 0), (11, .bipush 8, 2, 0, 0), (13, .if_icmp .gt 18, 3, 31, 0), (16, .aload_n 0, 1, 0, 0), (17, .getfield 123, 3, 10, 1), (20, .iconst 1, 1, 0, 0), (21, .if_icmp .eq 10, 3, 31, 0), (24, .aload_n 0, 1, 0, 0), (25, .getfield 136, 3, 10, 3), (28, .ifCond .ne 7, 3, 35, 0), (31, .ldc2_w 293, 3, 18446744073709551615, 0), (34, .lreturn, 1, 0, 0), (35, .ldc2_w 293, 3, 18446744073709551615, 0), (38, .lstore_n 2, 1, 0, 0), (39, .iconst 0, 1, 0, 0), (40, .istore 4, 2, 0, 0), (42, .lconst 0, 1, 0, 0), (43, .lstore 5, 2, 0, 0), (45, .iconst 0, 1, 0, 0), (46, .istore 7, 2, 0, 0), (48, .iconst 0, 1, 0, 0), (49, .istore 8, 2, 0, 0), (51, .iload 8, 2, 0, 0), (53, .iload_n 1, 1, 0, 0), (54, .if_icmp .ge 162, 3, 216, 0), (57, .aload_n 0, 1, 0, 0), (58, .invokevirtual 282, 3, 141, 1), (61, .aload_n 0, 1, 0, 0), (62, .invokevirtual 295, 3, 144, 1), (65, .aload_n 0, 1, 0, 0), (66, .invokevirtual 216, 3, 120, 1), (69, .lstore 9, 2, 0, 0), (71, .lload_n 2, 1, 0, 0), (72, .lconst 0, 1, 0, 0), (73, .lcmp, 1, 0, 0), (74, .ifCond .lt 10, 3, 84, 0), (77, .lload 9, 2, 0, 0), (79, .lload_n 2, 1, 0, 0), (80, .lcmp, 1, 0, 0), (81, .ifCond .ge 129, 3, 210, 0), (84, .lload 9, 2, 0, 0), (86, .lstore_n 2, 1, 0, 0), (87, .aload_n 0, 1, 0, 0), (88, .getfield 186, 3, 10, 11), (91, .istore 4, 2, 0, 0), (93, .aload_n 0, 1, 0, 0), (94, .getfield 220, 3, 10, 16), (97, .lstore 5, 2, 0, 0), (99, .aload_n 0, 1, 0, 0), (100, .getfield 224, 3, 10, 17), (103, .istore 7, 2, 0, 0), (105, .iconst 0, 1, 0, 0), (106, .istore 11, 2, 0, 0), (108, .iload 11, 2, 0, 0)]
def kX11_rounds_1 : List (Nat × xI) := [(110, .sipush 1024, 3, 0, 0), (113, .if_icmp .ge 23, 3, 136, 0), (116, .aload_n 0, 1, 0, 0), (117, .getfield 101, 3, 10, 40), (120, .iload 11, 2, 0, 0), (122, .aload_n 0, 1, 0, 0), (123, .getfield 13, 3, 10, 4), (126, .iload 11, 2, 0, 0), (128, .iaload, 1, 0, 0), (129, .iastore, 1, 0, 0), (130, .iinc 11 1, 3, 0, 0), (133, .goto (-25), 3, 108, 0), (136, .iconst 0, 1, 0, 0), (137, .istore 11, 2, 0, 0), (139, .iload 11, 2, 0, 0), (141, .aload_n 0, 1, 0, 0), (142, .getfield 186, 3, 10, 11), (145, .if_icmp .ge 65, 3, 210, 0), (148, .aload_n 0, 1, 0, 0), (149, .getfield 104, 3, 10, 41), (152, .iload 11, 2, 0, 0), (154, .aload_n 0, 1, 0, 0), (155, .getfield 26, 3, 10, 12), (158, .iload 11, 2, 0, 0), (160, .iaload, 1, 0, 0), (161, .iastore, 1, 0, 0), (162, .aload_n 0, 1, 0, 0), (163, .getfield 107, 3, 10, 42), (166, .iload 11, 2, 0, 0), (168, .aload_n 0, 1, 0, 0), (169, .getfield 29, 3, 10, 13), (172, .iload 11, 2, 0, 0), (174, .iaload, 1, 0, 0), (175, .iastore, 1, 0, 0), (176, .aload_n 0, 1, 0, 0), (177, .getfield 110, 3, 10, 43), (180, .iload 11, 2, 0, 0), (182, .aload_n 0, 1, 0, 0), (183, .getfield 32, 3, 10, 14), (186, .iload 11, 2, 0, 0), (188, .iaload, 1, 0, 0), (189, .iastore, 1, 0, 0), (190, .aload_n 0, 1, 0, 0), (191, .getfield 113, 3, 10, 44), (194, .iload 11, 2, 0, 0), (196, .aload_n 0, 1, 0, 0), (197, .getfield 35, 3, 10, 15), (200, .iload 11, 2, 0, 0), (202, .iaload, 1, 0, 0), (203, .iastore, 1, 0, 0), (204, .iinc 11 1, 3, 0, 0), (207, .goto (-68), 3, 139, 0), (210, .iinc 8 1, 3, 0, 0), (213, .goto (-162), 3, 51, 0), (216, .iconst 0, 1, 0, 0), (217, .istore 8, 2, 0, 0), (219, .iload 8, 2, 0, 0), (221, .sipush 1024, 3, 0, 0), (224, .if_icmp .ge 23, 3, 247, 0), (227, .aload_n 0, 1, 0, 0)]
def kX11_rounds_2 : List (Nat × xI) := [(228, .getfield 13, 3, 10, 4), (231, .iload 8, 2, 0, 0), (233, .aload_n 0, 1, 0, 0), (234, .getfield 101, 3, 10, 40), (237, .iload 8, 2, 0, 0), (239, .iaload, 1, 0, 0), (240, .iastore, 1, 0, 0), (241, .iinc 8 1, 3, 0, 0), (244, .goto (-25), 3, 219, 0), (247, .aload_n 0, 1, 0, 0), (248, .iconst 0, 1, 0, 0), (249, .putfield 186, 3, 10, 11), (252, .iconst 0, 1, 0, 0), (253, .istore 8, 2, 0, 0), (255, .iload 8, 2, 0, 0), (257, .iload 4, 2, 0, 0), (259, .if_icmp .ge 41, 3, 300, 0), (262, .aload_n 0, 1, 0, 0), (263, .aload_n 0, 1, 0, 0), (264, .getfield 104, 3, 10, 41), (267, .iload 8, 2, 0, 0), (269, .iaload, 1, 0, 0), (270, .aload_n 0, 1, 0, 0), (271, .getfield 113, 3, 10, 44), (274, .iload 8, 2, 0, 0), (276, .iaload, 1, 0, 0), (277, .aload_n 0, 1, 0, 0), (278, .getfield 107, 3, 10, 42), (281, .iload 8, 2, 0, 0), (283, .iaload, 1, 0, 0), (284, .aload_n 0, 1, 0, 0), (285, .getfield 110, 3, 10, 43), (288, .iload 8, 2, 0, 0), (290, .iaload, 1, 0, 0), (291, .invokevirtual 208, 3, 124, 5), (294, .iinc 8 1, 3, 0, 0), (297, .goto (-42), 3, 255, 0), (300, .aload_n 0, 1, 0, 0), (301, .lload 5, 2, 0, 0), (303, .putfield 220, 3, 10, 16), (306, .aload_n 0, 1, 0, 0), (307, .iload 7, 2, 0, 0), (309, .putfield 224, 3, 10, 17), (312, .aload_n 0, 1, 0, 0), (313, .iconst 1, 1, 0, 0), (314, .putfield 141, 3, 10, 10), (317, .lload_n 2, 1, 0, 0), (318, .lreturn, 1, 0, 0)]
def kX11_rounds : List (Nat × xI) := kX11_rounds_0 ++ (kX11_rounds_1 ++ (kX11_rounds_2))
def kX11_step : List (Nat × xI) := [(0, .aload_n 0, 1, 0, 0), (1, .iconst 0, 1, 0, 0), (2, .putfield 129, 3, 10, 0), (5, .aload_n 0, 1, 0, 0), (6, .getfield 141, 3, 10, 10), (9, .ifCond .eq 24, 3, 33, 0), (12, .iload_n 1, 1, 0, 0), (13, .ifCond .lt 20, 3, 33, 0), (16, .iload_n 1, 1, 0, 0), (17, .aload_n 0, 1, 0, 0), (18, .getfield 186, 3, 10, 11), (21, .if_icmp .ge 12, 3, 33, 0), (24, .iload_n 2, 1, 0, 0), (25, .ifCond .lt 8, 3, 33, 0), (28, .iload_n 2, 1, 0, 0), (29, .iconst 3, 1, 0, 0), (30, .if_icmp .le 5, 3, 35, 0), (33, .iconst (-1), 1, 0, 0), (34, .ireturn, 1, 0, 0), (35, .iload_n 2, 1, 0, 0), (36, .ifCond .ne 12, 3, 48, 0), (39, .aload_n 0, 1, 0, 0), (40, .getfield 26, 3, 10, 12), (43, .iload_n 1, 1, 0, 0), (44, .iaload, 1, 0, 0), (45, .goto 37, 3, 82, 0), (48, .iload_n 2, 1, 0, 0), (49, .iconst 1, 1, 0, 0), (50, .if_icmp .ne 12, 3, 62, 0), (53, .aload_n 0, 1, 0, 0), (54, .getfield 29, 3, 10, 13), (57, .iload_n 1, 1, 0, 0), (58, .iaload, 1, 0, 0), (59, .goto 23, 3, 82, 0), (62, .iload_n 2, 1, 0, 0), (63, .iconst 2, 1, 0, 0), (64, .if_icmp .ne 12, 3, 76, 0), (67, .aload_n 0, 1, 0, 0), (68, .getfield 32, 3, 10, 14), (71, .iload_n 1, 1, 0, 0), (72, .iaload, 1, 0, 0), (73, .goto 9, 3, 82, 0), (76, .aload_n 0, 1, 0, 0), (77, .getfield 35, 3, 10, 15), (80, .iload_n 1, 1, 0, 0), (81, .iaload, 1, 0, 0), (82, .ireturn, 1, 0, 0)]
def kX11_sum : List (Nat × xI) := [(0, .aload_n 0, 1, 0, 0), (1, .iconst 0, 1, 0, 0), (2, .putfield 129, 3, 10, 0), (5, .aload_n 0, 1, 0, 0), (6, .getfield 141, 3, 10, 10), (9, .ifCond .eq 10, 3, 19, 0), (12, .aload_n 0, 1, 0, 0), (13, .getfield 220, 3, 10, 16), (16, .goto 6, 3, 22, 0), (19, .ldc2_w 293, 3, 18446744073709551615, 0), (22, .lreturn, 1, 0, 0)]
def kX11_again : List (Nat × xI) := [(0, .aload_n 0, 1, 0, 0), (1, .iconst 0, 1, 0, 0), (2, .putfield 129, 3, 10, 0), (5, .aload_n 0, 1, 0, 0), (6, .getfield 141, 3, 10, 10), (9, .ifCond .eq 10, 3, 19, 0), (12, .aload_n 0, 1, 0, 0), (13, .invokevirtual 216, 3, 120, 1), (16, .goto 6, 3, 22, 0), (19, .ldc2_w 293, 3, 18446744073709551615, 0), (22, .lreturn, 1, 0, 0)]
def kX11_least : List (Nat × xI) := [(0, .aload_n 0, 1, 0, 0), (1, .iconst 0, 1, 0, 0), (2, .putfield 129, 3, 10, 0), (5, .aload_n 0, 1, 0, 0), (6, .getfield 141, 3, 10, 10), (9, .ifCond .eq 14, 3, 23, 0), (12, .aload_n 0, 1, 0, 0), (13, .getfield 224, 3, 10, 17), (16, .ifCond .eq 7, 3, 23, 0), (19, .iconst 1, 1, 0, 0), (20, .goto 4, 3, 24, 0), (23, .iconst 0, 1, 0, 0), (24, .ireturn, 1, 0, 0)]
def kX11_told_0 : List (Nat × xI) := [(0, .aload_n 0, 1, 0, 0), (1, .iconst 0, 1, 0, 0), (2, .putfield 129, 3, 10, 0), (5, .aload_n 0, 1, 0, 0), (6, .getfield 141, 3, 10, 10), (9, .ifCond .eq 15, 3, 24, 0), (12, .iload_n 1, 1, 0, 0), (13, .ifCond .lt 11, 3, 24, 0), (16, .iload_n 1, 1, 0, 0), (17, .aload_n 0, 1, 0, 0), (18, .getfield 136, 3, 10, 3), (21, .if_icmp .lt 5, 3, 26, 0), (24, .iconst (-1), 1, 0, 0), (25, .ireturn, 1, 0, 0), (26, .iconst 0, 1, 0, 0), (27, .istore_n 2, 1, 0, 0), (28, .iload_n 2, 1, 0, 0), (29, .aload_n 0, 1, 0, 0), (30, .getfield 186, 3, 10, 11), (33, .if_icmp .ge 77, 3, 110, 0), (36, .iconst 0, 1, 0, 0), (37, .istore_n 3, 1, 0, 0), (38, .iload_n 3, 1, 0, 0), (39, .aload_n 0, 1, 0, 0), (40, .getfield 29, 3, 10, 13), (43, .iload_n 2, 1, 0, 0), (44, .iaload, 1, 0, 0), (45, .if_icmp .ge 59, 3, 104, 0), (48, .aload_n 0, 1, 0, 0), (49, .getfield 26, 3, 10, 12), (52, .iload_n 2, 1, 0, 0), (53, .iaload, 1, 0, 0), (54, .iload_n 3, 1, 0, 0), (55, .iadd, 1, 0, 0), (56, .istore 4, 2, 0, 0), (58, .aload_n 0, 1, 0, 0), (59, .getfield 116, 3, 10, 45), (62, .iload 4, 2, 0, 0), (64, .aload_n 0, 1, 0, 0), (65, .getfield 35, 3, 10, 15), (68, .iload_n 2, 1, 0, 0), (69, .iaload, 1, 0, 0), (70, .ifCond .ne 13, 3, 83, 0), (73, .aload_n 0, 1, 0, 0), (74, .getfield 7, 3, 10, 2), (77, .iload 4, 2, 0, 0), (79, .iaload, 1, 0, 0), (80, .goto 17, 3, 97, 0), (83, .aload_n 0, 1, 0, 0), (84, .getfield 116, 3, 10, 45), (87, .iload 4, 2, 0, 0), (89, .aload_n 0, 1, 0, 0), (90, .getfield 32, 3, 10, 14), (93, .iload_n 2, 1, 0, 0), (94, .iaload, 1, 0, 0), (95, .isub, 1, 0, 0), (96, .iaload, 1, 0, 0), (97, .iastore, 1, 0, 0), (98, .iinc 3 1, 3, 0, 0), (101, .goto (-63), 3, 38, 0)]
def kX11_told_1 : List (Nat × xI) := [(104, .iinc 2 1, 3, 0, 0), (107, .goto (-79), 3, 28, 0), (110, .aload_n 0, 1, 0, 0), (111, .getfield 116, 3, 10, 45), (114, .iload_n 1, 1, 0, 0), (115, .iaload, 1, 0, 0), (116, .ireturn, 1, 0, 0)]
def kX11_told : List (Nat × xI) := kX11_told_0 ++ (kX11_told_1)
def kX11_longest : List (Nat × xI) := [(0, .aload_n 0, 1, 0, 0), (1, .iconst 0, 1, 0, 0), (2, .putfield 129, 3, 10, 0), (5, .iload_n 1, 1, 0, 0), (6, .ifCond .lt 11, 3, 17, 0), (9, .iload_n 1, 1, 0, 0), (10, .aload_n 0, 1, 0, 0), (11, .getfield 136, 3, 10, 3), (14, .if_icmp .lt 5, 3, 19, 0), (17, .iconst (-1), 1, 0, 0), (18, .ireturn, 1, 0, 0), (19, .aload_n 0, 1, 0, 0), (20, .invokevirtual 273, 3, 107, 1), (23, .aload_n 0, 1, 0, 0), (24, .iload_n 1, 1, 0, 0), (25, .invokevirtual 193, 3, 108, 2), (28, .ireturn, 1, 0, 0)]
def kX11_distance : List (Nat × xI) := [(0, .aload_n 0, 1, 0, 0), (1, .iconst 0, 1, 0, 0), (2, .putfield 129, 3, 10, 0), (5, .iload_n 1, 1, 0, 0), (6, .ifCond .lt 27, 3, 33, 0), (9, .iload_n 1, 1, 0, 0), (10, .aload_n 0, 1, 0, 0), (11, .getfield 136, 3, 10, 3), (14, .if_icmp .ge 19, 3, 33, 0), (17, .iload_n 2, 1, 0, 0), (18, .aload_n 0, 1, 0, 0), (19, .invokevirtual 153, 3, 99, 1), (22, .if_icmp .lt 11, 3, 33, 0), (25, .iload_n 2, 1, 0, 0), (26, .aload_n 0, 1, 0, 0), (27, .invokevirtual 149, 3, 100, 1), (30, .if_icmp .le 5, 3, 35, 0), (33, .iconst (-1), 1, 0, 0), (34, .ireturn, 1, 0, 0), (35, .aload_n 0, 1, 0, 0), (36, .invokevirtual 273, 3, 107, 1), (39, .aload_n 0, 1, 0, 0), (40, .getfield 42, 3, 10, 20), (43, .sipush 301, 3, 0, 0), (46, .iload_n 1, 1, 0, 0), (47, .imul, 1, 0, 0), (48, .iload_n 2, 1, 0, 0), (49, .iadd, 1, 0, 0), (50, .iaload, 1, 0, 0), (51, .istore_n 3, 1, 0, 0), (52, .iload_n 3, 1, 0, 0), (53, .ifCond .ne 7, 3, 60, 0), (56, .iconst (-1), 1, 0, 0), (57, .goto 4, 3, 61, 0), (60, .iload_n 3, 1, 0, 0), (61, .ireturn, 1, 0, 0)]
def kX11_cut_0 : List (Nat × xI) := [(0, .aload_n 0, 1, 0, 0), (1, .iconst 0, 1, 0, 0), (2, .putfield 129, 3, 10, 0), (5, .iload_n 1, 1, 0, 0), (6, .ifCond .le 20, 3, 26, 0), (9, .iload_n 1, 1, 0, 0), (10, .aload_n 0, 1, 0, 0), (11, .getfield 136, 3, 10, 3), (14, .if_icmp .ge 12, 3, 26, 0), (17, .aload_n 0, 1, 0, 0), (18, .getfield 298, 3, 10, 7), (21, .bipush 12, 2, 0, 0), (23, .if_icmp .ne 5, 3, 28, 0), (26, .iconst (-1), 1, 0, 0), (27, .ireturn, 1, 0, 0), (28, .iconst 0, 1, 0, 0), (29, .istore_n 2, 1, 0, 0), (30, .iload_n 2, 1, 0, 0), (31, .aload_n 0, 1, 0, 0), (32, .getfield 298, 3, 10, 7), (35, .if_icmp .ge 19, 3, 54, 0), (38, .aload_n 0, 1, 0, 0), (39, .getfield 20, 3, 10, 6), (42, .iload_n 2, 1, 0, 0), (43, .iaload, 1, 0, 0), (44, .iload_n 1, 1, 0, 0), (45, .if_icmp .ge 9, 3, 54, 0), (48, .iinc 2 1, 3, 0, 0), (51, .goto (-21), 3, 30, 0), (54, .iload_n 2, 1, 0, 0), (55, .aload_n 0, 1, 0, 0), (56, .getfield 298, 3, 10, 7), (59, .if_icmp .ge 15, 3, 74, 0), (62, .aload_n 0, 1, 0, 0), (63, .getfield 20, 3, 10, 6), (66, .iload_n 2, 1, 0, 0), (67, .iaload, 1, 0, 0), (68, .iload_n 1, 1, 0, 0), (69, .if_icmp .ne 5, 3, 74, 0), (72, .iconst (-1), 1, 0, 0), (73, .ireturn, 1, 0, 0), (74, .aload_n 0, 1, 0, 0), (75, .getfield 298, 3, 10, 7), (78, .istore_n 3, 1, 0, 0), (79, .iload_n 3, 1, 0, 0), (80, .iload_n 2, 1, 0, 0), (81, .if_icmp .le 23, 3, 104, 0), (84, .aload_n 0, 1, 0, 0), (85, .getfield 20, 3, 10, 6), (88, .iload_n 3, 1, 0, 0), (89, .aload_n 0, 1, 0, 0), (90, .getfield 20, 3, 10, 6), (93, .iload_n 3, 1, 0, 0), (94, .iconst 1, 1, 0, 0), (95, .isub, 1, 0, 0), (96, .iaload, 1, 0, 0), (97, .iastore, 1, 0, 0), (98, .iinc 3 (-1), 3, 0, 0), (101, .goto (-22), 3, 79, 0), (104, .aload_n 0, 1, 0, 0)]
def kX11_cut_1 : List (Nat × xI) := [(105, .getfield 20, 3, 10, 6), (108, .iload_n 2, 1, 0, 0), (109, .iload_n 1, 1, 0, 0), (110, .iastore, 1, 0, 0), (111, .aload_n 0, 1, 0, 0), (112, .dup, 1, 0, 0), (113, .getfield 298, 3, 10, 7), (116, .iconst 1, 1, 0, 0), (117, .iadd, 1, 0, 0), (118, .putfield 298, 3, 10, 7), (121, .aload_n 0, 1, 0, 0), (122, .getfield 298, 3, 10, 7), (125, .ireturn, 1, 0, 0)]
def kX11_cut : List (Nat × xI) := kX11_cut_0 ++ (kX11_cut_1)
def kX11_border : List (Nat × xI) := [(0, .iload_n 1, 1, 0, 0), (1, .ifCond .ne 7, 3, 8, 0), (4, .iconst 0, 1, 0, 0), (5, .goto 26, 3, 31, 0), (8, .iload_n 1, 1, 0, 0), (9, .aload_n 0, 1, 0, 0), (10, .getfield 298, 3, 10, 7), (13, .if_icmp .le 10, 3, 23, 0), (16, .aload_n 0, 1, 0, 0), (17, .getfield 136, 3, 10, 3), (20, .goto 11, 3, 31, 0), (23, .aload_n 0, 1, 0, 0), (24, .getfield 20, 3, 10, 6), (27, .iload_n 1, 1, 0, 0), (28, .iconst 1, 1, 0, 0), (29, .isub, 1, 0, 0), (30, .iaload, 1, 0, 0), (31, .ireturn, 1, 0, 0)]
def kX11_fillBlocks_0 : List (Nat × xI) := [(0, .iconst 0, 1, 0, 0), (1, .istore_n 2, 1, 0, 0), (2, .iload_n 2, 1, 0, 0), (3, .aload_n 0, 1, 0, 0), (4, .getfield 298, 3, 10, 7), (7, .if_icmp .gt 177, 3, 184, 0), (10, .iload_n 2, 1, 0, 0), (11, .iconst 1, 1, 0, 0), (12, .iadd, 1, 0, 0), (13, .istore_n 3, 1, 0, 0), (14, .iload_n 3, 1, 0, 0), (15, .aload_n 0, 1, 0, 0), (16, .getfield 298, 3, 10, 7), (19, .iconst 1, 1, 0, 0), (20, .iadd, 1, 0, 0), (21, .if_icmp .gt 157, 3, 178, 0), (24, .iconst 0, 1, 0, 0), (25, .istore 4, 2, 0, 0), (27, .iload 4, 2, 0, 0), (29, .sipush 256, 3, 0, 0), (32, .if_icmp .ge 17, 3, 49, 0), (35, .aload_n 0, 1, 0, 0), (36, .getfield 98, 3, 10, 39), (39, .iload 4, 2, 0, 0), (41, .iconst 0, 1, 0, 0), (42, .iastore, 1, 0, 0), (43, .iinc 4 1, 3, 0, 0), (46, .goto (-19), 3, 27, 0), (49, .aload_n 0, 1, 0, 0), (50, .iload_n 2, 1, 0, 0), (51, .invokevirtual 301, 3, 154, 2), (54, .istore 4, 2, 0, 0), (56, .iload 4, 2, 0, 0), (58, .aload_n 0, 1, 0, 0), (59, .iload_n 3, 1, 0, 0), (60, .invokevirtual 301, 3, 154, 2), (63, .if_icmp .ge 25, 3, 88, 0), (66, .aload_n 0, 1, 0, 0), (67, .getfield 98, 3, 10, 39), (70, .aload_n 0, 1, 0, 0), (71, .getfield 7, 3, 10, 2), (74, .iload 4, 2, 0, 0), (76, .iaload, 1, 0, 0), (77, .dup2, 1, 0, 0), (78, .iaload, 1, 0, 0), (79, .iconst 1, 1, 0, 0), (80, .iadd, 1, 0, 0), (81, .iastore, 1, 0, 0), (82, .iinc 4 1, 3, 0, 0), (85, .goto (-29), 3, 56, 0), (88, .iload_n 1, 1, 0, 0), (89, .i2l, 1, 0, 0), (90, .lstore 4, 2, 0, 0), (92, .iconst 0, 1, 0, 0), (93, .istore 6, 2, 0, 0), (95, .iload 6, 2, 0, 0), (97, .sipush 256, 3, 0, 0), (100, .if_icmp .ge 59, 3, 159, 0), (103, .aload_n 0, 1, 0, 0), (104, .getfield 98, 3, 10, 39)]
def kX11_fillBlocks_1 : List (Nat × xI) := [(107, .iload 6, 2, 0, 0), (109, .iaload, 1, 0, 0), (110, .ifCond .le 43, 3, 153, 0), (113, .lload 4, 2, 0, 0), (115, .aload_n 0, 1, 0, 0), (116, .getfield 98, 3, 10, 39), (119, .iload 6, 2, 0, 0), (121, .iaload, 1, 0, 0), (122, .i2l, 1, 0, 0), (123, .aload_n 0, 1, 0, 0), (124, .iload_n 3, 1, 0, 0), (125, .invokevirtual 301, 3, 154, 2), (128, .aload_n 0, 1, 0, 0), (129, .iload_n 2, 1, 0, 0), (130, .invokevirtual 301, 3, 154, 2), (133, .isub, 1, 0, 0), (134, .invokestatic 290, 3, 143, 1), (137, .aload_n 0, 1, 0, 0), (138, .getfield 98, 3, 10, 39), (141, .iload 6, 2, 0, 0), (143, .iaload, 1, 0, 0), (144, .invokestatic 290, 3, 143, 1), (147, .isub, 1, 0, 0), (148, .i2l, 1, 0, 0), (149, .lmul, 1, 0, 0), (150, .ladd, 1, 0, 0), (151, .lstore 4, 2, 0, 0), (153, .iinc 6 1, 3, 0, 0), (156, .goto (-61), 3, 95, 0), (159, .aload_n 0, 1, 0, 0), (160, .getfield 119, 3, 10, 46), (163, .bipush 14, 2, 0, 0), (165, .iload_n 2, 1, 0, 0), (166, .imul, 1, 0, 0), (167, .iload_n 3, 1, 0, 0), (168, .iadd, 1, 0, 0), (169, .lload 4, 2, 0, 0), (171, .lastore, 1, 0, 0), (172, .iinc 3 1, 3, 0, 0), (175, .goto (-161), 3, 14, 0), (178, .iinc 2 1, 3, 0, 0), (181, .goto (-179), 3, 2, 0), (184, .return_, 1, 0, 0)]
def kX11_fillBlocks : List (Nat × xI) := kX11_fillBlocks_0 ++ (kX11_fillBlocks_1)
def kX11_setCost : List (Nat × xI) := [(0, .lconst 0, 1, 0, 0), (1, .lstore_n 2, 1, 0, 0), (2, .iconst 0, 1, 0, 0), (3, .istore 4, 2, 0, 0), (5, .iconst 1, 1, 0, 0), (6, .istore 5, 2, 0, 0), (8, .iload 5, 2, 0, 0), (10, .aload_n 0, 1, 0, 0), (11, .getfield 298, 3, 10, 7), (14, .iconst 1, 1, 0, 0), (15, .iadd, 1, 0, 0), (16, .if_icmp .gt 50, 3, 66, 0), (19, .iload 5, 2, 0, 0), (21, .aload_n 0, 1, 0, 0), (22, .getfield 298, 3, 10, 7), (25, .if_icmp .gt 15, 3, 40, 0), (28, .iload_n 1, 1, 0, 0), (29, .iload 5, 2, 0, 0), (31, .iconst 1, 1, 0, 0), (32, .isub, 1, 0, 0), (33, .ishr, 1, 0, 0), (34, .iconst 1, 1, 0, 0), (35, .iand, 1, 0, 0), (36, .iconst 1, 1, 0, 0), (37, .if_icmp .ne 23, 3, 60, 0), (40, .lload_n 2, 1, 0, 0), (41, .aload_n 0, 1, 0, 0), (42, .getfield 119, 3, 10, 46), (45, .bipush 14, 2, 0, 0), (47, .iload 4, 2, 0, 0), (49, .imul, 1, 0, 0), (50, .iload 5, 2, 0, 0), (52, .iadd, 1, 0, 0), (53, .laload, 1, 0, 0), (54, .ladd, 1, 0, 0), (55, .lstore_n 2, 1, 0, 0), (56, .iload 5, 2, 0, 0), (58, .istore 4, 2, 0, 0), (60, .iinc 5 1, 3, 0, 0), (63, .goto (-55), 3, 8, 0), (66, .lload_n 2, 1, 0, 0), (67, .lreturn, 1, 0, 0)]
def kX11_count : List (Nat × xI) := [(0, .iconst 0, 1, 0, 0), (1, .istore_n 1, 1, 0, 0), (2, .iload_n 0, 1, 0, 0), (3, .istore_n 2, 1, 0, 0), (4, .iload_n 2, 1, 0, 0), (5, .ifCond .le 16, 3, 21, 0), (8, .iload_n 1, 1, 0, 0), (9, .iload_n 2, 1, 0, 0), (10, .iconst 1, 1, 0, 0), (11, .iand, 1, 0, 0), (12, .iadd, 1, 0, 0), (13, .istore_n 1, 1, 0, 0), (14, .iload_n 2, 1, 0, 0), (15, .iconst 1, 1, 0, 0), (16, .ishr, 1, 0, 0), (17, .istore_n 2, 1, 0, 0), (18, .goto (-14), 3, 4, 0), (21, .iload_n 1, 1, 0, 0), (22, .ireturn, 1, 0, 0)]
def kX11_isBefore : List (Nat × xI) := [(0, .iload_n 0, 1, 0, 0), (1, .iload_n 1, 1, 0, 0), (2, .ixor, 1, 0, 0), (3, .istore_n 2, 1, 0, 0), (4, .iload_n 2, 1, 0, 0), (5, .iload_n 2, 1, 0, 0), (6, .ineg, 1, 0, 0), (7, .iand, 1, 0, 0), (8, .istore_n 3, 1, 0, 0), (9, .iload_n 0, 1, 0, 0), (10, .iload_n 3, 1, 0, 0), (11, .iand, 1, 0, 0), (12, .ifCond .eq 7, 3, 19, 0), (15, .iconst 1, 1, 0, 0), (16, .goto 4, 3, 20, 0), (19, .iconst 0, 1, 0, 0), (20, .ireturn, 1, 0, 0)]
def kX11_split_0 : List (Nat × xI) := [(0, .aload_n 0, 1, 0, 0), (1, .iconst 0, 1, 0, 0), (2, .putfield 129, 3, 10, 0), (5, .iload_n 1, 1, 0, 0), (6, .ifCond .lt 17, 3, 23, 0), (9, .iload_n 1, 1, 0, 0), (10, .ldc_w 304, 3, 100000, 0), (13, .if_icmp .gt 10, 3, 23, 0), (16, .aload_n 0, 1, 0, 0), (17, .getfield 136, 3, 10, 3), (20, .ifCond .ne 7, 3, 27, 0), (23, .ldc2_w 293, 3, 18446744073709551615, 0), (26, .lreturn, 1, 0, 0), (27, .aload_n 0, 1, 0, 0), (28, .iload_n 1, 1, 0, 0), (29, .invokevirtual 305, 3, 155, 2), (32, .iconst 0, 1, 0, 0), (33, .istore_n 2, 1, 0, 0), (34, .aload_n 0, 1, 0, 0), (35, .iconst 0, 1, 0, 0), (36, .invokevirtual 308, 3, 156, 2), (39, .lstore_n 3, 1, 0, 0), (40, .iconst 1, 1, 0, 0), (41, .istore 5, 2, 0, 0), (43, .iload 5, 2, 0, 0), (45, .iconst 1, 1, 0, 0), (46, .aload_n 0, 1, 0, 0), (47, .getfield 298, 3, 10, 7), (50, .ishl, 1, 0, 0), (51, .if_icmp .ge 70, 3, 121, 0), (54, .aload_n 0, 1, 0, 0), (55, .iload 5, 2, 0, 0), (57, .invokevirtual 308, 3, 156, 2), (60, .lstore 6, 2, 0, 0), (62, .lload 6, 2, 0, 0), (64, .lload_n 3, 1, 0, 0), (65, .lcmp, 1, 0, 0), (66, .ifCond .lt 43, 3, 109, 0), (69, .lload 6, 2, 0, 0), (71, .lload_n 3, 1, 0, 0), (72, .lcmp, 1, 0, 0), (73, .ifCond .ne 42, 3, 115, 0), (76, .iload 5, 2, 0, 0), (78, .invokestatic 312, 3, 157, 1), (81, .iload_n 2, 1, 0, 0), (82, .invokestatic 312, 3, 157, 1), (85, .if_icmp .lt 24, 3, 109, 0), (88, .iload 5, 2, 0, 0), (90, .invokestatic 312, 3, 157, 1), (93, .iload_n 2, 1, 0, 0), (94, .invokestatic 312, 3, 157, 1), (97, .if_icmp .ne 18, 3, 115, 0), (100, .iload 5, 2, 0, 0), (102, .iload_n 2, 1, 0, 0), (103, .invokestatic 315, 3, 158, 2), (106, .ifCond .eq 9, 3, 115, 0), (109, .lload 6, 2, 0, 0), (111, .lstore_n 3, 1, 0, 0), (112, .iload 5, 2, 0, 0), (114, .istore_n 2, 1, 0, 0)]
def kX11_split_1 : List (Nat × xI) := [(115, .iinc 5 1, 3, 0, 0), (118, .goto (-75), 3, 43, 0), (121, .aload_n 0, 1, 0, 0), (122, .iconst 0, 1, 0, 0), (123, .putfield 318, 3, 10, 9), (126, .iconst 0, 1, 0, 0), (127, .istore 5, 2, 0, 0), (129, .iload 5, 2, 0, 0), (131, .aload_n 0, 1, 0, 0), (132, .getfield 298, 3, 10, 7), (135, .if_icmp .ge 45, 3, 180, 0), (138, .iload_n 2, 1, 0, 0), (139, .iload 5, 2, 0, 0), (141, .ishr, 1, 0, 0), (142, .iconst 1, 1, 0, 0), (143, .iand, 1, 0, 0), (144, .iconst 1, 1, 0, 0), (145, .if_icmp .ne 29, 3, 174, 0), (148, .aload_n 0, 1, 0, 0), (149, .getfield 23, 3, 10, 8), (152, .aload_n 0, 1, 0, 0), (153, .getfield 318, 3, 10, 9), (156, .aload_n 0, 1, 0, 0), (157, .getfield 20, 3, 10, 6), (160, .iload 5, 2, 0, 0), (162, .iaload, 1, 0, 0), (163, .iastore, 1, 0, 0), (164, .aload_n 0, 1, 0, 0), (165, .dup, 1, 0, 0), (166, .getfield 318, 3, 10, 9), (169, .iconst 1, 1, 0, 0), (170, .iadd, 1, 0, 0), (171, .putfield 318, 3, 10, 9), (174, .iinc 5 1, 3, 0, 0), (177, .goto (-48), 3, 129, 0), (180, .lload_n 3, 1, 0, 0), (181, .lreturn, 1, 0, 0)]
def kX11_split : List (Nat × xI) := kX11_split_0 ++ (kX11_split_1)
def kX11_taken : List (Nat × xI) := [(0, .aload_n 0, 1, 0, 0), (1, .iconst 0, 1, 0, 0), (2, .putfield 129, 3, 10, 0), (5, .iload_n 1, 1, 0, 0), (6, .ifCond .lt 11, 3, 17, 0), (9, .iload_n 1, 1, 0, 0), (10, .aload_n 0, 1, 0, 0), (11, .getfield 318, 3, 10, 9), (14, .if_icmp .lt 7, 3, 21, 0), (17, .iconst (-1), 1, 0, 0), (18, .goto 9, 3, 27, 0), (21, .aload_n 0, 1, 0, 0), (22, .getfield 23, 3, 10, 8), (25, .iload_n 1, 1, 0, 0), (26, .iaload, 1, 0, 0), (27, .ireturn, 1, 0, 0)]
def kX11_many : List (Nat × xI) := [(0, .aload_n 0, 1, 0, 0), (1, .iconst 0, 1, 0, 0), (2, .putfield 129, 3, 10, 0), (5, .iload_n 1, 1, 0, 0), (6, .tableswitch 88 0 6 #[42, 47, 63, 68, 73, 78, 83], 42, 0, 0), (48, .aload_n 0, 1, 0, 0), (49, .getfield 136, 3, 10, 3), (52, .ireturn, 1, 0, 0), (53, .aload_n 0, 1, 0, 0), (54, .getfield 141, 3, 10, 10), (57, .ifCond .eq 10, 3, 67, 0), (60, .aload_n 0, 1, 0, 0), (61, .getfield 186, 3, 10, 11), (64, .goto 4, 3, 68, 0), (67, .iconst 0, 1, 0, 0), (68, .ireturn, 1, 0, 0), (69, .aload_n 0, 1, 0, 0), (70, .getfield 298, 3, 10, 7), (73, .ireturn, 1, 0, 0), (74, .aload_n 0, 1, 0, 0), (75, .getfield 318, 3, 10, 9), (78, .ireturn, 1, 0, 0), (79, .aload_n 0, 1, 0, 0), (80, .getfield 250, 3, 10, 18), (83, .ireturn, 1, 0, 0), (84, .aload_n 0, 1, 0, 0), (85, .getfield 16, 3, 10, 5), (88, .ireturn, 1, 0, 0), (89, .aload_n 0, 1, 0, 0), (90, .getfield 123, 3, 10, 1), (93, .ireturn, 1, 0, 0), (94, .iconst (-1), 1, 0, 0), (95, .ireturn, 1, 0, 0)]
def kX11_clear : List (Nat × xI) := [(0, .aload_n 0, 1, 0, 0), (1, .iconst 0, 1, 0, 0), (2, .putfield 129, 3, 10, 0), (5, .aload_n 0, 1, 0, 0), (6, .iconst 0, 1, 0, 0), (7, .putfield 136, 3, 10, 3), (10, .aload_n 0, 1, 0, 0), (11, .iconst 0, 1, 0, 0), (12, .putfield 298, 3, 10, 7), (15, .aload_n 0, 1, 0, 0), (16, .iconst 0, 1, 0, 0), (17, .putfield 318, 3, 10, 9), (20, .aload_n 0, 1, 0, 0), (21, .iconst 0, 1, 0, 0), (22, .putfield 141, 3, 10, 10), (25, .aload_n 0, 1, 0, 0), (26, .iconst 0, 1, 0, 0), (27, .putfield 250, 3, 10, 18), (30, .aload_n 0, 1, 0, 0), (31, .invokevirtual 126, 3, 98, 1), (34, .return_, 1, 0, 0)]
def kX11_trier : List (Nat × xI) := [(0, .aload_n 0, 1, 0, 0), (1, .iload_n 1, 1, 0, 0), (2, .ifCond .lt 11, 3, 13, 0), (5, .iload_n 1, 1, 0, 0), (6, .aload_n 0, 1, 0, 0), (7, .getfield 136, 3, 10, 3), (10, .if_icmp .lt 7, 3, 17, 0), (13, .iconst 1, 1, 0, 0), (14, .goto 4, 3, 18, 0), (17, .iconst 0, 1, 0, 0), (18, .putfield 129, 3, 10, 0), (21, .aload_n 0, 1, 0, 0), (22, .getfield 129, 3, 10, 0), (25, .ifCond .le 7, 3, 32, 0), (28, .iconst 0, 1, 0, 0), (29, .goto 9, 3, 38, 0), (32, .aload_n 0, 1, 0, 0), (33, .getfield 7, 3, 10, 2), (36, .iload_n 1, 1, 0, 0), (37, .iaload, 1, 0, 0), (38, .ireturn, 1, 0, 0)]
def kJ7_rangeCheck_23922 : List (Nat × xI) := [(0, .iload_n 1, 1, 0, 0), (1, .iload_n 2, 1, 0, 0), (2, .if_icmp .le 44, 3, 46, 0), (8, .dup, 1, 0, 0), (12, .dup, 1, 0, 0), (21, .iload_n 1, 1, 0, 0), (30, .iload_n 2, 1, 0, 0), (46, .iload_n 1, 1, 0, 0), (47, .ifCond .ge 12, 3, 59, 0), (53, .dup, 1, 0, 0), (54, .iload_n 1, 1, 0, 0), (59, .iload_n 2, 1, 0, 0), (60, .iload_n 0, 1, 0, 0), (61, .if_icmp .le 12, 3, 73, 0), (67, .dup, 1, 0, 0), (68, .iload_n 2, 1, 0, 0), (73, .return_, 1, 0, 0)]
def kJ7_fill_d0a16 : List (Nat × xI) := [(0, .iconst 0, 1, 0, 0), (1, .istore_n 3, 1, 0, 0), (2, .aload_n 0, 1, 0, 0), (3, .arraylength, 1, 0, 0), (4, .istore 4, 2, 0, 0), (6, .iload_n 3, 1, 0, 0), (7, .iload 4, 2, 0, 0), (9, .if_icmp .ge 13, 3, 22, 0), (12, .aload_n 0, 1, 0, 0), (13, .iload_n 3, 1, 0, 0), (14, .lload_n 1, 1, 0, 0), (15, .lastore, 1, 0, 0), (16, .iinc 3 1, 3, 0, 0), (19, .goto (-13), 3, 6, 0), (22, .return_, 1, 0, 0)]
def kJ7_fill_53178 : List (Nat × xI) := [(0, .iconst 0, 1, 0, 0), (1, .istore_n 2, 1, 0, 0), (2, .aload_n 0, 1, 0, 0), (3, .arraylength, 1, 0, 0), (4, .istore_n 3, 1, 0, 0), (5, .iload_n 2, 1, 0, 0), (6, .iload_n 3, 1, 0, 0), (7, .if_icmp .ge 13, 3, 20, 0), (10, .aload_n 0, 1, 0, 0), (11, .iload_n 2, 1, 0, 0), (12, .iload_n 1, 1, 0, 0), (13, .iastore, 1, 0, 0), (14, .iinc 2 1, 3, 0, 0), (17, .goto (-12), 3, 5, 0), (20, .return_, 1, 0, 0)]
def kJ7_fill_fda19 : List (Nat × xI) := [(0, .aload_n 0, 1, 0, 0), (1, .arraylength, 1, 0, 0), (2, .iload_n 1, 1, 0, 0), (3, .iload_n 2, 1, 0, 0), (4, .invokestatic 13, 3, 164, 3), (7, .iload_n 1, 1, 0, 0), (8, .istore 4, 2, 0, 0), (10, .iload 4, 2, 0, 0), (12, .iload_n 2, 1, 0, 0), (13, .if_icmp .ge 14, 3, 27, 0), (16, .aload_n 0, 1, 0, 0), (17, .iload 4, 2, 0, 0), (19, .iload_n 3, 1, 0, 0), (20, .iastore, 1, 0, 0), (21, .iinc 4 1, 3, 0, 0), (24, .goto (-14), 3, 10, 0), (27, .return_, 1, 0, 0)]
def kL_cell : List (Nat × xI) := [(0, .iload_n 1, 1, 0, 0), (1, .aload_n 0, 1, 0, 0), (2, .arraylength, 1, 0, 0), (3, .if_icmp .ge 9, 3, 12, 0), (6, .aload_n 0, 1, 0, 0), (7, .iload_n 1, 1, 0, 0), (8, .iaload, 1, 0, 0), (9, .goto 4, 3, 13, 0), (12, .iconst 0, 1, 0, 0), (13, .ireturn, 1, 0, 0)]
def kL_law_0 : List (Nat × xI) := [(0, .new 8, 3, 9, 0), (3, .dup, 1, 0, 0), (4, .aload_n 0, 1, 0, 0), (5, .iconst 0, 1, 0, 0), (6, .invokestatic 15, 3, 168, 2), (9, .invokespecial 21, 3, 73, 2), (12, .astore_n 1, 1, 0, 0), (13, .new 24, 3, 10, 0), (16, .dup, 1, 0, 0), (17, .aload_n 0, 1, 0, 0), (18, .iconst 0, 1, 0, 0), (19, .invokestatic 15, 3, 168, 2), (22, .invokespecial 26, 3, 96, 2), (25, .astore_n 2, 1, 0, 0), (26, .iconst 1, 1, 0, 0), (27, .newarray .long, 2, 0, 0), (29, .astore_n 3, 1, 0, 0), (30, .iconst 1, 1, 0, 0), (31, .istore 4, 2, 0, 0), (33, .iload 4, 2, 0, 0), (35, .aload_n 0, 1, 0, 0), (36, .arraylength, 1, 0, 0), (37, .iconst 4, 1, 0, 0), (38, .isub, 1, 0, 0), (39, .if_icmp .gt 671, 3, 710, 0), (42, .aload_n 0, 1, 0, 0), (43, .iload 4, 2, 0, 0), (45, .iaload, 1, 0, 0), (46, .bipush 31, 2, 0, 0), (48, .iand, 1, 0, 0), (49, .tableswitch 655 0 18 #[91, 160, 209, 246, 271, 296, 333, 347, 361, 374, 399, 425, 450, 487, 512, 538, 563, 588, 599], 91, 0, 0), (140, .aload_n 1, 1, 0, 0), (141, .aload_n 0, 1, 0, 0), (142, .iload 4, 2, 0, 0), (144, .iconst 1, 1, 0, 0), (145, .iadd, 1, 0, 0), (146, .iaload, 1, 0, 0), (147, .aload_n 0, 1, 0, 0), (148, .iload 4, 2, 0, 0), (150, .iconst 2, 1, 0, 0), (151, .iadd, 1, 0, 0), (152, .iaload, 1, 0, 0), (153, .i2l, 1, 0, 0), (154, .bipush 32, 2, 0, 0), (156, .lshl, 1, 0, 0), (157, .aload_n 0, 1, 0, 0), (158, .iload 4, 2, 0, 0), (160, .iconst 3, 1, 0, 0), (161, .iadd, 1, 0, 0), (162, .iaload, 1, 0, 0), (163, .i2l, 1, 0, 0), (164, .ldc2_w 27, 3, 4294967295, 0), (167, .land, 1, 0, 0), (168, .lor, 1, 0, 0), (169, .invokevirtual 29, 3, 74, 3), (172, .aload_n 2, 1, 0, 0), (173, .aload_n 0, 1, 0, 0), (174, .iload 4, 2, 0, 0), (176, .iconst 1, 1, 0, 0), (177, .iadd, 1, 0, 0)]
def kL_law_1 : List (Nat × xI) := [(178, .iaload, 1, 0, 0), (179, .aload_n 0, 1, 0, 0), (180, .iload 4, 2, 0, 0), (182, .iconst 2, 1, 0, 0), (183, .iadd, 1, 0, 0), (184, .iaload, 1, 0, 0), (185, .i2l, 1, 0, 0), (186, .bipush 32, 2, 0, 0), (188, .lshl, 1, 0, 0), (189, .aload_n 0, 1, 0, 0), (190, .iload 4, 2, 0, 0), (192, .iconst 3, 1, 0, 0), (193, .iadd, 1, 0, 0), (194, .iaload, 1, 0, 0), (195, .i2l, 1, 0, 0), (196, .ldc2_w 27, 3, 4294967295, 0), (199, .land, 1, 0, 0), (200, .lor, 1, 0, 0), (201, .invokevirtual 33, 3, 103, 3), (204, .if_icmp .eq 500, 3, 704, 0), (207, .iconst 0, 1, 0, 0), (208, .ireturn, 1, 0, 0), (209, .aload_n 1, 1, 0, 0), (210, .aload_n 0, 1, 0, 0), (211, .iload 4, 2, 0, 0), (213, .iconst 1, 1, 0, 0), (214, .iadd, 1, 0, 0), (215, .iaload, 1, 0, 0), (216, .aload_n 0, 1, 0, 0), (217, .iload 4, 2, 0, 0), (219, .iconst 2, 1, 0, 0), (220, .iadd, 1, 0, 0), (221, .iaload, 1, 0, 0), (222, .aload_n 0, 1, 0, 0), (223, .iload 4, 2, 0, 0), (225, .iconst 3, 1, 0, 0), (226, .iadd, 1, 0, 0), (227, .iaload, 1, 0, 0), (228, .invokevirtual 34, 3, 75, 4), (231, .aload_n 2, 1, 0, 0), (232, .aload_n 0, 1, 0, 0), (233, .iload 4, 2, 0, 0), (235, .iconst 1, 1, 0, 0), (236, .iadd, 1, 0, 0), (237, .iaload, 1, 0, 0), (238, .aload_n 0, 1, 0, 0), (239, .iload 4, 2, 0, 0), (241, .iconst 2, 1, 0, 0), (242, .iadd, 1, 0, 0), (243, .iaload, 1, 0, 0), (244, .aload_n 0, 1, 0, 0), (245, .iload 4, 2, 0, 0), (247, .iconst 3, 1, 0, 0), (248, .iadd, 1, 0, 0), (249, .iaload, 1, 0, 0), (250, .invokevirtual 38, 3, 104, 4), (253, .if_icmp .eq 451, 3, 704, 0), (256, .iconst 0, 1, 0, 0), (257, .ireturn, 1, 0, 0), (258, .aload_n 1, 1, 0, 0)]
def kL_law_2 : List (Nat × xI) := [(259, .aload_n 0, 1, 0, 0), (260, .iload 4, 2, 0, 0), (262, .iconst 1, 1, 0, 0), (263, .iadd, 1, 0, 0), (264, .iaload, 1, 0, 0), (265, .aload_n 0, 1, 0, 0), (266, .iload 4, 2, 0, 0), (268, .iconst 2, 1, 0, 0), (269, .iadd, 1, 0, 0), (270, .iaload, 1, 0, 0), (271, .invokevirtual 39, 3, 76, 3), (274, .aload_n 2, 1, 0, 0), (275, .aload_n 0, 1, 0, 0), (276, .iload 4, 2, 0, 0), (278, .iconst 1, 1, 0, 0), (279, .iadd, 1, 0, 0), (280, .iaload, 1, 0, 0), (281, .aload_n 0, 1, 0, 0), (282, .iload 4, 2, 0, 0), (284, .iconst 2, 1, 0, 0), (285, .iadd, 1, 0, 0), (286, .iaload, 1, 0, 0), (287, .invokevirtual 43, 3, 105, 3), (290, .if_icmp .eq 414, 3, 704, 0), (293, .iconst 0, 1, 0, 0), (294, .ireturn, 1, 0, 0), (295, .aload_n 1, 1, 0, 0), (296, .aload_n 0, 1, 0, 0), (297, .iload 4, 2, 0, 0), (299, .iconst 1, 1, 0, 0), (300, .iadd, 1, 0, 0), (301, .iaload, 1, 0, 0), (302, .invokevirtual 44, 3, 77, 2), (305, .aload_n 2, 1, 0, 0), (306, .aload_n 0, 1, 0, 0), (307, .iload 4, 2, 0, 0), (309, .iconst 1, 1, 0, 0), (310, .iadd, 1, 0, 0), (311, .iaload, 1, 0, 0), (312, .invokevirtual 47, 3, 106, 2), (315, .if_icmp .eq 389, 3, 704, 0), (318, .iconst 0, 1, 0, 0), (319, .ireturn, 1, 0, 0), (320, .aload_n 1, 1, 0, 0), (321, .aload_n 0, 1, 0, 0), (322, .iload 4, 2, 0, 0), (324, .iconst 1, 1, 0, 0), (325, .iadd, 1, 0, 0), (326, .iaload, 1, 0, 0), (327, .invokevirtual 48, 3, 78, 2), (330, .aload_n 2, 1, 0, 0), (331, .aload_n 0, 1, 0, 0), (332, .iload 4, 2, 0, 0), (334, .iconst 1, 1, 0, 0), (335, .iadd, 1, 0, 0), (336, .iaload, 1, 0, 0), (337, .invokevirtual 51, 3, 142, 2), (340, .if_icmp .eq 364, 3, 704, 0), (343, .iconst 0, 1, 0, 0), (344, .ireturn, 1, 0, 0)]
def kL_law_3 : List (Nat × xI) := [(345, .aload_n 1, 1, 0, 0), (346, .aload_n 0, 1, 0, 0), (347, .iload 4, 2, 0, 0), (349, .iconst 1, 1, 0, 0), (350, .iadd, 1, 0, 0), (351, .iaload, 1, 0, 0), (352, .aload_n 0, 1, 0, 0), (353, .iload 4, 2, 0, 0), (355, .iconst 2, 1, 0, 0), (356, .iadd, 1, 0, 0), (357, .iaload, 1, 0, 0), (358, .invokevirtual 52, 3, 79, 3), (361, .aload_n 2, 1, 0, 0), (362, .aload_n 0, 1, 0, 0), (363, .iload 4, 2, 0, 0), (365, .iconst 1, 1, 0, 0), (366, .iadd, 1, 0, 0), (367, .iaload, 1, 0, 0), (368, .aload_n 0, 1, 0, 0), (369, .iload 4, 2, 0, 0), (371, .iconst 2, 1, 0, 0), (372, .iadd, 1, 0, 0), (373, .iaload, 1, 0, 0), (374, .invokevirtual 55, 3, 146, 3), (377, .if_icmp .eq 327, 3, 704, 0), (380, .iconst 0, 1, 0, 0), (381, .ireturn, 1, 0, 0), (382, .aload_n 1, 1, 0, 0), (383, .invokevirtual 56, 3, 80, 1), (386, .aload_n 2, 1, 0, 0), (387, .invokevirtual 60, 3, 147, 1), (390, .lcmp, 1, 0, 0), (391, .ifCond .eq 313, 3, 704, 0), (394, .iconst 0, 1, 0, 0), (395, .ireturn, 1, 0, 0), (396, .aload_n 1, 1, 0, 0), (397, .invokevirtual 61, 3, 81, 1), (400, .aload_n 2, 1, 0, 0), (401, .invokevirtual 64, 3, 148, 1), (404, .lcmp, 1, 0, 0), (405, .ifCond .eq 299, 3, 704, 0), (408, .iconst 0, 1, 0, 0), (409, .ireturn, 1, 0, 0), (410, .aload_n 1, 1, 0, 0), (411, .invokevirtual 65, 3, 82, 1), (414, .aload_n 2, 1, 0, 0), (415, .invokevirtual 69, 3, 149, 1), (418, .if_icmp .eq 286, 3, 704, 0), (421, .iconst 0, 1, 0, 0), (422, .ireturn, 1, 0, 0), (423, .aload_n 1, 1, 0, 0), (424, .aload_n 0, 1, 0, 0), (425, .iload 4, 2, 0, 0), (427, .iconst 1, 1, 0, 0), (428, .iadd, 1, 0, 0), (429, .iaload, 1, 0, 0), (430, .invokevirtual 70, 3, 83, 2), (433, .aload_n 2, 1, 0, 0), (434, .aload_n 0, 1, 0, 0), (435, .iload 4, 2, 0, 0)]
def kL_law_4 : List (Nat × xI) := [(437, .iconst 1, 1, 0, 0), (438, .iadd, 1, 0, 0), (439, .iaload, 1, 0, 0), (440, .invokevirtual 73, 3, 150, 2), (443, .if_icmp .eq 261, 3, 704, 0), (446, .iconst 0, 1, 0, 0), (447, .ireturn, 1, 0, 0), (448, .aload_n 1, 1, 0, 0), (449, .aload_n 0, 1, 0, 0), (450, .iload 4, 2, 0, 0), (452, .iconst 1, 1, 0, 0), (453, .iadd, 1, 0, 0), (454, .iaload, 1, 0, 0), (455, .invokevirtual 74, 3, 84, 2), (458, .aload_n 2, 1, 0, 0), (459, .aload_n 0, 1, 0, 0), (460, .iload 4, 2, 0, 0), (462, .iconst 1, 1, 0, 0), (463, .iadd, 1, 0, 0), (464, .iaload, 1, 0, 0), (465, .invokevirtual 78, 3, 145, 2), (468, .lcmp, 1, 0, 0), (469, .ifCond .eq 235, 3, 704, 0), (472, .iconst 0, 1, 0, 0), (473, .ireturn, 1, 0, 0), (474, .aload_n 1, 1, 0, 0), (475, .aload_n 0, 1, 0, 0), (476, .iload 4, 2, 0, 0), (478, .iconst 1, 1, 0, 0), (479, .iadd, 1, 0, 0), (480, .iaload, 1, 0, 0), (481, .invokevirtual 79, 3, 85, 2), (484, .aload_n 2, 1, 0, 0), (485, .aload_n 0, 1, 0, 0), (486, .iload 4, 2, 0, 0), (488, .iconst 1, 1, 0, 0), (489, .iadd, 1, 0, 0), (490, .iaload, 1, 0, 0), (491, .invokevirtual 82, 3, 151, 2), (494, .if_icmp .eq 210, 3, 704, 0), (497, .iconst 0, 1, 0, 0), (498, .ireturn, 1, 0, 0), (499, .aload_n 1, 1, 0, 0), (500, .aload_n 0, 1, 0, 0), (501, .iload 4, 2, 0, 0), (503, .iconst 1, 1, 0, 0), (504, .iadd, 1, 0, 0), (505, .iaload, 1, 0, 0), (506, .aload_n 0, 1, 0, 0), (507, .iload 4, 2, 0, 0), (509, .iconst 2, 1, 0, 0), (510, .iadd, 1, 0, 0), (511, .iaload, 1, 0, 0), (512, .invokevirtual 83, 3, 86, 3), (515, .aload_n 2, 1, 0, 0), (516, .aload_n 0, 1, 0, 0), (517, .iload 4, 2, 0, 0), (519, .iconst 1, 1, 0, 0), (520, .iadd, 1, 0, 0), (521, .iaload, 1, 0, 0)]
def kL_law_5 : List (Nat × xI) := [(522, .aload_n 0, 1, 0, 0), (523, .iload 4, 2, 0, 0), (525, .iconst 2, 1, 0, 0), (526, .iadd, 1, 0, 0), (527, .iaload, 1, 0, 0), (528, .invokevirtual 86, 3, 152, 3), (531, .if_icmp .eq 173, 3, 704, 0), (534, .iconst 0, 1, 0, 0), (535, .ireturn, 1, 0, 0), (536, .aload_n 1, 1, 0, 0), (537, .aload_n 0, 1, 0, 0), (538, .iload 4, 2, 0, 0), (540, .iconst 1, 1, 0, 0), (541, .iadd, 1, 0, 0), (542, .iaload, 1, 0, 0), (543, .invokevirtual 87, 3, 87, 2), (546, .aload_n 2, 1, 0, 0), (547, .aload_n 0, 1, 0, 0), (548, .iload 4, 2, 0, 0), (550, .iconst 1, 1, 0, 0), (551, .iadd, 1, 0, 0), (552, .iaload, 1, 0, 0), (553, .invokevirtual 90, 3, 153, 2), (556, .if_icmp .eq 148, 3, 704, 0), (559, .iconst 0, 1, 0, 0), (560, .ireturn, 1, 0, 0), (561, .aload_n 1, 1, 0, 0), (562, .aload_n 0, 1, 0, 0), (563, .iload 4, 2, 0, 0), (565, .iconst 1, 1, 0, 0), (566, .iadd, 1, 0, 0), (567, .iaload, 1, 0, 0), (568, .invokevirtual 91, 3, 88, 2), (571, .aload_n 2, 1, 0, 0), (572, .aload_n 0, 1, 0, 0), (573, .iload 4, 2, 0, 0), (575, .iconst 1, 1, 0, 0), (576, .iadd, 1, 0, 0), (577, .iaload, 1, 0, 0), (578, .invokevirtual 94, 3, 159, 2), (581, .lcmp, 1, 0, 0), (582, .ifCond .eq 122, 3, 704, 0), (585, .iconst 0, 1, 0, 0), (586, .ireturn, 1, 0, 0), (587, .aload_n 1, 1, 0, 0), (588, .aload_n 0, 1, 0, 0), (589, .iload 4, 2, 0, 0), (591, .iconst 1, 1, 0, 0), (592, .iadd, 1, 0, 0), (593, .iaload, 1, 0, 0), (594, .invokevirtual 95, 3, 89, 2), (597, .aload_n 2, 1, 0, 0), (598, .aload_n 0, 1, 0, 0), (599, .iload 4, 2, 0, 0), (601, .iconst 1, 1, 0, 0), (602, .iadd, 1, 0, 0), (603, .iaload, 1, 0, 0), (604, .invokevirtual 98, 3, 160, 2), (607, .if_icmp .eq 97, 3, 704, 0), (610, .iconst 0, 1, 0, 0)]
def kL_law_6 : List (Nat × xI) := [(611, .ireturn, 1, 0, 0), (612, .aload_n 1, 1, 0, 0), (613, .aload_n 0, 1, 0, 0), (614, .iload 4, 2, 0, 0), (616, .iconst 1, 1, 0, 0), (617, .iadd, 1, 0, 0), (618, .iaload, 1, 0, 0), (619, .invokevirtual 99, 3, 90, 2), (622, .aload_n 2, 1, 0, 0), (623, .aload_n 0, 1, 0, 0), (624, .iload 4, 2, 0, 0), (626, .iconst 1, 1, 0, 0), (627, .iadd, 1, 0, 0), (628, .iaload, 1, 0, 0), (629, .invokevirtual 102, 3, 161, 2), (632, .if_icmp .eq 72, 3, 704, 0), (635, .iconst 0, 1, 0, 0), (636, .ireturn, 1, 0, 0), (637, .aload_n 1, 1, 0, 0), (638, .invokevirtual 103, 3, 91, 1), (641, .aload_n 2, 1, 0, 0), (642, .invokevirtual 106, 3, 162, 1), (645, .goto 59, 3, 704, 0), (648, .aload_n 1, 1, 0, 0), (649, .aload_n 0, 1, 0, 0), (650, .iload 4, 2, 0, 0), (652, .iconst 1, 1, 0, 0), (653, .iadd, 1, 0, 0), (654, .iaload, 1, 0, 0), (655, .aload_n 3, 1, 0, 0), (656, .invokestatic 107, 3, 1004, 3), (659, .istore 5, 2, 0, 0), (661, .aload_n 2, 1, 0, 0), (662, .aload_n 0, 1, 0, 0), (663, .iload 4, 2, 0, 0), (665, .iconst 1, 1, 0, 0), (666, .iadd, 1, 0, 0), (667, .iaload, 1, 0, 0), (668, .invokevirtual 110, 3, 163, 2), (671, .istore 6, 2, 0, 0), (673, .aload_n 2, 1, 0, 0), (674, .invokevirtual 111, 3, 97, 1), (677, .iload 5, 2, 0, 0), (679, .if_icmp .eq 5, 3, 684, 0), (682, .iconst 0, 1, 0, 0), (683, .ireturn, 1, 0, 0), (684, .iload 5, 2, 0, 0), (686, .ifCond .ne 15, 3, 701, 0), (689, .aload_n 3, 1, 0, 0), (690, .iconst 0, 1, 0, 0), (691, .laload, 1, 0, 0), (692, .iload 6, 2, 0, 0), (694, .i2l, 1, 0, 0), (695, .lcmp, 1, 0, 0), (696, .ifCond .eq 5, 3, 701, 0), (699, .iconst 0, 1, 0, 0), (700, .ireturn, 1, 0, 0), (701, .goto 3, 3, 704, 0), (704, .iinc 4 4, 3, 0, 0), (707, .goto (-674), 3, 33, 0)]
def kL_law_7 : List (Nat × xI) := [(710, .iconst 1, 1, 0, 0), (711, .ireturn, 1, 0, 0)]
def kL_law : List (Nat × xI) := kL_law_0 ++ (kL_law_1 ++ (kL_law_2 ++ (kL_law_3 ++ (kL_law_4 ++ (kL_law_5 ++ (kL_law_6 ++ (kL_law_7)))))))
def xcodeL : List (List (Nat × xI)) := [kX0_init, kX0_forget, kX0_addCut, kX0_divide, kX0_findRest, kX0_countOctet, kX0_placeOf, kX1_init, kX1_reset, kX1_has, kX1_of, kX1_put, kX1_copyFrom, kX1_prepare, kX1_literalCost, kX1_kindCost, kX1_stepCost, kX1_lengthCost, kX1_distanceCost, kX1_lengthSlot, kX1_distanceSlot, kX1_fitTo, kX1_countSymbols, kX1_countOne, kX1_fitClass, kX2_init, kX2_costOf, kX3_at, kX3_behindCopy, kX3_behindAgain, kX4_init, kX4_findBest, kX4_begin, kX4_goFrom, kX4_copiesWereLed, kX4_leadByCopies, kX4_leadByAgain, kX4_lead, kX4_makeRoom, kX4_insert, kX4_tellSteps, kX5_init, kX5_findBest, kX5_findFirst, kX5_lead, kX5_tellSteps, kX5_costOf, kX5_copyCost, kX5_beyond, kX6_init, kX6_hasStep, kX6_begin, kX6_add, kX6_turnRound, kX6_swap, kX6_finish, kX6_tellBack, kX7_init, kX7_findBest, kX7_lead, kX7_tellSteps, kX8_init, kX8_walk, kX8_longerAhead, kX8_againAsLong, kX9_init, kX9_has, kX9_append, kX9_noteCopies, kX9_longestCopy, kX9_copyDistance, kX9_sameBy, kX9_nearestIndex, kX10_init, kX10_octets, kX10_cost, kX10_price, kX10_keep, kX10_parse, kX10_step, kX10_sum, kX10_again, kX10_least, kX10_told, kX10_rounds, kX10_longest, kX10_distance, kX10_cut, kX10_split, kX10_taken, kX10_many, kX10_clear, kX10_findBest, kX10_takeSpare, kX10_logOf, kX10_highestBit, kX11_init, kX11_thrown, kX11_start, kX11_shortest, kX11_greatest, kX11_symbols, kX11_isCost, kX11_octets, kX11_cost, kX11_price, kX11_keep, kX11_layOut, kX11_longestCopy, kX11_longestAgain, kX11_high, kX11_lengthSlot, kX11_lengthBits, kX11_distanceSlot, kX11_distanceBits, kX11_lengthCost, kX11_distanceCost, kX11_kindCost, kX11_more, kX11_stepCost, kX11_allCost, kX11_clearLatest, kX11_ahead, kX11_longestOf, kX11_addStep, kX11_greedy, kX11_at, kX11_firstRow, kX11_clearTable, kX11_copies, kX11_literals, kX11_backPlain, kX11_turnBack, kX11_bestPlain, kX11_isState, kX11_isBehind, kX11_moveState, kX11_comes, kX11_takeLatest, kX11_expand, kX11_bestWide, kX11_best, kX11_parse, kX11_log, kX11_fit, kX11_rounds, kX11_step, kX11_sum, kX11_again, kX11_least, kX11_told, kX11_longest, kX11_distance, kX11_cut, kX11_border, kX11_fillBlocks, kX11_setCost, kX11_count, kX11_isBefore, kX11_split, kX11_taken, kX11_many, kX11_clear, kX11_trier, kJ7_rangeCheck_23922, kJ7_fill_d0a16, kJ7_fill_53178, kJ7_fill_fda19, kL_cell, kL_law]
def xcode (i : Nat) : List (Nat × xI) := xcodeL.getD i []
def xnl (i : Nat) : Nat := ([2, 1, 4, 4, 12, 3, 2, 2, 2, 3, 3, 4, 2, 3, 2, 2, 6, 2, 2, 2, 2, 4, 5, 3, 6, 3, 4, 3, 3, 8, 3, 6, 3, 6, 3, 5, 6, 12, 2, 7, 8, 4, 5, 5, 4, 5, 5, 1, 2, 1, 2, 1, 5, 3, 4, 7, 5, 3, 6, 5, 4, 3, 9, 5, 6, 2, 2, 5, 6, 2, 3, 5, 2, 2, 5, 5, 3, 3, 2, 3, 1, 1, 1, 2, 7, 2, 4, 2, 2, 2, 2, 1, 2, 2, 2, 2, 2, 1, 2, 1, 1, 1, 3, 5, 5, 3, 3, 6, 3, 4, 2, 2, 1, 2, 1, 3, 2, 2, 2, 6, 5, 2, 4, 5, 5, 6, 3, 4, 3, 7, 6, 6, 3, 2, 4, 4, 4, 10, 3, 8, 7, 1, 2, 2, 5, 12, 3, 1, 1, 1, 5, 2, 4, 4, 2, 7, 6, 3, 4, 8, 2, 2, 1, 2, 3, 5, 4, 5, 2, 7] : List Nat).getD i 0
/-- what a method returns: 0 nothing, 1 an int, 2 a long, 3 a boolean -/
def xrt (i : Nat) : Nat := ([0, 0, 3, 2, 0, 1, 1, 0, 0, 3, 1, 0, 0, 0, 1, 1, 1, 1, 1, 1, 1, 0, 0, 0, 0, 0, 2, 1, 2, 2, 0, 1, 0, 0, 3, 0, 0, 0, 3, 0, 0, 0, 1, 0, 0, 0, 2, 1, 1, 0, 3, 0, 0, 0, 0, 0, 0, 0, 1, 0, 0, 0, 0, 3, 1, 0, 3, 0, 0, 1, 1, 1, 1, 0, 1, 1, 1, 1, 1, 1, 2, 2, 3, 1, 2, 1, 1, 1, 2, 1, 1, 0, 0, 0, 1, 1, 0, 1, 0, 1, 1, 1, 3, 1, 1, 1, 1, 0, 1, 1, 1, 1, 1, 1, 1, 1, 1, 1, 1, 1, 2, 0, 0, 1, 0, 0, 1, 1, 0, 0, 0, 0, 0, 0, 3, 3, 0, 0, 0, 0, 0, 0, 1, 1, 0, 2, 1, 2, 2, 3, 1, 1, 1, 1, 1, 0, 2, 1, 3, 2, 1, 1, 0, 1, 0, 0, 0, 0, 1, 3] : List Nat).getD i 9
/-- the kind of the objects whose method it is -/
def xmk (i : Nat) : Nat := ([1, 1, 1, 1, 1, 1, 1, 2, 2, 2, 2, 2, 2, 2, 2, 2, 2, 2, 2, 2, 2, 2, 2, 2, 2, 11, 11, 0, 0, 0, 3, 3, 3, 3, 3, 3, 3, 3, 3, 3, 3, 4, 4, 4, 4, 4, 4, 4, 4, 5, 5, 5, 5, 5, 5, 5, 5, 6, 6, 6, 6, 7, 7, 7, 7, 8, 8, 8, 8, 8, 8, 8, 8, 9, 9, 9, 9, 9, 9, 9, 9, 9, 9, 9, 9, 9, 9, 9, 9, 9, 9, 9, 9, 9, 9, 9, 10, 10, 10, 10, 10, 10, 10, 10, 10, 10, 10, 10, 10, 10, 10, 10, 10, 10, 10, 10, 10, 10, 10, 10, 10, 10, 10, 10, 10, 10, 10, 10, 10, 10, 10, 10, 10, 10, 10, 10, 10, 10, 10, 10, 10, 10, 10, 10, 10, 10, 10, 10, 10, 10, 10, 10, 10, 10, 10, 10, 10, 10, 10, 10, 10, 10, 10, 10, 0, 0, 0, 0, 0, 0] : List Nat).getD i 0
/-- which method a virtual call comes to: r1 < 1000 names it, 2000 and 2001 are the forms' own two -/
def xtg (r k : Nat) : Option Nat := if r < 1000 then (if xmk r = k then some r else none) else if r = 2000 then (if k = 3 then some 26 else if k = 4 then some 46 else if k = 6 then some 26 else none) else if r = 2001 then (if k = 3 then some 31 else if k = 4 then some 42 else if k = 6 then some 58 else none) else none
abbrev xMT : Type := MethodName × ByteArray × Option FieldType × Bool
def xmt (i : Nat) : Option xMT := ([(yX0_init, cX0_init, none, true), (yX0_forget, cX0_forget, none, false), (yX0_addCut, cX0_addCut, some .boolean, false), (yX0_divide, cX0_divide, some .long, false), (yX0_findRest, cX0_findRest, none, false), (yX0_countOctet, cX0_countOctet, some .int, false), (yX0_placeOf, cX0_placeOf, some .int, false), (yX1_init, cX1_init, none, true), (yX1_reset, cX1_reset, none, false), (yX1_has, cX1_has, some .boolean, false), (yX1_of, cX1_of, some .int, false), (yX1_put, cX1_put, none, false), (yX1_copyFrom, cX1_copyFrom, none, false), (yX1_prepare, cX1_prepare, none, false), (yX1_literalCost, cX1_literalCost, some .int, false), (yX1_kindCost, cX1_kindCost, some .int, false), (yX1_stepCost, cX1_stepCost, some .int, false), (yX1_lengthCost, cX1_lengthCost, some .int, false), (yX1_distanceCost, cX1_distanceCost, some .int, false), (yX1_lengthSlot, cX1_lengthSlot, some .int, false), (yX1_distanceSlot, cX1_distanceSlot, some .int, false), (yX1_fitTo, cX1_fitTo, none, false), (yX1_countSymbols, cX1_countSymbols, none, false), (yX1_countOne, cX1_countOne, none, false), (yX1_fitClass, cX1_fitClass, none, false), (yX2_init, cX2_init, none, true), (yX2_costOf, cX2_costOf, some .long, false), (yX3_at, cX3_at, some .int, false), (yX3_behindCopy, cX3_behindCopy, some .long, false), (yX3_behindAgain, cX3_behindAgain, some .long, false), (yX4_init, cX4_init, none, true), (yX4_findBest, cX4_findBest, some .int, false), (yX4_begin, cX4_begin, none, false), (yX4_goFrom, cX4_goFrom, none, false), (yX4_copiesWereLed, cX4_copiesWereLed, some .boolean, false), (yX4_leadByCopies, cX4_leadByCopies, none, false), (yX4_leadByAgain, cX4_leadByAgain, none, false), (yX4_lead, cX4_lead, none, false), (yX4_makeRoom, cX4_makeRoom, some .boolean, false), (yX4_insert, cX4_insert, none, false), (yX4_tellSteps, cX4_tellSteps, none, false), (yX5_init, cX5_init, none, true), (yX5_findBest, cX5_findBest, some .int, false), (yX5_findFirst, cX5_findFirst, none, false), (yX5_lead, cX5_lead, none, false), (yX5_tellSteps, cX5_tellSteps, none, false), (yX5_costOf, cX5_costOf, some .long, false), (yX5_copyCost, cX5_copyCost, some .int, false), (yX5_beyond, cX5_beyond, some .int, false), (yX6_init, cX6_init, none, true), (yX6_hasStep, cX6_hasStep, some .boolean, false), (yX6_begin, cX6_begin, none, false), (yX6_add, cX6_add, none, false), (yX6_turnRound, cX6_turnRound, none, false), (yX6_swap, cX6_swap, none, false), (yX6_finish, cX6_finish, none, false), (yX6_tellBack, cX6_tellBack, none, false), (yX7_init, cX7_init, none, true), (yX7_findBest, cX7_findBest, some .int, false), (yX7_lead, cX7_lead, none, false), (yX7_tellSteps, cX7_tellSteps, none, false), (yX8_init, cX8_init, none, true), (yX8_walk, cX8_walk, none, false), (yX8_longerAhead, cX8_longerAhead, some .boolean, false), (yX8_againAsLong, cX8_againAsLong, some .int, false), (yX9_init, cX9_init, none, true), (yX9_has, cX9_has, some .boolean, false), (yX9_append, cX9_append, none, false), (yX9_noteCopies, cX9_noteCopies, none, false), (yX9_longestCopy, cX9_longestCopy, some .int, false), (yX9_copyDistance, cX9_copyDistance, some .int, false), (yX9_sameBy, cX9_sameBy, some .int, false), (yX9_nearestIndex, cX9_nearestIndex, some .int, false), (yX10_init, cX10_init, none, true), (yX10_octets, cX10_octets, some .int, false), (yX10_cost, cX10_cost, some .int, false), (yX10_price, cX10_price, some .int, false), (yX10_keep, cX10_keep, some .int, false), (yX10_parse, cX10_parse, some .int, false), (yX10_step, cX10_step, some .int, false), (yX10_sum, cX10_sum, some .long, false), (yX10_again, cX10_again, some .long, false), (yX10_least, cX10_least, some .boolean, false), (yX10_told, cX10_told, some .int, false), (yX10_rounds, cX10_rounds, some .long, false), (yX10_longest, cX10_longest, some .int, false), (yX10_distance, cX10_distance, some .int, false), (yX10_cut, cX10_cut, some .int, false), (yX10_split, cX10_split, some .long, false), (yX10_taken, cX10_taken, some .int, false), (yX10_many, cX10_many, some .int, false), (yX10_clear, cX10_clear, none, false), (yX10_findBest, cX10_findBest, none, false), (yX10_takeSpare, cX10_takeSpare, none, false), (yX10_logOf, cX10_logOf, some .int, false), (yX10_highestBit, cX10_highestBit, some .int, false), (yX11_init, cX11_init, none, true), (yX11_thrown, cX11_thrown, some .int, false), (yX11_start, cX11_start, none, false), (yX11_shortest, cX11_shortest, some .int, false), (yX11_greatest, cX11_greatest, some .int, false), (yX11_symbols, cX11_symbols, some .int, false), (yX11_isCost, cX11_isCost, some .boolean, false), (yX11_octets, cX11_octets, some .int, false), (yX11_cost, cX11_cost, some .int, false), (yX11_price, cX11_price, some .int, false), (yX11_keep, cX11_keep, some .int, false), (yX11_layOut, cX11_layOut, none, false), (yX11_longestCopy, cX11_longestCopy, some .int, false), (yX11_longestAgain, cX11_longestAgain, some .int, false), (yX11_high, cX11_high, some .int, false), (yX11_lengthSlot, cX11_lengthSlot, some .int, false), (yX11_lengthBits, cX11_lengthBits, some .int, false), (yX11_distanceSlot, cX11_distanceSlot, some .int, false), (yX11_distanceBits, cX11_distanceBits, some .int, false), (yX11_lengthCost, cX11_lengthCost, some .int, false), (yX11_distanceCost, cX11_distanceCost, some .int, false), (yX11_kindCost, cX11_kindCost, some .int, false), (yX11_more, cX11_more, some .int, false), (yX11_stepCost, cX11_stepCost, some .int, false), (yX11_allCost, cX11_allCost, some .long, false), (yX11_clearLatest, cX11_clearLatest, none, false), (yX11_ahead, cX11_ahead, none, false), (yX11_longestOf, cX11_longestOf, some .int, false), (yX11_addStep, cX11_addStep, none, false), (yX11_greedy, cX11_greedy, none, false), (yX11_at, cX11_at, some .int, false), (yX11_firstRow, cX11_firstRow, some .int, false), (yX11_clearTable, cX11_clearTable, none, false), (yX11_copies, cX11_copies, none, false), (yX11_literals, cX11_literals, none, false), (yX11_backPlain, cX11_backPlain, none, false), (yX11_turnBack, cX11_turnBack, none, false), (yX11_bestPlain, cX11_bestPlain, none, false), (yX11_isState, cX11_isState, some .boolean, false), (yX11_isBehind, cX11_isBehind, some .boolean, false), (yX11_moveState, cX11_moveState, none, false), (yX11_comes, cX11_comes, none, false), (yX11_takeLatest, cX11_takeLatest, none, false), (yX11_expand, cX11_expand, none, false), (yX11_bestWide, cX11_bestWide, none, false), (yX11_best, cX11_best, none, false), (yX11_parse, cX11_parse, some .int, false), (yX11_log, cX11_log, some .int, false), (yX11_fit, cX11_fit, none, false), (yX11_rounds, cX11_rounds, some .long, false), (yX11_step, cX11_step, some .int, false), (yX11_sum, cX11_sum, some .long, false), (yX11_again, cX11_again, some .long, false), (yX11_least, cX11_least, some .boolean, false), (yX11_told, cX11_told, some .int, false), (yX11_longest, cX11_longest, some .int, false), (yX11_distance, cX11_distance, some .int, false), (yX11_cut, cX11_cut, some .int, false), (yX11_border, cX11_border, some .int, false), (yX11_fillBlocks, cX11_fillBlocks, none, false), (yX11_setCost, cX11_setCost, some .long, false), (yX11_count, cX11_count, some .int, false), (yX11_isBefore, cX11_isBefore, some .boolean, false), (yX11_split, cX11_split, some .long, false), (yX11_taken, cX11_taken, some .int, false), (yX11_many, cX11_many, some .int, false), (yX11_clear, cX11_clear, none, false), (yX11_trier, cX11_trier, some .int, false), (yJ7_rangeCheck_23922, cJ7_rangeCheck_23922, none, false), (yJ7_fill_d0a16, cJ7_fill_d0a16, none, false), (yJ7_fill_53178, cJ7_fill_53178, none, false), (yJ7_fill_fda19, cJ7_fill_fda19, none, false), (yL_cell, cL_cell, some .int, false), (yL_law, cL_law, some .boolean, false)] : List xMT)[i]?
def xsd (k : Nat) : Option (String × String × String) := match k with
  | 1 => some ("BestParses$Costs", "SYMBOLS", "[I")
  | 2 => some ("BestParses$Costs", "BASES", "[I")
  | 3 => some ("BestParses$Costs", "AT_FIRST", "[I")
  | _ => none
def xlaw : Nat := 169
/-- words that are no words of a contract: nest mates' links, the abstract method -/
def xnw : List Jvm.Cond := [(Jvm.Cond.methodLinkNest "BestParses" (76 : Nat) ({ cls := "BestParses$Parse", name := "<init>", desc := "()V" } : Jvm.MethodName) "BestParses"), (Jvm.Cond.methodLinkNest "BestParses$Costs" (105 : Nat) ({ cls := "BestParses", name := "highestBit", desc := "(I)I" } : Jvm.MethodName) "BestParses"), (Jvm.Cond.methodLinkNest "BestParses$Costs" (129 : Nat) ({ cls := "BestParses", name := "logOf", desc := "(I)I" } : Jvm.MethodName) "BestParses"), (Jvm.Cond.methodLinkNest "BestParses$Blocks" (65 : Nat) ({ cls := "BestParses", name := "logOf", desc := "(I)I" } : Jvm.MethodName) "BestParses"), (Jvm.Cond.declares ({ cls := "BestParses$Form", name := "findBest", desc := "(LBestParses$Parse;I)I" } : Jvm.MethodName))]
theorem xnw_in : ∀ w ∈ xnw, w ∈ tables_1 := List.forall_mem_cons.mpr ⟨List.mem_of_getElem? (i := 587) (by decide +kernel), List.forall_mem_cons.mpr ⟨List.mem_of_getElem? (i := 740) (by decide +kernel), List.forall_mem_cons.mpr ⟨List.mem_of_getElem? (i := 981) (by decide +kernel), List.forall_mem_cons.mpr ⟨List.mem_of_getElem? (i := 1035) (by decide +kernel), List.forall_mem_cons.mpr ⟨List.mem_of_getElem? (i := 720) (by decide +kernel), fun _ h => absurd h List.not_mem_nil⟩⟩⟩⟩⟩
theorem xnw_on : ∀ w ∈ xnw, w.onTables = true := List.forall_mem_cons.mpr ⟨rfl, List.forall_mem_cons.mpr ⟨rfl, List.forall_mem_cons.mpr ⟨rfl, List.forall_mem_cons.mpr ⟨rfl, List.forall_mem_cons.mpr ⟨rfl, fun _ h => absurd h List.not_mem_nil⟩⟩⟩⟩⟩
theorem xnw_warm {s U : State} (hW : s.WarmedH U.vm) : ∀ w ∈ xnw, va_Nw w s → va_Nw w U := List.forall_mem_cons.mpr ⟨fun z => va_Nw.warmM hW z, List.forall_mem_cons.mpr ⟨fun z => va_Nw.warmM hW z, List.forall_mem_cons.mpr ⟨fun z => va_Nw.warmM hW z, List.forall_mem_cons.mpr ⟨fun z => va_Nw.warmM hW z, List.forall_mem_cons.mpr ⟨fun z => va_Nw.warmD hW z, fun _ h => absurd h List.not_mem_nil⟩⟩⟩⟩⟩
end
section
/-! A RUN OF THE LIGHT MACHINE: fuel n, depth d, method i -/
def xargs : List Value → xL
  | [] => []
  | v :: vs => if v.category = 2 then some v :: none :: xargs vs else some v :: xargs vs
def xent (n : Nat) (vs : List Value) : xL := xargs vs ++ List.replicate (n - (xargs vs).length) none
/-- calls that are one step: Math.max, Math.min, System.arraycopy over ints, Object's constructor -/
def xbi (r1 : Nat) (st : List Value) (h : xS) : Option (List Value × xS) :=
  if r1 = 1000 then match st with
    | .int y :: .int x :: r => some (.int (if x < y then y else x) :: r, h)
    | _ => none
  else if r1 = 1001 then match st with
    | .int y :: .int x :: r => some (.int (if y < x then y else x) :: r, h)
    | _ => none
  else if r1 = 1002 then match st with
    | .int n :: .int dp :: .ref a :: .int sp :: .ref a0 :: r => if (a ≠ a0 ∧ (h.1 a).1 = 100 ∧ (h.1 a0).1 = 100) ∧ ¬ sp < 0 ∧ ¬ dp < 0 ∧ ¬ n < 0 ∧ sp.toNatClampNeg + n.toNatClampNeg ≤ (h.1 a0).2 ∧ dp.toNatClampNeg + n.toNatClampNeg ≤ (h.1 a).2 then some (r, (h.1, h.2.1, va_up h.2.2.1 a (va_cpy (h.2.2.1 a0) (h.2.2.1 a) sp.toNatClampNeg dp.toNatClampNeg n.toNatClampNeg), h.2.2.2)) else none
    | _ => none
  else if r1 = 1003 then match st with
    | .ref _ :: r => some (r, h)
    | _ => none
  else none
/-- what an exception of trier takes at most: cells, slots -/
def xcT : Nat := 64
def xsT : Nat := 2048
/-- the law's own trier, a call that is one step: 0 and the octet, or 1 -/
def xtr (st : List Value) (h : xS) : Option (List Value × xS) := match st with
  | .ref o :: .int i :: .ref x :: r => match h.2.2.2.2 x 1 with
    | some t => match h.2.2.2.2 t 2 with
      | some w => if (h.1 x).1 = 9 ∧ (h.1 t).1 = 8 ∧ (h.1 w).1 = 100 ∧ h.1 o = (101, 1) ∧ h.2.1.1 = [] then
          if i < 0 ∨ h.2.2.1 t 3 ≤ i then some (.int 1 :: r, (h.1, (h.2.1.1, h.2.1.2.1 + xcT, h.2.1.2.2 + xsT), h.2.2))
          else if i.toNatClampNeg < (h.1 w).2 then some (.int 0 :: r, (h.1, (h.2.1.1, h.2.1.2.1 + xcT, h.2.1.2.2 + xsT), h.2.2.1, xup h.2.2.2.1 o 0 (h.2.2.1 w i.toNatClampNeg).toInt64, h.2.2.2.2)) else none
        else none
      | none => none
    | none => none
  | _ => none
def xbj (ins : Instr) (r1 : Nat) (st : List Value) (h : xS) : Option (List Value × xS) := match ins with
  | .invokestatic _ => if r1 = 1003 then none else xbi r1 st h
  | .invokespecial _ => if r1 = 1003 then xbi r1 st h else none
  | _ => none
def xbt (ins : Instr) (r1 : Nat) (st : List Value) (h : xS) : Option (List Value × xS) := match ins with
  | .invokestatic _ => if r1 = 1004 then xtr st h else none
  | _ => none
def xret (i : Nat) (ins : Instr) (st : List Value) (h : xS) : Option (Option Value × xS) := match ins with
  | .ireturn => match st with
    | [.int v] => if xrt i = 1 ∨ (xrt i = 3 ∧ (v = 0 ∨ v = 1)) then some (some (.int v), h) else none
    | _ => none
  | .lreturn => match st with
    | [.long v] => if xrt i = 2 then some (some (.long v), h) else none
    | _ => none
  | .return_ => match st with
    | [] => if xrt i = 0 then some (none, h) else none
    | _ => none
  | _ => none
def xwho (ins : Instr) (r1 r2 : Nat) (st : List Value) (h : xS) : Option Nat := match ins with
  | .invokestatic _ => if r1 < 1000 then some r1 else none
  | .invokespecial _ => match st[r2 - 1]? with
    | some (.ref _) => if r1 < 1000 then some r1 else none
    | _ => none
  | .invokevirtual _ => match st[r2 - 1]? with
    | some (.ref a) => xtg r1 (h.1 a).1
    | _ => none
  | _ => none
def xsum (st : List Value) : Nat := (st.map fun v => v.category).sum
def xstep (ins : Instr) (r1 r2 pc : Nat) (L : xL) (st : List Value) (h : xS) : Option xF := match xop ins r1 st with
  | some st' => some (pc + xlen ins, L, st', h)
  | none => match xlo ins L st with
    | some q => some (pc + xlen ins, q.1, q.2, h)
    | none => match xbr ins r1 pc st with
      | some q => some (q.1, L, q.2, h)
      | none => match xhp ins r1 r2 st h with
        | some q => some (pc + xlen ins, L, q.1, q.2)
        | none => match xal ins r1 st h with
          | some q => some (pc + xlen ins, L, q.1, q.2.1)
          | none => none
def ex : Nat → Nat → Nat → Nat → xL → List Value → xS → Option (Option Value × xS)
  | 0, _, _, _, _, _, _ => none
  | n + 1, d, i, pc, L, st, h => match xat pc (xcode i) with
    | none => none
    | some x => match xret i x.1 st h with
      | some r => some r
      | none => match xwho x.1 x.2.2.1 x.2.2.2 st h with
        | some j => match d with
          | 0 => none
          | d' + 1 => if x.2.2.2 ≤ st.length ∧ xsum (st.drop x.2.2.2) ≤ 8 ∧ (xargs (st.take x.2.2.2).reverse).length ≤ xnl j then
              match ex n d' j 0 (xent (xnl j) (st.take x.2.2.2).reverse) [] h with
              | some q => ex n (d' + 1) i (pc + 3) L (q.1.toList ++ st.drop x.2.2.2) q.2
              | none => none
            else none
        | none => match xbj x.1 x.2.2.1 st h with
          | some q => if 1 ≤ d ∧ xsum q.1 ≤ 9 then ex n d i (pc + 3) L q.1 q.2 else none
          | none => match xbt x.1 x.2.2.1 st h with
            | some q => if 6 ≤ d ∧ xsum q.1 ≤ 9 then ex n d i (pc + 3) L q.1 q.2 else none
            | none => match xstep x.1 x.2.2.1 x.2.2.2 pc L st h with
              | some f => ex n d i f.1 f.2.1 f.2.2.1 f.2.2.2
              | none => none
/-- one step of a run, read backwards -/
theorem ex_inv {n d i pc : Nat} {L : xL} {st : List Value} {h : xS} {r : Option Value × xS} (H : ex (n + 1) d i pc L st h = some r) :
    ∃ x : xI, (pc, x) ∈ xcode i ∧ (xret i x.1 st h = some r ∨
      (∃ j d' q, d = d' + 1 ∧ xwho x.1 x.2.2.1 x.2.2.2 st h = some j ∧ x.2.2.2 ≤ st.length ∧ xsum (st.drop x.2.2.2) ≤ 8 ∧ (xargs (st.take x.2.2.2).reverse).length ≤ xnl j ∧ ex n d' j 0 (xent (xnl j) (st.take x.2.2.2).reverse) [] h = some q ∧ ex n d i (pc + 3) L (q.1.toList ++ st.drop x.2.2.2) q.2 = some r) ∨
      (∃ q, xbj x.1 x.2.2.1 st h = some q ∧ 1 ≤ d ∧ xsum q.1 ≤ 9 ∧ ex n d i (pc + 3) L q.1 q.2 = some r) ∨
      (∃ q, xbt x.1 x.2.2.1 st h = some q ∧ 6 ≤ d ∧ xsum q.1 ≤ 9 ∧ ex n d i (pc + 3) L q.1 q.2 = some r) ∨
      (∃ f, xstep x.1 x.2.2.1 x.2.2.2 pc L st h = some f ∧ ex n d i f.1 f.2.1 f.2.2.1 f.2.2.2 = some r)) := by
  unfold ex at H
  split at H
  · cases H
  · rename_i x hx
    refine ⟨x, xat_mem hx, ?_⟩
    split at H
    · rename_i r0 hr
      cases H
      exact Or.inl hr
    · split at H
      · rename_i j hj
        split at H
        · cases H
        · split at H
          · rename_i hc
            split at H
            · rename_i q hq
              exact Or.inr (Or.inl ⟨j, _, q, rfl, hj, hc.1, hc.2.1, hc.2.2, hq, H⟩)
            · cases H
          · cases H
      · split at H
        · rename_i q hq
          split at H
          · rename_i hc
            exact Or.inr (Or.inr (Or.inl ⟨q, hq, hc.1, hc.2, H⟩))
          · cases H
        · split at H
          · rename_i q hq
            split at H
            · rename_i hc
              exact Or.inr (Or.inr (Or.inr (Or.inl ⟨q, hq, hc.1, hc.2, H⟩)))
            · cases H
          · split at H
            · rename_i f hf
              exact Or.inr (Or.inr (Or.inr (Or.inr ⟨f, hf, H⟩)))
            · cases H
/-- the cells and slots that a run has taken only grow -/
def xle (h h1 : xS) : Prop := h.2.1.2.1 ≤ h1.2.1.2.1 ∧ h.2.1.2.2 ≤ h1.2.1.2.2
theorem xle.rfl {h : xS} : xle h h := ⟨Nat.le_refl _, Nat.le_refl _⟩
theorem xle.trans {a b c : xS} (h : xle a b) (h2 : xle b c) : xle a c := ⟨Nat.le_trans h.1 h2.1, Nat.le_trans h.2 h2.2⟩
theorem xpf_pl {h h1 : xS} {a k : Nat} {v : Value} (hx : xpf h a k v = some h1) : h1.2.1 = h.2.1 := by
  unfold xpf at hx
  split at hx
  · split at hx <;> cases hx; rfl
  · split at hx <;> cases hx; rfl
  · split at hx <;> cases hx; rfl
  · cases hx
theorem xhp_pl {ins : Instr} {r1 r2 : Nat} {st st' : List Value} {h h1 : xS} (hx : xhp ins r1 r2 st h = some (st', h1)) : h1.2.1 = h.2.1 := by
  unfold xhp at hx
  split at hx
  · split at hx
    · split at hx <;> cases hx; rfl
    · cases hx
  · split at hx
    · split at hx
      · obtain ⟨h2, hp, he⟩ := Option.map_eq_some_iff.mp hx
        cases he
        exact xpf_pl hp
      · cases hx
    · cases hx
  · cases hx; rfl
  all_goals first | (split at hx <;> first | (split at hx <;> cases hx; rfl) | cases hx) | cases hx
theorem xbi_pl {r1 : Nat} {st st' : List Value} {h h1 : xS} (hx : xbi r1 st h = some (st', h1)) : h1.2.1 = h.2.1 := by
  unfold xbi at hx
  repeat' split at hx
  all_goals first | cases hx; rfl | cases hx
theorem xal_pl {ins : Instr} {r1 ds : Nat} {st st' : List Value} {h h1 : xS} (hx : xal ins r1 st h = some (st', h1, ds)) : h1.2.1.2.1 = h.2.1.2.1 + 1 ∧ h1.2.1.2.2 = h.2.1.2.2 + ds := by
  unfold xal at hx
  repeat' split at hx
  all_goals first | cases hx; exact ⟨rfl, rfl⟩ | cases hx
theorem xtr_pl {st st' : List Value} {h h1 : xS} (hx : xtr st h = some (st', h1)) : h1.2.1.2.1 = h.2.1.2.1 + xcT ∧ h1.2.1.2.2 = h.2.1.2.2 + xsT := by
  unfold xtr at hx
  repeat' split at hx
  all_goals first | cases hx; exact ⟨rfl, rfl⟩ | cases hx
theorem xstep_le {ins : Instr} {r1 r2 pc : Nat} {L : xL} {st : List Value} {h : xS} {f : xF} (hx : xstep ins r1 r2 pc L st h = some f) : xle h f.2.2.2 := by
  unfold xstep at hx
  split at hx
  · cases hx; exact xle.rfl
  · split at hx
    · cases hx; exact xle.rfl
    · split at hx
      · cases hx; exact xle.rfl
      · split at hx
        · rename_i q hq
          cases hx
          have := xhp_pl (st' := q.1) (h1 := q.2) hq
          unfold xle
          rw [this]
          exact xle.rfl
        · split at hx
          · rename_i q hq
            cases hx
            have := xal_pl (st' := q.1) (h1 := q.2.1) (ds := q.2.2) hq
            unfold xle
            rw [this.1, this.2]
            exact ⟨by omega, by omega⟩
          · cases hx
theorem ex_le : ∀ {n d i pc : Nat} {L : xL} {st : List Value} {h : xS} {r : Option Value × xS}, ex n d i pc L st h = some r → xle h r.2
  | 0, _, _, _, _, _, _, _, H => by simp [ex] at H
  | n + 1, d, i, pc, L, st, h, r, H => by
    obtain ⟨x, -, hr | ⟨j, d', q, -, -, -, -, -, h1, h2⟩ | ⟨q, hq, -, -, h2⟩ | ⟨q, hq, -, -, h2⟩ | ⟨f, hf, h2⟩⟩ := ex_inv H
    · have : r.2 = h := by
        unfold xret at hr
        repeat' split at hr
        all_goals first | cases hr; rfl | cases hr
      rw [this]
      exact xle.rfl
    · exact (ex_le h1).trans (ex_le h2)
    · have hp : q.2.2.1 = h.2.1 := by
        unfold xbj at hq
        split at hq
        · split at hq
          · cases hq
          · exact xbi_pl (st' := q.1) (h1 := q.2) hq
        · split at hq
          · exact xbi_pl (st' := q.1) (h1 := q.2) hq
          · cases hq
        · cases hq
      have := ex_le h2
      unfold xle at this ⊢
      rw [hp] at this
      exact this
    · have hp : q.2.2.1.2.1 = h.2.1.2.1 + xcT ∧ q.2.2.1.2.2 = h.2.1.2.2 + xsT := by
        unfold xbt at hq
        split at hq
        · split at hq
          · exact xtr_pl (st' := q.1) (h1 := q.2) hq
          · cases hq
        · cases hq
      have := ex_le h2
      unfold xle at this ⊢
      omega
    · exact (xstep_le hf).trans (ex_le h2)
end
section
/-! CALLS: entry, contract, return -/
theorem xargs_len (ad : Nat → Nat) (vs : List Value) : (lg_sl (vs.map (xsh ad))).length = (xargs vs).length := by
  induction vs with
  | nil => rfl
  | cons v t ih =>
    have e : lg_sl ((v :: t).map (xsh ad)) = (if v.category = 2 then [Slot.val (xsh ad v), Slot.second] else [Slot.val (xsh ad v)]) ++ lg_sl (t.map (xsh ad)) := by
      simp [lg_sl, xsh_cat]
    rw [e, List.length_append, ih, show xargs (v :: t) = (if v.category = 2 then some v :: none :: xargs t else some v :: xargs t) from rfl]
    split <;> simp only [List.length_cons, List.length_nil] <;> omega
theorem xargs_at (ad : Nat → Nat) : ∀ (vs : List Value) (i k : Nat) (v : Value), xld (xargs vs) i = some v → (k + i, xsh ad v) ∈ lv_args k (vs.map (xsh ad))
  | [], i, k, v, h => by simp [xargs, xld] at h
  | u :: t, i, k, v, h => by
    simp only [List.map_cons, lv_args, xsh_cat]
    unfold xargs at h
    split at h
    · rename_i hc
      rw [if_pos hc]
      match i, h with
      | 0, h =>
        have h2 : u = v := by simpa [xld] using h
        subst h2
        exact List.mem_cons_self
      | 1, h => simp [xld] at h
      | i + 2, h =>
        have := xargs_at ad t i (k + 2) v (by simpa [xld] using h)
        rw [show k + (i + 2) = k + 2 + i by omega]
        exact List.mem_cons_of_mem _ this
    · rename_i hc
      rw [if_neg hc]
      match i, h with
      | 0, h =>
        have h2 : u = v := by simpa [xld] using h
        subst h2
        exact List.mem_cons_self
      | i + 1, h =>
        have := xargs_at ad t i (k + 1) v (by simpa [xld] using h)
        rw [show k + (i + 1) = k + 1 + i by omega]
        exact List.mem_cons_of_mem _ this
theorem xent_len (n : Nat) (vs : List Value) (h : (xargs vs).length ≤ n) : (xent n vs).length = n := by
  unfold xent
  rw [List.length_append, List.length_replicate]
  omega
theorem xent_ok (ad : Nat → Nat) (vs : List Value) (n : Nat) (h : (xargs vs).length ≤ n) : xLH ad ((lg_sl (vs.map (xsh ad)) ++ List.replicate (n - (lg_sl (vs.map (xsh ad))).length) Slot.unset).toArray) (xent n vs) := by
  obtain ⟨h1, h2, h3⟩ := lv_entry (vs.map (xsh ad)) (n := n) (by rw [xargs_len]; exact h)
  refine ⟨by rw [xent_len n vs h]; exact h1, h2, fun q hq => ?_⟩
  obtain ⟨i, w⟩ := q
  obtain ⟨v, hv, rfl⟩ := xas_mem.mp hq
  refine h3 _ ?_
  have hv2 : xld (xargs vs) i = some v := by
    unfold xent xld at hv
    unfold xld
    by_cases hi : i < (xargs vs).length
    · rw [List.getElem?_append_left hi] at hv
      exact hv
    · rw [List.getElem?_append_right (by omega)] at hv
      split at hv
      · rename_i o ho
        have := List.mem_of_getElem? ho
        rw [(List.mem_replicate.mp this).2] at hv
        cases hv
      · cases hv
  have := xargs_at ad vs i 0 v hv2
  rw [Nat.zero_add] at this
  exact this
/-- what a frame knows -/
def xEnv (D : va_G) (dA : Nat → ClassId) (ad : Nat → Nat) (base : Nat) (xe : Nat → Option (Nat × (Nat → Int32))) (U : State) : Prop := xKK D dA ad base xe xsd U ∧ (∀ w ∈ xnw, va_Nw w U) ∧ base ≤ U.heap.size
theorem xEnv.moved {D : va_G} {dA : Nat → ClassId} {ad : Nat → Nat} {base : Nat} {xe : Nat → Option (Nat × (Nat → Int32))} {s U : State} {locs : List Loc} (h : xEnv D dA ad base xe s) (hS : va_S (fun q => base ≤ q) s.heap U.heap locs) (hW : s.WarmedH U.vm) : xEnv D dA ad base xe U := by
  obtain ⟨⟨h1, h2, h3⟩, h4, h5⟩ := h
  have hk : ∀ a : Nat, a < s.heap.size → ¬ base ≤ a → U.heap[a]? = s.heap[a]? := fun a ha hb => hS.2.1 a ha hb
  exact ⟨⟨va_K.moved hW.alike h1, fun a n f hf => va_T.moved hW.alike ((h2 a n f hf).kept hk), fun k C n d hd => va_Z.moved hW.alike ((h3 k C n d hd).kept hk)⟩, fun w hw => xnw_warm hW w hw (h4 w hw), Nat.le_trans h5 hS.1⟩
def xPc (D : va_G) (dA : Nat → ClassId) (ad : Nat → Nat) (base : Nat) (xe : Nat → Option (Nat × (Nat → Int32))) (vs : List Value) (h : xS) : Array Value → State → Prop := fun v U => v = (vs.map (xsh ad)).toArray ∧ xHO D dA ad base xe h U.heap ∧ xEnv D dA ad base xe U
def xQc (D : va_G) (dA : Nat → ClassId) (ad : Nat → Nat) (base : Nat) (xe : Nat → Option (Nat × (Nat → Int32))) (r : Option Value) (h1 : xS) : Array Value → State → Outcome → State → Prop := fun _ st o t => o = .returned (r.map (xsh ad)) ∧ xHO D dA ad base xe h1 t.heap ∧ va_F (fun q => base ≤ q) st t
theorem xPc_blind {D : va_G} {dA : Nat → ClassId} {ad : Nat → Nat} {base : Nat} {xe : Nat → Option (Nat × (Nat → Int32))} {vs : List Value} {h : xS} : FrameBlind (xPc D dA ad base xe vs h) := by
  intro a U g mk q
  obtain ⟨q1, q2, ⟨⟨h1, h2, h3⟩, h4, h5⟩⟩ := q
  exact ⟨q1, q2, ⟨⟨va_K.moved (u := U) (U := U.calling g mk a) (Vm.Alike.refl U.vm) h1, fun a' n f hf => va_T.moved (u := U) (U := U.calling g mk a) (Vm.Alike.refl U.vm) (h2 a' n f hf), fun k C n d hd => va_Z.moved (u := U) (U := U.calling g mk a) (Vm.Alike.refl U.vm) (h3 k C n d hd)⟩, fun w hw => va_Nw.same (u := U) (U := U.calling g mk a) (xnw_on w hw) rfl (h4 w hw), h5⟩⟩
def xrm (d mc ms : Nat) : Room := { frames := d, cells := mc, slots := ms, locals := 39 * d }
def xri (r : Option Value) : Instr := match r with
  | none => .return_
  | some (.long _) => .lreturn
  | some _ => .ireturn
def xrok (i : Nat) (r : Option Value) : Prop := match r with
  | none => xrt i = 0
  | some (.int v) => xrt i = 1 ∨ (xrt i = 3 ∧ (v = 0 ∨ v = 1))
  | some (.long _) => xrt i = 2
  | _ => False
theorem xret_inv {i : Nat} {ins : Instr} {st : List Value} {h h1 : xS} {r : Option Value} (hx : xret i ins st h = some (r, h1)) : h1 = h ∧ ins = xri r ∧ st = r.toList ∧ xrok i r := by
  unfold xret at hx
  split at hx
  · split at hx
    · split at hx
      · rename_i hc
        cases hx
        exact ⟨rfl, rfl, rfl, hc⟩
      · cases hx
    · cases hx
  · split at hx
    · split at hx
      · rename_i hc
        cases hx
        exact ⟨rfl, rfl, rfl, hc⟩
      · cases hx
    · cases hx
  · split at hx
    · split at hx
      · rename_i hc
        cases hx
        exact ⟨rfl, rfl, rfl, hc⟩
      · cases hx
    · cases hx
  · cases hx
def xgm (w : Jvm.Cond) : Prop := w ∈ xG
theorem xgood {w0 : Jvm.Cond} (h : w0 ∈ xG) : GoodIn xG (w0 :: xG) := by
  intro w hw
  have h1 : w ∈ xG := by
    rcases List.mem_cons.mp hw with rfl | hw
    · exact h
    · exact hw
  exact ⟨h1, good_of_word (List.mem_filter.mp h1).2⟩
section XR
variable {p : Program} {l : Launch} {e : Env} {R : Room} {s : State} {m : MethodId} {args : Array Value} {below : List Frame} {meth : Method} {c : Code} {H : Heap} {locs : List Loc} {cells slots : Nat} {Q : State → Prop}
variable {cc : ByteArray} {pc nL mc ms : Nat} {ls : Array Slot} {ad : Nat → Nat} {D : va_G} {dA : Nat → ClassId} {base : Nat} {xe : Nat → Option (Nat × (Nat → Int32))} {own : String}
/-- behind a call -/
theorem xcall_ok {st0 rest : List Value} {a : Array Value} {r : Option Value} {h1 : xS} (hr : va_Run p l e R s m args below meth c H locs cells slots mc ms (F0 m pc ls st0) rest (xQc D dA ad base xe r h1 a) (fun q => base ≤ q)) (hS : va_S (fun q => base ≤ q) s.heap H locs)
    (kk : ∀ H1 locs1, xHO D dA ad base xe h1 H1 → va_S (fun q => base ≤ q) s.heap H1 locs1 → W p l e R s m args below meth c H1 locs1 (cells + mc) (slots + ms) Q (F0 m (pc + 3) ls ((r.map (xsh ad)).toList ++ rest))) : W p l e R s m args below meth c H locs cells slots Q (F0 m pc ls st0) := by
  intro T hT X
  obtain ⟨v, st₀, t, T', L, h0, X', hL, e1, e2, ⟨hv, hH1, hz, hk⟩, st⟩ := hr T hT X
  cases hv
  rw [h0] at hz hk
  obtain ⟨t2, a1, b1⟩ := kk T'.heap (locs ++ L) (by rw [e1]; exact hH1)
    ⟨Nat.le_trans hS.1 (by rw [e1]; exact hz), fun q h1 h2 => by rw [e1, hk q (Nat.lt_of_lt_of_le h1 hS.1) h2]; exact hS.2.1 q h1 h2, fun q hq => by
      rcases List.mem_append.mp hq with h | h
      · exact hS.2.2 q h
      · exact hL q h⟩ T' rfl X'
  exact ⟨t2, st t2 a1, b1⟩
end XR
end
section
/-! CALLS THAT ARE ONE STEP -/
section XB
variable {p : Program} {l : Launch} {e : Env} {R : Room} {s : State} {m : MethodId} {args : Array Value} {below : List Frame} {meth : Method} {c : Code} {H : Heap} {locs : List Loc} {cells slots : Nat} {Q : State → Prop}
variable {cc : ByteArray} {pc nL : Nat} {ls : Array Slot} {ad : Nat → Nat} {D : va_G} {dA : Nat → ClassId} {base : Nat} {xe : Nat → Option (Nat × (Nat → Int32))} {own : String}
theorem xcopy_ok (S : CallFix p m c cc nL s args xG own) (hsz : ls.size = nL) (hK : va_K D xCl (xtys dA) s) {h : xS} (hH : xHO D dA ad base xe h H) (hS : va_S (fun q => base ≤ q) s.heap H locs) {index : Nat} (hlink : (Jvm.Cond.methodLink own index arraycopyName).before args s = true) (hnat : (Jvm.Cond.native arraycopyName).before args s = true) (hstat : (Jvm.Cond.static arraycopyName).before args s = true) (hini : (Jvm.Cond.initialized "java/lang/System").before args s = true)
    {a a0 : Nat} {rest : List Value} (hne : a ≠ a0) (hk : (h.1 a).1 = 100) (hk0 : (h.1 a0).1 = 100)
    {sp dp n : Int32} (h1 : ¬ sp < 0) (h2 : ¬ dp < 0) (h3 : ¬ n < 0) (h4 : sp.toNatClampNeg + n.toNatClampNeg ≤ (h.1 a0).2) (h5 : dp.toNatClampNeg + n.toNatClampNeg ≤ (h.1 a).2)
    (hframes : 1 ≤ R.frames) (hlocals : (rest.map fun v => v.category).sum + (nativeFrameWords "java/lang/System" "arraycopy" 5 + 11) ≤ R.locals) (hdg : decode cc pc = .ok (.invokestatic index, 3))
    (kk : ∀ (H1 : Heap) (locs1 : List Loc), xHO D dA ad base xe (h.1, h.2.1, va_up h.2.2.1 a (va_cpy (h.2.2.1 a0) (h.2.2.1 a) sp.toNatClampNeg dp.toNatClampNeg n.toNatClampNeg), h.2.2.2) H1 → va_S (fun q => base ≤ q) s.heap H1 locs1 → W p l e R s m args below meth c H1 locs1 cells slots Q (F0 m (pc + 3) ls rest)) : W p l e R s m args below meth c H locs cells slots Q (F0 m pc ls (.int n :: .int dp :: .ref (ad a) :: .int sp :: .ref (ad a0) :: rest)) := by
  obtain ⟨hexec, hb, hml, hown, hts⟩ := S
  have nn : ∀ z : Int32, ¬ z < 0 → z.toInt = (z.toNatClampNeg : Int) := by
    intro z hz
    have hz0 : (0 : Int) ≤ z.toInt := by
      have := Int32.not_lt.mp hz
      simpa using Int32.le_iff_toInt_le.mp this
    show z.toInt = ((z.toInt.toNat : Nat) : Int)
    omega
  have hoa : xown h a := ⟨by omega, by omega⟩
  obtain ⟨⟨c1, -⟩, hba, hla⟩ := hH.1 a hoa
  obtain ⟨⟨c0, -⟩, -, -⟩ := hH.1 a0 ⟨by omega, by omega⟩
  intro T hT X
  have hc0 : H[ad a0]? = some (vp_cell (dA 100) ((h.1 a0).2, .inl (h.2.2.1 a0))) := c0 hk0
  have hc1 : H[ad a]? = some (vp_cell (dA 100) ((h.1 a).2, .inl (h.2.2.1 a))) := c1 hk
  obtain ⟨-, k0, hk0', cm0, hkk0⟩ := (hK.2 0 _ rfl).1 (h.1 a0).2 (fun j => .int (h.2.2.1 a0 j))
  obtain ⟨-, k1, hk1', cm1, hkk1⟩ := (hK.2 0 _ rfl).1 (h.1 a).2 (fun j => .int (h.2.2.1 a j))
  obtain ⟨vm', X', step⟩ := X.arraycopy hexec hown hlink hnat hstat hini (src := ad a0) (dst := ad a) (cs := vp_cell (dA 100) ((h.1 a0).2, .inl (h.2.2.1 a0))) (cd := vp_cell (dA 100) ((h.1 a).2, .inl (h.2.2.1 a))) (srcPos := sp) (destPos := dp) (n := n) (by rw [hT]; exact hc0) (by rw [hT]; exact hc1)
    (fun _ h => by cases h) (fun _ h => by cases h) (fun h => by cases h) (fun h => by cases h) hk0' hk1' hkk0 hkk1 (show (refKind FieldType.int != refKind FieldType.int || !refKind FieldType.int && FieldType.int != FieldType.int) = false by decide) h1 h2 h3
    (by rw [nn sp h1, nn n h3]; show ¬ _ > ((arrV (dA 100) (h.1 a0).2 (fun j => .int (h.2.2.1 a0 j))).slots.size : Int); rw [arrV_size]; omega)
    (by rw [nn dp h2, nn n h3]; show ¬ _ > ((arrV (dA 100) (h.1 a).2 (fun j => .int (h.2.2.1 a j))).slots.size : Int); rw [arrV_size]; omega)
    (fun vm₁ _ i hi => by
      have e : (vp_cell (dA 100) ((h.1 a0).2, .inl (h.2.2.1 a0))).slots.getD (sp.toNatClampNeg + i) .null = .int (h.2.2.1 a0 (sp.toNatClampNeg + i)) := by
        show (arrV (dA 100) (h.1 a0).2 (fun j => .int (h.2.2.1 a0 j))).slots.getD _ _ = _
        rw [Array.getD_eq_getD_getElem?, arrV_read _ _ (by omega)]
        rfl
      refine ⟨?_, ?_⟩
      · rw [e]
        rfl
      · rw [e]
        exact trivial)
    (g := F0 m pc ls (.int n :: .int dp :: .ref (ad a) :: .int sp :: .ref (ad a0) :: rest)) rfl (by rw [hml]; exact hsz) (rest := rest) rfl (by rw [hb]; exact hdg) hframes (by show 2 * 0 + _ + _ ≤ _; omega)
  have e1 : copied (vp_cell (dA 100) ((h.1 a0).2, .inl (h.2.2.1 a0))) (vp_cell (dA 100) ((h.1 a).2, .inl (h.2.2.1 a))) sp dp n = vp_cell (dA 100) ((h.1 a).2, .inl (va_cpy (h.2.2.1 a0) (h.2.2.1 a) sp.toNatClampNeg dp.toNatClampNeg n.toNatClampNeg)) := va_copied (fun z => .int z) (dA 100) (dA 100) (h.2.2.1 a0) (h.2.2.1 a) h4
  rw [e1] at X' step
  have hheap : ((T.setVm vm').setCell (ad a) (vp_cell (dA 100) ((h.1 a).2, .inl (va_cpy (h.2.2.1 a0) (h.2.2.1 a) sp.toNatClampNeg dp.toNatClampNeg n.toNatClampNeg)))).heap = H.setIfInBounds (ad a) (vp_cell (dA 100) ((h.1 a).2, .inl (va_cpy (h.2.2.1 a0) (h.2.2.1 a) sp.toNatClampNeg dp.toNatClampNeg n.toNatClampNeg))) := by rw [← hT]; rfl
  have oq : ∀ q : Nat, q ≠ ad a → (H.setIfInBounds (ad a) (vp_cell (dA 100) ((h.1 a).2, .inl (va_cpy (h.2.2.1 a0) (h.2.2.1 a) sp.toNatClampNeg dp.toNatClampNeg n.toNatClampNeg))))[q]? = H[q]? := fun q hq => by simp [Array.getElem?_setIfInBounds, Ne.symm hq]
  obtain ⟨t, a1, b1⟩ := kk _ _ (hH.put (h1 := (h.1, h.2.1, va_up h.2.2.1 a (va_cpy (h.2.2.1 a0) (h.2.2.1 a) sp.toNatClampNeg dp.toNatClampNeg n.toNatClampNeg), h.2.2.2)) hoa rfl rfl (fun b hb => ⟨va_up_ne _ _ hb, rfl, rfl⟩) (by simp) oq ⟨fun _ => (by
      show (H.setIfInBounds (ad a) _)[ad a]? = _
      rw [Array.getElem?_setIfInBounds, if_pos rfl, if_pos hla]
      simp only [va_up_self]
      rfl), (fun hz => by have : (h.1 a).1 = 101 := hz; omega), (fun hz => by have : (h.1 a).1 = 102 := hz; omega), (fun q h0 hq => by
      have hq : xCl[(h.1 a).1 - 1]? = some q := hq
      rw [hk] at hq; simp [xCl] at hq)⟩) ⟨by simp; exact hS.1, fun q g1 g2 => by
      rw [oq q (fun e => g2 (by rw [e]; exact hba))]
      exact hS.2.1 q g1 g2, fun q hq => by
      rcases List.mem_append.mp hq with h | h
      · exact hS.2.2 q h
      · obtain ⟨z, -, hz⟩ := List.mem_map.mp h
        rw [← hz]
        exact hba⟩ _ hheap X'
  exact ⟨t, step t a1, b1⟩
def xbw (own : String) (ins : Instr) (r1 : Nat) : Prop := match ins with
  | .invokestatic i => (r1 = 1000 → Jvm.Cond.methodLink own i Lib.Math.max.name ∈ xG ∧ Jvm.Cond.static Lib.Math.max.name ∈ xG ∧ Jvm.Cond.initialized "java/lang/Math" ∈ xG ∧ Jvm.Cond.code Lib.Math.max.name Lib.Math.max.code 2 (some .int) ∈ xG) ∧
      (r1 = 1001 → Jvm.Cond.methodLink own i Lib.Math.min.name ∈ xG ∧ Jvm.Cond.static Lib.Math.min.name ∈ xG ∧ Jvm.Cond.initialized "java/lang/Math" ∈ xG ∧ Jvm.Cond.code Lib.Math.min.name Lib.Math.min.code 2 (some .int) ∈ xG) ∧
      (r1 = 1002 → Jvm.Cond.methodLink own i arraycopyName ∈ xG ∧ Jvm.Cond.native arraycopyName ∈ xG ∧ Jvm.Cond.static arraycopyName ∈ xG ∧ Jvm.Cond.initialized "java/lang/System" ∈ xG)
  | .invokespecial i => r1 = 1003 → Jvm.Cond.methodLink own i Lib.objectInit ∈ xG ∧ Jvm.Cond.instanceMethod Lib.objectInit ∈ xG ∧ Jvm.Cond.code Lib.objectInit ⟨#[0xb1]⟩ 1 none ∈ xG
  | _ => True
set_option maxHeartbeats 4000000 in
theorem xbj_ok (S : CallFix p m c cc nL s args xG own) (hsz : ls.size = nL) (hEnv : xEnv D dA ad base xe s) {h h1 : xS} (hH : xHO D dA ad base xe h H) (hS : va_S (fun q => base ≤ q) s.heap H locs) {ins : Instr} {r1 : Nat} (hd : decode cc pc = .ok (ins, xlen ins)) (hw : xbw own ins r1) {st st' : List Value} (hx : xbj ins r1 st h = some (st', h1)) (hsum : xsum st' ≤ 9) (hframes : 1 ≤ R.frames) (hlocals : 39 ≤ R.locals) (hc : cells ≤ R.cells) (hs : slots ≤ R.slots)
    (kk : ∀ (H1 : Heap) (locs1 : List Loc), xHO D dA ad base xe h1 H1 → va_S (fun q => base ≤ q) s.heap H1 locs1 → W p l e R s m args below meth c H1 locs1 cells slots Q (F0 m (pc + 3) ls (st'.map (xsh ad)))) : W p l e R s m args below meth c H locs cells slots Q (F0 m pc ls (st.map (xsh ad))) := by
  have hcat : ∀ r : List Value, ((r.map (xsh ad)).map fun v => v.category).sum = xsum r := by
    intro r
    unfold xsum
    rw [List.map_map]
    congr 1
    apply List.map_congr_left
    intro v _
    exact xsh_cat ad v
  have S0 := S
  obtain ⟨hexec, hb, hml, hown, hts⟩ := S
  unfold xbj at hx
  split at hx
  · rename_i i
    obtain ⟨w1, w2, w3⟩ := hw
    split at hx
    · cases hx
    · unfold xbi at hx
      split at hx
      · rename_i hr
        obtain ⟨v1, v2, v3, v4⟩ := w1 hr
        split at hx
        · rename_i y x r
          cases hx
          refine va_mmax hexec hb (by rw [hml, hsz]) hown (hts _ v1) (hts _ v2) (hts _ v3) (hts _ v4) hframes ?_ hc hs hd (kk _ _ hH hS)
          rw [hcat]
          have : xsum (.int (if x < y then y else x) :: r) = 1 + xsum r := rfl
          omega
        · cases hx
      · split at hx
        · rename_i hr
          obtain ⟨v1, v2, v3, v4⟩ := w2 hr
          split at hx
          · rename_i y x r
            cases hx
            refine va_mmin hexec hb (by rw [hml, hsz]) hown (hts _ v1) (hts _ v2) (hts _ v3) (hts _ v4) hframes ?_ hc hs hd (kk _ _ hH hS)
            rw [hcat]
            have : xsum (.int (if y < x then y else x) :: r) = 1 + xsum r := rfl
            omega
          · cases hx
        · split at hx
          · rename_i hr
            obtain ⟨v1, v2, v3, v4⟩ := w3 hr
            split at hx
            · rename_i n dp a sp a0 r
              split at hx
              · rename_i hcd
                obtain ⟨⟨g1, g2, g3⟩, g4, g5, g6, g7, g8⟩ := hcd
                cases hx
                refine xcopy_ok S0 hsz hEnv.1.1 hH hS (hts _ v1) (hts _ v2) (hts _ v3) (hts _ v4) g1 g2 g3 g4 g5 g6 g7 g8 hframes ?_ hd kk
                rw [hcat]
                have : nativeFrameWords "java/lang/System" "arraycopy" 5 + 11 ≤ 30 := by decide
                omega
              · cases hx
            · cases hx
          · cases hx
  · rename_i i
    split at hx
    · rename_i hr
      subst hr
      obtain ⟨v1, v2, v3⟩ := hw rfl
      unfold xbi at hx
      rw [if_neg (by decide), if_neg (by decide), if_neg (by decide), if_pos rfl] at hx
      split at hx
      · rename_i a r
        cases hx
        refine W.objInit hexec hb hown (hts _ v1) (hts _ v2) (hts _ v3) rfl (by rw [hml]; exact hsz) rfl hd hframes ?_ (kk _ _ hH hS)
        show 2 * 0 + _ + 12 ≤ _
        rw [hcat]
        omega
      · cases hx
    · cases hx
  · cases hx
end XB
end
section
/-! A RUN OF THE LIGHT MACHINE IS A RUN OF THE MACHINE -/
abbrev xnm (c : String) : Prop := c ≠ "java/lang/invoke/MethodHandle" ∧ c ≠ "java/lang/invoke/VarHandle"
def xcw (own : String) (ins : Instr) (r1 r2 : Nat) : Prop := match ins with
  | .invokestatic i => r1 < 1000 → r1 ≠ xlaw ∧ ∃ y cc ret ini, xmt r1 = some (y, cc, ret, ini) ∧ Jvm.Cond.static y ∈ xG ∧ Jvm.Cond.initialized y.cls ∈ xG ∧ (y.cls ≠ "java/lang/invoke/MethodHandle" ∧ y.cls ≠ "java/lang/invoke/VarHandle" ∧ (parseMethodDescriptor y.desc).map (fun d => d.parameters.length) = some r2) ∧ (Jvm.Cond.methodLink own i y ∈ xG ∨ ∃ host, Jvm.Cond.methodLinkNest own i y host ∈ xnw)
  | .invokespecial i => r1 < 1000 → r1 ≠ xlaw ∧ 1 ≤ r2 ∧ ∃ y cc ini, xmt r1 = some (y, cc, none, ini) ∧ y.name = "<init>" ∧ Jvm.Cond.instanceMethod y ∈ xG ∧ Jvm.Cond.initialized y.cls ∈ xG ∧ (y.cls ≠ "java/lang/invoke/MethodHandle" ∧ y.cls ≠ "java/lang/invoke/VarHandle" ∧ (parseMethodDescriptor y.desc).map (fun d => d.parameters.length) = some (r2 - 1)) ∧ (Jvm.Cond.methodLink own i y ∈ xG ∨ ∃ host, Jvm.Cond.methodLinkNest own i y host ∈ xnw)
  | .invokevirtual i => 1 ≤ r2 ∧ ∀ k j, xtg r1 k = some j → j ≠ xlaw ∧ ∃ y cc ret ini q, xmt j = some (y, cc, ret, ini) ∧ k ≠ 0 ∧ k < 100 ∧ xCl[k - 1]? = some q ∧ Jvm.Cond.instanceMethod y ∈ xG ∧ Jvm.Cond.initialized y.cls ∈ xG ∧
      ((Jvm.Cond.methodLink own i y ∈ xG ∧ Jvm.Cond.selects q.1 y y ∈ xG ∧ y.cls ≠ "java/lang/invoke/MethodHandle" ∧ y.cls ≠ "java/lang/invoke/VarHandle" ∧ (parseMethodDescriptor y.desc).map (fun d => d.parameters.length) = some (r2 - 1)) ∨
       ∃ (x : MethodName) (owner : String), Jvm.Cond.methodLink own i x ∈ xG ∧ Jvm.Cond.sameMethod x.cls owner x.name x.desc ∈ xG ∧ Jvm.Cond.selects q.1 x y ∈ xG ∧ (owner ≠ "java/lang/invoke/MethodHandle" ∧ owner ≠ "java/lang/invoke/VarHandle" ∧ (parseMethodDescriptor x.desc).map (fun d => d.parameters.length) = some (r2 - 1)) ∧
         (Jvm.Cond.declares ⟨owner, x.name, x.desc⟩ ∈ xnw ∨ (Jvm.Cond.instanceMethod ⟨owner, x.name, x.desc⟩ ∈ xG ∧ ∃ b m r, Jvm.Cond.code ⟨owner, x.name, x.desc⟩ b m r ∈ xG)))
  | _ => True
def xtw (own : String) (ins : Instr) (r1 : Nat) : Prop := match ins with
  | .invokestatic i => r1 = 1004 → own = "BestParsesLaw" ∧ Jvm.Cond.methodLink own i ⟨"BestParsesLaw", "trier", "(LBestParses;I[J)I"⟩ ∈ xG
  | _ => True
def xE (own : String) (ini : Bool) (cc : ByteArray) (e : Nat × xI) : Prop := decode cc e.1 = .ok (e.2.1, e.2.2.1) ∧ ((∃ a b d o, e.2.1 = .tableswitch a b d o) ∨ e.2.2.1 = xlen e.2.1) ∧ xcon xG own e.2.1 e.2.2.2.1 ∧ xbrk e.2.1 e.2.2.2.1 e.1 ∧ xhw xsd own ini e.2.1 e.2.2.2.1 e.2.2.2.2 ∧ xaw own e.2.1 e.2.2.2.1 ∧ xbw own e.2.1 e.2.2.2.1 ∧ xcw own e.2.1 e.2.2.2.1 e.2.2.2.2 ∧ xtw own e.2.1 e.2.2.2.1
def xMok (i : Nat) (t : xMT) : Prop := plainName t.1.cls = true ∧ (i ≠ xlaw → Jvm.Cond.code t.1 t.2.1 (xnl i) t.2.2.1 ∈ xG) ∧ xnl i ≤ 20 ∧ (xrt i = 0 → t.2.2.1 = none) ∧ (xrt i = 1 → t.2.2.1 = some .int) ∧ (xrt i = 2 → t.2.2.1 = some .long) ∧ (xrt i = 3 → t.2.2.1 = some .boolean) ∧ (t.2.2.2 = true → t.1.name = "<init>") ∧ ∀ e ∈ xcode i, xE t.1.cls t.2.2.2 t.2.1 e
def xVal : Prop := ∀ i t, xmt i = some t → xMok i t
/-- the law's trier, as a step -/
def xHT (l : Launch) (D : va_G) (dA : Nat → ClassId) (ad : Nat → Nat) (base : Nat) (xe : Nat → Option (Nat × (Nat → Int32))) : Prop :=
  ∀ (p : Program) (e : Env) (R : Room) (s : State) (m : MethodId) (args : Array Value) (below : List Frame) (meth : Method) (c : Code) (H : Heap) (locs : List Loc) (cells slots : Nat) (Q : State → Prop) (cc : ByteArray) (nL : Nat) (ls : Array Slot) (pc i : Nat) (st st' : List Value) (h h1 : xS),
    CallFix p m c cc nL s args xG "BestParsesLaw" → ls.size = nL → xEnv D dA ad base xe s → xHO D dA ad base xe h H → va_S (fun q => base ≤ q) s.heap H locs → decode cc pc = .ok (.invokestatic i, 3) → Jvm.Cond.methodLink "BestParsesLaw" i ⟨"BestParsesLaw", "trier", "(LBestParses;I[J)I"⟩ ∈ xG → xtr st h = some (st', h1) → 6 ≤ R.frames → 39 * 6 ≤ R.locals → xsum st' ≤ 9 → cells + xcT ≤ R.cells → slots + xsT ≤ R.slots →
    (∀ (H1 : Heap) (locs1 : List Loc), xHO D dA ad base xe h1 H1 → va_S (fun q => base ≤ q) s.heap H1 locs1 → W p l e R s m args below meth c H1 locs1 (cells + xcT) (slots + xsT) Q (F0 m (pc + 3) ls (st'.map (xsh ad)))) → W p l e R s m args below meth c H locs cells slots Q (F0 m pc ls (st.map (xsh ad)))
theorem xst1_len {L L' : xL} {i : Nat} {v : Value} (hs : xst1 L i v = some L') : L'.length = L.length := by
  unfold xst1 at hs
  split at hs
  · cases hs; simp [xclr_len]
  · cases hs
theorem xst2_len {L L' : xL} {i : Nat} {v : Value} (hs : xst2 L i v = some L') : L'.length = L.length := by
  unfold xst2 at hs
  split at hs
  · cases hs; simp [xclr_len]
  · cases hs
theorem xlo_len {ins : Instr} {L L' : xL} {st st' : List Value} (h : xlo ins L st = some (L', st')) : L'.length = L.length := by
  unfold xlo at h
  split at h
  all_goals first
    | (split at h <;> first | (obtain ⟨L2, hs, he⟩ := Option.map_eq_some_iff.mp h; cases he; first | exact xst1_len hs | exact xst2_len hs) | (cases h; rfl) | cases h)
    | cases h
/-- what a run of the light machine says of a frame -/
def xOK (l : Launch) (D : va_G) (dA : Nat → ClassId) (ad : Nat → Nat) (base : Nat) (xe : Nat → Option (Nat × (Nat → Int32))) (n : Nat) : Prop :=
  ∀ (d i pc : Nat) (L : xL) (st : List Value) (h : xS) (r : Option Value) (h1 : xS), ex n d i pc L st h = some (r, h1) → ∀ (t : xMT), xmt i = some t →
    ∀ (p : Program) (e : Env) (R : Room) (s : State) (m : MethodId) (args : Array Value) (below : List Frame) (meth : Method) (c : Code) (H : Heap) (locs : List Loc) (cells slots : Nat) (Q : State → Prop) (ls : Array Slot),
    CallFix p m c t.2.1 (xnl i) s args xG t.1.cls → (t.2.2.2 = true → meth.name = "<init>") → d ≤ R.frames → 39 * d ≤ R.locals → xEnv D dA ad base xe s → xHO D dA ad base xe h H → va_S (fun q => base ≤ q) s.heap H locs → xLH ad ls L → L.length = xnl i →
    cells + (h1.2.1.2.1 - h.2.1.2.1) ≤ R.cells → slots + (h1.2.1.2.2 - h.2.1.2.2) ≤ R.slots →
    (∀ (H1 : Heap) (locs1 : List Loc) (pc1 : Nat) (ls1 : Array Slot), xHO D dA ad base xe h1 H1 → va_S (fun q => base ≤ q) s.heap H1 locs1 → decode t.2.1 pc1 = .ok (xri r, 1) → xrok i r → W p l e R s m args below meth c H1 locs1 (cells + (h1.2.1.2.1 - h.2.1.2.1)) (slots + (h1.2.1.2.2 - h.2.1.2.2)) Q (F0 m pc1 ls1 (r.toList.map (xsh ad)))) →
    W p l e R s m args below meth c H locs cells slots Q (F0 m pc ls (st.map (xsh ad)))
set_option maxHeartbeats 4000000 in
/-- a called method's contract -/
theorem xmet {l : Launch} {D : va_G} {dA : Nat → ClassId} {ad : Nat → Nat} {base : Nat} {xe : Nat → Option (Nat × (Nat → Int32))} {n : Nat} (ih : xOK l D dA ad base xe n) (hV : xVal) {d j : Nat} {vs : List Value} {h h1 : xS} {r : Option Value} (hx : ex n d j 0 (xent (xnl j) vs) [] h = some (r, h1)) (hlen : (xargs vs).length ≤ xnl j) {t : xMT} (ht : xmt j = some t) (hj : j ≠ xlaw) :
    Met l t.1 (Jvm.Cond.code t.1 t.2.1 (xnl j) t.2.2.1 :: xG) (xrm d (h1.2.1.2.1 - h.2.1.2.1) (h1.2.1.2.2 - h.2.1.2.2)) (xPc D dA ad base xe vs h) (xQc D dA ad base xe r h1) (h1.2.1.2.1 - h.2.1.2.1) (h1.2.1.2.2 - h.2.1.2.2) (fun q => base ≤ q) := by
  obtain ⟨v1, v2, v3, v4, v5, v6, v7, v8, v9⟩ := hV j t ht
  refine Met.ofW (cc := t.2.1) (maxL := xnl j) (ret := t.2.2.1) v1 rfl ?_
  intro p e s m args below meth c s₁ B hml hv
  obtain ⟨rfl, hH, hEnv⟩ := hv
  have hts := atoms_spec (ws := Jvm.Cond.code t.1 t.2.1 (xnl j) t.2.2.1 :: xG) B.pre
  have hlocks := B.notSynchronized
  have hr := B.returns
  rw [lg_entry_eq]
  refine ih d j 0 _ [] h r h1 hx t ht p e _ s m _ below meth c s.heap [] 0 0 _ _ ⟨B.exec, B.bytes, hml, findClass_of_methodNamed B.named, fun w hw => hts w (List.mem_cons_of_mem _ hw)⟩ (fun hi => (name_of_methodNamed B.named B.method).1.trans (v8 hi)) (Nat.le_refl _) (Nat.le_refl _) hEnv hH va_S.rf (xent_ok ad vs (xnl j) hlen) (xent_len _ _ hlen) (by rw [Nat.zero_add]; exact Nat.le_refl _) (by rw [Nat.zero_add]; exact Nat.le_refl _) ?_
  intro H1 locs1 pc1 ls1 hH1 hS1 hdg hrk
  rw [Nat.zero_add, Nat.zero_add]
  cases r with
  | none =>
    exact W.vret B.exec B.bytes (hr.trans (v4 hrk)) (fun t ht _ => ⟨rfl, by rw [ht]; exact hH1, hS1.F ht⟩) hS1.2.2 hdg hlocks
  | some v =>
    cases v with
    | int x =>
      rcases hrk with hrk | ⟨hrk, hx01⟩
      · exact W.iret B.exec B.bytes (hr.trans (v5 hrk)) (fun t ht _ => ⟨rfl, by rw [ht]; exact hH1, hS1.F ht⟩) hS1.2.2 hdg hlocks
      · exact W.zret (ty := .boolean) B.exec B.bytes (hr.trans (v7 hrk)) (by rcases hx01 with rfl | rfl <;> decide) (fun t ht _ => ⟨rfl, by rw [ht]; exact hH1, hS1.F ht⟩) hS1.2.2 hdg hlocks
    | long x => exact W.lret B.exec B.bytes (hr.trans (v6 hrk)) (fun t ht _ => ⟨rfl, by rw [ht]; exact hH1, hS1.F ht⟩) hS1.2.2 hdg hlocks
    | float x => exact absurd hrk id
    | double x => exact absurd hrk id
    | null => exact absurd hrk id
    | ref x => exact absurd hrk id
    | retAddr x => exact absurd hrk id
end
section
/-! A RUN OF THE LIGHT MACHINE IS A RUN OF THE MACHINE: the induction -/
theorem xcat_sh (ad : Nat → Nat) (r : List Value) : ((r.map (xsh ad)).map fun v => v.category).sum = xsum r := by
  unfold xsum
  rw [List.map_map]
  congr 1
  apply List.map_congr_left
  intro v _
  exact xsh_cat ad v
theorem xtake {st : List Value} {k : Nat} {v : Value} (hk : 1 ≤ k) (h : st[k - 1]? = some v) : (st.take k).reverse = v :: (st.take (k - 1)).reverse := by
  obtain ⟨j, rfl⟩ : ∃ j, k = j + 1 := ⟨k - 1, by omega⟩
  rw [Nat.add_sub_cancel] at h ⊢
  rw [List.take_succ, h]
  simp
theorem xstk (ad : Nat → Nat) (st : List Value) (k : Nat) : st.map (xsh ad) = (((st.take k).reverse).map (xsh ad)).reverse ++ (st.drop k).map (xsh ad) := by
  rw [← List.map_reverse, List.reverse_reverse, ← List.map_append, List.take_append_drop]
theorem xrv (ad : Nat → Nat) (r : Option Value) (st : List Value) : (r.map (xsh ad)).toList ++ st.map (xsh ad) = (r.toList ++ st).map (xsh ad) := by cases r <;> simp
set_option maxHeartbeats 8000000 in
theorem xrun {l : Launch} {D : va_G} {dA : Nat → ClassId} {ad : Nat → Nat} {base : Nat} {xe : Nat → Option (Nat × (Nat → Int32))} (hV : xVal) (hT : xHT l D dA ad base xe) : ∀ n, xOK l D dA ad base xe n
  | 0 => by
    intro d i pc L st h r h1 hx
    simp [ex] at hx
  | n + 1 => by
    have ih := xrun hV hT n
    intro d i pc L st h r h1 hx t ht p e R s m args below meth c H locs cells slots Q ls S hini hdR hlR hEnv hH hS hl hlen hc hs hret
    have hsz : ls.size = xnl i := hl.1.trans hlen
    have hmono := ex_le hx
    obtain ⟨x, hmem, hcases⟩ := ex_inv hx
    obtain ⟨ins, len, r1, r2⟩ := x
    have hVt := hV i t ht
    obtain ⟨e1, e2, e3, e4, e5, e6, e7, e8, e9⟩ := hVt.2.2.2.2.2.2.2.2 (pc, ins, len, r1, r2) hmem
    dsimp only at e1 e2 e3 e4 e5 e6 e7 e8 e9 hcases
    have hts := S.2.2.2.2
    have go : ∀ (pc' : Nat) (L' : xL) (st' : List Value) (h2 : xS) (H1 : Heap) (locs1 : List Loc) (ls1 : Array Slot) (cells1 slots1 : Nat), ex n d i pc' L' st' h2 = some (r, h1) → xHO D dA ad base xe h2 H1 → va_S (fun q => base ≤ q) s.heap H1 locs1 → xLH ad ls1 L' → L'.length = xnl i → cells1 + (h1.2.1.2.1 - h2.2.1.2.1) = cells + (h1.2.1.2.1 - h.2.1.2.1) → slots1 + (h1.2.1.2.2 - h2.2.1.2.2) = slots + (h1.2.1.2.2 - h.2.1.2.2) → W p l e R s m args below meth c H1 locs1 cells1 slots1 Q (F0 m pc' ls1 (st'.map (xsh ad))) := by
      intro pc' L' st' h2 H1 locs1 ls1 cells1 slots1 hx' hH1 hS1 hl1 hlen1 ec es
      refine ih d i pc' L' st' h2 r h1 hx' t ht p e R s m args below meth c H1 locs1 cells1 slots1 Q ls1 S hini hdR hlR hEnv hH1 hS1 hl1 hlen1 (by omega) (by omega) ?_
      intro H2 locs2 pc1 ls2 k1 k2 k3 k4
      rw [ec, es]
      exact hret H2 locs2 pc1 ls2 k1 k2 k3 k4
    rcases hcases with hr | ⟨j, d', q, hd, hw, g1, g2, g3, hc1, hc2⟩ | ⟨q, hq, g1, g2, hn⟩ | ⟨q, hq, g1, g2, hn⟩ | ⟨f, hf, hn⟩
    · obtain ⟨rfl, rfl, rfl, hrk⟩ := xret_inv hr
      have hl1 : len = 1 := by
        rcases e2 with ⟨_, _, _, _, hq⟩ | e2
        · exfalso
          unfold xri at hq
          split at hq <;> cases hq
        · rw [e2]
          unfold xri
          split <;> rfl
      subst hl1
      have := hret H locs pc ls hH hS e1 hrk
      rw [Nat.sub_self, Nat.sub_self] at this
      exact this
    · obtain ⟨rv, h2⟩ := q
      subst hd
      have m1 := ex_le hc1
      have m2 := ex_le hc2
      dsimp only at m1 m2 hc1 hc2
      have k1 : ∀ (rest' : List Value), rest' = (st.drop r2).map (xsh ad) → ∀ st0 a, va_Run p l e R s m args below meth c H locs cells slots (h2.2.1.2.1 - h.2.1.2.1) (h2.2.1.2.2 - h.2.1.2.2) (F0 m pc ls st0) rest' (xQc D dA ad base xe rv h2 a) (fun q => base ≤ q) → W p l e R s m args below meth c H locs cells slots Q (F0 m pc ls st0) := by
        intro rest' hrest st0 a hrun
        subst hrest
        refine xcall_ok hrun hS fun H1 locs1 hH1 hS1 => ?_
        rw [xrv]
        unfold xle at m1 m2
        exact go (pc + 3) L _ h2 H1 locs1 ls _ _ hc2 hH1 hS1 hl hlen (by omega) (by omega)
      have hPc : ∀ (U : State), U.heap = H → s.WarmedH U.vm → xPc D dA ad base xe (st.take r2).reverse h (((st.take r2).reverse).map (xsh ad)).toArray U := fun U hU hW => ⟨rfl, by rw [hU]; exact hH, hEnv.moved (by rw [hU]; exact hS) hW⟩
      have hroom : 2 * (F0 m pc ls (st.map (xsh ad))).monitorRoom + (((st.drop r2).map (xsh ad)).map fun v => v.category).sum ≤ 8 := lv_room (by rw [xcat_sh]; exact g2)
      have hcs : cells + (h2.2.1.2.1 - h.2.1.2.1) ≤ R.cells ∧ slots + (h2.2.1.2.2 - h.2.1.2.2) ≤ R.slots := by
        unfold xle at m1 m2
        constructor <;> omega
      unfold xwho at hw
      split at hw
      · rename_i idx
        split at hw
        · rename_i hlt
          cases hw
          obtain ⟨hj, y, cc', ret, ini, hmt, w1, w2, w3, w4⟩ := e8 hlt
          have hM := xmet ih hV hc1 g3 hmt hj
          have hcd := (hV _ _ hmt).2.1 hj
          have hnl := (hV _ _ hmt).2.2.1
          have hR : (xrm d' (h2.2.1.2.1 - h.2.1.2.1) (h2.2.1.2.2 - h.2.1.2.2)).frames + 1 ≤ R.frames ∧ 8 + (xnl r1 + 11) + (xrm d' (h2.2.1.2.1 - h.2.1.2.1) (h2.2.1.2.2 - h.2.1.2.2)).locals ≤ R.locals := by
            refine ⟨hdR, ?_⟩
            show 8 + (xnl r1 + 11) + 39 * d' ≤ R.locals
            omega
          have hln : (((st.take r2).reverse).map (xsh ad)).length = r2 := by simp; omega
          have hd3 : decode t.2.1 pc = .ok (.invokestatic idx, 3) := by
            rcases e2 with ⟨_, _, _, _, hq⟩ | e2
            · cases hq
            · rw [e2] at e1; exact e1
          rcases w4 with w4 | ⟨host, w4⟩
          · exact k1 _ rfl _ _ (va_runS S hM ⟨callB_of r2 hts (xgood hcd) rfl rfl rfl (hts _ w2) (hts _ w4) w3 hR, hts _ w1⟩ ⟨xPc_blind, hPc⟩ rfl hln hsz (xstk ad st r2) hroom hd3 hcs)
          · exact k1 _ rfl _ _ (va_runSN S hM ⟨va_cnB r2 hts (xgood hcd) rfl rfl rfl (hEnv.2.1 _ w4) (hts _ w2) w3 hR, hts _ w1, trivial⟩ ⟨xPc_blind, hPc⟩ rfl hln hsz (xstk ad st r2) hroom hd3 hcs)
        · cases hw
      · rename_i idx
        split at hw
        · rename_i b hb
          split at hw
          · rename_i hlt
            cases hw
            obtain ⟨hj, hr2, y, cc', ini, hmt, w0, w1, w2, w3, w4⟩ := e8 hlt
            have hM := xmet ih hV hc1 g3 hmt hj
            have hcd := (hV _ _ hmt).2.1 hj
            have hnl := (hV _ _ hmt).2.2.1
            have hR : (xrm d' (h2.2.1.2.1 - h.2.1.2.1) (h2.2.1.2.2 - h.2.1.2.2)).frames + 1 ≤ R.frames ∧ 8 + (xnl r1 + 11) + (xrm d' (h2.2.1.2.1 - h.2.1.2.1) (h2.2.1.2.2 - h.2.1.2.2)).locals ≤ R.locals := by
              refine ⟨hdR, ?_⟩
              show 8 + (xnl r1 + 11) + 39 * d' ≤ R.locals
              omega
            have hln : (((st.take (r2 - 1)).reverse).map (xsh ad)).length = r2 - 1 := by simp; omega
            have hvs := xtake hr2 hb
            have hstk := xstk ad st r2
            rw [hvs] at hPc hstk
            rw [hvs] at hM
            have hstk2 : st.map (xsh ad) = (((st.take (r2 - 1)).reverse).map (xsh ad)).reverse ++ .ref (ad b) :: (st.drop r2).map (xsh ad) := by
              rw [hstk]
              simp [xsh]
            have hd3 : decode t.2.1 pc = .ok (.invokespecial idx, 3) := by
              rcases e2 with ⟨_, _, _, _, hq⟩ | e2
              · cases hq
              · rw [e2] at e1; exact e1
            rcases w4 with w4 | ⟨host, w4⟩
            · exact k1 _ rfl _ _ (va_runI S hM ⟨callB_of (r2 - 1) hts (xgood hcd) rfl rfl rfl (hts _ w2) (hts _ w4) w3 hR, w0, hts _ w1⟩ ⟨xPc_blind, hPc⟩ rfl hln hsz hstk2 hroom hd3 hcs)
            · exact k1 _ rfl _ _ (va_runIN S hM ⟨va_cnB (r2 - 1) hts (xgood hcd) rfl rfl rfl (hEnv.2.1 _ w4) (hts _ w2) w3 hR, w0, hts _ w1⟩ ⟨xPc_blind, hPc⟩ rfl hln hsz hstk2 hroom hd3 hcs)
          · cases hw
        · cases hw
      · rename_i idx
        split at hw
        · rename_i b hb
          obtain ⟨hr2, e8⟩ := e8
          obtain ⟨hj, y, cc', ret, ini, q, hmt, hk0, hk1, hq, w1, w2, w3⟩ := e8 _ _ hw
          have hM := xmet ih hV hc1 g3 hmt hj
          have hcd := (hV _ _ hmt).2.1 hj
          have hnl := (hV _ _ hmt).2.2.1
          have hR : (xrm d' (h2.2.1.2.1 - h.2.1.2.1) (h2.2.1.2.2 - h.2.1.2.2)).frames + 1 ≤ R.frames ∧ 8 + (xnl j + 11) + (xrm d' (h2.2.1.2.1 - h.2.1.2.1) (h2.2.1.2.2 - h.2.1.2.2)).locals ≤ R.locals := by
            refine ⟨hdR, ?_⟩
            show 8 + (xnl j + 11) + 39 * d' ≤ R.locals
            omega
          have hln : (((st.take (r2 - 1)).reverse).map (xsh ad)).length = r2 - 1 := by simp; omega
          have hvs := xtake hr2 hb
          have hstk := xstk ad st r2
          rw [hvs] at hPc hstk
          rw [hvs] at hM
          have hstk2 : st.map (xsh ad) = (((st.take (r2 - 1)).reverse).map (xsh ad)).reverse ++ .ref (ad b) :: (st.drop r2).map (xsh ad) := by
            rw [hstk]
            simp [xsh]
          have hd3 : decode t.2.1 pc = .ok (.invokevirtual idx, 3) := by
            rcases e2 with ⟨_, _, _, _, hq⟩ | e2
            · cases hq
            · rw [e2] at e1; exact e1
          have hrecv : ∃ cellB : Cell, H[ad b]? = some cellB ∧ cellB.vm.isStatics = false ∧ s.vm.findClass q.1 = some cellB.cls := by
            obtain ⟨⟨-, -, -, co⟩, -, -⟩ := hH.1 b ⟨hk0, by omega⟩
            obtain ⟨cell, q1, q2, q3, q4⟩ := co q hk0 hq
            exact ⟨cell, q1, by rw [q3]; rfl, by rw [q2]; exact (hEnv.1.1.1 _ q hq).2.1⟩
          rcases w3 with ⟨w4, w5, w6⟩ | ⟨x, owner, w4, w5, w6, w7, w8⟩
          · exact k1 _ rfl _ _ (va_runV S hM ⟨callB_of (r2 - 1) hts (xgood hcd) rfl rfl rfl (hts _ w2) (hts _ w4) w6 hR, hts _ w1, hts _ w5⟩ ⟨xPc_blind, hrecv, hPc⟩ rfl hln hsz hstk2 hroom hd3 hcs)
          · have hdecl : va_Decl s ⟨owner, x.name, x.desc⟩ := by
              rcases w8 with w8 | ⟨w8, b0, m0, r0, w9⟩
              · exact va_Decl.abs (hEnv.2.1 _ w8)
              · exact va_Decl.of (hts _ w8) (hts _ w9)
            have hpar : ∀ sig, parseMethodDescriptor x.desc = some sig → r2 - 1 = sig.parameters.length := by
              intro sig hsg
              have h2 := w7.2.2
              rw [hsg] at h2
              exact (Option.some.inj h2).symm
            exact k1 _ rfl _ _ (va_runU S hM ⟨⟨rfl, rfl, hR.1, hR.2, pay_in hts (xgood hcd), List.mem_cons_self⟩, hts _ hcd, hts _ w2, ⟨w7.1, w7.2.1⟩, hpar, hts _ w4, hts _ w5, hdecl, hts _ w6, hts _ w1⟩ ⟨xPc_blind, hrecv, hPc⟩ rfl hln hsz hstk2 hroom hd3 hcs)
        · cases hw
      · cases hw
    · obtain ⟨st', h2⟩ := q
      dsimp only at hn g2
      have m2 := ex_le hn
      have hpl : h2.2.1 = h.2.1 := by
        unfold xbj at hq
        split at hq
        · split at hq
          · cases hq
          · exact xbi_pl hq
        · split at hq
          · exact xbi_pl hq
          · cases hq
        · cases hq
      have hd3 : decode t.2.1 pc = .ok (ins, xlen ins) := by
        rcases e2 with ⟨_, _, _, _, rfl⟩ | e2
        · simp [xbj] at hq
        · rw [e2] at e1; exact e1
      refine xbj_ok S hsz hEnv hH hS hd3 e7 hq g2 (by omega) (by omega) (by omega) (by omega) fun H1 locs1 hH1 hS1 => ?_
      exact go (pc + 3) L st' h2 H1 locs1 ls cells slots hn hH1 hS1 hl hlen (by rw [hpl]) (by rw [hpl])
    · obtain ⟨st', h2⟩ := q
      dsimp only at hn g2
      have m2 := ex_le hn
      dsimp only at m2
      unfold xbt at hq
      split at hq
      · rename_i idx
        split at hq
        · rename_i hr
          obtain ⟨w1, w2⟩ := e9 hr
          have hpl := xtr_pl hq
          have hd3 : decode t.2.1 pc = .ok (.invokestatic idx, 3) := by
            rcases e2 with ⟨_, _, _, _, hq⟩ | e2
            · cases hq
            · rw [e2] at e1; exact e1
          unfold xle at m2
          rw [w1] at S w2
          refine hT p e R s m args below meth c H locs cells slots Q t.2.1 (xnl i) ls pc idx st st' h h2 S hsz hEnv hH hS hd3 w2 hq (by omega) (by omega) g2 (by omega) (by omega) fun H1 locs1 hH1 hS1 => ?_
          exact go (pc + 3) L st' h2 H1 locs1 ls _ _ hn hH1 hS1 hl hlen (by omega) (by omega)
        · cases hq
      · cases hq
    · have m2 := ex_le hn
      dsimp only at m2
      unfold xle at m2
      unfold xstep at hf
      split at hf
      · rename_i st' ho
        cases hf
        have hd3 : decode t.2.1 pc = .ok (ins, xlen ins) := by
          rcases e2 with ⟨_, _, _, _, rfl⟩ | e2
          · simp [xop] at ho
          · rw [e2] at e1; exact e1
        exact xop_ok S.1 S.2.1 S.2.2.2.1 hts hd3 e3 ho (go _ _ _ _ _ _ _ _ _ hn hH hS hl hlen rfl rfl)
      · split at hf
        · rename_i q ho
          obtain ⟨L', st'⟩ := q
          cases hf
          have hd3 : decode t.2.1 pc = .ok (ins, xlen ins) := by
            rcases e2 with ⟨_, _, _, _, rfl⟩ | e2
            · simp [xlo] at ho
            · rw [e2] at e1; exact e1
          exact xlo_ok S.1 S.2.1 hd3 hl ho (fun ls' hl' => go _ _ _ _ _ _ _ _ _ hn hH hS hl' ((xlo_len ho).trans hlen) rfl rfl)
        · split at hf
          · rename_i q ho
            obtain ⟨pc', st'⟩ := q
            cases hf
            exact xbr_ok S.1 S.2.1 e1 e2 e4 ho (go _ _ _ _ _ _ _ _ _ hn hH hS hl hlen rfl rfl)
          · split at hf
            · rename_i q ho
              obtain ⟨st', h2⟩ := q
              cases hf
              have hd3 : decode t.2.1 pc = .ok (ins, xlen ins) := by
                rcases e2 with ⟨_, _, _, _, rfl⟩ | e2
                · simp [xhp] at ho
                · rw [e2] at e1; exact e1
              have hpl := xhp_pl ho
              exact xhp_ok S hEnv.1 hH hS hini hd3 e5 ho (fun H1 locs1 hH1 hS1 => go _ _ _ _ _ _ _ _ _ hn hH1 hS1 hl hlen (by rw [hpl]) (by rw [hpl]))
            · split at hf
              · rename_i q ho
                obtain ⟨st', h2, ds⟩ := q
                cases hf
                have hd3 : decode t.2.1 pc = .ok (ins, xlen ins) := by
                  rcases e2 with ⟨_, _, _, _, rfl⟩ | e2
                  · simp [xal] at ho
                  · rw [e2] at e1; exact e1
                have hpl := xal_pl ho
                dsimp only at m2 hn
                exact xal_ok S hEnv.1 hH hS hEnv.2.2 hd3 e6 ho (by omega) (by omega) (fun H1 hH1 hS1 => go _ _ _ _ _ _ _ _ _ hn hH1 hS1 hl hlen (by omega) (by omega))
              · cases hf
end
