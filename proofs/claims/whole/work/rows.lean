section
-- ===== PART A: goes FIRST, ahead of the names: the tables' words, and 'selects' of the private methods out of them =====
/-- a private method of a class that the tables say can be made, by its rows of tables_1 -/
def lw_okq (q : MethodName × Nat) : Prop := (q.1.cls ≠ "java/lang/invoke/MethodHandle" ∧ q.1.cls ≠ "java/lang/invoke/VarHandle") ∧ Cond.instantiable q.1.cls q.2 ∈ tables_1 ∧ Cond.privateMethod q.1 ∈ tables_1 ∧ Cond.instanceMethod q.1 ∈ tables_1
theorem lw_p0 : lw_okq (⟨"java/lang/Throwable", "fillInStackTrace", "(I)Ljava/lang/Throwable;"⟩, 6) := ⟨⟨by decide +kernel, by decide +kernel⟩, List.mem_of_getElem? (i := 151) (by decide +kernel), List.mem_of_getElem? (i := 149) (by decide +kernel), List.mem_of_getElem? (i := 150) (by decide +kernel)⟩
theorem lw_p1 : lw_okq (⟨"BestParses$Text", "noteCopies", "(III)V"⟩, 7) := ⟨⟨by decide +kernel, by decide +kernel⟩, List.mem_of_getElem? (i := 44) (by decide +kernel), List.mem_of_getElem? (i := 679) (by decide +kernel), List.mem_of_getElem? (i := 680) (by decide +kernel)⟩
theorem lw_p2 : lw_okq (⟨"BestParses", "findBest", "(LBestParses$Parse;)V"⟩, 12) := ⟨⟨by decide +kernel, by decide +kernel⟩, List.mem_of_getElem? (i := 30) (by decide +kernel), List.mem_of_getElem? (i := 716) (by decide +kernel), List.mem_of_getElem? (i := 717) (by decide +kernel)⟩
theorem lw_p3 : lw_okq (⟨"BestParses$LatestForm", "begin", "(I)V"⟩, 12) := ⟨⟨by decide +kernel, by decide +kernel⟩, List.mem_of_getElem? (i := 495) (by decide +kernel), List.mem_of_getElem? (i := 726) (by decide +kernel), List.mem_of_getElem? (i := 727) (by decide +kernel)⟩
theorem lw_p4 : lw_okq (⟨"BestParses$Costs", "lengthCost", "(I)I"⟩, 5) := ⟨⟨by decide +kernel, by decide +kernel⟩, List.mem_of_getElem? (i := 91) (by decide +kernel), List.mem_of_getElem? (i := 734) (by decide +kernel), List.mem_of_getElem? (i := 735) (by decide +kernel)⟩
theorem lw_p5 : lw_okq (⟨"BestParses$Costs", "distanceCost", "(I)I"⟩, 5) := ⟨⟨by decide +kernel, by decide +kernel⟩, List.mem_of_getElem? (i := 91) (by decide +kernel), List.mem_of_getElem? (i := 745) (by decide +kernel), List.mem_of_getElem? (i := 746) (by decide +kernel)⟩
theorem lw_p6 : lw_okq (⟨"BestParses$LatestForm", "goFrom", "(II)V"⟩, 12) := ⟨⟨by decide +kernel, by decide +kernel⟩, List.mem_of_getElem? (i := 495) (by decide +kernel), List.mem_of_getElem? (i := 759) (by decide +kernel), List.mem_of_getElem? (i := 760) (by decide +kernel)⟩
theorem lw_p7 : lw_okq (⟨"BestParses$LatestForm", "copiesWereLed", "()Z"⟩, 12) := ⟨⟨by decide +kernel, by decide +kernel⟩, List.mem_of_getElem? (i := 495) (by decide +kernel), List.mem_of_getElem? (i := 764) (by decide +kernel), List.mem_of_getElem? (i := 765) (by decide +kernel)⟩
theorem lw_p8 : lw_okq (⟨"BestParses$LatestForm", "leadByCopies", "()V"⟩, 12) := ⟨⟨by decide +kernel, by decide +kernel⟩, List.mem_of_getElem? (i := 495) (by decide +kernel), List.mem_of_getElem? (i := 768) (by decide +kernel), List.mem_of_getElem? (i := 769) (by decide +kernel)⟩
theorem lw_p9 : lw_okq (⟨"BestParses$LatestForm", "lead", "(IIIJ)V"⟩, 12) := ⟨⟨by decide +kernel, by decide +kernel⟩, List.mem_of_getElem? (i := 495) (by decide +kernel), List.mem_of_getElem? (i := 791) (by decide +kernel), List.mem_of_getElem? (i := 792) (by decide +kernel)⟩
theorem lw_p10 : lw_okq (⟨"BestParses$LatestForm", "makeRoom", "(I)Z"⟩, 12) := ⟨⟨by decide +kernel, by decide +kernel⟩, List.mem_of_getElem? (i := 495) (by decide +kernel), List.mem_of_getElem? (i := 795) (by decide +kernel), List.mem_of_getElem? (i := 796) (by decide +kernel)⟩
theorem lw_p11 : lw_okq (⟨"BestParses$LatestForm", "insert", "(IIJI)V"⟩, 12) := ⟨⟨by decide +kernel, by decide +kernel⟩, List.mem_of_getElem? (i := 495) (by decide +kernel), List.mem_of_getElem? (i := 799) (by decide +kernel), List.mem_of_getElem? (i := 800) (by decide +kernel)⟩
theorem lw_p12 : lw_okq (⟨"BestParses$LatestForm", "leadByAgain", "(I)V"⟩, 12) := ⟨⟨by decide +kernel, by decide +kernel⟩, List.mem_of_getElem? (i := 495) (by decide +kernel), List.mem_of_getElem? (i := 803) (by decide +kernel), List.mem_of_getElem? (i := 804) (by decide +kernel)⟩
theorem lw_p13 : lw_okq (⟨"BestParses$LatestForm", "tellSteps", "(LBestParses$Parse;)V"⟩, 12) := ⟨⟨by decide +kernel, by decide +kernel⟩, List.mem_of_getElem? (i := 495) (by decide +kernel), List.mem_of_getElem? (i := 822) (by decide +kernel), List.mem_of_getElem? (i := 823) (by decide +kernel)⟩
theorem lw_p14 : lw_okq (⟨"BestParses$OctetForm", "findFirst", "(I)V"⟩, 7) := ⟨⟨by decide +kernel, by decide +kernel⟩, List.mem_of_getElem? (i := 468) (by decide +kernel), List.mem_of_getElem? (i := 849) (by decide +kernel), List.mem_of_getElem? (i := 850) (by decide +kernel)⟩
theorem lw_p15 : lw_okq (⟨"BestParses$OctetForm", "lead", "(II)V"⟩, 7) := ⟨⟨by decide +kernel, by decide +kernel⟩, List.mem_of_getElem? (i := 468) (by decide +kernel), List.mem_of_getElem? (i := 853) (by decide +kernel), List.mem_of_getElem? (i := 854) (by decide +kernel)⟩
def lw_privs_1 : List (MethodName × Nat) := [(⟨"java/lang/Throwable", "fillInStackTrace", "(I)Ljava/lang/Throwable;"⟩, 6), (⟨"BestParses$Text", "noteCopies", "(III)V"⟩, 7), (⟨"BestParses", "findBest", "(LBestParses$Parse;)V"⟩, 12), (⟨"BestParses$LatestForm", "begin", "(I)V"⟩, 12), (⟨"BestParses$Costs", "lengthCost", "(I)I"⟩, 5), (⟨"BestParses$Costs", "distanceCost", "(I)I"⟩, 5), (⟨"BestParses$LatestForm", "goFrom", "(II)V"⟩, 12), (⟨"BestParses$LatestForm", "copiesWereLed", "()Z"⟩, 12), (⟨"BestParses$LatestForm", "leadByCopies", "()V"⟩, 12), (⟨"BestParses$LatestForm", "lead", "(IIIJ)V"⟩, 12), (⟨"BestParses$LatestForm", "makeRoom", "(I)Z"⟩, 12), (⟨"BestParses$LatestForm", "insert", "(IIJI)V"⟩, 12), (⟨"BestParses$LatestForm", "leadByAgain", "(I)V"⟩, 12), (⟨"BestParses$LatestForm", "tellSteps", "(LBestParses$Parse;)V"⟩, 12), (⟨"BestParses$OctetForm", "findFirst", "(I)V"⟩, 7), (⟨"BestParses$OctetForm", "lead", "(II)V"⟩, 7)]
theorem lw_r1 : ∀ q ∈ lw_privs_1, lw_okq q := List.forall_mem_cons.mpr ⟨lw_p0, List.forall_mem_cons.mpr ⟨lw_p1, List.forall_mem_cons.mpr ⟨lw_p2, List.forall_mem_cons.mpr ⟨lw_p3, List.forall_mem_cons.mpr ⟨lw_p4, List.forall_mem_cons.mpr ⟨lw_p5, List.forall_mem_cons.mpr ⟨lw_p6, List.forall_mem_cons.mpr ⟨lw_p7, List.forall_mem_cons.mpr ⟨lw_p8, List.forall_mem_cons.mpr ⟨lw_p9, List.forall_mem_cons.mpr ⟨lw_p10, List.forall_mem_cons.mpr ⟨lw_p11, List.forall_mem_cons.mpr ⟨lw_p12, List.forall_mem_cons.mpr ⟨lw_p13, List.forall_mem_cons.mpr ⟨lw_p14, List.forall_mem_cons.mpr ⟨lw_p15, fun _ h => absurd h List.not_mem_nil⟩⟩⟩⟩⟩⟩⟩⟩⟩⟩⟩⟩⟩⟩⟩⟩
theorem lw_p16 : lw_okq (⟨"BestParses$OctetForm", "tellSteps", "(LBestParses$Parse;)V"⟩, 7) := ⟨⟨by decide +kernel, by decide +kernel⟩, List.mem_of_getElem? (i := 468) (by decide +kernel), List.mem_of_getElem? (i := 860) (by decide +kernel), List.mem_of_getElem? (i := 861) (by decide +kernel)⟩
theorem lw_p17 : lw_okq (⟨"BestParses$SlotForm", "lead", "(III)V"⟩, 4) := ⟨⟨by decide +kernel, by decide +kernel⟩, List.mem_of_getElem? (i := 436) (by decide +kernel), List.mem_of_getElem? (i := 877) (by decide +kernel), List.mem_of_getElem? (i := 878) (by decide +kernel)⟩
theorem lw_p18 : lw_okq (⟨"BestParses$SlotForm", "tellSteps", "(LBestParses$Parse;)V"⟩, 4) := ⟨⟨by decide +kernel, by decide +kernel⟩, List.mem_of_getElem? (i := 436) (by decide +kernel), List.mem_of_getElem? (i := 882) (by decide +kernel), List.mem_of_getElem? (i := 883) (by decide +kernel)⟩
theorem lw_p19 : lw_okq (⟨"BestParses$Parse", "tellBack", "(III)V"⟩, 8) := ⟨⟨by decide +kernel, by decide +kernel⟩, List.mem_of_getElem? (i := 586) (by decide +kernel), List.mem_of_getElem? (i := 913) (by decide +kernel), List.mem_of_getElem? (i := 914) (by decide +kernel)⟩
theorem lw_p20 : lw_okq (⟨"BestParses$Stepper", "longerAhead", "(III)Z"⟩, 2) := ⟨⟨by decide +kernel, by decide +kernel⟩, List.mem_of_getElem? (i := 536) (by decide +kernel), List.mem_of_getElem? (i := 924) (by decide +kernel), List.mem_of_getElem? (i := 925) (by decide +kernel)⟩
theorem lw_p21 : lw_okq (⟨"BestParses$Stepper", "againAsLong", "(JII)I"⟩, 2) := ⟨⟨by decide +kernel, by decide +kernel⟩, List.mem_of_getElem? (i := 536) (by decide +kernel), List.mem_of_getElem? (i := 929) (by decide +kernel), List.mem_of_getElem? (i := 930) (by decide +kernel)⟩
theorem lw_p22 : lw_okq (⟨"BestParses$Costs", "countSymbols", "(LBestParses$Parse;LBestParses$Text;)V"⟩, 5) := ⟨⟨by decide +kernel, by decide +kernel⟩, List.mem_of_getElem? (i := 91) (by decide +kernel), List.mem_of_getElem? (i := 969) (by decide +kernel), List.mem_of_getElem? (i := 970) (by decide +kernel)⟩
theorem lw_p23 : lw_okq (⟨"BestParses$Costs", "countOne", "(II)V"⟩, 5) := ⟨⟨by decide +kernel, by decide +kernel⟩, List.mem_of_getElem? (i := 91) (by decide +kernel), List.mem_of_getElem? (i := 974) (by decide +kernel), List.mem_of_getElem? (i := 975) (by decide +kernel)⟩
theorem lw_p24 : lw_okq (⟨"BestParses$Costs", "fitClass", "(I)V"⟩, 5) := ⟨⟨by decide +kernel, by decide +kernel⟩, List.mem_of_getElem? (i := 91) (by decide +kernel), List.mem_of_getElem? (i := 978) (by decide +kernel), List.mem_of_getElem? (i := 979) (by decide +kernel)⟩
theorem lw_p25 : lw_okq (⟨"BestParses", "takeSpare", "()V"⟩, 12) := ⟨⟨by decide +kernel, by decide +kernel⟩, List.mem_of_getElem? (i := 30) (by decide +kernel), List.mem_of_getElem? (i := 992) (by decide +kernel), List.mem_of_getElem? (i := 993) (by decide +kernel)⟩
theorem lw_p26 : lw_okq (⟨"BestParses$Blocks", "findRest", "(II)V"⟩, 9) := ⟨⟨by decide +kernel, by decide +kernel⟩, List.mem_of_getElem? (i := 549) (by decide +kernel), List.mem_of_getElem? (i := 1023) (by decide +kernel), List.mem_of_getElem? (i := 1024) (by decide +kernel)⟩
theorem lw_p27 : lw_okq (⟨"BestParses$Blocks", "placeOf", "(I)I"⟩, 9) := ⟨⟨by decide +kernel, by decide +kernel⟩, List.mem_of_getElem? (i := 549) (by decide +kernel), List.mem_of_getElem? (i := 1028) (by decide +kernel), List.mem_of_getElem? (i := 1029) (by decide +kernel)⟩
theorem lw_p28 : lw_okq (⟨"BestParses$Blocks", "countOctet", "(I)I"⟩, 9) := ⟨⟨by decide +kernel, by decide +kernel⟩, List.mem_of_getElem? (i := 549) (by decide +kernel), List.mem_of_getElem? (i := 1032) (by decide +kernel), List.mem_of_getElem? (i := 1033) (by decide +kernel)⟩
theorem lw_p29 : lw_okq (⟨"BestParsesModel", "start", "()V"⟩, 47) := ⟨⟨by decide +kernel, by decide +kernel⟩, List.mem_of_getElem? (i := 1070) (by decide +kernel), List.mem_of_getElem? (i := 1078) (by decide +kernel), List.mem_of_getElem? (i := 1079) (by decide +kernel)⟩
theorem lw_p30 : lw_okq (⟨"BestParsesModel", "isCost", "(II)Z"⟩, 47) := ⟨⟨by decide +kernel, by decide +kernel⟩, List.mem_of_getElem? (i := 1070) (by decide +kernel), List.mem_of_getElem? (i := 1237) (by decide +kernel), List.mem_of_getElem? (i := 1238) (by decide +kernel)⟩
theorem lw_p31 : lw_okq (⟨"BestParsesModel", "best", "()V"⟩, 47) := ⟨⟨by decide +kernel, by decide +kernel⟩, List.mem_of_getElem? (i := 1070) (by decide +kernel), List.mem_of_getElem? (i := 1256) (by decide +kernel), List.mem_of_getElem? (i := 1257) (by decide +kernel)⟩
def lw_privs_2 : List (MethodName × Nat) := [(⟨"BestParses$OctetForm", "tellSteps", "(LBestParses$Parse;)V"⟩, 7), (⟨"BestParses$SlotForm", "lead", "(III)V"⟩, 4), (⟨"BestParses$SlotForm", "tellSteps", "(LBestParses$Parse;)V"⟩, 4), (⟨"BestParses$Parse", "tellBack", "(III)V"⟩, 8), (⟨"BestParses$Stepper", "longerAhead", "(III)Z"⟩, 2), (⟨"BestParses$Stepper", "againAsLong", "(JII)I"⟩, 2), (⟨"BestParses$Costs", "countSymbols", "(LBestParses$Parse;LBestParses$Text;)V"⟩, 5), (⟨"BestParses$Costs", "countOne", "(II)V"⟩, 5), (⟨"BestParses$Costs", "fitClass", "(I)V"⟩, 5), (⟨"BestParses", "takeSpare", "()V"⟩, 12), (⟨"BestParses$Blocks", "findRest", "(II)V"⟩, 9), (⟨"BestParses$Blocks", "placeOf", "(I)I"⟩, 9), (⟨"BestParses$Blocks", "countOctet", "(I)I"⟩, 9), (⟨"BestParsesModel", "start", "()V"⟩, 47), (⟨"BestParsesModel", "isCost", "(II)Z"⟩, 47), (⟨"BestParsesModel", "best", "()V"⟩, 47)]
theorem lw_r2 : ∀ q ∈ lw_privs_2, lw_okq q := List.forall_mem_cons.mpr ⟨lw_p16, List.forall_mem_cons.mpr ⟨lw_p17, List.forall_mem_cons.mpr ⟨lw_p18, List.forall_mem_cons.mpr ⟨lw_p19, List.forall_mem_cons.mpr ⟨lw_p20, List.forall_mem_cons.mpr ⟨lw_p21, List.forall_mem_cons.mpr ⟨lw_p22, List.forall_mem_cons.mpr ⟨lw_p23, List.forall_mem_cons.mpr ⟨lw_p24, List.forall_mem_cons.mpr ⟨lw_p25, List.forall_mem_cons.mpr ⟨lw_p26, List.forall_mem_cons.mpr ⟨lw_p27, List.forall_mem_cons.mpr ⟨lw_p28, List.forall_mem_cons.mpr ⟨lw_p29, List.forall_mem_cons.mpr ⟨lw_p30, List.forall_mem_cons.mpr ⟨lw_p31, fun _ h => absurd h List.not_mem_nil⟩⟩⟩⟩⟩⟩⟩⟩⟩⟩⟩⟩⟩⟩⟩⟩
theorem lw_p32 : lw_okq (⟨"BestParsesModel", "layOut", "()V"⟩, 47) := ⟨⟨by decide +kernel, by decide +kernel⟩, List.mem_of_getElem? (i := 1070) (by decide +kernel), List.mem_of_getElem? (i := 1260) (by decide +kernel), List.mem_of_getElem? (i := 1261) (by decide +kernel)⟩
theorem lw_p33 : lw_okq (⟨"BestParsesModel", "greatest", "()I"⟩, 47) := ⟨⟨by decide +kernel, by decide +kernel⟩, List.mem_of_getElem? (i := 1070) (by decide +kernel), List.mem_of_getElem? (i := 1264) (by decide +kernel), List.mem_of_getElem? (i := 1265) (by decide +kernel)⟩
theorem lw_p34 : lw_okq (⟨"BestParsesModel", "bestWide", "()V"⟩, 47) := ⟨⟨by decide +kernel, by decide +kernel⟩, List.mem_of_getElem? (i := 1070) (by decide +kernel), List.mem_of_getElem? (i := 1268) (by decide +kernel), List.mem_of_getElem? (i := 1269) (by decide +kernel)⟩
theorem lw_p35 : lw_okq (⟨"BestParsesModel", "clearLatest", "()V"⟩, 47) := ⟨⟨by decide +kernel, by decide +kernel⟩, List.mem_of_getElem? (i := 1070) (by decide +kernel), List.mem_of_getElem? (i := 1272) (by decide +kernel), List.mem_of_getElem? (i := 1273) (by decide +kernel)⟩
theorem lw_p36 : lw_okq (⟨"BestParsesModel", "comes", "(IIIII)V"⟩, 47) := ⟨⟨by decide +kernel, by decide +kernel⟩, List.mem_of_getElem? (i := 1070) (by decide +kernel), List.mem_of_getElem? (i := 1276) (by decide +kernel), List.mem_of_getElem? (i := 1277) (by decide +kernel)⟩
theorem lw_p37 : lw_okq (⟨"BestParsesModel", "isState", "(I)Z"⟩, 47) := ⟨⟨by decide +kernel, by decide +kernel⟩, List.mem_of_getElem? (i := 1070) (by decide +kernel), List.mem_of_getElem? (i := 1280) (by decide +kernel), List.mem_of_getElem? (i := 1281) (by decide +kernel)⟩
theorem lw_p38 : lw_okq (⟨"BestParsesModel", "moveState", "(II)V"⟩, 47) := ⟨⟨by decide +kernel, by decide +kernel⟩, List.mem_of_getElem? (i := 1070) (by decide +kernel), List.mem_of_getElem? (i := 1284) (by decide +kernel), List.mem_of_getElem? (i := 1285) (by decide +kernel)⟩
theorem lw_p39 : lw_okq (⟨"BestParsesModel", "isBehind", "(II)Z"⟩, 47) := ⟨⟨by decide +kernel, by decide +kernel⟩, List.mem_of_getElem? (i := 1070) (by decide +kernel), List.mem_of_getElem? (i := 1288) (by decide +kernel), List.mem_of_getElem? (i := 1289) (by decide +kernel)⟩
theorem lw_p40 : lw_okq (⟨"BestParsesModel", "expand", "(II)V"⟩, 47) := ⟨⟨by decide +kernel, by decide +kernel⟩, List.mem_of_getElem? (i := 1070) (by decide +kernel), List.mem_of_getElem? (i := 1292) (by decide +kernel), List.mem_of_getElem? (i := 1293) (by decide +kernel)⟩
theorem lw_p41 : lw_okq (⟨"BestParsesModel", "longestCopy", "(I)I"⟩, 47) := ⟨⟨by decide +kernel, by decide +kernel⟩, List.mem_of_getElem? (i := 1070) (by decide +kernel), List.mem_of_getElem? (i := 1296) (by decide +kernel), List.mem_of_getElem? (i := 1297) (by decide +kernel)⟩
theorem lw_p42 : lw_okq (⟨"BestParsesModel", "shortest", "()I"⟩, 47) := ⟨⟨by decide +kernel, by decide +kernel⟩, List.mem_of_getElem? (i := 1070) (by decide +kernel), List.mem_of_getElem? (i := 1300) (by decide +kernel), List.mem_of_getElem? (i := 1301) (by decide +kernel)⟩
theorem lw_p43 : lw_okq (⟨"BestParsesModel", "takeLatest", "(I)V"⟩, 47) := ⟨⟨by decide +kernel, by decide +kernel⟩, List.mem_of_getElem? (i := 1070) (by decide +kernel), List.mem_of_getElem? (i := 1304) (by decide +kernel), List.mem_of_getElem? (i := 1305) (by decide +kernel)⟩
theorem lw_p44 : lw_okq (⟨"BestParsesModel", "ahead", "(II)V"⟩, 47) := ⟨⟨by decide +kernel, by decide +kernel⟩, List.mem_of_getElem? (i := 1070) (by decide +kernel), List.mem_of_getElem? (i := 1308) (by decide +kernel), List.mem_of_getElem? (i := 1309) (by decide +kernel)⟩
theorem lw_p45 : lw_okq (⟨"BestParsesModel", "stepCost", "(IIIII)I"⟩, 47) := ⟨⟨by decide +kernel, by decide +kernel⟩, List.mem_of_getElem? (i := 1070) (by decide +kernel), List.mem_of_getElem? (i := 1312) (by decide +kernel), List.mem_of_getElem? (i := 1313) (by decide +kernel)⟩
theorem lw_p46 : lw_okq (⟨"BestParsesModel", "kindCost", "(I)I"⟩, 47) := ⟨⟨by decide +kernel, by decide +kernel⟩, List.mem_of_getElem? (i := 1070) (by decide +kernel), List.mem_of_getElem? (i := 1319) (by decide +kernel), List.mem_of_getElem? (i := 1320) (by decide +kernel)⟩
theorem lw_p47 : lw_okq (⟨"BestParsesModel", "lengthCost", "(I)I"⟩, 47) := ⟨⟨by decide +kernel, by decide +kernel⟩, List.mem_of_getElem? (i := 1070) (by decide +kernel), List.mem_of_getElem? (i := 1323) (by decide +kernel), List.mem_of_getElem? (i := 1324) (by decide +kernel)⟩
def lw_privs_3 : List (MethodName × Nat) := [(⟨"BestParsesModel", "layOut", "()V"⟩, 47), (⟨"BestParsesModel", "greatest", "()I"⟩, 47), (⟨"BestParsesModel", "bestWide", "()V"⟩, 47), (⟨"BestParsesModel", "clearLatest", "()V"⟩, 47), (⟨"BestParsesModel", "comes", "(IIIII)V"⟩, 47), (⟨"BestParsesModel", "isState", "(I)Z"⟩, 47), (⟨"BestParsesModel", "moveState", "(II)V"⟩, 47), (⟨"BestParsesModel", "isBehind", "(II)Z"⟩, 47), (⟨"BestParsesModel", "expand", "(II)V"⟩, 47), (⟨"BestParsesModel", "longestCopy", "(I)I"⟩, 47), (⟨"BestParsesModel", "shortest", "()I"⟩, 47), (⟨"BestParsesModel", "takeLatest", "(I)V"⟩, 47), (⟨"BestParsesModel", "ahead", "(II)V"⟩, 47), (⟨"BestParsesModel", "stepCost", "(IIIII)I"⟩, 47), (⟨"BestParsesModel", "kindCost", "(I)I"⟩, 47), (⟨"BestParsesModel", "lengthCost", "(I)I"⟩, 47)]
theorem lw_r3 : ∀ q ∈ lw_privs_3, lw_okq q := List.forall_mem_cons.mpr ⟨lw_p32, List.forall_mem_cons.mpr ⟨lw_p33, List.forall_mem_cons.mpr ⟨lw_p34, List.forall_mem_cons.mpr ⟨lw_p35, List.forall_mem_cons.mpr ⟨lw_p36, List.forall_mem_cons.mpr ⟨lw_p37, List.forall_mem_cons.mpr ⟨lw_p38, List.forall_mem_cons.mpr ⟨lw_p39, List.forall_mem_cons.mpr ⟨lw_p40, List.forall_mem_cons.mpr ⟨lw_p41, List.forall_mem_cons.mpr ⟨lw_p42, List.forall_mem_cons.mpr ⟨lw_p43, List.forall_mem_cons.mpr ⟨lw_p44, List.forall_mem_cons.mpr ⟨lw_p45, List.forall_mem_cons.mpr ⟨lw_p46, List.forall_mem_cons.mpr ⟨lw_p47, fun _ h => absurd h List.not_mem_nil⟩⟩⟩⟩⟩⟩⟩⟩⟩⟩⟩⟩⟩⟩⟩⟩
theorem lw_p48 : lw_okq (⟨"BestParsesModel", "distanceCost", "(I)I"⟩, 47) := ⟨⟨by decide +kernel, by decide +kernel⟩, List.mem_of_getElem? (i := 1070) (by decide +kernel), List.mem_of_getElem? (i := 1336) (by decide +kernel), List.mem_of_getElem? (i := 1337) (by decide +kernel)⟩
theorem lw_p49 : lw_okq (⟨"BestParsesModel", "longestAgain", "(II)I"⟩, 47) := ⟨⟨by decide +kernel, by decide +kernel⟩, List.mem_of_getElem? (i := 1070) (by decide +kernel), List.mem_of_getElem? (i := 1346) (by decide +kernel), List.mem_of_getElem? (i := 1347) (by decide +kernel)⟩
theorem lw_p50 : lw_okq (⟨"BestParsesModel", "turnBack", "(I)V"⟩, 47) := ⟨⟨by decide +kernel, by decide +kernel⟩, List.mem_of_getElem? (i := 1070) (by decide +kernel), List.mem_of_getElem? (i := 1350) (by decide +kernel), List.mem_of_getElem? (i := 1351) (by decide +kernel)⟩
theorem lw_p51 : lw_okq (⟨"BestParsesModel", "addStep", "(IIII)V"⟩, 47) := ⟨⟨by decide +kernel, by decide +kernel⟩, List.mem_of_getElem? (i := 1070) (by decide +kernel), List.mem_of_getElem? (i := 1354) (by decide +kernel), List.mem_of_getElem? (i := 1355) (by decide +kernel)⟩
theorem lw_p52 : lw_okq (⟨"BestParsesModel", "bestPlain", "()V"⟩, 47) := ⟨⟨by decide +kernel, by decide +kernel⟩, List.mem_of_getElem? (i := 1070) (by decide +kernel), List.mem_of_getElem? (i := 1358) (by decide +kernel), List.mem_of_getElem? (i := 1359) (by decide +kernel)⟩
theorem lw_p53 : lw_okq (⟨"BestParsesModel", "clearTable", "()V"⟩, 47) := ⟨⟨by decide +kernel, by decide +kernel⟩, List.mem_of_getElem? (i := 1070) (by decide +kernel), List.mem_of_getElem? (i := 1362) (by decide +kernel), List.mem_of_getElem? (i := 1363) (by decide +kernel)⟩
theorem lw_p54 : lw_okq (⟨"BestParsesModel", "at", "(II)I"⟩, 47) := ⟨⟨by decide +kernel, by decide +kernel⟩, List.mem_of_getElem? (i := 1070) (by decide +kernel), List.mem_of_getElem? (i := 1366) (by decide +kernel), List.mem_of_getElem? (i := 1367) (by decide +kernel)⟩
theorem lw_p55 : lw_okq (⟨"BestParsesModel", "firstRow", "(I)I"⟩, 47) := ⟨⟨by decide +kernel, by decide +kernel⟩, List.mem_of_getElem? (i := 1070) (by decide +kernel), List.mem_of_getElem? (i := 1371) (by decide +kernel), List.mem_of_getElem? (i := 1372) (by decide +kernel)⟩
theorem lw_p56 : lw_okq (⟨"BestParsesModel", "copies", "(II)V"⟩, 47) := ⟨⟨by decide +kernel, by decide +kernel⟩, List.mem_of_getElem? (i := 1070) (by decide +kernel), List.mem_of_getElem? (i := 1375) (by decide +kernel), List.mem_of_getElem? (i := 1376) (by decide +kernel)⟩
theorem lw_p57 : lw_okq (⟨"BestParsesModel", "literals", "(I)V"⟩, 47) := ⟨⟨by decide +kernel, by decide +kernel⟩, List.mem_of_getElem? (i := 1070) (by decide +kernel), List.mem_of_getElem? (i := 1379) (by decide +kernel), List.mem_of_getElem? (i := 1380) (by decide +kernel)⟩
theorem lw_p58 : lw_okq (⟨"BestParsesModel", "backPlain", "()V"⟩, 47) := ⟨⟨by decide +kernel, by decide +kernel⟩, List.mem_of_getElem? (i := 1070) (by decide +kernel), List.mem_of_getElem? (i := 1383) (by decide +kernel), List.mem_of_getElem? (i := 1384) (by decide +kernel)⟩
theorem lw_p59 : lw_okq (⟨"BestParsesModel", "greedy", "(I)V"⟩, 47) := ⟨⟨by decide +kernel, by decide +kernel⟩, List.mem_of_getElem? (i := 1070) (by decide +kernel), List.mem_of_getElem? (i := 1388) (by decide +kernel), List.mem_of_getElem? (i := 1389) (by decide +kernel)⟩
theorem lw_p60 : lw_okq (⟨"BestParsesModel", "longestOf", "(I)I"⟩, 47) := ⟨⟨by decide +kernel, by decide +kernel⟩, List.mem_of_getElem? (i := 1070) (by decide +kernel), List.mem_of_getElem? (i := 1392) (by decide +kernel), List.mem_of_getElem? (i := 1393) (by decide +kernel)⟩
theorem lw_p61 : lw_okq (⟨"BestParsesModel", "allCost", "()J"⟩, 47) := ⟨⟨by decide +kernel, by decide +kernel⟩, List.mem_of_getElem? (i := 1070) (by decide +kernel), List.mem_of_getElem? (i := 1396) (by decide +kernel), List.mem_of_getElem? (i := 1397) (by decide +kernel)⟩
theorem lw_p62 : lw_okq (⟨"BestParsesModel", "fit", "()V"⟩, 47) := ⟨⟨by decide +kernel, by decide +kernel⟩, List.mem_of_getElem? (i := 1070) (by decide +kernel), List.mem_of_getElem? (i := 1405) (by decide +kernel), List.mem_of_getElem? (i := 1406) (by decide +kernel)⟩
theorem lw_p63 : lw_okq (⟨"BestParsesModel", "fillBlocks", "(I)V"⟩, 47) := ⟨⟨by decide +kernel, by decide +kernel⟩, List.mem_of_getElem? (i := 1070) (by decide +kernel), List.mem_of_getElem? (i := 1450) (by decide +kernel), List.mem_of_getElem? (i := 1451) (by decide +kernel)⟩
def lw_privs_4 : List (MethodName × Nat) := [(⟨"BestParsesModel", "distanceCost", "(I)I"⟩, 47), (⟨"BestParsesModel", "longestAgain", "(II)I"⟩, 47), (⟨"BestParsesModel", "turnBack", "(I)V"⟩, 47), (⟨"BestParsesModel", "addStep", "(IIII)V"⟩, 47), (⟨"BestParsesModel", "bestPlain", "()V"⟩, 47), (⟨"BestParsesModel", "clearTable", "()V"⟩, 47), (⟨"BestParsesModel", "at", "(II)I"⟩, 47), (⟨"BestParsesModel", "firstRow", "(I)I"⟩, 47), (⟨"BestParsesModel", "copies", "(II)V"⟩, 47), (⟨"BestParsesModel", "literals", "(I)V"⟩, 47), (⟨"BestParsesModel", "backPlain", "()V"⟩, 47), (⟨"BestParsesModel", "greedy", "(I)V"⟩, 47), (⟨"BestParsesModel", "longestOf", "(I)I"⟩, 47), (⟨"BestParsesModel", "allCost", "()J"⟩, 47), (⟨"BestParsesModel", "fit", "()V"⟩, 47), (⟨"BestParsesModel", "fillBlocks", "(I)V"⟩, 47)]
theorem lw_r4 : ∀ q ∈ lw_privs_4, lw_okq q := List.forall_mem_cons.mpr ⟨lw_p48, List.forall_mem_cons.mpr ⟨lw_p49, List.forall_mem_cons.mpr ⟨lw_p50, List.forall_mem_cons.mpr ⟨lw_p51, List.forall_mem_cons.mpr ⟨lw_p52, List.forall_mem_cons.mpr ⟨lw_p53, List.forall_mem_cons.mpr ⟨lw_p54, List.forall_mem_cons.mpr ⟨lw_p55, List.forall_mem_cons.mpr ⟨lw_p56, List.forall_mem_cons.mpr ⟨lw_p57, List.forall_mem_cons.mpr ⟨lw_p58, List.forall_mem_cons.mpr ⟨lw_p59, List.forall_mem_cons.mpr ⟨lw_p60, List.forall_mem_cons.mpr ⟨lw_p61, List.forall_mem_cons.mpr ⟨lw_p62, List.forall_mem_cons.mpr ⟨lw_p63, fun _ h => absurd h List.not_mem_nil⟩⟩⟩⟩⟩⟩⟩⟩⟩⟩⟩⟩⟩⟩⟩⟩
theorem lw_p64 : lw_okq (⟨"BestParsesModel", "border", "(I)I"⟩, 47) := ⟨⟨by decide +kernel, by decide +kernel⟩, List.mem_of_getElem? (i := 1070) (by decide +kernel), List.mem_of_getElem? (i := 1454) (by decide +kernel), List.mem_of_getElem? (i := 1455) (by decide +kernel)⟩
theorem lw_p65 : lw_okq (⟨"BestParsesModel", "setCost", "(I)J"⟩, 47) := ⟨⟨by decide +kernel, by decide +kernel⟩, List.mem_of_getElem? (i := 1070) (by decide +kernel), List.mem_of_getElem? (i := 1458) (by decide +kernel), List.mem_of_getElem? (i := 1459) (by decide +kernel)⟩
def lw_privs_5 : List (MethodName × Nat) := [(⟨"BestParsesModel", "border", "(I)I"⟩, 47), (⟨"BestParsesModel", "setCost", "(I)J"⟩, 47)]
theorem lw_r5 : ∀ q ∈ lw_privs_5, lw_okq q := List.forall_mem_cons.mpr ⟨lw_p64, List.forall_mem_cons.mpr ⟨lw_p65, fun _ h => absurd h List.not_mem_nil⟩⟩
def lw_privs : List (MethodName × Nat) := lw_privs_1 ++ (lw_privs_2 ++ (lw_privs_3 ++ (lw_privs_4 ++ (lw_privs_5))))
def lw_tbl : List Cond := k2_sels lw_privs ++ tables_1
theorem lw_privs_ok : ∀ q ∈ lw_privs, lw_okq q := by
  show ∀ q ∈ lw_privs_1 ++ (lw_privs_2 ++ (lw_privs_3 ++ (lw_privs_4 ++ (lw_privs_5)))), lw_okq q
  exact List.forall_mem_append.mpr ⟨lw_r1, List.forall_mem_append.mpr ⟨lw_r2, List.forall_mem_append.mpr ⟨lw_r3, List.forall_mem_append.mpr ⟨lw_r4, lw_r5⟩⟩⟩⟩
-- ===== end of PART A; then your names; then what follows =====
end
section
def RX0 : String := "BestParses$Blocks"
def TX0 : u_T := fun k => match k with
  | 0 => ("BestParses$Blocks", "text", "LBestParses$Text;", true)
  | 1 => ("BestParses$Blocks", "cuts", "[I", true)
  | 2 => ("BestParses$Blocks", "cutCount", "I", false)
  | 3 => ("BestParses$Blocks", "takenCuts", "[I", true)
  | 4 => ("BestParses$Blocks", "takenCount", "I", false)
  | 5 => ("BestParses$Blocks", "restCosts", "[J", true)
  | 6 => ("BestParses$Blocks", "restBlocks", "[I", true)
  | 7 => ("BestParses$Blocks", "nextBounds", "[I", true)
  | _ => ("BestParses$Blocks", "times", "[I", true)
def tyX0 : Nat → FieldType := fun k => match k with
  | 0 => .object "BestParses$Text"
  | 1 => .array .int
  | 2 => .int
  | 3 => .array .int
  | 4 => .int
  | 5 => .array .long
  | 6 => .array .int
  | 7 => .array .int
  | _ => .array .int
theorem nmX0 : ∀ a, a < 9 → ∀ b, b < 9 → a ≠ b → (TX0 a).2.1 ≠ (TX0 b).2.1 := by decide +kernel
theorem tyX0_ok : ∀ k, k < 9 → parseFieldDescriptor (TX0 k).2.2.1 = some (tyX0 k) := by decide +kernel
abbrev cX0_init : ByteArray := prog_2_method_1_code
def yX0_init : MethodName := ⟨RX0, "<init>", "(LBestParses$Text;)V"⟩
abbrev cX0_forget : ByteArray := prog_2_method_2_code
def yX0_forget : MethodName := ⟨RX0, "forget", "()V"⟩
abbrev cX0_addCut : ByteArray := prog_2_method_3_code
def yX0_addCut : MethodName := ⟨RX0, "addCut", "(I)Z"⟩
abbrev cX0_divide : ByteArray := prog_2_method_4_code
def yX0_divide : MethodName := ⟨RX0, "divide", "(I)J"⟩
abbrev cX0_findRest : ByteArray := prog_2_method_5_code
def yX0_findRest : MethodName := ⟨RX0, "findRest", "(II)V"⟩
abbrev cX0_countOctet : ByteArray := prog_2_method_6_code
def yX0_countOctet : MethodName := ⟨RX0, "countOctet", "(I)I"⟩
abbrev cX0_placeOf : ByteArray := prog_2_method_7_code
def yX0_placeOf : MethodName := ⟨RX0, "placeOf", "(I)I"⟩
def RX1 : String := "BestParses$Costs"
def TX1 : u_T := fun k => match k with
  | 0 => ("BestParses$Costs", "classes", "I", true)
  | 1 => ("BestParses$Costs", "values", "[I", true)
  | 2 => ("BestParses$Costs", "times", "[I", true)
  | 3 => ("BestParses$Costs", "lengthCosts", "[I", true)
  | _ => ("BestParses$Costs", "distanceCosts", "[I", true)
def tyX1 : Nat → FieldType := fun k => match k with
  | 0 => .int
  | 1 => .array .int
  | 2 => .array .int
  | 3 => .array .int
  | _ => .array .int
theorem nmX1 : ∀ a, a < 5 → ∀ b, b < 5 → a ≠ b → (TX1 a).2.1 ≠ (TX1 b).2.1 := by decide +kernel
theorem tyX1_ok : ∀ k, k < 5 → parseFieldDescriptor (TX1 k).2.2.1 = some (tyX1 k) := by decide +kernel
abbrev cX1_init : ByteArray := prog_3_method_1_code
def yX1_init : MethodName := ⟨RX1, "<init>", "(I)V"⟩
abbrev cX1_reset : ByteArray := prog_3_method_2_code
def yX1_reset : MethodName := ⟨RX1, "reset", "()V"⟩
abbrev cX1_has : ByteArray := prog_3_method_3_code
def yX1_has : MethodName := ⟨RX1, "has", "(II)Z"⟩
abbrev cX1_of : ByteArray := prog_3_method_4_code
def yX1_of : MethodName := ⟨RX1, "of", "(II)I"⟩
abbrev cX1_put : ByteArray := prog_3_method_5_code
def yX1_put : MethodName := ⟨RX1, "put", "(III)V"⟩
abbrev cX1_copyFrom : ByteArray := prog_3_method_6_code
def yX1_copyFrom : MethodName := ⟨RX1, "copyFrom", "(LBestParses$Costs;)V"⟩
abbrev cX1_prepare : ByteArray := prog_3_method_7_code
def yX1_prepare : MethodName := ⟨RX1, "prepare", "(LBestParses$Text;)V"⟩
abbrev cX1_literalCost : ByteArray := prog_3_method_8_code
def yX1_literalCost : MethodName := ⟨RX1, "literalCost", "(I)I"⟩
abbrev cX1_kindCost : ByteArray := prog_3_method_9_code
def yX1_kindCost : MethodName := ⟨RX1, "kindCost", "(I)I"⟩
abbrev cX1_stepCost : ByteArray := prog_3_method_10_code
def yX1_stepCost : MethodName := ⟨RX1, "stepCost", "(LBestParses$Parse;ILBestParses$Text;)I"⟩
abbrev cX1_lengthCost : ByteArray := prog_3_method_11_code
def yX1_lengthCost : MethodName := ⟨RX1, "lengthCost", "(I)I"⟩
abbrev cX1_distanceCost : ByteArray := prog_3_method_12_code
def yX1_distanceCost : MethodName := ⟨RX1, "distanceCost", "(I)I"⟩
abbrev cX1_lengthSlot : ByteArray := prog_3_method_13_code
def yX1_lengthSlot : MethodName := ⟨RX1, "lengthSlot", "(I)I"⟩
abbrev cX1_distanceSlot : ByteArray := prog_3_method_14_code
def yX1_distanceSlot : MethodName := ⟨RX1, "distanceSlot", "(I)I"⟩
abbrev cX1_fitTo : ByteArray := prog_3_method_15_code
def yX1_fitTo : MethodName := ⟨RX1, "fitTo", "(LBestParses$Parse;LBestParses$Text;)V"⟩
abbrev cX1_countSymbols : ByteArray := prog_3_method_16_code
def yX1_countSymbols : MethodName := ⟨RX1, "countSymbols", "(LBestParses$Parse;LBestParses$Text;)V"⟩
abbrev cX1_countOne : ByteArray := prog_3_method_17_code
def yX1_countOne : MethodName := ⟨RX1, "countOne", "(II)V"⟩
abbrev cX1_fitClass : ByteArray := prog_3_method_18_code
def yX1_fitClass : MethodName := ⟨RX1, "fitClass", "(I)V"⟩
def RX2 : String := "BestParses$Form"
def TX2 : u_T := fun k => match k with
  | _ => ("", "", "", false)
def tyX2 : Nat → FieldType := fun k => match k with
  | _ => .int
theorem nmX2 : ∀ a, a < 0 → ∀ b, b < 0 → a ≠ b → (TX2 a).2.1 ≠ (TX2 b).2.1 := by decide +kernel
theorem tyX2_ok : ∀ k, k < 0 → parseFieldDescriptor (TX2 k).2.2.1 = some (tyX2 k) := by decide +kernel
abbrev cX2_init : ByteArray := prog_4_method_1_code
def yX2_init : MethodName := ⟨RX2, "<init>", "(LBestParses$Text;LBestParses$Costs;)V"⟩
abbrev cX2_costOf : ByteArray := prog_4_method_3_code
def yX2_costOf : MethodName := ⟨RX2, "costOf", "(LBestParses$Parse;)J"⟩
def RX3 : String := "BestParses$Latest"
def TX3 : u_T := fun k => match k with
  | _ => ("", "", "", false)
def tyX3 : Nat → FieldType := fun k => match k with
  | _ => .int
theorem nmX3 : ∀ a, a < 0 → ∀ b, b < 0 → a ≠ b → (TX3 a).2.1 ≠ (TX3 b).2.1 := by decide +kernel
theorem tyX3_ok : ∀ k, k < 0 → parseFieldDescriptor (TX3 k).2.2.1 = some (tyX3 k) := by decide +kernel
abbrev cX3_at : ByteArray := prog_5_method_2_code
def yX3_at : MethodName := ⟨RX3, "at", "(JI)I"⟩
abbrev cX3_behindCopy : ByteArray := prog_5_method_3_code
def yX3_behindCopy : MethodName := ⟨RX3, "behindCopy", "(JI)J"⟩
abbrev cX3_behindAgain : ByteArray := prog_5_method_4_code
def yX3_behindAgain : MethodName := ⟨RX3, "behindAgain", "(JI)J"⟩
def RX4 : String := "BestParses$LatestForm"
def TX4 : u_T := fun k => match k with
  | 0 => ("BestParses$Form", "text", "LBestParses$Text;", true)
  | 1 => ("BestParses$Form", "costs", "LBestParses$Costs;", true)
  | 2 => ("BestParses$LatestForm", "keys", "[J", true)
  | 3 => ("BestParses$LatestForm", "cameBy", "[I", true)
  | 4 => ("BestParses$LatestForm", "held", "[I", true)
  | 5 => ("BestParses$LatestForm", "dropped", "[Z", true)
  | 6 => ("BestParses$LatestForm", "bounds", "[J", true)
  | 7 => ("BestParses$LatestForm", "keptStates", "I", false)
  | 8 => ("BestParses$LatestForm", "place", "I", false)
  | 9 => ("BestParses$LatestForm", "rank", "I", false)
  | 10 => ("BestParses$LatestForm", "sum", "J", false)
  | _ => ("BestParses$LatestForm", "latest", "J", false)
def tyX4 : Nat → FieldType := fun k => match k with
  | 0 => .object "BestParses$Text"
  | 1 => .object "BestParses$Costs"
  | 2 => .array .long
  | 3 => .array .int
  | 4 => .array .int
  | 5 => .array .boolean
  | 6 => .array .long
  | 7 => .int
  | 8 => .int
  | 9 => .int
  | 10 => .long
  | _ => .long
theorem nmX4 : ∀ a, a < 12 → ∀ b, b < 12 → a ≠ b → (TX4 a).2.1 ≠ (TX4 b).2.1 := by decide +kernel
theorem tyX4_ok : ∀ k, k < 12 → parseFieldDescriptor (TX4 k).2.2.1 = some (tyX4 k) := by decide +kernel
abbrev cX4_init : ByteArray := prog_6_method_1_code
def yX4_init : MethodName := ⟨RX4, "<init>", "(LBestParses$Text;LBestParses$Costs;)V"⟩
abbrev cX4_findBest : ByteArray := prog_6_method_2_code
def yX4_findBest : MethodName := ⟨RX4, "findBest", "(LBestParses$Parse;I)I"⟩
abbrev cX4_begin : ByteArray := prog_6_method_3_code
def yX4_begin : MethodName := ⟨RX4, "begin", "(I)V"⟩
abbrev cX4_goFrom : ByteArray := prog_6_method_4_code
def yX4_goFrom : MethodName := ⟨RX4, "goFrom", "(II)V"⟩
abbrev cX4_copiesWereLed : ByteArray := prog_6_method_5_code
def yX4_copiesWereLed : MethodName := ⟨RX4, "copiesWereLed", "()Z"⟩
abbrev cX4_leadByCopies : ByteArray := prog_6_method_6_code
def yX4_leadByCopies : MethodName := ⟨RX4, "leadByCopies", "()V"⟩
abbrev cX4_leadByAgain : ByteArray := prog_6_method_7_code
def yX4_leadByAgain : MethodName := ⟨RX4, "leadByAgain", "(I)V"⟩
abbrev cX4_lead : ByteArray := prog_6_method_8_code
def yX4_lead : MethodName := ⟨RX4, "lead", "(IIIJ)V"⟩
abbrev cX4_makeRoom : ByteArray := prog_6_method_9_code
def yX4_makeRoom : MethodName := ⟨RX4, "makeRoom", "(I)Z"⟩
abbrev cX4_insert : ByteArray := prog_6_method_10_code
def yX4_insert : MethodName := ⟨RX4, "insert", "(IIJI)V"⟩
abbrev cX4_tellSteps : ByteArray := prog_6_method_11_code
def yX4_tellSteps : MethodName := ⟨RX4, "tellSteps", "(LBestParses$Parse;)V"⟩
def RX5 : String := "BestParses$OctetForm"
def TX5 : u_T := fun k => match k with
  | 0 => ("BestParses$Form", "text", "LBestParses$Text;", true)
  | 1 => ("BestParses$Form", "costs", "LBestParses$Costs;", true)
  | 2 => ("BestParses$OctetForm", "sums", "[I", true)
  | 3 => ("BestParses$OctetForm", "cameBy", "[I", true)
  | 4 => ("BestParses$OctetForm", "firstLiterals", "[I", true)
  | 5 => ("BestParses$OctetForm", "firstSums", "[I", true)
  | _ => ("BestParses$OctetForm", "literalCosts", "[I", true)
def tyX5 : Nat → FieldType := fun k => match k with
  | 0 => .object "BestParses$Text"
  | 1 => .object "BestParses$Costs"
  | 2 => .array .int
  | 3 => .array .int
  | 4 => .array .int
  | 5 => .array .int
  | _ => .array .int
theorem nmX5 : ∀ a, a < 7 → ∀ b, b < 7 → a ≠ b → (TX5 a).2.1 ≠ (TX5 b).2.1 := by decide +kernel
theorem tyX5_ok : ∀ k, k < 7 → parseFieldDescriptor (TX5 k).2.2.1 = some (tyX5 k) := by decide +kernel
abbrev cX5_init : ByteArray := prog_7_method_1_code
def yX5_init : MethodName := ⟨RX5, "<init>", "(LBestParses$Text;LBestParses$Costs;)V"⟩
abbrev cX5_findBest : ByteArray := prog_7_method_2_code
def yX5_findBest : MethodName := ⟨RX5, "findBest", "(LBestParses$Parse;I)I"⟩
abbrev cX5_findFirst : ByteArray := prog_7_method_3_code
def yX5_findFirst : MethodName := ⟨RX5, "findFirst", "(I)V"⟩
abbrev cX5_lead : ByteArray := prog_7_method_4_code
def yX5_lead : MethodName := ⟨RX5, "lead", "(II)V"⟩
abbrev cX5_tellSteps : ByteArray := prog_7_method_5_code
def yX5_tellSteps : MethodName := ⟨RX5, "tellSteps", "(LBestParses$Parse;)V"⟩
abbrev cX5_costOf : ByteArray := prog_7_method_6_code
def yX5_costOf : MethodName := ⟨RX5, "costOf", "(LBestParses$Parse;)J"⟩
abbrev cX5_copyCost : ByteArray := prog_7_method_7_code
def yX5_copyCost : MethodName := ⟨RX5, "copyCost", "(I)I"⟩
abbrev cX5_beyond : ByteArray := prog_7_method_8_code
def yX5_beyond : MethodName := ⟨RX5, "beyond", "(II)I"⟩
def RX6 : String := "BestParses$Parse"
def TX6 : u_T := fun k => match k with
  | 0 => ("BestParses$Parse", "places", "[I", true)
  | 1 => ("BestParses$Parse", "lengths", "[I", true)
  | 2 => ("BestParses$Parse", "distances", "[I", true)
  | 3 => ("BestParses$Parse", "kinds", "[I", true)
  | 4 => ("BestParses$Parse", "toldOctets", "[I", true)
  | 5 => ("BestParses$Parse", "count", "I", false)
  | 6 => ("BestParses$Parse", "sumThen", "J", false)
  | _ => ("BestParses$Parse", "leastOfAll", "Z", false)
def tyX6 : Nat → FieldType := fun k => match k with
  | 0 => .array .int
  | 1 => .array .int
  | 2 => .array .int
  | 3 => .array .int
  | 4 => .array .int
  | 5 => .int
  | 6 => .long
  | _ => .boolean
theorem nmX6 : ∀ a, a < 8 → ∀ b, b < 8 → a ≠ b → (TX6 a).2.1 ≠ (TX6 b).2.1 := by decide +kernel
theorem tyX6_ok : ∀ k, k < 8 → parseFieldDescriptor (TX6 k).2.2.1 = some (tyX6 k) := by decide +kernel
abbrev cX6_init : ByteArray := prog_8_method_1_code
def yX6_init : MethodName := ⟨RX6, "<init>", "()V"⟩
abbrev cX6_hasStep : ByteArray := prog_8_method_2_code
def yX6_hasStep : MethodName := ⟨RX6, "hasStep", "(I)Z"⟩
abbrev cX6_begin : ByteArray := prog_8_method_3_code
def yX6_begin : MethodName := ⟨RX6, "begin", "()V"⟩
abbrev cX6_add : ByteArray := prog_8_method_4_code
def yX6_add : MethodName := ⟨RX6, "add", "(IIII)V"⟩
abbrev cX6_turnRound : ByteArray := prog_8_method_5_code
def yX6_turnRound : MethodName := ⟨RX6, "turnRound", "()V"⟩
abbrev cX6_swap : ByteArray := prog_8_method_6_code
def yX6_swap : MethodName := ⟨RX6, "swap", "([III)V"⟩
abbrev cX6_finish : ByteArray := prog_8_method_7_code
def yX6_finish : MethodName := ⟨RX6, "finish", "(LBestParses$Text;JZ)V"⟩
abbrev cX6_tellBack : ByteArray := prog_8_method_8_code
def yX6_tellBack : MethodName := ⟨RX6, "tellBack", "(III)V"⟩
def RX7 : String := "BestParses$SlotForm"
def TX7 : u_T := fun k => match k with
  | 0 => ("BestParses$Form", "text", "LBestParses$Text;", true)
  | 1 => ("BestParses$Form", "costs", "LBestParses$Costs;", true)
  | 2 => ("BestParses$SlotForm", "sums", "[I", true)
  | _ => ("BestParses$SlotForm", "cameBy", "[I", true)
def tyX7 : Nat → FieldType := fun k => match k with
  | 0 => .object "BestParses$Text"
  | 1 => .object "BestParses$Costs"
  | 2 => .array .int
  | _ => .array .int
theorem nmX7 : ∀ a, a < 4 → ∀ b, b < 4 → a ≠ b → (TX7 a).2.1 ≠ (TX7 b).2.1 := by decide +kernel
theorem tyX7_ok : ∀ k, k < 4 → parseFieldDescriptor (TX7 k).2.2.1 = some (tyX7 k) := by decide +kernel
abbrev cX7_init : ByteArray := prog_9_method_1_code
def yX7_init : MethodName := ⟨RX7, "<init>", "(LBestParses$Text;LBestParses$Costs;)V"⟩
abbrev cX7_findBest : ByteArray := prog_9_method_2_code
def yX7_findBest : MethodName := ⟨RX7, "findBest", "(LBestParses$Parse;I)I"⟩
abbrev cX7_lead : ByteArray := prog_9_method_3_code
def yX7_lead : MethodName := ⟨RX7, "lead", "(III)V"⟩
abbrev cX7_tellSteps : ByteArray := prog_9_method_4_code
def yX7_tellSteps : MethodName := ⟨RX7, "tellSteps", "(LBestParses$Parse;)V"⟩
def RX8 : String := "BestParses$Stepper"
def TX8 : u_T := fun k => match k with
  | 0 => ("BestParses$Stepper", "text", "LBestParses$Text;", true)
  | _ => ("BestParses$Stepper", "withLatest", "Z", true)
def tyX8 : Nat → FieldType := fun k => match k with
  | 0 => .object "BestParses$Text"
  | _ => .boolean
theorem nmX8 : ∀ a, a < 2 → ∀ b, b < 2 → a ≠ b → (TX8 a).2.1 ≠ (TX8 b).2.1 := by decide +kernel
theorem tyX8_ok : ∀ k, k < 2 → parseFieldDescriptor (TX8 k).2.2.1 = some (tyX8 k) := by decide +kernel
abbrev cX8_init : ByteArray := prog_10_method_1_code
def yX8_init : MethodName := ⟨RX8, "<init>", "(LBestParses$Text;Z)V"⟩
abbrev cX8_walk : ByteArray := prog_10_method_2_code
def yX8_walk : MethodName := ⟨RX8, "walk", "(LBestParses$Parse;I)V"⟩
abbrev cX8_longerAhead : ByteArray := prog_10_method_3_code
def yX8_longerAhead : MethodName := ⟨RX8, "longerAhead", "(III)Z"⟩
abbrev cX8_againAsLong : ByteArray := prog_10_method_4_code
def yX8_againAsLong : MethodName := ⟨RX8, "againAsLong", "(JII)I"⟩
def RX9 : String := "BestParses$Text"
def TX9 : u_T := fun k => match k with
  | 0 => ("BestParses$Text", "leastLength", "I", true)
  | 1 => ("BestParses$Text", "greatestLength", "I", true)
  | 2 => ("BestParses$Text", "octetRow", "[I", true)
  | 3 => ("BestParses$Text", "size", "I", false)
  | 4 => ("BestParses$Text", "endRuns", "[I", true)
  | 5 => ("BestParses$Text", "nearest", "[I", true)
  | _ => ("BestParses$Text", "longestRuns", "[I", true)
def tyX9 : Nat → FieldType := fun k => match k with
  | 0 => .int
  | 1 => .int
  | 2 => .array .int
  | 3 => .int
  | 4 => .array .int
  | 5 => .array .int
  | _ => .array .int
theorem nmX9 : ∀ a, a < 7 → ∀ b, b < 7 → a ≠ b → (TX9 a).2.1 ≠ (TX9 b).2.1 := by decide +kernel
theorem tyX9_ok : ∀ k, k < 7 → parseFieldDescriptor (TX9 k).2.2.1 = some (tyX9 k) := by decide +kernel
abbrev cX9_init : ByteArray := prog_11_method_1_code
def yX9_init : MethodName := ⟨RX9, "<init>", "(I)V"⟩
abbrev cX9_has : ByteArray := prog_11_method_2_code
def yX9_has : MethodName := ⟨RX9, "has", "(I)Z"⟩
abbrev cX9_append : ByteArray := prog_11_method_3_code
def yX9_append : MethodName := ⟨RX9, "append", "(I)V"⟩
abbrev cX9_noteCopies : ByteArray := prog_11_method_4_code
def yX9_noteCopies : MethodName := ⟨RX9, "noteCopies", "(III)V"⟩
abbrev cX9_longestCopy : ByteArray := prog_11_method_5_code
def yX9_longestCopy : MethodName := ⟨RX9, "longestCopy", "(I)I"⟩
abbrev cX9_copyDistance : ByteArray := prog_11_method_6_code
def yX9_copyDistance : MethodName := ⟨RX9, "copyDistance", "(II)I"⟩
abbrev cX9_sameBy : ByteArray := prog_11_method_7_code
def yX9_sameBy : MethodName := ⟨RX9, "sameBy", "(II)I"⟩
abbrev cX9_nearestIndex : ByteArray := prog_11_method_8_code
def yX9_nearestIndex : MethodName := ⟨RX9, "nearestIndex", "(II)I"⟩
def RX10 : String := "BestParses"
def TX10 : u_T := fun k => match k with
  | 0 => ("BestParses", "form", "I", true)
  | 1 => ("BestParses", "text", "LBestParses$Text;", true)
  | 2 => ("BestParses", "costs", "LBestParses$Costs;", true)
  | 3 => ("BestParses", "leastCosts", "LBestParses$Costs;", true)
  | 4 => ("BestParses", "rules", "LBestParses$Form;", true)
  | 5 => ("BestParses", "stepper", "LBestParses$Stepper;", true)
  | 6 => ("BestParses", "blocks", "LBestParses$Blocks;", true)
  | 7 => ("BestParses", "current", "LBestParses$Parse;", false)
  | 8 => ("BestParses", "spare", "LBestParses$Parse;", false)
  | 9 => ("BestParses", "parsed", "Z", false)
  | 10 => ("BestParses", "kept", "I", false)
  | _ => ("BestParses", "droppedPlaces", "I", false)
def tyX10 : Nat → FieldType := fun k => match k with
  | 0 => .int
  | 1 => .object "BestParses$Text"
  | 2 => .object "BestParses$Costs"
  | 3 => .object "BestParses$Costs"
  | 4 => .object "BestParses$Form"
  | 5 => .object "BestParses$Stepper"
  | 6 => .object "BestParses$Blocks"
  | 7 => .object "BestParses$Parse"
  | 8 => .object "BestParses$Parse"
  | 9 => .boolean
  | 10 => .int
  | _ => .int
theorem nmX10 : ∀ a, a < 12 → ∀ b, b < 12 → a ≠ b → (TX10 a).2.1 ≠ (TX10 b).2.1 := by decide +kernel
theorem tyX10_ok : ∀ k, k < 12 → parseFieldDescriptor (TX10 k).2.2.1 = some (tyX10 k) := by decide +kernel
abbrev cX10_init : ByteArray := prog_1_method_1_code
def yX10_init : MethodName := ⟨RX10, "<init>", "(I)V"⟩
abbrev cX10_octets : ByteArray := prog_1_method_2_code
def yX10_octets : MethodName := ⟨RX10, "octets", "(IJ)I"⟩
abbrev cX10_cost : ByteArray := prog_1_method_3_code
def yX10_cost : MethodName := ⟨RX10, "cost", "(III)I"⟩
abbrev cX10_price : ByteArray := prog_1_method_4_code
def yX10_price : MethodName := ⟨RX10, "price", "(II)I"⟩
abbrev cX10_keep : ByteArray := prog_1_method_5_code
def yX10_keep : MethodName := ⟨RX10, "keep", "(I)I"⟩
abbrev cX10_parse : ByteArray := prog_1_method_6_code
def yX10_parse : MethodName := ⟨RX10, "parse", "(I)I"⟩
abbrev cX10_step : ByteArray := prog_1_method_7_code
def yX10_step : MethodName := ⟨RX10, "step", "(II)I"⟩
abbrev cX10_sum : ByteArray := prog_1_method_8_code
def yX10_sum : MethodName := ⟨RX10, "sum", "()J"⟩
abbrev cX10_again : ByteArray := prog_1_method_9_code
def yX10_again : MethodName := ⟨RX10, "again", "()J"⟩
abbrev cX10_least : ByteArray := prog_1_method_10_code
def yX10_least : MethodName := ⟨RX10, "least", "()Z"⟩
abbrev cX10_told : ByteArray := prog_1_method_11_code
def yX10_told : MethodName := ⟨RX10, "told", "(I)I"⟩
abbrev cX10_rounds : ByteArray := prog_1_method_12_code
def yX10_rounds : MethodName := ⟨RX10, "rounds", "(I)J"⟩
abbrev cX10_longest : ByteArray := prog_1_method_13_code
def yX10_longest : MethodName := ⟨RX10, "longest", "(I)I"⟩
abbrev cX10_distance : ByteArray := prog_1_method_14_code
def yX10_distance : MethodName := ⟨RX10, "distance", "(II)I"⟩
abbrev cX10_cut : ByteArray := prog_1_method_15_code
def yX10_cut : MethodName := ⟨RX10, "cut", "(I)I"⟩
abbrev cX10_split : ByteArray := prog_1_method_16_code
def yX10_split : MethodName := ⟨RX10, "split", "(I)J"⟩
abbrev cX10_taken : ByteArray := prog_1_method_17_code
def yX10_taken : MethodName := ⟨RX10, "taken", "(I)I"⟩
abbrev cX10_many : ByteArray := prog_1_method_18_code
def yX10_many : MethodName := ⟨RX10, "many", "(I)I"⟩
abbrev cX10_clear : ByteArray := prog_1_method_19_code
def yX10_clear : MethodName := ⟨RX10, "clear", "()V"⟩
abbrev cX10_trier : ByteArray := prog_1_method_20_code
def yX10_trier : MethodName := ⟨RX10, "trier", "(I)I"⟩
abbrev cX10_findBest : ByteArray := prog_1_method_21_code
def yX10_findBest : MethodName := ⟨RX10, "findBest", "(LBestParses$Parse;)V"⟩
abbrev cX10_takeSpare : ByteArray := prog_1_method_22_code
def yX10_takeSpare : MethodName := ⟨RX10, "takeSpare", "()V"⟩
abbrev cX10_logOf : ByteArray := prog_1_method_23_code
def yX10_logOf : MethodName := ⟨RX10, "logOf", "(I)I"⟩
abbrev cX10_highestBit : ByteArray := prog_1_method_24_code
def yX10_highestBit : MethodName := ⟨RX10, "highestBit", "(I)I"⟩
def RX11 : String := "BestParsesModel"
def TX11 : u_T := fun k => match k with
  | 0 => ("BestParsesModel", "thrown", "I", false)
  | 1 => ("BestParsesModel", "form", "I", true)
  | 2 => ("BestParsesModel", "text", "[I", true)
  | 3 => ("BestParsesModel", "n", "I", false)
  | 4 => ("BestParsesModel", "costs", "[I", true)
  | 5 => ("BestParsesModel", "kept", "I", false)
  | 6 => ("BestParsesModel", "cuts", "[I", true)
  | 7 => ("BestParsesModel", "cutCount", "I", false)
  | 8 => ("BestParsesModel", "taken", "[I", true)
  | 9 => ("BestParsesModel", "takenCount", "I", false)
  | 10 => ("BestParsesModel", "isParse", "Z", false)
  | 11 => ("BestParsesModel", "steps", "I", false)
  | 12 => ("BestParsesModel", "stepAt", "[I", true)
  | 13 => ("BestParsesModel", "stepSize", "[I", true)
  | 14 => ("BestParsesModel", "stepBack", "[I", true)
  | 15 => ("BestParsesModel", "stepKind", "[I", true)
  | 16 => ("BestParsesModel", "sum", "J", false)
  | 17 => ("BestParsesModel", "isLeast", "Z", false)
  | 18 => ("BestParsesModel", "dropped", "I", false)
  | 19 => ("BestParsesModel", "same", "[I", true)
  | 20 => ("BestParsesModel", "nearest", "[I", true)
  | 21 => ("BestParsesModel", "latest", "[I", true)
  | 22 => ("BestParsesModel", "bestKind", "I", false)
  | 23 => ("BestParsesModel", "least", "[I", true)
  | 24 => ("BestParsesModel", "cameFrom", "[I", true)
  | 25 => ("BestParsesModel", "cameRow", "[I", true)
  | 26 => ("BestParsesModel", "cameBack", "[I", true)
  | 27 => ("BestParsesModel", "byLiteral", "[Z", true)
  | 28 => ("BestParsesModel", "turned", "[I", true)
  | 29 => ("BestParsesModel", "turnedKind", "[I", true)
  | 30 => ("BestParsesModel", "turnedBack", "[I", true)
  | 31 => ("BestParsesModel", "turnedSize", "[I", true)
  | 32 => ("BestParsesModel", "many", "[I", true)
  | 33 => ("BestParsesModel", "falls", "[Z", true)
  | 34 => ("BestParsesModel", "stateSum", "[I", true)
  | 35 => ("BestParsesModel", "stateBack", "[I", true)
  | 36 => ("BestParsesModel", "stateFrom", "[I", true)
  | 37 => ("BestParsesModel", "stateKind", "[I", true)
  | 38 => ("BestParsesModel", "stateOld", "[I", true)
  | 39 => ("BestParsesModel", "uses", "[I", true)
  | 40 => ("BestParsesModel", "keptCosts", "[I", true)
  | 41 => ("BestParsesModel", "keptAt", "[I", true)
  | 42 => ("BestParsesModel", "keptSize", "[I", true)
  | 43 => ("BestParsesModel", "keptBack", "[I", true)
  | 44 => ("BestParsesModel", "keptKind", "[I", true)
  | 45 => ("BestParsesModel", "made", "[I", true)
  | _ => ("BestParsesModel", "blockCost", "[J", true)
def tyX11 : Nat → FieldType := fun k => match k with
  | 0 => .int
  | 1 => .int
  | 2 => .array .int
  | 3 => .int
  | 4 => .array .int
  | 5 => .int
  | 6 => .array .int
  | 7 => .int
  | 8 => .array .int
  | 9 => .int
  | 10 => .boolean
  | 11 => .int
  | 12 => .array .int
  | 13 => .array .int
  | 14 => .array .int
  | 15 => .array .int
  | 16 => .long
  | 17 => .boolean
  | 18 => .int
  | 19 => .array .int
  | 20 => .array .int
  | 21 => .array .int
  | 22 => .int
  | 23 => .array .int
  | 24 => .array .int
  | 25 => .array .int
  | 26 => .array .int
  | 27 => .array .boolean
  | 28 => .array .int
  | 29 => .array .int
  | 30 => .array .int
  | 31 => .array .int
  | 32 => .array .int
  | 33 => .array .boolean
  | 34 => .array .int
  | 35 => .array .int
  | 36 => .array .int
  | 37 => .array .int
  | 38 => .array .int
  | 39 => .array .int
  | 40 => .array .int
  | 41 => .array .int
  | 42 => .array .int
  | 43 => .array .int
  | 44 => .array .int
  | 45 => .array .int
  | _ => .array .long
theorem nmX11 : ∀ a, a < 47 → ∀ b, b < 47 → a ≠ b → (TX11 a).2.1 ≠ (TX11 b).2.1 := by decide +kernel
theorem tyX11_ok : ∀ k, k < 47 → parseFieldDescriptor (TX11 k).2.2.1 = some (tyX11 k) := by decide +kernel
abbrev cX11_init : ByteArray := prog_13_method_1_code
def yX11_init : MethodName := ⟨RX11, "<init>", "(I)V"⟩
abbrev cX11_thrown : ByteArray := prog_13_method_2_code
def yX11_thrown : MethodName := ⟨RX11, "thrown", "()I"⟩
abbrev cX11_start : ByteArray := prog_13_method_3_code
def yX11_start : MethodName := ⟨RX11, "start", "()V"⟩
abbrev cX11_shortest : ByteArray := prog_13_method_4_code
def yX11_shortest : MethodName := ⟨RX11, "shortest", "()I"⟩
abbrev cX11_greatest : ByteArray := prog_13_method_5_code
def yX11_greatest : MethodName := ⟨RX11, "greatest", "()I"⟩
abbrev cX11_symbols : ByteArray := prog_13_method_6_code
def yX11_symbols : MethodName := ⟨RX11, "symbols", "(I)I"⟩
abbrev cX11_isCost : ByteArray := prog_13_method_7_code
def yX11_isCost : MethodName := ⟨RX11, "isCost", "(II)Z"⟩
abbrev cX11_octets : ByteArray := prog_13_method_8_code
def yX11_octets : MethodName := ⟨RX11, "octets", "(IJ)I"⟩
abbrev cX11_cost : ByteArray := prog_13_method_9_code
def yX11_cost : MethodName := ⟨RX11, "cost", "(III)I"⟩
abbrev cX11_price : ByteArray := prog_13_method_10_code
def yX11_price : MethodName := ⟨RX11, "price", "(II)I"⟩
abbrev cX11_keep : ByteArray := prog_13_method_11_code
def yX11_keep : MethodName := ⟨RX11, "keep", "(I)I"⟩
abbrev cX11_layOut : ByteArray := prog_13_method_12_code
def yX11_layOut : MethodName := ⟨RX11, "layOut", "()V"⟩
abbrev cX11_longestCopy : ByteArray := prog_13_method_13_code
def yX11_longestCopy : MethodName := ⟨RX11, "longestCopy", "(I)I"⟩
abbrev cX11_longestAgain : ByteArray := prog_13_method_14_code
def yX11_longestAgain : MethodName := ⟨RX11, "longestAgain", "(II)I"⟩
abbrev cX11_high : ByteArray := prog_13_method_15_code
def yX11_high : MethodName := ⟨RX11, "high", "(I)I"⟩
abbrev cX11_lengthSlot : ByteArray := prog_13_method_16_code
def yX11_lengthSlot : MethodName := ⟨RX11, "lengthSlot", "(I)I"⟩
abbrev cX11_lengthBits : ByteArray := prog_13_method_17_code
def yX11_lengthBits : MethodName := ⟨RX11, "lengthBits", "(I)I"⟩
abbrev cX11_distanceSlot : ByteArray := prog_13_method_18_code
def yX11_distanceSlot : MethodName := ⟨RX11, "distanceSlot", "(I)I"⟩
abbrev cX11_distanceBits : ByteArray := prog_13_method_19_code
def yX11_distanceBits : MethodName := ⟨RX11, "distanceBits", "(I)I"⟩
abbrev cX11_lengthCost : ByteArray := prog_13_method_20_code
def yX11_lengthCost : MethodName := ⟨RX11, "lengthCost", "(I)I"⟩
abbrev cX11_distanceCost : ByteArray := prog_13_method_21_code
def yX11_distanceCost : MethodName := ⟨RX11, "distanceCost", "(I)I"⟩
abbrev cX11_kindCost : ByteArray := prog_13_method_22_code
def yX11_kindCost : MethodName := ⟨RX11, "kindCost", "(I)I"⟩
abbrev cX11_more : ByteArray := prog_13_method_23_code
def yX11_more : MethodName := ⟨RX11, "more", "(II)I"⟩
abbrev cX11_stepCost : ByteArray := prog_13_method_24_code
def yX11_stepCost : MethodName := ⟨RX11, "stepCost", "(IIIII)I"⟩
abbrev cX11_allCost : ByteArray := prog_13_method_25_code
def yX11_allCost : MethodName := ⟨RX11, "allCost", "()J"⟩
abbrev cX11_clearLatest : ByteArray := prog_13_method_26_code
def yX11_clearLatest : MethodName := ⟨RX11, "clearLatest", "()V"⟩
abbrev cX11_ahead : ByteArray := prog_13_method_27_code
def yX11_ahead : MethodName := ⟨RX11, "ahead", "(II)V"⟩
abbrev cX11_longestOf : ByteArray := prog_13_method_28_code
def yX11_longestOf : MethodName := ⟨RX11, "longestOf", "(I)I"⟩
abbrev cX11_addStep : ByteArray := prog_13_method_29_code
def yX11_addStep : MethodName := ⟨RX11, "addStep", "(IIII)V"⟩
abbrev cX11_greedy : ByteArray := prog_13_method_30_code
def yX11_greedy : MethodName := ⟨RX11, "greedy", "(I)V"⟩
abbrev cX11_at : ByteArray := prog_13_method_31_code
def yX11_at : MethodName := ⟨RX11, "at", "(II)I"⟩
abbrev cX11_firstRow : ByteArray := prog_13_method_32_code
def yX11_firstRow : MethodName := ⟨RX11, "firstRow", "(I)I"⟩
abbrev cX11_clearTable : ByteArray := prog_13_method_33_code
def yX11_clearTable : MethodName := ⟨RX11, "clearTable", "()V"⟩
abbrev cX11_copies : ByteArray := prog_13_method_34_code
def yX11_copies : MethodName := ⟨RX11, "copies", "(II)V"⟩
abbrev cX11_literals : ByteArray := prog_13_method_35_code
def yX11_literals : MethodName := ⟨RX11, "literals", "(I)V"⟩
abbrev cX11_backPlain : ByteArray := prog_13_method_36_code
def yX11_backPlain : MethodName := ⟨RX11, "backPlain", "()V"⟩
abbrev cX11_turnBack : ByteArray := prog_13_method_37_code
def yX11_turnBack : MethodName := ⟨RX11, "turnBack", "(I)V"⟩
abbrev cX11_bestPlain : ByteArray := prog_13_method_38_code
def yX11_bestPlain : MethodName := ⟨RX11, "bestPlain", "()V"⟩
abbrev cX11_isState : ByteArray := prog_13_method_39_code
def yX11_isState : MethodName := ⟨RX11, "isState", "(I)Z"⟩
abbrev cX11_isBehind : ByteArray := prog_13_method_40_code
def yX11_isBehind : MethodName := ⟨RX11, "isBehind", "(II)Z"⟩
abbrev cX11_moveState : ByteArray := prog_13_method_41_code
def yX11_moveState : MethodName := ⟨RX11, "moveState", "(II)V"⟩
abbrev cX11_comes : ByteArray := prog_13_method_42_code
def yX11_comes : MethodName := ⟨RX11, "comes", "(IIIII)V"⟩
abbrev cX11_takeLatest : ByteArray := prog_13_method_43_code
def yX11_takeLatest : MethodName := ⟨RX11, "takeLatest", "(I)V"⟩
abbrev cX11_expand : ByteArray := prog_13_method_44_code
def yX11_expand : MethodName := ⟨RX11, "expand", "(II)V"⟩
abbrev cX11_bestWide : ByteArray := prog_13_method_45_code
def yX11_bestWide : MethodName := ⟨RX11, "bestWide", "()V"⟩
abbrev cX11_best : ByteArray := prog_13_method_46_code
def yX11_best : MethodName := ⟨RX11, "best", "()V"⟩
abbrev cX11_parse : ByteArray := prog_13_method_47_code
def yX11_parse : MethodName := ⟨RX11, "parse", "(I)I"⟩
abbrev cX11_log : ByteArray := prog_13_method_48_code
def yX11_log : MethodName := ⟨RX11, "log", "(I)I"⟩
abbrev cX11_fit : ByteArray := prog_13_method_49_code
def yX11_fit : MethodName := ⟨RX11, "fit", "()V"⟩
abbrev cX11_rounds : ByteArray := prog_13_method_50_code
def yX11_rounds : MethodName := ⟨RX11, "rounds", "(I)J"⟩
abbrev cX11_step : ByteArray := prog_13_method_51_code
def yX11_step : MethodName := ⟨RX11, "step", "(II)I"⟩
abbrev cX11_sum : ByteArray := prog_13_method_52_code
def yX11_sum : MethodName := ⟨RX11, "sum", "()J"⟩
abbrev cX11_again : ByteArray := prog_13_method_53_code
def yX11_again : MethodName := ⟨RX11, "again", "()J"⟩
abbrev cX11_least : ByteArray := prog_13_method_54_code
def yX11_least : MethodName := ⟨RX11, "least", "()Z"⟩
abbrev cX11_told : ByteArray := prog_13_method_55_code
def yX11_told : MethodName := ⟨RX11, "told", "(I)I"⟩
abbrev cX11_longest : ByteArray := prog_13_method_56_code
def yX11_longest : MethodName := ⟨RX11, "longest", "(I)I"⟩
abbrev cX11_distance : ByteArray := prog_13_method_57_code
def yX11_distance : MethodName := ⟨RX11, "distance", "(II)I"⟩
abbrev cX11_cut : ByteArray := prog_13_method_58_code
def yX11_cut : MethodName := ⟨RX11, "cut", "(I)I"⟩
abbrev cX11_border : ByteArray := prog_13_method_59_code
def yX11_border : MethodName := ⟨RX11, "border", "(I)I"⟩
abbrev cX11_fillBlocks : ByteArray := prog_13_method_60_code
def yX11_fillBlocks : MethodName := ⟨RX11, "fillBlocks", "(I)V"⟩
abbrev cX11_setCost : ByteArray := prog_13_method_61_code
def yX11_setCost : MethodName := ⟨RX11, "setCost", "(I)J"⟩
abbrev cX11_count : ByteArray := prog_13_method_62_code
def yX11_count : MethodName := ⟨RX11, "count", "(I)I"⟩
abbrev cX11_isBefore : ByteArray := prog_13_method_63_code
def yX11_isBefore : MethodName := ⟨RX11, "isBefore", "(II)Z"⟩
abbrev cX11_split : ByteArray := prog_13_method_64_code
def yX11_split : MethodName := ⟨RX11, "split", "(I)J"⟩
abbrev cX11_taken : ByteArray := prog_13_method_65_code
def yX11_taken : MethodName := ⟨RX11, "taken", "(I)I"⟩
abbrev cX11_many : ByteArray := prog_13_method_66_code
def yX11_many : MethodName := ⟨RX11, "many", "(I)I"⟩
abbrev cX11_clear : ByteArray := prog_13_method_67_code
def yX11_clear : MethodName := ⟨RX11, "clear", "()V"⟩
abbrev cX11_trier : ByteArray := prog_13_method_68_code
def yX11_trier : MethodName := ⟨RX11, "trier", "(I)I"⟩
def RJ7 : String := "java/util/Arrays"
def TJ7 : u_T := fun k => match k with
  | _ => ("", "", "", false)
def tyJ7 : Nat → FieldType := fun k => match k with
  | _ => .int
theorem nmJ7 : ∀ a, a < 0 → ∀ b, b < 0 → a ≠ b → (TJ7 a).2.1 ≠ (TJ7 b).2.1 := by decide +kernel
theorem tyJ7_ok : ∀ k, k < 0 → parseFieldDescriptor (TJ7 k).2.2.1 = some (tyJ7 k) := by decide +kernel
abbrev cJ7_rangeCheck_23922 : ByteArray := prog_28_method_30_code
def yJ7_rangeCheck_23922 : MethodName := ⟨RJ7, "rangeCheck", "(III)V"⟩
abbrev cJ7_fill_d0a16 : ByteArray := prog_28_method_101_code
def yJ7_fill_d0a16 : MethodName := ⟨RJ7, "fill", "([JJ)V"⟩
abbrev cJ7_fill_53178 : ByteArray := prog_28_method_103_code
def yJ7_fill_53178 : MethodName := ⟨RJ7, "fill", "([II)V"⟩
abbrev cJ7_fill_fda19 : ByteArray := prog_28_method_104_code
def yJ7_fill_fda19 : MethodName := ⟨RJ7, "fill", "([IIII)V"⟩
abbrev cJ7_copyOf_9075b : ByteArray := prog_28_method_121_code
def yJ7_copyOf_9075b : MethodName := ⟨RJ7, "copyOf", "([BI)[B"⟩
abbrev cJ7_checkLength_df160 : ByteArray := prog_28_method_131_code
def yJ7_checkLength_df160 : MethodName := ⟨RJ7, "checkLength", "(II)V"⟩
abbrev cJ7_copyOfRange_39247 : ByteArray := prog_28_method_132_code
def yJ7_copyOfRange_39247 : MethodName := ⟨RJ7, "copyOfRange", "([BII)[B"⟩
abbrev cJ7_copyOfRangeByte_39247 : ByteArray := prog_28_method_133_code
def yJ7_copyOfRangeByte_39247 : MethodName := ⟨RJ7, "copyOfRangeByte", "([BII)[B"⟩
def RL : String := "BestParsesLaw"
abbrev cL_cell : ByteArray := method_2_code
def yL_cell : MethodName := ⟨RL, "cell", "([II)I"⟩
abbrev cL_trier : ByteArray := method_3_code
def yL_trier : MethodName := ⟨RL, "trier", "(LBestParses;I[J)I"⟩
abbrev cL_law : ByteArray := code
def yL_law : MethodName := ⟨RL, "law", "([I)Z"⟩
end
section
/-! the classes of the light machine: kind k (1, 2 ..) is the class k - 1 of xCl; 11 says: one of the three forms -/
def xG : List Jvm.Cond := lw_tbl.filter goodWord
def xCl : List vw_C := [(RX0, TX0, 9), (RX1, TX1, 5), (RX4, TX4, 12), (RX5, TX5, 7), (RX6, TX6, 8), (RX7, TX7, 4), (RX8, TX8, 2), (RX9, TX9, 7), (RX10, TX10, 12), (RX11, TX11, 47)]
def xtyL : List (Nat → FieldType) := [tyX0, tyX1, tyX4, tyX5, tyX6, tyX7, tyX8, tyX9, tyX10, tyX11]
def xftL : List (List Nat) := [[], [3, 3, 0, 3, 0, 3, 3, 3, 3], [0, 3, 3, 3, 3], [3, 3, 3, 3, 3, 3, 3, 0, 0, 0, 1, 1], [3, 3, 3, 3, 3, 3, 3], [3, 3, 3, 3, 3, 0, 1, 2], [3, 3, 3, 3], [3, 2], [0, 0, 3, 0, 3, 3, 3], [0, 3, 3, 3, 3, 3, 3, 3, 3, 2, 0, 0], [0, 0, 3, 0, 3, 0, 3, 0, 3, 0, 2, 0, 3, 3, 3, 3, 1, 2, 0, 3, 3, 3, 0, 3, 3, 3, 3, 3, 3, 3, 3, 3, 3, 3, 3, 3, 3, 3, 3, 3, 3, 3, 3, 3, 3, 3, 3]]
def xft (k j : Nat) : Nat := (xftL.getD k []).getD j 9
def xsub (r k : Nat) : Bool := r == k || (r == 11 && (k == 3 || k == 4 || k == 6))
theorem xG_of {w : Jvm.Cond} (i : Nat) (h : tables_1[i]? = some w) (hg : goodWord w = true) : w ∈ xG := List.mem_filter.mpr ⟨List.mem_append_right _ (List.mem_of_getElem? h), hg⟩
theorem xG_sel {q : MethodName × Nat} (h : q ∈ lw_privs) : Jvm.Cond.selects q.1.cls q.1 q.1 ∈ k2_sels lw_privs := by
  first | exact List.mem_map.mpr ⟨q, h, rfl⟩ | (unfold k2_sels; exact List.mem_map.mpr ⟨q, h, rfl⟩)
def xok (f : FieldType) (n : Nat) : Bool := match f, n with
  | .int, 0 => true
  | .long, 1 => true
  | .boolean, 2 => true
  | .object _, 3 => true
  | .array _, 3 => true
  | _, _ => false
theorem xinX0 : ∀ w ∈ u_ws RX0 TX0 9, w ∈ xG := by
  intro w h
  obtain ⟨k, hk, rfl⟩ := List.mem_map.mp h
  have hk := List.mem_range.mp hk
  have h2 : ∀ k, k < 9 → tables_1[(([566, 568, 570, 572, 574, 576, 578, 580, 582] : List Nat).getD k 0)]? = some (u_lay RX0 TX0 k) ∧ goodWord (u_lay RX0 TX0 k) = true := by decide +kernel
  exact xG_of _ (h2 k hk).1 (h2 k hk).2
theorem xkdX0 : Jvm.Cond.instantiable RX0 9 ∈ xG ∧ Jvm.Cond.initialized RX0 ∈ xG := ⟨xG_of 549 (by decide +kernel) (by decide +kernel), xG_of 25 (by decide +kernel) (by decide +kernel)⟩
theorem xtkX0 : ∀ k, k < 9 → xok (tyX0 k) (xft 1 k) = true := by decide +kernel
theorem xinX1 : ∀ w ∈ u_ws RX1 TX1 5, w ∈ xG := by
  intro w h
  obtain ⟨k, hk, rfl⟩ := List.mem_map.mp h
  have hk := List.mem_range.mp hk
  have h2 : ∀ k, k < 5 → tables_1[(([424, 426, 428, 430, 432] : List Nat).getD k 0)]? = some (u_lay RX1 TX1 k) ∧ goodWord (u_lay RX1 TX1 k) = true := by decide +kernel
  exact xG_of _ (h2 k hk).1 (h2 k hk).2
theorem xkdX1 : Jvm.Cond.instantiable RX1 5 ∈ xG ∧ Jvm.Cond.initialized RX1 ∈ xG := ⟨xG_of 91 (by decide +kernel) (by decide +kernel), xG_of 4 (by decide +kernel) (by decide +kernel)⟩
theorem xtkX1 : ∀ k, k < 5 → xok (tyX1 k) (xft 2 k) = true := by decide +kernel
theorem xinX4 : ∀ w ∈ u_ws RX4 TX4 12, w ∈ xG := by
  intro w h
  obtain ⟨k, hk, rfl⟩ := List.mem_map.mp h
  have hk := List.mem_range.mp hk
  have h2 : ∀ k, k < 12 → tables_1[(([530, 531, 510, 512, 514, 516, 518, 520, 522, 524, 526, 528] : List Nat).getD k 0)]? = some (u_lay RX4 TX4 k) ∧ goodWord (u_lay RX4 TX4 k) = true := by decide +kernel
  exact xG_of _ (h2 k hk).1 (h2 k hk).2
theorem xkdX4 : Jvm.Cond.instantiable RX4 12 ∈ xG ∧ Jvm.Cond.initialized RX4 ∈ xG := ⟨xG_of 495 (by decide +kernel) (by decide +kernel), xG_of 23 (by decide +kernel) (by decide +kernel)⟩
theorem xtkX4 : ∀ k, k < 12 → xok (tyX4 k) (xft 3 k) = true := by decide +kernel
theorem xinX5 : ∀ w ∈ u_ws RX5 TX5 7, w ∈ xG := by
  intro w h
  obtain ⟨k, hk, rfl⟩ := List.mem_map.mp h
  have hk := List.mem_range.mp hk
  have h2 : ∀ k, k < 7 → tables_1[(([491, 492, 481, 483, 485, 487, 489] : List Nat).getD k 0)]? = some (u_lay RX5 TX5 k) ∧ goodWord (u_lay RX5 TX5 k) = true := by decide +kernel
  exact xG_of _ (h2 k hk).1 (h2 k hk).2
theorem xkdX5 : Jvm.Cond.instantiable RX5 7 ∈ xG ∧ Jvm.Cond.initialized RX5 ∈ xG := ⟨xG_of 468 (by decide +kernel) (by decide +kernel), xG_of 22 (by decide +kernel) (by decide +kernel)⟩
theorem xtkX5 : ∀ k, k < 7 → xok (tyX5 k) (xft 4 k) = true := by decide +kernel
theorem xinX6 : ∀ w ∈ u_ws RX6 TX6 8, w ∈ xG := by
  intro w h
  obtain ⟨k, hk, rfl⟩ := List.mem_map.mp h
  have hk := List.mem_range.mp hk
  have h2 : ∀ k, k < 8 → tables_1[(([616, 618, 620, 622, 624, 626, 628, 630] : List Nat).getD k 0)]? = some (u_lay RX6 TX6 k) ∧ goodWord (u_lay RX6 TX6 k) = true := by decide +kernel
  exact xG_of _ (h2 k hk).1 (h2 k hk).2
theorem xkdX6 : Jvm.Cond.instantiable RX6 8 ∈ xG ∧ Jvm.Cond.initialized RX6 ∈ xG := ⟨xG_of 586 (by decide +kernel) (by decide +kernel), xG_of 26 (by decide +kernel) (by decide +kernel)⟩
theorem xtkX6 : ∀ k, k < 8 → xok (tyX6 k) (xft 5 k) = true := by decide +kernel
theorem xinX7 : ∀ w ∈ u_ws RX7 TX7 4, w ∈ xG := by
  intro w h
  obtain ⟨k, hk, rfl⟩ := List.mem_map.mp h
  have hk := List.mem_range.mp hk
  have h2 : ∀ k, k < 4 → tables_1[(([462, 464, 458, 460] : List Nat).getD k 0)]? = some (u_lay RX7 TX7 k) ∧ goodWord (u_lay RX7 TX7 k) = true := by decide +kernel
  exact xG_of _ (h2 k hk).1 (h2 k hk).2
theorem xkdX7 : Jvm.Cond.instantiable RX7 4 ∈ xG ∧ Jvm.Cond.initialized RX7 ∈ xG := ⟨xG_of 436 (by decide +kernel) (by decide +kernel), xG_of 21 (by decide +kernel) (by decide +kernel)⟩
theorem xtkX7 : ∀ k, k < 4 → xok (tyX7 k) (xft 6 k) = true := by decide +kernel
theorem xinX8 : ∀ w ∈ u_ws RX8 TX8 2, w ∈ xG := by
  intro w h
  obtain ⟨k, hk, rfl⟩ := List.mem_map.mp h
  have hk := List.mem_range.mp hk
  have h2 : ∀ k, k < 2 → tables_1[(([543, 545] : List Nat).getD k 0)]? = some (u_lay RX8 TX8 k) ∧ goodWord (u_lay RX8 TX8 k) = true := by decide +kernel
  exact xG_of _ (h2 k hk).1 (h2 k hk).2
theorem xkdX8 : Jvm.Cond.instantiable RX8 2 ∈ xG ∧ Jvm.Cond.initialized RX8 ∈ xG := ⟨xG_of 536 (by decide +kernel) (by decide +kernel), xG_of 24 (by decide +kernel) (by decide +kernel)⟩
theorem xtkX8 : ∀ k, k < 2 → xok (tyX8 k) (xft 7 k) = true := by decide +kernel
theorem xinX9 : ∀ w ∈ u_ws RX9 TX9 7, w ∈ xG := by
  intro w h
  obtain ⟨k, hk, rfl⟩ := List.mem_map.mp h
  have hk := List.mem_range.mp hk
  have h2 : ∀ k, k < 7 → tables_1[(([74, 76, 78, 80, 82, 84, 86] : List Nat).getD k 0)]? = some (u_lay RX9 TX9 k) ∧ goodWord (u_lay RX9 TX9 k) = true := by decide +kernel
  exact xG_of _ (h2 k hk).1 (h2 k hk).2
theorem xkdX9 : Jvm.Cond.instantiable RX9 7 ∈ xG ∧ Jvm.Cond.initialized RX9 ∈ xG := ⟨xG_of 44 (by decide +kernel) (by decide +kernel), xG_of 3 (by decide +kernel) (by decide +kernel)⟩
theorem xtkX9 : ∀ k, k < 7 → xok (tyX9 k) (xft 8 k) = true := by decide +kernel
theorem xinX10 : ∀ w ∈ u_ws RX10 TX10 12, w ∈ xG := by
  intro w h
  obtain ⟨k, hk, rfl⟩ := List.mem_map.mp h
  have hk := List.mem_range.mp hk
  have h2 : ∀ k, k < 12 → tables_1[(([645, 647, 649, 651, 653, 655, 657, 659, 661, 663, 665, 667] : List Nat).getD k 0)]? = some (u_lay RX10 TX10 k) ∧ goodWord (u_lay RX10 TX10 k) = true := by decide +kernel
  exact xG_of _ (h2 k hk).1 (h2 k hk).2
theorem xkdX10 : Jvm.Cond.instantiable RX10 12 ∈ xG ∧ Jvm.Cond.initialized RX10 ∈ xG := ⟨xG_of 30 (by decide +kernel) (by decide +kernel), xG_of 1 (by decide +kernel) (by decide +kernel)⟩
theorem xtkX10 : ∀ k, k < 12 → xok (tyX10 k) (xft 9 k) = true := by decide +kernel
theorem xinX11 : ∀ w ∈ u_ws RX11 TX11 47, w ∈ xG := by
  intro w h
  obtain ⟨k, hk, rfl⟩ := List.mem_map.mp h
  have hk := List.mem_range.mp hk
  have h2 : ∀ k, k < 47 → tables_1[(([1128, 1130, 1132, 1134, 1136, 1138, 1140, 1142, 1144, 1146, 1148, 1150, 1152, 1154, 1156, 1158, 1160, 1162, 1164, 1166, 1168, 1170, 1172, 1174, 1176, 1178, 1180, 1182, 1184, 1186, 1188, 1190, 1192, 1194, 1196, 1198, 1200, 1202, 1204, 1206, 1208, 1210, 1212, 1214, 1216, 1218, 1220] : List Nat).getD k 0)]? = some (u_lay RX11 TX11 k) ∧ goodWord (u_lay RX11 TX11 k) = true := by decide +kernel
  exact xG_of _ (h2 k hk).1 (h2 k hk).2
theorem xkdX11 : Jvm.Cond.instantiable RX11 47 ∈ xG ∧ Jvm.Cond.initialized RX11 ∈ xG := ⟨xG_of 1070 (by decide +kernel) (by decide +kernel), xG_of 27 (by decide +kernel) (by decide +kernel)⟩
theorem xtkX11 : ∀ k, k < 47 → xok (tyX11 k) (xft 10 k) = true := by decide +kernel
/-- what is known of a class of the light machine -/
def xKnow (i : Nat) (q : vw_C) : Prop := (∀ w ∈ u_ws q.1 q.2.1 q.2.2, w ∈ xG) ∧ (Jvm.Cond.instantiable q.1 q.2.2 ∈ xG ∧ Jvm.Cond.initialized q.1 ∈ xG) ∧ (∀ a, a < q.2.2 → ∀ b, b < q.2.2 → a ≠ b → (q.2.1 a).2.1 ≠ (q.2.1 b).2.1) ∧ ∃ ty : Nat → FieldType, (∀ k, k < q.2.2 → parseFieldDescriptor (q.2.1 k).2.2.1 = some (ty k)) ∧ ∀ k, k < q.2.2 → xok (ty k) (xft (i + 1) k) = true
theorem xknow : ∀ (i : Nat) (q : vw_C), xCl[i]? = some q → xKnow i q := by
  intro i q h
  match i, h with
  | 0, h => cases h; exact ⟨xinX0, xkdX0, nmX0, tyX0, tyX0_ok, xtkX0⟩
  | 1, h => cases h; exact ⟨xinX1, xkdX1, nmX1, tyX1, tyX1_ok, xtkX1⟩
  | 2, h => cases h; exact ⟨xinX4, xkdX4, nmX4, tyX4, tyX4_ok, xtkX4⟩
  | 3, h => cases h; exact ⟨xinX5, xkdX5, nmX5, tyX5, tyX5_ok, xtkX5⟩
  | 4, h => cases h; exact ⟨xinX6, xkdX6, nmX6, tyX6, tyX6_ok, xtkX6⟩
  | 5, h => cases h; exact ⟨xinX7, xkdX7, nmX7, tyX7, tyX7_ok, xtkX7⟩
  | 6, h => cases h; exact ⟨xinX8, xkdX8, nmX8, tyX8, tyX8_ok, xtkX8⟩
  | 7, h => cases h; exact ⟨xinX9, xkdX9, nmX9, tyX9, tyX9_ok, xtkX9⟩
  | 8, h => cases h; exact ⟨xinX10, xkdX10, nmX10, tyX10, tyX10_ok, xtkX10⟩
  | 9, h => cases h; exact ⟨xinX11, xkdX11, nmX11, tyX11, tyX11_ok, xtkX11⟩
  | i + 10, h => simp [xCl] at h
end
section
/-! THE LIGHT MACHINE: cells by number, ints, longs and references by cell and place; a step is a function; nothing of frames, links and tables -/
abbrev xS : Type := (Nat → Nat × Nat) × (List Nat × Nat) × (Nat → Nat → Int32) × (Nat → Nat → Int64) × (Nat → Nat → Option Nat)
abbrev xL : Type := List (Option Value)
abbrev xF : Type := Nat × xL × List Value × xS
abbrev xI : Type := Instr × Nat × Nat × Nat
def xup {α : Type} (f : Nat → Nat → α) (a k : Nat) (v : α) : Nat → Nat → α := va_up f a (va_up (f a) k v)
def xat (pc : Nat) : List (Nat × xI) → Option xI
  | [] => none
  | e :: t => if e.1 = pc then some e.2 else xat pc t
theorem xat_mem {pc : Nat} {x : xI} : ∀ {t : List (Nat × xI)}, xat pc t = some x → (pc, x) ∈ t
  | [], h => by simp [xat] at h
  | e :: t, h => by
    unfold xat at h
    split at h
    · rename_i he
      cases h
      subst he
      exact List.mem_cons_self
    · exact List.mem_cons_of_mem _ (xat_mem h)
def xld (L : xL) (i : Nat) : Option Value := match L[i]? with
  | some o => o
  | none => none
def xclr (L : xL) (i : Nat) : xL := match i with
  | 0 => L
  | j + 1 => match xld L j with
    | some v => if v.category = 2 then L.set j none else L
    | none => L
def xst1 (L : xL) (i : Nat) (v : Value) : Option xL := if i < L.length then some ((xclr L i).set i (some v)) else none
def xst2 (L : xL) (i : Nat) (v : Value) : Option xL := if i + 1 < L.length then some (((xclr L i).set i (some v)).set (i + 1) none) else none
def xii (f : Int32 → Int32 → Int32) (st : List Value) : Option (List Value) := match st with
  | .int y :: .int x :: r => some (.int (f x y) :: r)
  | _ => none
def xjj (f : Int64 → Int64 → Int64) (st : List Value) : Option (List Value) := match st with
  | .long y :: .long x :: r => some (.long (f x y) :: r)
  | _ => none
def xji (f : Int64 → Int32 → Int64) (st : List Value) : Option (List Value) := match st with
  | .int y :: .long x :: r => some (.long (f x y) :: r)
  | _ => none
/-- instructions of the operand stack alone -/
def xop (ins : Instr) (r1 : Nat) (st : List Value) : Option (List Value) := match ins with
  | .iconst n => some (.int (Int32.ofInt n) :: st)
  | .bipush n => some (.int (Int8.ofInt n).toInt32 :: st)
  | .sipush n => some (.int (Int16.ofInt n).toInt32 :: st)
  | .lconst n => some (.long (Int64.ofNat (n : Nat)) :: st)
  | .ldc _ => some (.int (Int32.ofNat r1) :: st)
  | .ldc_w _ => some (.int (Int32.ofNat r1) :: st)
  | .ldc2_w _ => some (.long (Int64.ofNat r1) :: st)
  | .iadd => xii (fun x y => x + y) st
  | .isub => xii (fun x y => x - y) st
  | .imul => xii (fun x y => x * y) st
  | .iand => xii (fun x y => x &&& y) st
  | .ior => xii (fun x y => x ||| y) st
  | .ixor => xii (fun x y => x ^^^ y) st
  | .ishl => xii (fun x y => x <<< (y &&& 31)) st
  | .ishr => xii (fun x y => x >>> (y &&& 31)) st
  | .idiv => match st with
    | .int y :: .int x :: r => if y = 0 then none else some (.int (x / y) :: r)
    | _ => none
  | .ineg => match st with
    | .int x :: r => some (.int (-x) :: r)
    | _ => none
  | .i2l => match st with
    | .int x :: r => some (.long x.toInt64 :: r)
    | _ => none
  | .l2i => match st with
    | .long x :: r => some (.int x.toInt32 :: r)
    | _ => none
  | .ladd => xjj (fun x y => x + y) st
  | .lsub => xjj (fun x y => x - y) st
  | .lmul => xjj (fun x y => x * y) st
  | .land => xjj (fun x y => x &&& y) st
  | .lor => xjj (fun x y => x ||| y) st
  | .lxor => xjj (fun x y => x ^^^ y) st
  | .lshl => xji (fun x y => x <<< (y.toInt64 &&& 63)) st
  | .lshr => xji (fun x y => x >>> (y.toInt64 &&& 63)) st
  | .lushr => xji (fun x y => (x.toUInt64 >>> (y.toInt64.toUInt64 &&& Int64.toUInt64 63)).toInt64) st
  | .lcmp => match st with
    | .long y :: .long x :: r => some (.int (lg_cmp x y) :: r)
    | _ => none
  | .dup => match st with
    | v :: r => if v.category = 1 then some (v :: v :: r) else none
    | _ => none
  | .dup2 => match st with
    | v :: w :: r => if v.category = 1 ∧ w.category = 1 then some (v :: w :: v :: w :: r) else none
    | _ => none
  | _ => none
/-- loads and stores of the locals -/
def xlo (ins : Instr) (L : xL) (st : List Value) : Option (xL × List Value) := match ins with
  | .iload_n k => match xld L (k : Nat) with
    | some (.int x) => some (L, .int x :: st)
    | _ => none
  | .iload i => match xld L i with
    | some (.int x) => some (L, .int x :: st)
    | _ => none
  | .lload_n k => match xld L (k : Nat) with
    | some (.long x) => some (L, .long x :: st)
    | _ => none
  | .lload i => match xld L i with
    | some (.long x) => some (L, .long x :: st)
    | _ => none
  | .aload_n k => match xld L (k : Nat) with
    | some (.ref x) => some (L, .ref x :: st)
    | _ => none
  | .aload i => match xld L i with
    | some (.ref x) => some (L, .ref x :: st)
    | _ => none
  | .istore_n k => match st with
    | .int x :: r => (xst1 L (k : Nat) (.int x)).map (fun L' => (L', r))
    | _ => none
  | .istore i => match st with
    | .int x :: r => (xst1 L i (.int x)).map (fun L' => (L', r))
    | _ => none
  | .astore_n k => match st with
    | .ref x :: r => (xst1 L (k : Nat) (.ref x)).map (fun L' => (L', r))
    | _ => none
  | .astore i => match st with
    | .ref x :: r => (xst1 L i (.ref x)).map (fun L' => (L', r))
    | _ => none
  | .lstore_n k => match st with
    | .long x :: r => (xst2 L (k : Nat) (.long x)).map (fun L' => (L', r))
    | _ => none
  | .lstore i => match st with
    | .long x :: r => (xst2 L i (.long x)).map (fun L' => (L', r))
    | _ => none
  | .iinc i n => match xld L i with
    | some (.int x) => (xst1 L i (.int (x + Int32.ofInt n))).map (fun L' => (L', st))
    | _ => none
  | _ => none
def xcmp (c : Jvm.ClassFile.Cond) (x y : Int32) : Bool := match c with
  | .eq => decide (x = y)
  | .ne => decide (¬ x = y)
  | .lt => decide (x < y)
  | .ge => decide (y ≤ x)
  | .gt => decide (y < x)
  | .le => decide (x ≤ y)
/-- branches: r1 is where they go -/
def xbr (ins : Instr) (r1 pc : Nat) (st : List Value) : Option (Nat × List Value) := match ins with
  | .goto _ => some (r1, st)
  | .if_icmp c _ => match st with
    | .int y :: .int x :: r => some (if xcmp c x y = true then r1 else pc + 3, r)
    | _ => none
  | .ifCond c _ => match st with
    | .int x :: r => some (if xcmp c x 0 = true then r1 else pc + 3, r)
    | _ => none
  | .tableswitch dflt lo hi offs => match st with
    | .int x :: r => (if x.toInt < lo ∨ hi < x.toInt then some dflt else offs[(x.toInt - lo).toNat]?).bind (fun o => match (pc : Int) + o with
      | .ofNat t => some (t, r)
      | _ => none)
    | _ => none
  | _ => none
/-- how long an instruction is, where the step asks for it -/
def xlen (ins : Instr) : Nat := match ins with
  | .bipush _ | .ldc _ | .iload _ | .lload _ | .aload _ | .istore _ | .astore _ | .lstore _ | .newarray _ => 2
  | .sipush _ | .ldc_w _ | .ldc2_w _ | .iinc _ _ | .goto _ | .if_icmp _ _ | .ifCond _ _ | .getfield _ | .putfield _ | .getstatic _ | .new _ | .invokevirtual _ | .invokestatic _ | .invokespecial _ => 3
  | _ => 1
end
section
/-! THE LIGHT MACHINE'S STEPS ARE THE MACHINE'S: stack, locals, branches -/
def xsh (ad : Nat → Nat) (v : Value) : Value := match v with
  | .ref k => .ref (ad k)
  | v => v
theorem xsh_cat (ad : Nat → Nat) (v : Value) : (xsh ad v).category = v.category := by cases v <;> rfl
def xas (ad : Nat → Nat) (L : xL) : List (Nat × Value) := (List.range L.length).filterMap (fun i => (xld L i).map (fun v => (i, xsh ad v)))
theorem xld_lt {L : xL} {i : Nat} {v : Value} (h : xld L i = some v) : i < L.length := by
  unfold xld at h
  split at h
  · rename_i o ho
    exact (List.getElem?_eq_some_iff.mp ho).1
  · cases h
theorem xas_mem {ad : Nat → Nat} {L : xL} {i : Nat} {w : Value} : (i, w) ∈ xas ad L ↔ ∃ v, xld L i = some v ∧ w = xsh ad v := by
  unfold xas
  constructor
  · intro h
    obtain ⟨j, -, hj⟩ := List.mem_filterMap.mp h
    cases hv : xld L j with
    | none => rw [hv] at hj; cases hj
    | some v =>
      rw [hv] at hj
      cases hj
      exact ⟨v, hv, rfl⟩
  · rintro ⟨v, hv, rfl⟩
    exact List.mem_filterMap.mpr ⟨i, List.mem_range.mpr (xld_lt hv), by rw [hv]; rfl⟩
def xLH (ad : Nat → Nat) (ls : Array Slot) (L : xL) : Prop := lv_has ls L.length (xas ad L)
theorem xLH.at {ad : Nat → Nat} {ls : Array Slot} {L : xL} (h : xLH ad ls L) {i : Nat} {v : Value} (hv : xld L i = some v) : ls[i]? = some (.val (xsh ad v)) := h.2.2 (i, xsh ad v) (xas_mem.mpr ⟨v, hv, rfl⟩)
theorem xclr_len (L : xL) (i : Nat) : (xclr L i).length = L.length := by
  unfold xclr
  split
  · rfl
  · split
    · split
      · simp
      · rfl
    · rfl
theorem xld_set_ne {L : xL} {i j : Nat} {o : Option Value} (h : i ≠ j) : xld (L.set i o) j = xld L j := by
  unfold xld
  rw [List.getElem?_set_ne h]
theorem xld_set_self {L : xL} {i : Nat} {o : Option Value} (h : i < L.length) : xld (L.set i o) i = o := by
  unfold xld
  rw [List.getElem?_set_self h]
theorem xclr_ld {L : xL} {i j : Nat} {v : Value} (h : xld (xclr L i) j = some v) : xld L j = some v ∧ ¬ (j + 1 = i ∧ v.category = 2) := by
  unfold xclr at h
  split at h
  · exact ⟨h, fun z => by omega⟩
  · rename_i k
    split at h
    · rename_i u hu
      split at h
      · by_cases hjk : k = j
        · subst hjk
          rw [xld_set_self (xld_lt hu)] at h
          cases h
        · rw [xld_set_ne hjk] at h
          exact ⟨h, fun z => hjk (by omega)⟩
      · rename_i hc
        refine ⟨h, fun z => ?_⟩
        obtain ⟨z1, z2⟩ := z
        have : j = k := by omega
        subst this
        rw [hu] at h
        cases h
        exact hc z2
    · rename_i hn
      refine ⟨h, fun z => ?_⟩
      have : j = k := by omega
      subst this
      rw [hn] at h
      cases h
theorem xLH.st1 {ad : Nat → Nat} {ls : Array Slot} {L L' : xL} {i : Nat} {v : Value} (hs : xst1 L i v = some L') (h : lv_has ls L.length ((i, xsh ad v) :: (xas ad L).filter (fun q => !(q.1 == i) && !(q.1 + 1 == i && q.2.category == 2)))) : xLH ad ls L' := by
  unfold xst1 at hs
  split at hs
  · rename_i hi
    cases hs
    unfold xLH
    have hlen : ((xclr L i).set i (some v)).length = L.length := by simp [xclr_len]
    rw [hlen]
    refine ⟨h.1, h.2.1, fun q hq => ?_⟩
    obtain ⟨j, w⟩ := q
    obtain ⟨u, hu, rfl⟩ := xas_mem.mp hq
    by_cases hij : i = j
    · subst hij
      rw [xld_set_self (by rw [xclr_len]; exact hi)] at hu
      cases hu
      exact h.2.2 _ List.mem_cons_self
    · rw [xld_set_ne hij] at hu
      obtain ⟨h1, h2⟩ := xclr_ld hu
      refine h.2.2 (j, xsh ad u) (List.mem_cons_of_mem _ (List.mem_filter.mpr ⟨xas_mem.mpr ⟨u, h1, rfl⟩, ?_⟩))
      simp only [Bool.and_eq_true, Bool.not_eq_true', beq_eq_false_iff_ne, ne_eq, Bool.and_eq_false_iff]
      refine ⟨fun z => hij z.symm, ?_⟩
      by_cases hj : j + 1 = i
      · right
        rw [xsh_cat]
        exact fun z => h2 ⟨hj, z⟩
      · left
        exact hj
  · cases hs
theorem xLH.st2 {ad : Nat → Nat} {ls : Array Slot} {L L' : xL} {i : Nat} {v : Value} (hs : xst2 L i v = some L') (h : lv_has ls L.length ((i, xsh ad v) :: (xas ad L).filter (fun q => !(q.1 == i) && (!(q.1 == i + 1) && !(q.1 + 1 == i && q.2.category == 2))))) : xLH ad ls L' := by
  unfold xst2 at hs
  split at hs
  · rename_i hi
    cases hs
    unfold xLH
    have hlen : (((xclr L i).set i (some v)).set (i + 1) none).length = L.length := by simp [xclr_len]
    rw [hlen]
    refine ⟨h.1, h.2.1, fun q hq => ?_⟩
    obtain ⟨j, w⟩ := q
    obtain ⟨u, hu, rfl⟩ := xas_mem.mp hq
    by_cases hij1 : i + 1 = j
    · subst hij1
      rw [xld_set_self (by rw [List.length_set, xclr_len]; exact hi)] at hu
      cases hu
    rw [xld_set_ne hij1] at hu
    by_cases hij : i = j
    · subst hij
      rw [xld_set_self (by rw [xclr_len]; omega)] at hu
      cases hu
      exact h.2.2 _ List.mem_cons_self
    · rw [xld_set_ne hij] at hu
      obtain ⟨h1, h2⟩ := xclr_ld hu
      refine h.2.2 (j, xsh ad u) (List.mem_cons_of_mem _ (List.mem_filter.mpr ⟨xas_mem.mpr ⟨u, h1, rfl⟩, ?_⟩))
      simp only [Bool.and_eq_true, Bool.not_eq_true', beq_eq_false_iff_ne, ne_eq, Bool.and_eq_false_iff]
      refine ⟨fun z => hij z.symm, fun z => hij1 z.symm, ?_⟩
      by_cases hj : j + 1 = i
      · right
        rw [xsh_cat]
        exact fun z => h2 ⟨hj, z⟩
      · left
        exact hj
  · cases hs
theorem xst1_lt {L L' : xL} {i : Nat} {v : Value} (hs : xst1 L i v = some L') : i < L.length := by
  unfold xst1 at hs
  split at hs
  · assumption
  · cases hs
theorem xst2_lt {L L' : xL} {i : Nat} {v : Value} (hs : xst2 L i v = some L') : i + 1 < L.length := by
  unfold xst2 at hs
  split at hs
  · assumption
  · cases hs
section XA
variable {p : Program} {l : Launch} {e : Env} {R : Room} {s : State} {m : MethodId} {args : Array Value} {below : List Frame} {meth : Method} {c : Code} {H : Heap} {locs : List Loc} {cells slots : Nat} {Q : State → Prop}
variable {cc : ByteArray} {pc : Nat} {ls : Array Slot} {ad : Nat → Nat}
/-- what a constant's instruction asks of the words -/
def xcon (Ts : List Jvm.Cond) (own : String) (ins : Instr) (r1 : Nat) : Prop := match ins with
  | .ldc i => Jvm.Cond.constant own i (Int32.ofNat r1) ∈ Ts
  | .ldc_w i => Jvm.Cond.constant own i (Int32.ofNat r1) ∈ Ts
  | .ldc2_w i => Jvm.Cond.constantLong own i (Int64.ofNat r1) ∈ Ts
  | _ => True
set_option maxHeartbeats 4000000 in
theorem xop_ok (hexec : p.tables.exec = Jvm.exec) (hb : c.code = cc) {Ts : List Jvm.Cond} {own : String} (hown : s.vm.findClass own = some m.cls) (hts : ∀ w ∈ Ts, w.before args s = true) {ins : Instr} {r1 : Nat} (hd : decode cc pc = .ok (ins, xlen ins)) (hc : xcon Ts own ins r1)
    {st st' : List Value} (h : xop ins r1 st = some st') (k : W p l e R s m args below meth c H locs cells slots Q (F0 m (pc + xlen ins) ls (st'.map (xsh ad)))) : W p l e R s m args below meth c H locs cells slots Q (F0 m pc ls (st.map (xsh ad))) := by
  unfold xop at h
  split at h
  · cases h; exact lv_iconst hexec hb hd rfl k
  · cases h; exact lv_bipush hexec hb hd rfl k
  · cases h; exact lv_sipush hexec hb hd rfl k
  · cases h; exact lv_lconst hexec hb hd rfl k
  · cases h; exact lv_ldc hexec hb hown (hts _ hc) hd k
  · cases h; exact lv_ldcw hexec hb hown (hts _ hc) hd k
  · cases h; exact lv_ldc2 hexec hb hown (hts _ hc) hd k
  · unfold xii at h; split at h <;> cases h; exact lv_iadd hexec hb hd k
  · unfold xii at h; split at h <;> cases h; exact lv_isub hexec hb hd k
  · unfold xii at h; split at h <;> cases h; exact lv_imul hexec hb hd k
  · unfold xii at h; split at h <;> cases h; exact lv_iand hexec hb hd k
  · unfold xii at h; split at h <;> cases h; exact lv_ior hexec hb hd k
  · unfold xii at h; split at h <;> cases h; exact lv_ixor hexec hb hd k
  · unfold xii at h; split at h <;> cases h; exact lv_ishl hexec hb hd k
  · unfold xii at h; split at h <;> cases h; exact lv_ishr hexec hb hd k
  · split at h
    · split at h
      · cases h
      · rename_i hne
        cases h; exact lv_idiv hexec hb hd hne k
    · cases h
  · split at h <;> cases h; exact lv_ineg hexec hb hd k
  · split at h <;> cases h; exact lv_i2l hexec hb hd rfl k
  · split at h <;> cases h; exact lv_l2i hexec hb hd rfl k
  · unfold xjj at h; split at h <;> cases h; exact lv_ladd hexec hb hd k
  · unfold xjj at h; split at h <;> cases h; exact lv_lsub hexec hb hd k
  · unfold xjj at h; split at h <;> cases h; exact lv_lmul hexec hb hd k
  · unfold xjj at h; split at h <;> cases h; exact lv_land hexec hb hd k
  · unfold xjj at h; split at h <;> cases h; exact lv_lor hexec hb hd k
  · unfold xjj at h; split at h <;> cases h; exact lv_lxor hexec hb hd k
  · unfold xji at h; split at h <;> cases h; exact lv_lshl hexec hb hd rfl k
  · unfold xji at h; split at h <;> cases h; exact lv_lshr hexec hb hd rfl k
  · unfold xji at h; split at h <;> cases h; exact lv_lushr hexec hb hd rfl k
  · split at h <;> cases h; exact W.lcmp hexec hb hd k
  · split at h
    · split at h
      · rename_i v r hv
        cases h; exact lv_dup (va := xsh ad v) hexec hb hd (by rw [xsh_cat]; exact hv) k
      · cases h
    · cases h
  · split at h
    · split at h
      · rename_i v w r hv
        cases h; exact lv_dup2_11 (va := xsh ad v) (vb := xsh ad w) hexec hb hd (by rw [xsh_cat]; exact hv.1) (by rw [xsh_cat]; exact hv.2) k
      · cases h
    · cases h
  · cases h
set_option maxHeartbeats 4000000 in
theorem xlo_ok (hexec : p.tables.exec = Jvm.exec) (hb : c.code = cc) {ins : Instr} (hd : decode cc pc = .ok (ins, xlen ins))
    {L L' : xL} {st st' : List Value} (hl : xLH ad ls L) (h : xlo ins L st = some (L', st')) (k : ∀ ls', xLH ad ls' L' → W p l e R s m args below meth c H locs cells slots Q (F0 m (pc + xlen ins) ls' (st'.map (xsh ad)))) : W p l e R s m args below meth c H locs cells slots Q (F0 m pc ls (st.map (xsh ad))) := by
  unfold xlo at h
  split at h
  · split at h
    · rename_i hx
      cases h; exact lv_iload_n hexec hb hd rfl (hl.at hx) (k ls hl)
    · cases h
  · split at h
    · rename_i hx
      cases h; exact lv_iload hexec hb hd (hl.at hx) (k ls hl)
    · cases h
  · split at h
    · rename_i hx
      cases h; exact lv_lload_n hexec hb hd rfl (hl.at hx) (k ls hl)
    · cases h
  · split at h
    · rename_i hx
      cases h; exact lv_lload hexec hb hd (hl.at hx) (k ls hl)
    · cases h
  · split at h
    · rename_i hx
      cases h; exact lv_aload_n hexec hb hd rfl (hl.at hx) (k ls hl)
    · cases h
  · split at h
    · rename_i hx
      cases h; exact lv_aload hexec hb hd (hl.at hx) (k ls hl)
    · cases h
  · split at h
    · obtain ⟨L2, hs, he⟩ := Option.map_eq_some_iff.mp h
      cases he
      exact lv_istore_n hexec hb hd rfl hl (xst1_lt hs) rfl (fun ls' h' => k ls' (xLH.st1 hs h'))
    · cases h
  · split at h
    · obtain ⟨L2, hs, he⟩ := Option.map_eq_some_iff.mp h
      cases he
      exact lv_istore hexec hb hd hl (xst1_lt hs) rfl (fun ls' h' => k ls' (xLH.st1 hs h'))
    · cases h
  · split at h
    · obtain ⟨L2, hs, he⟩ := Option.map_eq_some_iff.mp h
      cases he
      exact lv_astore_n hexec hb hd rfl hl (xst1_lt hs) rfl (fun ls' h' => k ls' (xLH.st1 hs h'))
    · cases h
  · split at h
    · obtain ⟨L2, hs, he⟩ := Option.map_eq_some_iff.mp h
      cases he
      exact lv_astore hexec hb hd hl (xst1_lt hs) rfl (fun ls' h' => k ls' (xLH.st1 hs h'))
    · cases h
  · split at h
    · obtain ⟨L2, hs, he⟩ := Option.map_eq_some_iff.mp h
      cases he
      exact lv_lstore_n hexec hb hd rfl hl (xst2_lt hs) rfl (fun ls' h' => k ls' (xLH.st2 hs h'))
    · cases h
  · split at h
    · obtain ⟨L2, hs, he⟩ := Option.map_eq_some_iff.mp h
      cases he
      exact lv_lstore hexec hb hd hl (xst2_lt hs) rfl (fun ls' h' => k ls' (xLH.st2 hs h'))
    · cases h
  · split at h
    · rename_i x hx
      obtain ⟨L2, hs, he⟩ := Option.map_eq_some_iff.mp h
      cases he
      obtain ⟨kk, hkk⟩ := List.getElem?_of_mem (xas_mem.mpr ⟨_, hx, rfl⟩ : (_, xsh ad (.int x)) ∈ xas ad L)
      exact lv_iinc hexec hb hd hl hkk rfl (xst1_lt hs) rfl (fun ls' h' => k ls' (xLH.st1 hs h'))
    · cases h
  · cases h
/-- where a branch goes, and how long it is -/
def xbrk (ins : Instr) (r1 pc : Nat) : Prop := match ins with
  | .goto off => (pc : Int) + off = (r1 : Int)
  | .if_icmp _ off => (pc : Int) + off = (r1 : Int)
  | .ifCond _ off => (pc : Int) + off = (r1 : Int)
  | _ => True
set_option maxHeartbeats 4000000 in
theorem xbr_ok (hexec : p.tables.exec = Jvm.exec) (hb : c.code = cc) {ins : Instr} {len r1 : Nat} (hd : decode cc pc = .ok (ins, len)) (hlen : (∃ a b d o, ins = .tableswitch a b d o) ∨ len = xlen ins) (hk : xbrk ins r1 pc)
    {st st' : List Value} {pc' : Nat} (h : xbr ins r1 pc st = some (pc', st')) (k : W p l e R s m args below meth c H locs cells slots Q (F0 m pc' ls (st'.map (xsh ad)))) : W p l e R s m args below meth c H locs cells slots Q (F0 m pc ls (st.map (xsh ad))) := by
  unfold xbr at h
  split at h
  · obtain ⟨_, _, _, _, hq⟩ | rfl := hlen
    · cases hq
    · cases h; exact lv_goto hexec hb hd hk k
  · rename_i cd off
    obtain ⟨_, _, _, _, hq⟩ | rfl := hlen
    · cases hq
    split at h
    · cases h
      cases cd
      · refine lv_icmp_eq hexec hb hd hk (fun hz => ?_) (fun hz => ?_) <;> simpa [xcmp, hz] using k
      · refine lv_icmp_ne hexec hb hd hk (fun hz => ?_) (fun hz => ?_) <;> simpa [xcmp, hz] using k
      · refine lv_icmp_lt hexec hb hd hk (fun hz => by simpa only [xcmp, decide_eq_true_eq, if_pos hz] using k) (fun hz => by simpa only [xcmp, decide_eq_true_eq, if_neg hz] using k)
      · refine lv_icmp_ge hexec hb hd hk (fun hz => by simpa only [xcmp, decide_eq_true_eq, if_pos hz] using k) (fun hz => by simpa only [xcmp, decide_eq_true_eq, if_neg hz] using k)
      · refine lv_icmp_gt hexec hb hd hk (fun hz => by simpa only [xcmp, decide_eq_true_eq, if_pos hz] using k) (fun hz => by simpa only [xcmp, decide_eq_true_eq, if_neg hz] using k)
      · refine lv_icmp_le hexec hb hd hk (fun hz => by simpa only [xcmp, decide_eq_true_eq, if_pos hz] using k) (fun hz => by simpa only [xcmp, decide_eq_true_eq, if_neg hz] using k)
    · cases h
  · rename_i cd off
    obtain ⟨_, _, _, _, hq⟩ | rfl := hlen
    · cases hq
    split at h
    · cases h
      cases cd
      · refine lv_if_eq hexec hb hd hk (fun hz => ?_) (fun hz => ?_) <;> simpa [xcmp, hz] using k
      · refine lv_if_ne hexec hb hd hk (fun hz => ?_) (fun hz => ?_) <;> simpa [xcmp, hz] using k
      · refine lv_if_lt hexec hb hd hk (fun hz => by simpa only [xcmp, decide_eq_true_eq, if_pos hz] using k) (fun hz => by simpa only [xcmp, decide_eq_true_eq, if_neg hz] using k)
      · refine lv_if_ge hexec hb hd hk (fun hz => by simpa only [xcmp, decide_eq_true_eq, if_pos hz] using k) (fun hz => by simpa only [xcmp, decide_eq_true_eq, if_neg hz] using k)
      · refine lv_if_gt hexec hb hd hk (fun hz => by simpa only [xcmp, decide_eq_true_eq, if_pos hz] using k) (fun hz => by simpa only [xcmp, decide_eq_true_eq, if_neg hz] using k)
      · refine lv_if_le hexec hb hd hk (fun hz => by simpa only [xcmp, decide_eq_true_eq, if_pos hz] using k) (fun hz => by simpa only [xcmp, decide_eq_true_eq, if_neg hz] using k)
    · cases h
  · rename_i dflt lo hi offs
    split at h
    · rename_i x r
      obtain ⟨o, ho, h2⟩ := Option.bind_eq_some_iff.mp h
      split at h2
      · rename_i t ht
        cases h2
        by_cases hr : x.toInt < lo ∨ hi < x.toInt
        · rw [if_pos hr] at ho
          cases ho
          exact lv_tableOut hexec hb hd hr ht k
        · rw [if_neg hr] at ho
          rw [not_or] at hr
          exact lv_tableIn hexec hb hd hr.1 hr.2 ho ht k
      · cases h2
    · cases h
  · cases h
end XA
end
section
/-! THE LIGHT MACHINE'S HEAP -/
def xv (h : xS) (a k : Nat) : Value := if xft (h.1 a).1 k = 1 then .long (h.2.2.2.1 a k) else if xft (h.1 a).1 k = 3 then va_rf (h.2.2.2.2 a k) else .int (h.2.2.1 a k)
def xpf (h : xS) (a k : Nat) (v : Value) : Option xS := match v with
  | .int x => if xft (h.1 a).1 k = 0 ∨ (xft (h.1 a).1 k = 2 ∧ (x = 0 ∨ x = 1)) then some (h.1, h.2.1, xup h.2.2.1 a k x, h.2.2.2) else none
  | .long x => if xft (h.1 a).1 k = 1 then some (h.1, h.2.1, h.2.2.1, xup h.2.2.2.1 a k x, h.2.2.2.2) else none
  | .ref b => if xft (h.1 a).1 k = 3 then some (h.1, h.2.1, h.2.2.1, h.2.2.2.1, xup h.2.2.2.2 a k (some b)) else none
  | _ => none
/-- fields and arrays: r1 is the class's kind (or the cell of a static array), r2 the field -/
def xhp (ins : Instr) (r1 r2 : Nat) (st : List Value) (h : xS) : Option (List Value × xS) := match ins with
  | .getfield _ => match st with
    | .ref a :: r => if xsub r1 (h.1 a).1 = true then some (xv h a r2 :: r, h) else none
    | _ => none
  | .putfield _ => match st with
    | v :: .ref a :: r => if xsub r1 (h.1 a).1 = true then (xpf h a r2 v).map (fun h' => (r, h')) else none
    | _ => none
  | .getstatic _ => some (.ref r1 :: st, h)
  | .iaload => match st with
    | .int i :: .ref a :: r => if ((h.1 a).1 = 100 ∨ (h.1 a).1 = 103) ∧ ¬ (i < 0 ∨ (h.1 a).2 ≤ i.toNatClampNeg) then some (.int (h.2.2.1 a i.toNatClampNeg) :: r, h) else none
    | _ => none
  | .baload => match st with
    | .int i :: .ref a :: r => if (h.1 a).1 = 102 ∧ ¬ (i < 0 ∨ (h.1 a).2 ≤ i.toNatClampNeg) then some (.int (h.2.2.1 a i.toNatClampNeg) :: r, h) else none
    | _ => none
  | .laload => match st with
    | .int i :: .ref a :: r => if (h.1 a).1 = 101 ∧ ¬ (i < 0 ∨ (h.1 a).2 ≤ i.toNatClampNeg) then some (.long (h.2.2.2.1 a i.toNatClampNeg) :: r, h) else none
    | _ => none
  | .iastore => match st with
    | .int x :: .int i :: .ref a :: r => if (h.1 a).1 = 100 ∧ ¬ (i < 0 ∨ (h.1 a).2 ≤ i.toNatClampNeg) then some (r, (h.1, h.2.1, xup h.2.2.1 a i.toNatClampNeg x, h.2.2.2)) else none
    | _ => none
  | .bastore => match st with
    | .int x :: .int i :: .ref a :: r => if ((h.1 a).1 = 102 ∧ (x = 0 ∨ x = 1)) ∧ ¬ (i < 0 ∨ (h.1 a).2 ≤ i.toNatClampNeg) then some (r, (h.1, h.2.1, xup h.2.2.1 a i.toNatClampNeg x, h.2.2.2)) else none
    | _ => none
  | .lastore => match st with
    | .long x :: .int i :: .ref a :: r => if (h.1 a).1 = 101 ∧ ¬ (i < 0 ∨ (h.1 a).2 ≤ i.toNatClampNeg) then some (r, (h.1, h.2.1, h.2.2.1, xup h.2.2.2.1 a i.toNatClampNeg x, h.2.2.2.2)) else none
    | _ => none
  | .arraylength => match st with
    | .ref a :: r => if (h.1 a).1 = 100 ∨ (h.1 a).1 = 103 ∨ (h.1 a).1 = 101 then some (.int (Int32.ofNat (h.1 a).2) :: r, h) else none
    | _ => none
  | _ => none
/-- cells that are made: the next of the plan -/
def xal (ins : Instr) (r1 : Nat) (st : List Value) (h : xS) : Option (List Value × xS × Nat) := match ins with
  | .newarray t => match st, h.2.1.1 with
    | .int n :: r, a :: pl => if (h.1 a).1 = 0 ∧ ¬ n < 0 ∧ n.toNatClampNeg ≤ 1000000 then match t with
        | .int => some (.ref a :: r, (va_up h.1 a (100, n.toNatClampNeg), (pl, h.2.1.2), va_up h.2.2.1 a (fun _ => 0), h.2.2.2), n.toNatClampNeg)
        | .long => some (.ref a :: r, (va_up h.1 a (101, n.toNatClampNeg), (pl, h.2.1.2), h.2.2.1, va_up h.2.2.2.1 a (fun _ => 0), h.2.2.2.2), n.toNatClampNeg)
        | .boolean => some (.ref a :: r, (va_up h.1 a (102, n.toNatClampNeg), (pl, h.2.1.2), va_up h.2.2.1 a (fun _ => 0), h.2.2.2), n.toNatClampNeg)
        | _ => none
      else none
    | _, _ => none
  | .new _ => match h.2.1.1 with
    | a :: pl => if (h.1 a).1 = 0 ∧ r1 ≠ 0 ∧ r1 < 100 then match xCl[r1 - 1]? with
        | some q => some (.ref a :: st, (va_up h.1 a (r1, q.2.2), (pl, h.2.1.2), va_up h.2.2.1 a (fun _ => 0), va_up h.2.2.2.1 a (fun _ => 0), va_up h.2.2.2.2 a (fun _ => none)), q.2.2)
        | none => none
      else none
    | _ => none
  | _ => none
def xown (h : xS) (a : Nat) : Prop := (h.1 a).1 ≠ 0 ∧ (h.1 a).1 ≠ 103
def xcell (D : va_G) (dA : Nat → ClassId) (ad : Nat → Nat) (h : xS) (a : Nat) (H : Heap) : Prop :=
  ((h.1 a).1 = 100 → H[ad a]? = some (arrV (dA 100) (h.1 a).2 (fun j => .int (h.2.2.1 a j)))) ∧
  ((h.1 a).1 = 101 → H[ad a]? = some (arrV (dA 101) (h.1 a).2 (fun j => .long (h.2.2.2.1 a j)))) ∧
  ((h.1 a).1 = 102 → H[ad a]? = some (arrV (dA 102) (h.1 a).2 (fun j => .int (h.2.2.1 a j)))) ∧
  ∀ q, (h.1 a).1 ≠ 0 → xCl[(h.1 a).1 - 1]? = some q → t_OB (ad a) (D.1 ((h.1 a).1 - 1)) q.2.2 (D.2 ((h.1 a).1 - 1)) H (fun k => xsh ad (xv h a k))
def xHO (D : va_G) (dA : Nat → ClassId) (ad : Nat → Nat) (base : Nat) (xe : Nat → Option (Nat × (Nat → Int32))) (h : xS) (H : Heap) : Prop :=
  (∀ a, xown h a → xcell D dA ad h a H ∧ base ≤ ad a ∧ ad a < H.size) ∧
  (∀ a b, xown h a → xown h b → ad a = ad b → a = b) ∧
  (∀ a, (h.1 a).1 = 103 → ∃ n f, xe a = some (n, f) ∧ h.1 a = (103, n) ∧ h.2.2.1 a = f) ∧
  ∀ (j a : Nat), h.2.1.1[j]? = some a → ad a = H.size + j
theorem xcell.congr {D : va_G} {dA : Nat → ClassId} {ad : Nat → Nat} {h h1 : xS} {a : Nat} {H H1 : Heap} (c : xcell D dA ad h a H) (eK : h1.1 a = h.1 a) (eI : h1.2.2.1 a = h.2.2.1 a) (eJ : h1.2.2.2.1 a = h.2.2.2.1 a) (eR : h1.2.2.2.2 a = h.2.2.2.2 a) (eH : H1[ad a]? = H[ad a]?) : xcell D dA ad h1 a H1 := by
  unfold xcell at c ⊢
  have ev : (fun k => xsh ad (xv h1 a k)) = fun k => xsh ad (xv h a k) := by
    funext k
    unfold xv
    rw [eK, eI, eJ, eR]
  rw [eK, eI, eJ, eH, ev]
  exact ⟨c.1, c.2.1, c.2.2.1, fun q h0 hq => (c.2.2.2 q h0 hq).kept eH⟩
/-- one cell changes -/
theorem xHO.put {D : va_G} {dA : Nat → ClassId} {ad : Nat → Nat} {base : Nat} {xe : Nat → Option (Nat × (Nat → Int32))} {h h1 : xS} {H H1 : Heap} (o : xHO D dA ad base xe h H) {a : Nat} (ha : xown h a) (eK : h1.1 = h.1) (eP : h1.2.1 = h.2.1) (eO : ∀ b, b ≠ a → h1.2.2.1 b = h.2.2.1 b ∧ h1.2.2.2.1 b = h.2.2.2.1 b ∧ h1.2.2.2.2 b = h.2.2.2.2 b)
    (z : H1.size = H.size) (oq : ∀ q : Nat, q ≠ ad a → H1[q]? = H[q]?) (hc : xcell D dA ad h1 a H1) : xHO D dA ad base xe h1 H1 := by
  obtain ⟨o1, o2, o3, o4⟩ := o
  refine ⟨fun b hb => ?_, fun b d hb hd => ?_, fun b hb => ?_, fun j b hj => ?_⟩
  · have hb' : xown h b := by unfold xown at hb ⊢; rw [← eK]; exact hb
    obtain ⟨c1, c2, c3⟩ := o1 b hb'
    refine ⟨?_, c2, by rw [z]; exact c3⟩
    by_cases hba : b = a
    · subst hba; exact hc
    · obtain ⟨e1, e2, e3⟩ := eO b hba
      exact c1.congr (by rw [eK]) e1 e2 e3 (oq _ (fun hz => hba (o2 b a hb' ha hz)))
  · unfold xown at hb hd
    rw [eK] at hb hd
    exact o2 b d hb hd
  · rw [eK] at hb ⊢
    obtain ⟨n, f, f1, f2, f3⟩ := o3 b hb
    refine ⟨n, f, f1, f2, ?_⟩
    rw [(eO b (fun hz => ha.2 (by rw [← hz]; exact hb))).1]
    exact f3
  · rw [eP] at hj
    rw [z]
    exact o4 j b hj
theorem xup_ne {α : Type} (f : Nat → Nat → α) {a b : Nat} (k : Nat) (v : α) (h : b ≠ a) : xup f a k v b = f b := va_up_ne _ _ h
theorem xup_at {α : Type} (f : Nat → Nat → α) (a k : Nat) (v : α) (j : Nat) : xup f a k v a j = if j = k then v else f a j := by unfold xup; rw [va_up_self]; rfl
/-- what a field's instruction asks of the words -/
def xGF (own : String) (idx k j : Nat) : Prop := ∃ q : vw_C, k ≠ 0 ∧ k < 100 ∧ xCl[k - 1]? = some q ∧ j < q.2.2 ∧ ∃ ref : String, Jvm.Cond.fieldLink own idx ref (q.2.1 j).2.1 (q.2.1 j).2.2.1 ∈ xG ∧ (ref = (q.2.1 j).1 ∨ Jvm.Cond.sameField ref (q.2.1 j).1 (q.2.1 j).2.1 (q.2.1 j).2.2.1 ∈ xG)
def xPF (own : String) (ini : Bool) (k j : Nat) : Prop := ∀ q : vw_C, xCl[k - 1]? = some q → (q.2.1 j).2.2.2 = false ∨ ((q.2.1 j).2.2.2 = true ∧ ini = true ∧ (q.2.1 j).1 = own)
/-- a static array: its field, and the cell that it is -/
def xST (own : String) (idx k : Nat) (D : Nat → Option (String × String × String)) : Prop := ∃ C n d, D k = some (C, n, d) ∧ Jvm.Cond.fieldLink own idx C n d ∈ xG
def xhw (sd : Nat → Option (String × String × String)) (own : String) (ini : Bool) (ins : Instr) (r1 r2 : Nat) : Prop := match ins with
  | .getfield i => ∀ k, xsub r1 k = true → xGF own i k r2
  | .putfield i => ∀ k, xsub r1 k = true → xGF own i k r2 ∧ xPF own ini k r2
  | .getstatic i => xST own i r1 sd
  | _ => True
abbrev xtys (dA : Nat → ClassId) : List (ClassId × FieldType) := [(dA 100, .int), (dA 101, .long), (dA 102, .boolean)]
/-- what stays true of the tables and of what the run doesn't own -/
def xKK (D : va_G) (dA : Nat → ClassId) (ad : Nat → Nat) (base : Nat) (xe : Nat → Option (Nat × (Nat → Int32))) (sd : Nat → Option (String × String × String)) (s : State) : Prop :=
  va_K D xCl (xtys dA) s ∧ (∀ a n f, xe a = some (n, f) → va_T .int (ad a) n (fun j => .int (f j)) (fun q => base ≤ q) s s.heap) ∧ ∀ k C n d, sd k = some (C, n, d) → va_Z C n d (.ref (ad k)) (fun q => base ≤ q) s s.heap
section XH
variable {p : Program} {l : Launch} {e : Env} {R : Room} {s : State} {m : MethodId} {args : Array Value} {below : List Frame} {meth : Method} {c : Code} {H : Heap} {locs : List Loc} {cells slots : Nat} {Q : State → Prop}
variable {cc : ByteArray} {pc nL : Nat} {ls : Array Slot} {ad : Nat → Nat} {D : va_G} {dA : Nat → ClassId} {base : Nat} {xe : Nat → Option (Nat × (Nat → Int32))} {sd : Nat → Option (String × String × String)} {own : String}
theorem xsh_rf (ad : Nat → Nat) (o : Option Nat) : xsh ad (va_rf o) = va_rf (o.map ad) := by cases o <;> rfl
theorem xgf_ok (S : CallFix p m c cc nL s args xG own) (hK : va_K D xCl (xtys dA) s) {h : xS} (hH : xHO D dA ad base xe h H) {a k idx : Nat} (hw : xGF own idx (h.1 a).1 k) (hd : decode cc pc = .ok (.getfield idx, 3)) {rest : List Value}
    (kk : W p l e R s m args below meth c H locs cells slots Q (F0 m (pc + 3) ls (xsh ad (xv h a k) :: rest))) : W p l e R s m args below meth c H locs cells slots Q (F0 m pc ls (.ref (ad a) :: rest)) := by
  obtain ⟨hexec, hb, -, hown, hts⟩ := S
  obtain ⟨q, hk0, hk1, hq, hj, ref, hl, hs⟩ := hw
  obtain ⟨hin, -, -, -, -, -⟩ := xknow _ q hq
  obtain ⟨⟨-, -, -, co⟩, -, -⟩ := hH.1 a ⟨hk0, by omega⟩
  obtain ⟨cell, q1, q2, q3, q4⟩ := co q hk0 hq
  obtain ⟨hS, hfc, kC, hkC, hkind⟩ := hK.1 _ q hq
  obtain ⟨cf, kf, fi, f, hi, hsl⟩ := hS k hj
  have hsame : ∀ x, s.fieldFound? (q.2.1 k).1 (q.2.1 k).2.1 (q.2.1 k).2.2.1 = some x → s.fieldFound? ref (q.2.1 k).2.1 (q.2.1 k).2.2.1 = some x := by
    rcases hs with hs | hs
    · subst hs; exact fun x hx => hx
    · exact u_same (hts _ hs)
  refine W.getf hexec hb hown (hts _ hl) (hsame _ hi) (u_facts hfc hkC (u_lays hts hin hj) hi).1 q1 (by rw [q3]; exact fun h => by cases h) (v := xsh ad (xv h a k)) ?_ rfl rfl hd kk
  rw [hsl, q4 k hj]
theorem xok_fit {f : FieldType} {n : Nat} (h : xok f n = true) {v : Value} (hv : (n = 0 ∧ ∃ x, v = .int x) ∨ (n = 2 ∧ ∃ x : Int32, v = .int x ∧ (x = 0 ∨ x = 1)) ∨ (n = 1 ∧ ∃ x, v = .long x) ∨ (n = 3 ∧ ∃ x, v = .ref x)) : narrow f v = v ∧ fits f v = true := by
  rcases hv with ⟨rfl, x, rfl⟩ | ⟨rfl, x, rfl, hx⟩ | ⟨rfl, x, rfl⟩ | ⟨rfl, x, rfl⟩
  · cases f <;> simp [xok] at h
    exact ⟨rfl, rfl⟩
  · cases f <;> simp [xok] at h
    rcases hx with rfl | rfl <;> exact ⟨by decide, by decide⟩
  · cases f <;> simp [xok] at h
    exact ⟨rfl, rfl⟩
  · cases f <;> simp [xok] at h
    · exact ⟨rfl, rfl⟩
    · exact ⟨rfl, rfl⟩
theorem xpf_ok (S : CallFix p m c cc nL s args xG own) (hK : va_K D xCl (xtys dA) s) {h h1 : xS} (hH : xHO D dA ad base xe h H) (hS0 : va_S (fun q => base ≤ q) s.heap H locs) {a k idx : Nat} {ini : Bool} (hw : xGF own idx (h.1 a).1 k ∧ xPF own ini (h.1 a).1 k) (hini : ini = true → meth.name = "<init>") (hd : decode cc pc = .ok (.putfield idx, 3)) {v : Value} {rest : List Value} (hx : xpf h a k v = some h1)
    (kk : ∀ H1 locs1, xHO D dA ad base xe h1 H1 → va_S (fun q => base ≤ q) s.heap H1 locs1 → W p l e R s m args below meth c H1 locs1 cells slots Q (F0 m (pc + 3) ls rest)) : W p l e R s m args below meth c H locs cells slots Q (F0 m pc ls (xsh ad v :: .ref (ad a) :: rest)) := by
  obtain ⟨hexec, hb, -, hown, hts⟩ := S
  obtain ⟨⟨q, hk0, hk1, hq, hj, ref, hl, hs⟩, hfin⟩ := hw
  obtain ⟨hin, -, hnm, ty, hty, hok⟩ := xknow _ q hq
  have hoa : xown h a := ⟨hk0, by omega⟩
  obtain ⟨⟨c1, c2, c3, co⟩, hba, -⟩ := hH.1 a hoa
  obtain ⟨cell, q1, q2, q3, q4⟩ := co q hk0 hq
  have hap := va_apart (own := own) hts hin ty hty hnm hK hq
  obtain ⟨hS, hfc, kC, hkC, hkind⟩ := hK.1 _ q hq
  obtain ⟨cf, kf, fi, f, hi, hsl⟩ := hS k hj
  have hsame : ∀ x, s.fieldFound? (q.2.1 k).1 (q.2.1 k).2.1 (q.2.1 k).2.2.1 = some x → s.fieldFound? ref (q.2.1 k).2.1 (q.2.1 k).2.2.1 = some x := by
    rcases hs with hs | hs
    · subst hs; exact fun x hx => hx
    · exact u_same (hts _ hs)
  have hokk := hok k hj
  rw [show (h.1 a).1 - 1 + 1 = (h.1 a).1 by omega] at hokk
  -- the value fits, the new picture is the old one with the value at k
  have key : (narrow (ty k) (xsh ad v) = xsh ad v ∧ fits (ty k) (xsh ad v) = true) ∧ h1.1 = h.1 ∧ h1.2.1 = h.2.1 ∧ (∀ b, b ≠ a → h1.2.2.1 b = h.2.2.1 b ∧ h1.2.2.2.1 b = h.2.2.2.1 b ∧ h1.2.2.2.2 b = h.2.2.2.2 b) ∧ ∀ j, updV (fun k => xsh ad (xv h a k)) k (xsh ad v) j = xsh ad (xv h1 a j) := by
    unfold xpf at hx
    split at hx
    · rename_i x
      split at hx
      · rename_i hc
        cases hx
        refine ⟨xok_fit hokk ?_, rfl, rfl, fun b hb => ⟨xup_ne _ _ _ hb, rfl, rfl⟩, fun j => ?_⟩
        · rcases hc with hc | ⟨hc, hc2⟩
          · exact Or.inl ⟨hc, x, rfl⟩
          · exact Or.inr (Or.inl ⟨hc, x, rfl, hc2⟩)
        · unfold updV xv
          by_cases hjk : j = k
          · subst hjk
            have h1 : xft (h.1 a).1 j ≠ 1 := by rcases hc with hc | ⟨hc, -⟩ <;> omega
            have h3 : xft (h.1 a).1 j ≠ 3 := by rcases hc with hc | ⟨hc, -⟩ <;> omega
            simp [h1, h3, xup_at]
          · simp [hjk, xup_at]
      · cases hx
    · rename_i x
      split at hx
      · rename_i hc
        cases hx
        refine ⟨xok_fit hokk (Or.inr (Or.inr (Or.inl ⟨hc, x, rfl⟩))), rfl, rfl, fun b hb => ⟨rfl, xup_ne _ _ _ hb, rfl⟩, fun j => ?_⟩
        unfold updV xv
        by_cases hjk : j = k
        · subst hjk
          simp [hc, xup_at]
        · simp [hjk, xup_at]
      · cases hx
    · rename_i x
      split at hx
      · rename_i hc
        cases hx
        refine ⟨xok_fit hokk (Or.inr (Or.inr (Or.inr ⟨hc, ad x, rfl⟩))), rfl, rfl, fun b hb => ⟨rfl, rfl, xup_ne _ _ _ hb⟩, fun j => ?_⟩
        unfold updV xv
        by_cases hjk : j = k
        · subst hjk
          simp [hc, xup_at]
          rfl
        · simp [hjk, xup_at]
      · cases hx
    · cases hx
  obtain ⟨⟨hn, hf⟩, eK, eP, eO, eV⟩ := key
  have fin : ∀ H1 : Heap, H1[ad a]? = some (cell.setSlot (D.2 ((h.1 a).1 - 1) k) (xsh ad v)) → H1.size = H.size → (∀ z : Nat, z ≠ ad a → H1[z]? = H[z]?) → W p l e R s m args below meth c H1 (locs ++ [⟨ad a, D.2 ((h.1 a).1 - 1) k⟩]) cells slots Q (F0 m (pc + 3) ls rest) := by
    intro H1 e1 e2 e3
    refine kk H1 _ (hH.put hoa eK eP eO e2 e3 ?_) (hS0.put e2 e3 hba)
    refine ⟨fun hz => ?_, fun hz => ?_, fun hz => ?_, fun r hr0 hr => ?_⟩
    · rw [eK] at hz; omega
    · rw [eK] at hz; omega
    · rw [eK] at hz; omega
    · rw [eK] at hr hr0 ⊢
      cases hq.symm.trans hr
      exact t_OB.to (V := updV (fun k => xsh ad (xv h a k)) k (xsh ad v)) ⟨_, e1, q2, q3, t_set q4 hap hj _⟩ (fun j _ => eV j)
  have hst := (u_facts hfc hkC (u_lays hts hin hj) hi).1
  have hlay := hts _ (hin _ (u_in_lay hj))
  unfold u_lay at hlay
  rcases hfin q hq with hfa | ⟨hfa, hi1, hdecl⟩
  · rw [if_neg (by rw [hfa]; decide)] at hlay
    have h6 := u_store hfc hkC hkind hlay hi (hty k hj) hn hf
    refine W.putK hexec hb (f := f) ⟨hown, hts _ hl, ⟨_, _, _, hsame _ hi⟩, hst⟩ (by rw [q2]; exact h6) q1 q3 (by rw [hsl]; exact k2_hasslot (q4 k hj)) rfl rfl hd fun H' e1 e2 e3 => ?_
    rw [hsl] at e1 ⊢
    exact fin H' e1 e2 e3
  · rw [if_pos hfa] at hlay
    have hcf : m.cls = cf := by
      obtain ⟨_, _, c', _, _, _, -, -, hf', -, -, -, hown2, -⟩ := Cond.laysFinal_spec hlay
      have e1 : c' = cf := by have := hi.symm.trans hf'; simp at this; exact this.1.symm
      rw [hdecl] at hown2
      rw [← e1]; exact Option.some.inj (hown.symm.trans hown2)
    have h6 := u_fits hfc hkC hkind (Or.inr hlay) hi (hty k hj) hn hf
    refine W.putFinK hexec hb hown (hts _ hl) (hsame _ hi) hst hcf (hini hi1) (by rw [q2]; exact h6) q1 q3 (by rw [hsl]; exact k2_hasslot (q4 k hj)) rfl rfl hd fun H' e1 e2 e3 => ?_
    rw [hsl] at e1 ⊢
    exact fin H' e1 e2 e3
end XH
end
section
/-! THE LIGHT MACHINE'S HEAP, instruction by instruction -/
section XH2
variable {p : Program} {l : Launch} {e : Env} {R : Room} {s : State} {m : MethodId} {args : Array Value} {below : List Frame} {meth : Method} {c : Code} {H : Heap} {locs : List Loc} {cells slots : Nat} {Q : State → Prop}
variable {cc : ByteArray} {pc nL : Nat} {ls : Array Slot} {ad : Nat → Nat} {D : va_G} {dA : Nat → ClassId} {base : Nat} {xe : Nat → Option (Nat × (Nat → Int32))} {sd : Nat → Option (String × String × String)} {own : String}
theorem xarr_I {cA : ClassId} {n k : Nat} {x : Int32} (I : Nat → Nat → Int32) (a : Nat) : (arrV cA n (fun j => .int (I a j))).setSlot k (.int x) = arrV cA n (fun j => .int (xup I a k x a j)) := by
  rw [arrV_store]
  congr 1
  funext j
  rw [xup_at]
  unfold updV
  split <;> rfl
theorem xarr_J {cA : ClassId} {n k : Nat} {x : Int64} (J : Nat → Nat → Int64) (a : Nat) : (arrV cA n (fun j => .long (J a j))).setSlot k (.long x) = arrV cA n (fun j => .long (xup J a k x a j)) := by
  rw [arrV_store]
  congr 1
  funext j
  rw [xup_at]
  unfold updV
  split <;> rfl
set_option maxHeartbeats 4000000 in
theorem xhp_ok (S : CallFix p m c cc nL s args xG own) (hKK : xKK D dA ad base xe sd s) {h h1 : xS} (hH : xHO D dA ad base xe h H) (hS0 : va_S (fun q => base ≤ q) s.heap H locs) {ini : Bool} (hini : ini = true → meth.name = "<init>") {ins : Instr} {r1 r2 : Nat} (hd : decode cc pc = .ok (ins, xlen ins)) (hw : xhw sd own ini ins r1 r2) {st st' : List Value} (hx : xhp ins r1 r2 st h = some (st', h1))
    (kk : ∀ H1 locs1, xHO D dA ad base xe h1 H1 → va_S (fun q => base ≤ q) s.heap H1 locs1 → W p l e R s m args below meth c H1 locs1 cells slots Q (F0 m (pc + xlen ins) ls (st'.map (xsh ad)))) : W p l e R s m args below meth c H locs cells slots Q (F0 m pc ls (st.map (xsh ad))) := by
  obtain ⟨hK, hE, hZ⟩ := hKK
  have S0 := S
  obtain ⟨hexec, hb, -, hown, hts⟩ := S
  unfold xhp at hx
  split at hx
  · split at hx
    · split at hx
      · rename_i hs
        cases hx
        exact xgf_ok S0 hK hH (hw _ hs) hd (kk _ _ hH hS0)
      · cases hx
    · cases hx
  · split at hx
    · split at hx
      · rename_i hs
        obtain ⟨h2, hp, he⟩ := Option.map_eq_some_iff.mp hx
        cases he
        exact xpf_ok S0 hK hH hS0 (hw _ hs) hini hd hp kk
      · cases hx
    · cases hx
  · cases hx
    obtain ⟨C, n, d, h1, h2⟩ := hw
    exact va_gets hexec hb (hZ _ _ _ _ h1) hS0 hown (hts _ h2) (fun x hx => hx) hd (kk _ _ hH hS0)
  · split at hx
    · rename_i i a r
      split at hx
      · rename_i hc
        obtain ⟨hc, hin⟩ := hc
        cases hx
        have hlt : i.toNatClampNeg < (h.1 a).2 := Nat.not_le.mp fun q => hin (Or.inr q)
        rcases hc with hc | hc
        · obtain ⟨⟨c1, -⟩, -, -⟩ := hH.1 a ⟨by omega, by omega⟩
          exact W.iald (v := .int (h.2.2.1 a i.toNatClampNeg)) hexec hb (c1 hc) ((hK.2 0 _ rfl).1 _ (fun j => .int (h.2.2.1 a j))) (fun q => by cases q) (by rw [arrV_size]; exact hin) (by rw [arrV_read _ _ hlt]) rfl rfl hd (kk _ _ hH hS0)
        · obtain ⟨n, f, f1, f2, f3⟩ := hH.2.2.1 a hc
          rw [f2] at hin
          exact va_ti hexec hb (hE a n f f1) hS0 hin rfl hd (by have := kk _ _ hH hS0; rw [f3] at this; exact this)
      · cases hx
    · cases hx
  · split at hx
    · rename_i i a r
      split at hx
      · rename_i hc
        obtain ⟨hc, hin⟩ := hc
        cases hx
        have hlt : i.toNatClampNeg < (h.1 a).2 := Nat.not_le.mp fun q => hin (Or.inr q)
        obtain ⟨⟨-, -, c1, -⟩, -, -⟩ := hH.1 a ⟨by omega, by omega⟩
        exact W.zald (v := .int (h.2.2.1 a i.toNatClampNeg)) hexec hb (c1 hc) ((hK.2 2 _ rfl).1 _ (fun j => .int (h.2.2.1 a j))) (fun q => by cases q) (by rw [arrV_size]; exact hin) (by rw [arrV_read _ _ hlt]) rfl rfl hd (kk _ _ hH hS0)
      · cases hx
    · cases hx
  · split at hx
    · rename_i i a r
      split at hx
      · rename_i hc
        obtain ⟨hc, hin⟩ := hc
        cases hx
        have hlt : i.toNatClampNeg < (h.1 a).2 := Nat.not_le.mp fun q => hin (Or.inr q)
        obtain ⟨⟨-, c1, -⟩, -, -⟩ := hH.1 a ⟨by omega, by omega⟩
        exact W.lald (v := .long (h.2.2.2.1 a i.toNatClampNeg)) hexec hb (c1 hc) ((hK.2 1 _ rfl).1 _ (fun j => .long (h.2.2.2.1 a j))) (fun q => by cases q) (by rw [arrV_size]; exact hin) (by rw [arrV_read _ _ hlt]) rfl rfl hd (kk _ _ hH hS0)
      · cases hx
    · cases hx
  · split at hx
    · rename_i x i a r
      split at hx
      · rename_i hc
        obtain ⟨hc, hin⟩ := hc
        cases hx
        have hoa : xown h a := ⟨by omega, by omega⟩
        obtain ⟨⟨c1, -⟩, hba, -⟩ := hH.1 a hoa
        refine W.iast hexec hb (c1 hc) ((hK.2 0 _ rfl).1 _ (fun j => .int (h.2.2.1 a j))) (fun q => by cases q) (by rw [arrV_size]; exact hin) rfl rfl hd fun H1 e1 z oq => ?_
        refine kk H1 _ (hH.put hoa rfl rfl (fun b hb => ⟨xup_ne _ _ _ hb, rfl, rfl⟩) z oq ⟨fun _ => ?_, fun hz => ?_, fun hz => ?_, fun q h0 hq => ?_⟩) (hS0.put z oq hba)
        · rw [e1, xarr_I]
        · exact absurd (hc.symm.trans hz) (by decide)
        · exact absurd (hc.symm.trans hz) (by decide)
        · rw [hc] at hq; simp [xCl] at hq
      · cases hx
    · cases hx
  · split at hx
    · rename_i x i a r
      split at hx
      · rename_i hc
        obtain ⟨⟨hc, hx01⟩, hin⟩ := hc
        cases hx
        have hoa : xown h a := ⟨by omega, by omega⟩
        obtain ⟨⟨-, -, c1, -⟩, hba, -⟩ := hH.1 a hoa
        refine W.zast hexec hb (c1 hc) ((hK.2 2 _ rfl).1 _ (fun j => .int (h.2.2.1 a j))) (fun q => by cases q) (by rw [arrV_size]; exact hin) rfl rfl hd fun H1 e1 z oq => ?_
        have hnar : narrow .boolean (.int x) = .int x := by rcases hx01 with rfl | rfl <;> decide
        rw [hnar] at e1
        refine kk H1 _ (hH.put hoa rfl rfl (fun b hb => ⟨xup_ne _ _ _ hb, rfl, rfl⟩) z oq ⟨fun hz => ?_, fun hz => ?_, fun _ => ?_, fun q h0 hq => ?_⟩) (hS0.put z oq hba)
        · exact absurd (hc.symm.trans hz) (by decide)
        · exact absurd (hc.symm.trans hz) (by decide)
        · rw [e1, xarr_I]
        · rw [hc] at hq; simp [xCl] at hq
      · cases hx
    · cases hx
  · split at hx
    · rename_i x i a r
      split at hx
      · rename_i hc
        obtain ⟨hc, hin⟩ := hc
        cases hx
        have hoa : xown h a := ⟨by omega, by omega⟩
        obtain ⟨⟨-, c1, -⟩, hba, -⟩ := hH.1 a hoa
        refine W.last hexec hb (c1 hc) ((hK.2 1 _ rfl).1 _ (fun j => .long (h.2.2.2.1 a j))) (fun q => by cases q) (by rw [arrV_size]; exact hin) rfl rfl hd fun H1 e1 z oq => ?_
        refine kk H1 _ (hH.put hoa rfl rfl (fun b hb => ⟨rfl, xup_ne _ _ _ hb, rfl⟩) z oq ⟨fun hz => ?_, fun _ => ?_, fun hz => ?_, fun q h0 hq => ?_⟩) (hS0.put z oq hba)
        · exact absurd (hc.symm.trans hz) (by decide)
        · rw [e1, xarr_J]
        · exact absurd (hc.symm.trans hz) (by decide)
        · rw [hc] at hq; simp [xCl] at hq
      · cases hx
    · cases hx
  · split at hx
    · rename_i a r
      split at hx
      · rename_i hc
        cases hx
        rcases hc with hc | hc | hc
        · obtain ⟨⟨c1, -⟩, -, -⟩ := hH.1 a ⟨by omega, by omega⟩
          exact W.alen (n := Int32.ofNat (h.1 a).2) hexec hb (c1 hc) ((hK.2 0 _ rfl).1 _ (fun j => .int (h.2.2.1 a j))) (by rw [arrV_size] <;> rfl) rfl rfl hd (kk _ _ hH hS0)
        · obtain ⟨n, f, f1, f2, f3⟩ := hH.2.2.1 a hc
          exact va_tlen hexec hb (hE a n f f1) hS0 rfl hd (by have := kk _ _ hH hS0; rw [f2] at this; exact this)
        · obtain ⟨⟨-, c1, -⟩, -, -⟩ := hH.1 a ⟨by omega, by omega⟩
          exact W.alen (n := Int32.ofNat (h.1 a).2) hexec hb (c1 hc) ((hK.2 1 _ rfl).1 _ (fun j => .long (h.2.2.2.1 a j))) (by rw [arrV_size] <;> rfl) rfl rfl hd (kk _ _ hH hS0)
      · cases hx
    · cases hx
  · cases hx
end XH2
end
section
/-! CELLS THAT ARE MADE -/
theorem xHO.push {D : va_G} {dA : Nat → ClassId} {ad : Nat → Nat} {base : Nat} {xe : Nat → Option (Nat × (Nat → Int32))} {h h1 : xS} {H H1 : Heap} (o : xHO D dA ad base xe h H) {a : Nat} {pl : List Nat} {kn : Nat × Nat} (hp : h.2.1.1 = a :: pl) (hdead : (h.1 a).1 = 0) (eK : h1.1 = va_up h.1 a kn) (hkn : kn.1 ≠ 0 ∧ kn.1 ≠ 103) (eP : h1.2.1.1 = pl) (eO : ∀ b, b ≠ a → h1.2.2.1 b = h.2.2.1 b ∧ h1.2.2.2.1 b = h.2.2.2.1 b ∧ h1.2.2.2.2 b = h.2.2.2.2 b)
    (hbase : base ≤ H.size) (z : H1.size = H.size + 1) (oq : ∀ q : Nat, q < H.size → H1[q]? = H[q]?) (hc : xcell D dA ad h1 a H1) : xHO D dA ad base xe h1 H1 := by
  obtain ⟨o1, o2, o3, o4⟩ := o
  have hada : ad a = H.size := by have := o4 0 a (by rw [hp]; rfl); omega
  have hKa : h1.1 a = kn := by rw [eK, va_up_self]
  have hKb : ∀ b, b ≠ a → h1.1 b = h.1 b := fun b hb => by rw [eK, va_up_ne _ _ hb]
  have old : ∀ b, b ≠ a → xown h1 b → xown h b := fun b hb hx => by unfold xown at hx ⊢; rw [← hKb b hb]; exact hx
  refine ⟨fun b hb => ?_, fun b d hb hd hbd => ?_, fun b hb => ?_, fun j b hj => ?_⟩
  · by_cases hba : b = a
    · subst hba
      exact ⟨hc, by rw [hada]; exact hbase, by rw [hada, z]; omega⟩
    · obtain ⟨c1, c2, c3⟩ := o1 b (old b hba hb)
      obtain ⟨e1, e2, e3⟩ := eO b hba
      exact ⟨c1.congr (hKb b hba) e1 e2 e3 (oq _ c3), c2, by rw [z]; omega⟩
  · by_cases hba : b = a
    · by_cases hda : d = a
      · rw [hba, hda]
      · have := (o1 d (old d hda hd)).2.2
        rw [hba, hada] at hbd
        omega
    · by_cases hda : d = a
      · have := (o1 b (old b hba hb)).2.2
        rw [hda, hada] at hbd
        omega
      · exact o2 b d (old b hba hb) (old d hda hd) hbd
  · by_cases hba : b = a
    · subst hba
      rw [hKa] at hb
      exact absurd hb hkn.2
    · rw [hKb b hba] at hb ⊢
      obtain ⟨n, f, f1, f2, f3⟩ := o3 b hb
      exact ⟨n, f, f1, f2, by rw [(eO b hba).1]; exact f3⟩
  · rw [eP] at hj
    have := o4 (j + 1) b (by rw [hp]; exact hj)
    rw [z]
    omega
def xaw (own : String) (ins : Instr) (r1 : Nat) : Prop := match ins with
  | .newarray t => Jvm.Cond.arrayClass (newarray.typeOf t) ∈ xG
  | .new i => ∀ q, xCl[r1 - 1]? = some q → Jvm.Cond.classLink own i q.1 ∈ xG
  | _ => True
section XAL
variable {p : Program} {l : Launch} {e : Env} {R : Room} {s : State} {m : MethodId} {args : Array Value} {below : List Frame} {meth : Method} {c : Code} {H : Heap} {locs : List Loc} {cells slots : Nat} {Q : State → Prop}
variable {cc : ByteArray} {pc nL : Nat} {ls : Array Slot} {ad : Nat → Nat} {D : va_G} {dA : Nat → ClassId} {base : Nat} {xe : Nat → Option (Nat × (Nat → Int32))} {sd : Nat → Option (String × String × String)} {own : String}
theorem xS_push {A : Nat → Prop} {H0 H H1 : Heap} {locs : List Loc} (hS : va_S A H0 H locs) (z : H1.size = H.size + 1) (oq : ∀ q : Nat, q < H.size → H1[q]? = H[q]?) : va_S A H0 H1 locs :=
  ⟨by have := hS.1; omega, fun q h1 h2 => (oq q (Nat.lt_of_lt_of_le h1 hS.1)).trans (hS.2.1 q h1 h2), hS.2.2⟩
theorem xdef_ok {f : FieldType} {n : Nat} (h : xok f n = true) : defaultValue f = if n = 1 then .long 0 else if n = 3 then .null else .int 0 := by
  unfold xok at h
  split at h <;> first | rfl | cases h
set_option maxHeartbeats 4000000 in
theorem xal_ok (S : CallFix p m c cc nL s args xG own) (hKK : xKK D dA ad base xe sd s) {h h1 : xS} (hH : xHO D dA ad base xe h H) (hS0 : va_S (fun q => base ≤ q) s.heap H locs) (hbase : base ≤ s.heap.size) {ins : Instr} {r1 ds : Nat} (hd : decode cc pc = .ok (ins, xlen ins)) (hw : xaw own ins r1) {st st' : List Value} (hx : xal ins r1 st h = some (st', h1, ds)) (hcells : cells + 1 ≤ R.cells) (hslots : slots + ds ≤ R.slots)
    (kk : ∀ H1, xHO D dA ad base xe h1 H1 → va_S (fun q => base ≤ q) s.heap H1 locs → W p l e R s m args below meth c H1 locs (cells + 1) (slots + ds) Q (F0 m (pc + xlen ins) ls (st'.map (xsh ad)))) : W p l e R s m args below meth c H locs cells slots Q (F0 m pc ls (st.map (xsh ad))) := by
  obtain ⟨hK, -, -⟩ := hKK
  obtain ⟨hexec, hb, -, hown, hts⟩ := S
  have hbH : base ≤ H.size := Nat.le_trans hbase hS0.1
  unfold xal at hx
  split at hx
  · rename_i t
    split at hx
    · rename_i n r a pl hpl
      have hada : ad a = H.size := by have := hH.2.2.2 0 a (by rw [hpl]; rfl); omega
      split at hx
      · rename_i hc
        obtain ⟨hdead, hn, hle⟩ := hc
        split at hx
        · cases hx
          refine va_newaK hexec hb (hts _ hw) rfl hd rfl hn rfl (by show n.toNatClampNeg * 4 ≤ _; omega) hcells hslots rfl fun H1 cA e1 z oq _ hNm => ?_
          have hcA : cA = dA 100 := Option.some.inj (hNm.symm.trans (hK.2 0 _ rfl).2)
          subst hcA
          have := kk H1 (hH.push hpl hdead rfl ⟨(fun z => by cases z), (fun z => by cases z)⟩ rfl (fun b hb => ⟨va_up_ne _ _ hb, rfl, rfl⟩) hbH z oq ⟨fun _ => ?_, fun hz => ?_, fun hz => ?_, fun q h0 hq => ?_⟩) (xS_push hS0 z oq)
          · rw [← hada]; exact this
          · rw [hada, e1]; simp only [va_up_self]; rfl
          · simp only [va_up_self] at hz; omega
          · simp only [va_up_self] at hz; omega
          · simp only [va_up_self] at hq; simp [xCl] at hq
        · cases hx
          refine va_newaK hexec hb (hts _ hw) rfl hd rfl hn rfl (by show n.toNatClampNeg * 8 ≤ _; omega) hcells hslots rfl fun H1 cA e1 z oq _ hNm => ?_
          have hcA : cA = dA 101 := Option.some.inj (hNm.symm.trans (hK.2 1 _ rfl).2)
          subst hcA
          have := kk H1 (hH.push hpl hdead rfl ⟨(fun z => by cases z), (fun z => by cases z)⟩ rfl (fun b hb => ⟨rfl, va_up_ne _ _ hb, rfl⟩) hbH z oq ⟨fun hz => ?_, fun _ => ?_, fun hz => ?_, fun q h0 hq => ?_⟩) (xS_push hS0 z oq)
          · rw [← hada]; exact this
          · simp only [va_up_self] at hz; omega
          · rw [hada, e1]; simp only [va_up_self]; rfl
          · simp only [va_up_self] at hz; omega
          · simp only [va_up_self] at hq; simp [xCl] at hq
        · cases hx
          refine va_newaK hexec hb (hts _ hw) rfl hd rfl hn rfl (by show n.toNatClampNeg * 1 ≤ _; omega) hcells hslots rfl fun H1 cA e1 z oq _ hNm => ?_
          have hcA : cA = dA 102 := Option.some.inj (hNm.symm.trans (hK.2 2 _ rfl).2)
          subst hcA
          have := kk H1 (hH.push hpl hdead rfl ⟨(fun z => by cases z), (fun z => by cases z)⟩ rfl (fun b hb => ⟨va_up_ne _ _ hb, rfl, rfl⟩) hbH z oq ⟨fun hz => ?_, fun hz => ?_, fun _ => ?_, fun q h0 hq => ?_⟩) (xS_push hS0 z oq)
          · rw [← hada]; exact this
          · simp only [va_up_self] at hz; omega
          · simp only [va_up_self] at hz; omega
          · rw [hada, e1]; simp only [va_up_self]; rfl
          · simp only [va_up_self] at hq; simp [xCl] at hq
        · cases hx
      · cases hx
    · cases hx
  · split at hx
    · rename_i a pl hpl
      have hada : ad a = H.size := by have := hH.2.2.2 0 a (by rw [hpl]; rfl); omega
      split at hx
      · rename_i hc
        obtain ⟨hdead, hr0, hr1⟩ := hc
        split at hx
        · rename_i q hq
          cases hx
          obtain ⟨hin, ⟨hins, hini⟩, hnm, ty, hty, hok⟩ := xknow _ q hq
          have hKn := hK.1 _ q hq
          refine W.newcK hexec hb hown (hts _ (hw q hq)) (hts _ hins) (hts _ hini) rfl hd hcells hslots hKn.2.1 rfl fun H1 kC hkC e1 z oq => ?_
          have := kk H1 (hH.push hpl hdead rfl ⟨hr0, by show r1 ≠ 103; omega⟩ rfl (fun b hb => ⟨va_up_ne _ _ hb, va_up_ne _ _ hb, va_up_ne _ _ hb⟩) hbH z oq ⟨fun hz => ?_, fun hz => ?_, fun hz => ?_, fun q2 h0 hq2 => ?_⟩) (xS_push hS0 z oq)
          · rw [← hada]; exact this
          · simp only [va_up_self] at hz; omega
          · simp only [va_up_self] at hz; omega
          · simp only [va_up_self] at hz; omega
          · simp only [va_up_self] at hq2 ⊢
            cases hq.symm.trans hq2
            rw [hada]
            refine (u_born ty hts hin hKn hkC e1 hty).to (fun k hk => ?_)
            rw [xdef_ok (hok k hk)]
            unfold xv
            simp only [va_up_self]
            rw [show r1 - 1 + 1 = r1 by omega]
            split
            · rfl
            · split <;> rfl
        · cases hx
      · cases hx
    · cases hx
  · cases hx
end XAL
end
