section
-- ===== PART A: goes FIRST, ahead of the names: the tables' words, and 'selects' of the private methods out of them =====
/-- a private method of a class that the tables say can be made, by its rows of tables_1 -/
def lw_okq (q : MethodName × Nat) : Prop := (q.1.cls ≠ "java/lang/invoke/MethodHandle" ∧ q.1.cls ≠ "java/lang/invoke/VarHandle") ∧ Cond.instantiable q.1.cls q.2 ∈ tables_1 ∧ Cond.privateMethod q.1 ∈ tables_1 ∧ Cond.instanceMethod q.1 ∈ tables_1
theorem lw_p0 : lw_okq (⟨"java/lang/Throwable", "fillInStackTrace", "(I)Ljava/lang/Throwable;"⟩, 6) := ⟨⟨by decide +kernel, by decide +kernel⟩, List.mem_of_getElem? (i := 151) (by decide +kernel), List.mem_of_getElem? (i := 149) (by decide +kernel), List.mem_of_getElem? (i := 150) (by decide +kernel)⟩
theorem lw_p1 : lw_okq (⟨"BestParses$Text", "noteCopies", "(III)V"⟩, 7) := ⟨⟨by decide +kernel, by decide +kernel⟩, List.mem_of_getElem? (i := 44) (by decide +kernel), List.mem_of_getElem? (i := 679) (by decide +kernel), List.mem_of_getElem? (i := 680) (by decide +kernel)⟩
theorem lw_p2 : lw_okq (⟨"BestParses", "findBest", "(LBestParses$Parse;)V"⟩, 12) := ⟨⟨by decide +kernel, by decide +kernel⟩, List.mem_of_getElem? (i := 30) (by decide +kernel), List.mem_of_getElem? (i := 716) (by decide +kernel), List.mem_of_getElem? (i := 717) (by decide +kernel)⟩
theorem lw_p3 : lw_okq (⟨"BestParses$LatestForm", "begin", "(I)V"⟩, 12) := ⟨⟨by decide +kernel, by decide +kernel⟩, List.mem_of_getElem? (i := 495) (by decide +kernel), List.mem_of_getElem? (i := 726) (by decide +kernel), List.mem_of_getElem? (i := 727) (by decide +kernel)⟩
theorem lw_p4 : lw_okq (⟨"BestParses$Costs", "lengthCost", "(I)I"⟩, 5) := ⟨⟨by decide +kernel, by decide +kernel⟩, List.mem_of_getElem? (i := 91) (by decide +kernel), List.mem_of_getElem? (i := 734) (by decide +kernel), List.mem_of_getElem? (i := 735) (by decide +kernel)⟩
theorem lw_p5 : lw_okq (⟨"BestParses$Costs", "distanceCost", "(I)I"⟩, 5) := ⟨⟨by decide +kernel, by decide +kernel⟩, List.mem_of_getElem? (i := 91) (by decide +kernel), List.mem_of_getElem? (i := 745) (by decide +kernel), List.mem_of_getElem? (i := 746) (by decide +kernel)⟩
theorem lw_p6 : lw_okq (⟨"BestParses$LatestForm", "goFrom", "(II)V"⟩, 12) := ⟨⟨by decide +kernel, by decide +kernel⟩, List.mem_of_getElem? (i := 495) (by decide +kernel), List.mem_of_getElem? (i := 759) (by decide +kernel), List.mem_of_getElem? (i := 760) (by decide +kernel)⟩
theorem lw_p7 : lw_okq (⟨"BestParses$LatestForm", "copiesWereLed", "()Z"⟩, 12) := ⟨⟨by decide +kernel, by decide +kernel⟩, List.mem_of_getElem? (i := 495) (by decide +kernel), List.mem_of_getElem? (i := 764) (by decide +kernel), List.mem_of_getElem? (i := 765) (by decide +kernel)⟩
theorem lw_p8 : lw_okq (⟨"BestParses$LatestForm", "leadByCopies", "()V"⟩, 12) := ⟨⟨by decide +kernel, by decide +kernel⟩, List.mem_of_getElem? (i := 495) (by decide +kernel), List.mem_of_getElem? (i := 768) (by decide +kernel), List.mem_of_getElem? (i := 769) (by decide +kernel)⟩
theorem lw_p9 : lw_okq (⟨"BestParses$LatestForm", "lead", "(IIIJ)V"⟩, 12) := ⟨⟨by decide +kernel, by decide +kernel⟩, List.mem_of_getElem? (i := 495) (by decide +kernel), List.mem_of_getElem? (i := 791) (by decide +kernel), List.mem_of_getElem? (i := 792) (by decide +kernel)⟩
theorem lw_p10 : lw_okq (⟨"BestParses$LatestForm", "makeRoom", "(I)Z"⟩, 12) := ⟨⟨by decide +kernel, by decide +kernel⟩, List.mem_of_getElem? (i := 495) (by decide +kernel), List.mem_of_getElem? (i := 795) (by decide +kernel), List.mem_of_getElem? (i := 796) (by decide +kernel)⟩
theorem lw_p11 : lw_okq (⟨"BestParses$LatestForm", "insert", "(IIJI)V"⟩, 12) := ⟨⟨by decide +kernel, by decide +kernel⟩, List.mem_of_getElem? (i := 495) (by decide +kernel), List.mem_of_getElem? (i := 799) (by decide +kernel), List.mem_of_getElem? (i := 800) (by decide +kernel)⟩
theorem lw_p12 : lw_okq (⟨"BestParses$LatestForm", "leadByAgain", "(I)V"⟩, 12) := ⟨⟨by decide +kernel, by decide +kernel⟩, List.mem_of_getElem? (i := 495) (by decide +kernel), List.mem_of_getElem? (i := 803) (by decide +kernel), List.mem_of_getElem? (i := 804) (by decide +kernel)⟩
theorem lw_p13 : lw_okq (⟨"BestParses$LatestForm", "tellSteps", "(LBestParses$Parse;)V"⟩, 12) := ⟨⟨by decide +kernel, by decide +kernel⟩, List.mem_of_getElem? (i := 495) (by decide +kernel), List.mem_of_getElem? (i := 822) (by decide +kernel), List.mem_of_getElem? (i := 823) (by decide +kernel)⟩
theorem lw_p14 : lw_okq (⟨"BestParses$OctetForm", "findFirst", "(I)V"⟩, 7) := ⟨⟨by decide +kernel, by decide +kernel⟩, List.mem_of_getElem? (i := 468) (by decide +kernel), List.mem_of_getElem? (i := 849) (by decide +kernel), List.mem_of_getElem? (i := 850) (by decide +kernel)⟩
theorem lw_p15 : lw_okq (⟨"BestParses$OctetForm", "lead", "(II)V"⟩, 7) := ⟨⟨by decide +kernel, by decide +kernel⟩, List.mem_of_getElem? (i := 468) (by decide +kernel), List.mem_of_getElem? (i := 853) (by decide +kernel), List.mem_of_getElem? (i := 854) (by decide +kernel)⟩
def lw_privs_1 : List (MethodName × Nat) := [(⟨"java/lang/Throwable", "fillInStackTrace", "(I)Ljava/lang/Throwable;"⟩, 6), (⟨"BestParses$Text", "noteCopies", "(III)V"⟩, 7), (⟨"BestParses", "findBest", "(LBestParses$Parse;)V"⟩, 12), (⟨"BestParses$LatestForm", "begin", "(I)V"⟩, 12), (⟨"BestParses$Costs", "lengthCost", "(I)I"⟩, 5), (⟨"BestParses$Costs", "distanceCost", "(I)I"⟩, 5), (⟨"BestParses$LatestForm", "goFrom", "(II)V"⟩, 12), (⟨"BestParses$LatestForm", "copiesWereLed", "()Z"⟩, 12), (⟨"BestParses$LatestForm", "leadByCopies", "()V"⟩, 12), (⟨"BestParses$LatestForm", "lead", "(IIIJ)V"⟩, 12), (⟨"BestParses$LatestForm", "makeRoom", "(I)Z"⟩, 12), (⟨"BestParses$LatestForm", "insert", "(IIJI)V"⟩, 12), (⟨"BestParses$LatestForm", "leadByAgain", "(I)V"⟩, 12), (⟨"BestParses$LatestForm", "tellSteps", "(LBestParses$Parse;)V"⟩, 12), (⟨"BestParses$OctetForm", "findFirst", "(I)V"⟩, 7), (⟨"BestParses$OctetForm", "lead", "(II)V"⟩, 7)]
theorem lw_r1 : ∀ q ∈ lw_privs_1, lw_okq q := List.forall_mem_cons.mpr ⟨lw_p0, List.forall_mem_cons.mpr ⟨lw_p1, List.forall_mem_cons.mpr ⟨lw_p2, List.forall_mem_cons.mpr ⟨lw_p3, List.forall_mem_cons.mpr ⟨lw_p4, List.forall_mem_cons.mpr ⟨lw_p5, List.forall_mem_cons.mpr ⟨lw_p6, List.forall_mem_cons.mpr ⟨lw_p7, List.forall_mem_cons.mpr ⟨lw_p8, List.forall_mem_cons.mpr ⟨lw_p9, List.forall_mem_cons.mpr ⟨lw_p10, List.forall_mem_cons.mpr ⟨lw_p11, List.forall_mem_cons.mpr ⟨lw_p12, List.forall_mem_cons.mpr ⟨lw_p13, List.forall_mem_cons.mpr ⟨lw_p14, List.forall_mem_cons.mpr ⟨lw_p15, fun _ h => absurd h List.not_mem_nil⟩⟩⟩⟩⟩⟩⟩⟩⟩⟩⟩⟩⟩⟩⟩⟩
theorem lw_p16 : lw_okq (⟨"BestParses$OctetForm", "tellSteps", "(LBestParses$Parse;)V"⟩, 7) := ⟨⟨by decide +kernel, by decide +kernel⟩, List.mem_of_getElem? (i := 468) (by decide +kernel), List.mem_of_getElem? (i := 860) (by decide +kernel), List.mem_of_getElem? (i := 861) (by decide +kernel)⟩
theorem lw_p17 : lw_okq (⟨"BestParses$SlotForm", "lead", "(III)V"⟩, 4) := ⟨⟨by decide +kernel, by decide +kernel⟩, List.mem_of_getElem? (i := 436) (by decide +kernel), List.mem_of_getElem? (i := 877) (by decide +kernel), List.mem_of_getElem? (i := 878) (by decide +kernel)⟩
theorem lw_p18 : lw_okq (⟨"BestParses$SlotForm", "tellSteps", "(LBestParses$Parse;)V"⟩, 4) := ⟨⟨by decide +kernel, by decide +kernel⟩, List.mem_of_getElem? (i := 436) (by decide +kernel), List.mem_of_getElem? (i := 882) (by decide +kernel), List.mem_of_getElem? (i := 883) (by decide +kernel)⟩
theorem lw_p19 : lw_okq (⟨"BestParses$Parse", "tellBack", "(III)V"⟩, 8) := ⟨⟨by decide +kernel, by decide +kernel⟩, List.mem_of_getElem? (i := 586) (by decide +kernel), List.mem_of_getElem? (i := 913) (by decide +kernel), List.mem_of_getElem? (i := 914) (by decide +kernel)⟩
theorem lw_p20 : lw_okq (⟨"BestParses$Stepper", "longerAhead", "(III)Z"⟩, 2) := ⟨⟨by decide +kernel, by decide +kernel⟩, List.mem_of_getElem? (i := 536) (by decide +kernel), List.mem_of_getElem? (i := 924) (by decide +kernel), List.mem_of_getElem? (i := 925) (by decide +kernel)⟩
theorem lw_p21 : lw_okq (⟨"BestParses$Stepper", "againAsLong", "(JII)I"⟩, 2) := ⟨⟨by decide +kernel, by decide +kernel⟩, List.mem_of_getElem? (i := 536) (by decide +kernel), List.mem_of_getElem? (i := 929) (by decide +kernel), List.mem_of_getElem? (i := 930) (by decide +kernel)⟩
theorem lw_p22 : lw_okq (⟨"BestParses$Costs", "countSymbols", "(LBestParses$Parse;LBestParses$Text;)V"⟩, 5) := ⟨⟨by decide +kernel, by decide +kernel⟩, List.mem_of_getElem? (i := 91) (by decide +kernel), List.mem_of_getElem? (i := 969) (by decide +kernel), List.mem_of_getElem? (i := 970) (by decide +kernel)⟩
theorem lw_p23 : lw_okq (⟨"BestParses$Costs", "countOne", "(II)V"⟩, 5) := ⟨⟨by decide +kernel, by decide +kernel⟩, List.mem_of_getElem? (i := 91) (by decide +kernel), List.mem_of_getElem? (i := 974) (by decide +kernel), List.mem_of_getElem? (i := 975) (by decide +kernel)⟩
theorem lw_p24 : lw_okq (⟨"BestParses$Costs", "fitClass", "(I)V"⟩, 5) := ⟨⟨by decide +kernel, by decide +kernel⟩, List.mem_of_getElem? (i := 91) (by decide +kernel), List.mem_of_getElem? (i := 978) (by decide +kernel), List.mem_of_getElem? (i := 979) (by decide +kernel)⟩
theorem lw_p25 : lw_okq (⟨"BestParses", "takeSpare", "()V"⟩, 12) := ⟨⟨by decide +kernel, by decide +kernel⟩, List.mem_of_getElem? (i := 30) (by decide +kernel), List.mem_of_getElem? (i := 992) (by decide +kernel), List.mem_of_getElem? (i := 993) (by decide +kernel)⟩
theorem lw_p26 : lw_okq (⟨"BestParses$Blocks", "findRest", "(II)V"⟩, 9) := ⟨⟨by decide +kernel, by decide +kernel⟩, List.mem_of_getElem? (i := 549) (by decide +kernel), List.mem_of_getElem? (i := 1023) (by decide +kernel), List.mem_of_getElem? (i := 1024) (by decide +kernel)⟩
theorem lw_p27 : lw_okq (⟨"BestParses$Blocks", "placeOf", "(I)I"⟩, 9) := ⟨⟨by decide +kernel, by decide +kernel⟩, List.mem_of_getElem? (i := 549) (by decide +kernel), List.mem_of_getElem? (i := 1028) (by decide +kernel), List.mem_of_getElem? (i := 1029) (by decide +kernel)⟩
theorem lw_p28 : lw_okq (⟨"BestParses$Blocks", "countOctet", "(I)I"⟩, 9) := ⟨⟨by decide +kernel, by decide +kernel⟩, List.mem_of_getElem? (i := 549) (by decide +kernel), List.mem_of_getElem? (i := 1032) (by decide +kernel), List.mem_of_getElem? (i := 1033) (by decide +kernel)⟩
theorem lw_p29 : lw_okq (⟨"BestParsesModel", "start", "()V"⟩, 47) := ⟨⟨by decide +kernel, by decide +kernel⟩, List.mem_of_getElem? (i := 1070) (by decide +kernel), List.mem_of_getElem? (i := 1078) (by decide +kernel), List.mem_of_getElem? (i := 1079) (by decide +kernel)⟩
theorem lw_p30 : lw_okq (⟨"BestParsesModel", "isCost", "(II)Z"⟩, 47) := ⟨⟨by decide +kernel, by decide +kernel⟩, List.mem_of_getElem? (i := 1070) (by decide +kernel), List.mem_of_getElem? (i := 1237) (by decide +kernel), List.mem_of_getElem? (i := 1238) (by decide +kernel)⟩
theorem lw_p31 : lw_okq (⟨"BestParsesModel", "best", "()V"⟩, 47) := ⟨⟨by decide +kernel, by decide +kernel⟩, List.mem_of_getElem? (i := 1070) (by decide +kernel), List.mem_of_getElem? (i := 1256) (by decide +kernel), List.mem_of_getElem? (i := 1257) (by decide +kernel)⟩
def lw_privs_2 : List (MethodName × Nat) := [(⟨"BestParses$OctetForm", "tellSteps", "(LBestParses$Parse;)V"⟩, 7), (⟨"BestParses$SlotForm", "lead", "(III)V"⟩, 4), (⟨"BestParses$SlotForm", "tellSteps", "(LBestParses$Parse;)V"⟩, 4), (⟨"BestParses$Parse", "tellBack", "(III)V"⟩, 8), (⟨"BestParses$Stepper", "longerAhead", "(III)Z"⟩, 2), (⟨"BestParses$Stepper", "againAsLong", "(JII)I"⟩, 2), (⟨"BestParses$Costs", "countSymbols", "(LBestParses$Parse;LBestParses$Text;)V"⟩, 5), (⟨"BestParses$Costs", "countOne", "(II)V"⟩, 5), (⟨"BestParses$Costs", "fitClass", "(I)V"⟩, 5), (⟨"BestParses", "takeSpare", "()V"⟩, 12), (⟨"BestParses$Blocks", "findRest", "(II)V"⟩, 9), (⟨"BestParses$Blocks", "placeOf", "(I)I"⟩, 9), (⟨"BestParses$Blocks", "countOctet", "(I)I"⟩, 9), (⟨"BestParsesModel", "start", "()V"⟩, 47), (⟨"BestParsesModel", "isCost", "(II)Z"⟩, 47), (⟨"BestParsesModel", "best", "()V"⟩, 47)]
theorem lw_r2 : ∀ q ∈ lw_privs_2, lw_okq q := List.forall_mem_cons.mpr ⟨lw_p16, List.forall_mem_cons.mpr ⟨lw_p17, List.forall_mem_cons.mpr ⟨lw_p18, List.forall_mem_cons.mpr ⟨lw_p19, List.forall_mem_cons.mpr ⟨lw_p20, List.forall_mem_cons.mpr ⟨lw_p21, List.forall_mem_cons.mpr ⟨lw_p22, List.forall_mem_cons.mpr ⟨lw_p23, List.forall_mem_cons.mpr ⟨lw_p24, List.forall_mem_cons.mpr ⟨lw_p25, List.forall_mem_cons.mpr ⟨lw_p26, List.forall_mem_cons.mpr ⟨lw_p27, List.forall_mem_cons.mpr ⟨lw_p28, List.forall_mem_cons.mpr ⟨lw_p29, List.forall_mem_cons.mpr ⟨lw_p30, List.forall_mem_cons.mpr ⟨lw_p31, fun _ h => absurd h List.not_mem_nil⟩⟩⟩⟩⟩⟩⟩⟩⟩⟩⟩⟩⟩⟩⟩⟩
theorem lw_p32 : lw_okq (⟨"BestParsesModel", "layOut", "()V"⟩, 47) := ⟨⟨by decide +kernel, by decide +kernel⟩, List.mem_of_getElem? (i := 1070) (by decide +kernel), List.mem_of_getElem? (i := 1260) (by decide +kernel), List.mem_of_getElem? (i := 1261) (by decide +kernel)⟩
theorem lw_p33 : lw_okq (⟨"BestParsesModel", "greatest", "()I"⟩, 47) := ⟨⟨by decide +kernel, by decide +kernel⟩, List.mem_of_getElem? (i := 1070) (by decide +kernel), List.mem_of_getElem? (i := 1264) (by decide +kernel), List.mem_of_getElem? (i := 1265) (by decide +kernel)⟩
theorem lw_p34 : lw_okq (⟨"BestParsesModel", "bestWide", "()V"⟩, 47) := ⟨⟨by decide +kernel, by decide +kernel⟩, List.mem_of_getElem? (i := 1070) (by decide +kernel), List.mem_of_getElem? (i := 1268) (by decide +kernel), List.mem_of_getElem? (i := 1269) (by decide +kernel)⟩
theorem lw_p35 : lw_okq (⟨"BestParsesModel", "clearLatest", "()V"⟩, 47) := ⟨⟨by decide +kernel, by decide +kernel⟩, List.mem_of_getElem? (i := 1070) (by decide +kernel), List.mem_of_getElem? (i := 1272) (by decide +kernel), List.mem_of_getElem? (i := 1273) (by decide +kernel)⟩
theorem lw_p36 : lw_okq (⟨"BestParsesModel", "comes", "(IIIII)V"⟩, 47) := ⟨⟨by decide +kernel, by decide +kernel⟩, List.mem_of_getElem? (i := 1070) (by decide +kernel), List.mem_of_getElem? (i := 1276) (by decide +kernel), List.mem_of_getElem? (i := 1277) (by decide +kernel)⟩
theorem lw_p37 : lw_okq (⟨"BestParsesModel", "isState", "(I)Z"⟩, 47) := ⟨⟨by decide +kernel, by decide +kernel⟩, List.mem_of_getElem? (i := 1070) (by decide +kernel), List.mem_of_getElem? (i := 1280) (by decide +kernel), List.mem_of_getElem? (i := 1281) (by decide +kernel)⟩
theorem lw_p38 : lw_okq (⟨"BestParsesModel", "moveState", "(II)V"⟩, 47) := ⟨⟨by decide +kernel, by decide +kernel⟩, List.mem_of_getElem? (i := 1070) (by decide +kernel), List.mem_of_getElem? (i := 1284) (by decide +kernel), List.mem_of_getElem? (i := 1285) (by decide +kernel)⟩
theorem lw_p39 : lw_okq (⟨"BestParsesModel", "isBehind", "(II)Z"⟩, 47) := ⟨⟨by decide +kernel, by decide +kernel⟩, List.mem_of_getElem? (i := 1070) (by decide +kernel), List.mem_of_getElem? (i := 1288) (by decide +kernel), List.mem_of_getElem? (i := 1289) (by decide +kernel)⟩
theorem lw_p40 : lw_okq (⟨"BestParsesModel", "expand", "(II)V"⟩, 47) := ⟨⟨by decide +kernel, by decide +kernel⟩, List.mem_of_getElem? (i := 1070) (by decide +kernel), List.mem_of_getElem? (i := 1292) (by decide +kernel), List.mem_of_getElem? (i := 1293) (by decide +kernel)⟩
theorem lw_p41 : lw_okq (⟨"BestParsesModel", "longestCopy", "(I)I"⟩, 47) := ⟨⟨by decide +kernel, by decide +kernel⟩, List.mem_of_getElem? (i := 1070) (by decide +kernel), List.mem_of_getElem? (i := 1296) (by decide +kernel), List.mem_of_getElem? (i := 1297) (by decide +kernel)⟩
theorem lw_p42 : lw_okq (⟨"BestParsesModel", "shortest", "()I"⟩, 47) := ⟨⟨by decide +kernel, by decide +kernel⟩, List.mem_of_getElem? (i := 1070) (by decide +kernel), List.mem_of_getElem? (i := 1300) (by decide +kernel), List.mem_of_getElem? (i := 1301) (by decide +kernel)⟩
theorem lw_p43 : lw_okq (⟨"BestParsesModel", "takeLatest", "(I)V"⟩, 47) := ⟨⟨by decide +kernel, by decide +kernel⟩, List.mem_of_getElem? (i := 1070) (by decide +kernel), List.mem_of_getElem? (i := 1304) (by decide +kernel), List.mem_of_getElem? (i := 1305) (by decide +kernel)⟩
theorem lw_p44 : lw_okq (⟨"BestParsesModel", "ahead", "(II)V"⟩, 47) := ⟨⟨by decide +kernel, by decide +kernel⟩, List.mem_of_getElem? (i := 1070) (by decide +kernel), List.mem_of_getElem? (i := 1308) (by decide +kernel), List.mem_of_getElem? (i := 1309) (by decide +kernel)⟩
theorem lw_p45 : lw_okq (⟨"BestParsesModel", "stepCost", "(IIIII)I"⟩, 47) := ⟨⟨by decide +kernel, by decide +kernel⟩, List.mem_of_getElem? (i := 1070) (by decide +kernel), List.mem_of_getElem? (i := 1312) (by decide +kernel), List.mem_of_getElem? (i := 1313) (by decide +kernel)⟩
theorem lw_p46 : lw_okq (⟨"BestParsesModel", "kindCost", "(I)I"⟩, 47) := ⟨⟨by decide +kernel, by decide +kernel⟩, List.mem_of_getElem? (i := 1070) (by decide +kernel), List.mem_of_getElem? (i := 1319) (by decide +kernel), List.mem_of_getElem? (i := 1320) (by decide +kernel)⟩
theorem lw_p47 : lw_okq (⟨"BestParsesModel", "lengthCost", "(I)I"⟩, 47) := ⟨⟨by decide +kernel, by decide +kernel⟩, List.mem_of_getElem? (i := 1070) (by decide +kernel), List.mem_of_getElem? (i := 1323) (by decide +kernel), List.mem_of_getElem? (i := 1324) (by decide +kernel)⟩
def lw_privs_3 : List (MethodName × Nat) := [(⟨"BestParsesModel", "layOut", "()V"⟩, 47), (⟨"BestParsesModel", "greatest", "()I"⟩, 47), (⟨"BestParsesModel", "bestWide", "()V"⟩, 47), (⟨"BestParsesModel", "clearLatest", "()V"⟩, 47), (⟨"BestParsesModel", "comes", "(IIIII)V"⟩, 47), (⟨"BestParsesModel", "isState", "(I)Z"⟩, 47), (⟨"BestParsesModel", "moveState", "(II)V"⟩, 47), (⟨"BestParsesModel", "isBehind", "(II)Z"⟩, 47), (⟨"BestParsesModel", "expand", "(II)V"⟩, 47), (⟨"BestParsesModel", "longestCopy", "(I)I"⟩, 47), (⟨"BestParsesModel", "shortest", "()I"⟩, 47), (⟨"BestParsesModel", "takeLatest", "(I)V"⟩, 47), (⟨"BestParsesModel", "ahead", "(II)V"⟩, 47), (⟨"BestParsesModel", "stepCost", "(IIIII)I"⟩, 47), (⟨"BestParsesModel", "kindCost", "(I)I"⟩, 47), (⟨"BestParsesModel", "lengthCost", "(I)I"⟩, 47)]
theorem lw_r3 : ∀ q ∈ lw_privs_3, lw_okq q := List.forall_mem_cons.mpr ⟨lw_p32, List.forall_mem_cons.mpr ⟨lw_p33, List.forall_mem_cons.mpr ⟨lw_p34, List.forall_mem_cons.mpr ⟨lw_p35, List.forall_mem_cons.mpr ⟨lw_p36, List.forall_mem_cons.mpr ⟨lw_p37, List.forall_mem_cons.mpr ⟨lw_p38, List.forall_mem_cons.mpr ⟨lw_p39, List.forall_mem_cons.mpr ⟨lw_p40, List.forall_mem_cons.mpr ⟨lw_p41, List.forall_mem_cons.mpr ⟨lw_p42, List.forall_mem_cons.mpr ⟨lw_p43, List.forall_mem_cons.mpr ⟨lw_p44, List.forall_mem_cons.mpr ⟨lw_p45, List.forall_mem_cons.mpr ⟨lw_p46, List.forall_mem_cons.mpr ⟨lw_p47, fun _ h => absurd h List.not_mem_nil⟩⟩⟩⟩⟩⟩⟩⟩⟩⟩⟩⟩⟩⟩⟩⟩
theorem lw_p48 : lw_okq (⟨"BestParsesModel", "distanceCost", "(I)I"⟩, 47) := ⟨⟨by decide +kernel, by decide +kernel⟩, List.mem_of_getElem? (i := 1070) (by decide +kernel), List.mem_of_getElem? (i := 1336) (by decide +kernel), List.mem_of_getElem? (i := 1337) (by decide +kernel)⟩
theorem lw_p49 : lw_okq (⟨"BestParsesModel", "longestAgain", "(II)I"⟩, 47) := ⟨⟨by decide +kernel, by decide +kernel⟩, List.mem_of_getElem? (i := 1070) (by decide +kernel), List.mem_of_getElem? (i := 1346) (by decide +kernel), List.mem_of_getElem? (i := 1347) (by decide +kernel)⟩
theorem lw_p50 : lw_okq (⟨"BestParsesModel", "turnBack", "(I)V"⟩, 47) := ⟨⟨by decide +kernel, by decide +kernel⟩, List.mem_of_getElem? (i := 1070) (by decide +kernel), List.mem_of_getElem? (i := 1350) (by decide +kernel), List.mem_of_getElem? (i := 1351) (by decide +kernel)⟩
theorem lw_p51 : lw_okq (⟨"BestParsesModel", "addStep", "(IIII)V"⟩, 47) := ⟨⟨by decide +kernel, by decide +kernel⟩, List.mem_of_getElem? (i := 1070) (by decide +kernel), List.mem_of_getElem? (i := 1354) (by decide +kernel), List.mem_of_getElem? (i := 1355) (by decide +kernel)⟩
theorem lw_p52 : lw_okq (⟨"BestParsesModel", "bestPlain", "()V"⟩, 47) := ⟨⟨by decide +kernel, by decide +kernel⟩, List.mem_of_getElem? (i := 1070) (by decide +kernel), List.mem_of_getElem? (i := 1358) (by decide +kernel), List.mem_of_getElem? (i := 1359) (by decide +kernel)⟩
theorem lw_p53 : lw_okq (⟨"BestParsesModel", "clearTable", "()V"⟩, 47) := ⟨⟨by decide +kernel, by decide +kernel⟩, List.mem_of_getElem? (i := 1070) (by decide +kernel), List.mem_of_getElem? (i := 1362) (by decide +kernel), List.mem_of_getElem? (i := 1363) (by decide +kernel)⟩
theorem lw_p54 : lw_okq (⟨"BestParsesModel", "at", "(II)I"⟩, 47) := ⟨⟨by decide +kernel, by decide +kernel⟩, List.mem_of_getElem? (i := 1070) (by decide +kernel), List.mem_of_getElem? (i := 1366) (by decide +kernel), List.mem_of_getElem? (i := 1367) (by decide +kernel)⟩
theorem lw_p55 : lw_okq (⟨"BestParsesModel", "firstRow", "(I)I"⟩, 47) := ⟨⟨by decide +kernel, by decide +kernel⟩, List.mem_of_getElem? (i := 1070) (by decide +kernel), List.mem_of_getElem? (i := 1371) (by decide +kernel), List.mem_of_getElem? (i := 1372) (by decide +kernel)⟩
theorem lw_p56 : lw_okq (⟨"BestParsesModel", "copies", "(II)V"⟩, 47) := ⟨⟨by decide +kernel, by decide +kernel⟩, List.mem_of_getElem? (i := 1070) (by decide +kernel), List.mem_of_getElem? (i := 1375) (by decide +kernel), List.mem_of_getElem? (i := 1376) (by decide +kernel)⟩
theorem lw_p57 : lw_okq (⟨"BestParsesModel", "literals", "(I)V"⟩, 47) := ⟨⟨by decide +kernel, by decide +kernel⟩, List.mem_of_getElem? (i := 1070) (by decide +kernel), List.mem_of_getElem? (i := 1379) (by decide +kernel), List.mem_of_getElem? (i := 1380) (by decide +kernel)⟩
theorem lw_p58 : lw_okq (⟨"BestParsesModel", "backPlain", "()V"⟩, 47) := ⟨⟨by decide +kernel, by decide +kernel⟩, List.mem_of_getElem? (i := 1070) (by decide +kernel), List.mem_of_getElem? (i := 1383) (by decide +kernel), List.mem_of_getElem? (i := 1384) (by decide +kernel)⟩
theorem lw_p59 : lw_okq (⟨"BestParsesModel", "greedy", "(I)V"⟩, 47) := ⟨⟨by decide +kernel, by decide +kernel⟩, List.mem_of_getElem? (i := 1070) (by decide +kernel), List.mem_of_getElem? (i := 1388) (by decide +kernel), List.mem_of_getElem? (i := 1389) (by decide +kernel)⟩
theorem lw_p60 : lw_okq (⟨"BestParsesModel", "longestOf", "(I)I"⟩, 47) := ⟨⟨by decide +kernel, by decide +kernel⟩, List.mem_of_getElem? (i := 1070) (by decide +kernel), List.mem_of_getElem? (i := 1392) (by decide +kernel), List.mem_of_getElem? (i := 1393) (by decide +kernel)⟩
theorem lw_p61 : lw_okq (⟨"BestParsesModel", "allCost", "()J"⟩, 47) := ⟨⟨by decide +kernel, by decide +kernel⟩, List.mem_of_getElem? (i := 1070) (by decide +kernel), List.mem_of_getElem? (i := 1396) (by decide +kernel), List.mem_of_getElem? (i := 1397) (by decide +kernel)⟩
theorem lw_p62 : lw_okq (⟨"BestParsesModel", "fit", "()V"⟩, 47) := ⟨⟨by decide +kernel, by decide +kernel⟩, List.mem_of_getElem? (i := 1070) (by decide +kernel), List.mem_of_getElem? (i := 1405) (by decide +kernel), List.mem_of_getElem? (i := 1406) (by decide +kernel)⟩
theorem lw_p63 : lw_okq (⟨"BestParsesModel", "fillBlocks", "(I)V"⟩, 47) := ⟨⟨by decide +kernel, by decide +kernel⟩, List.mem_of_getElem? (i := 1070) (by decide +kernel), List.mem_of_getElem? (i := 1450) (by decide +kernel), List.mem_of_getElem? (i := 1451) (by decide +kernel)⟩
def lw_privs_4 : List (MethodName × Nat) := [(⟨"BestParsesModel", "distanceCost", "(I)I"⟩, 47), (⟨"BestParsesModel", "longestAgain", "(II)I"⟩, 47), (⟨"BestParsesModel", "turnBack", "(I)V"⟩, 47), (⟨"BestParsesModel", "addStep", "(IIII)V"⟩, 47), (⟨"BestParsesModel", "bestPlain", "()V"⟩, 47), (⟨"BestParsesModel", "clearTable", "()V"⟩, 47), (⟨"BestParsesModel", "at", "(II)I"⟩, 47), (⟨"BestParsesModel", "firstRow", "(I)I"⟩, 47), (⟨"BestParsesModel", "copies", "(II)V"⟩, 47), (⟨"BestParsesModel", "literals", "(I)V"⟩, 47), (⟨"BestParsesModel", "backPlain", "()V"⟩, 47), (⟨"BestParsesModel", "greedy", "(I)V"⟩, 47), (⟨"BestParsesModel", "longestOf", "(I)I"⟩, 47), (⟨"BestParsesModel", "allCost", "()J"⟩, 47), (⟨"BestParsesModel", "fit", "()V"⟩, 47), (⟨"BestParsesModel", "fillBlocks", "(I)V"⟩, 47)]
theorem lw_r4 : ∀ q ∈ lw_privs_4, lw_okq q := List.forall_mem_cons.mpr ⟨lw_p48, List.forall_mem_cons.mpr ⟨lw_p49, List.forall_mem_cons.mpr ⟨lw_p50, List.forall_mem_cons.mpr ⟨lw_p51, List.forall_mem_cons.mpr ⟨lw_p52, List.forall_mem_cons.mpr ⟨lw_p53, List.forall_mem_cons.mpr ⟨lw_p54, List.forall_mem_cons.mpr ⟨lw_p55, List.forall_mem_cons.mpr ⟨lw_p56, List.forall_mem_cons.mpr ⟨lw_p57, List.forall_mem_cons.mpr ⟨lw_p58, List.forall_mem_cons.mpr ⟨lw_p59, List.forall_mem_cons.mpr ⟨lw_p60, List.forall_mem_cons.mpr ⟨lw_p61, List.forall_mem_cons.mpr ⟨lw_p62, List.forall_mem_cons.mpr ⟨lw_p63, fun _ h => absurd h List.not_mem_nil⟩⟩⟩⟩⟩⟩⟩⟩⟩⟩⟩⟩⟩⟩⟩⟩
theorem lw_p64 : lw_okq (⟨"BestParsesModel", "border", "(I)I"⟩, 47) := ⟨⟨by decide +kernel, by decide +kernel⟩, List.mem_of_getElem? (i := 1070) (by decide +kernel), List.mem_of_getElem? (i := 1454) (by decide +kernel), List.mem_of_getElem? (i := 1455) (by decide +kernel)⟩
theorem lw_p65 : lw_okq (⟨"BestParsesModel", "setCost", "(I)J"⟩, 47) := ⟨⟨by decide +kernel, by decide +kernel⟩, List.mem_of_getElem? (i := 1070) (by decide +kernel), List.mem_of_getElem? (i := 1458) (by decide +kernel), List.mem_of_getElem? (i := 1459) (by decide +kernel)⟩
def lw_privs_5 : List (MethodName × Nat) := [(⟨"BestParsesModel", "border", "(I)I"⟩, 47), (⟨"BestParsesModel", "setCost", "(I)J"⟩, 47)]
theorem lw_r5 : ∀ q ∈ lw_privs_5, lw_okq q := List.forall_mem_cons.mpr ⟨lw_p64, List.forall_mem_cons.mpr ⟨lw_p65, fun _ h => absurd h List.not_mem_nil⟩⟩
def lw_privs : List (MethodName × Nat) := lw_privs_1 ++ (lw_privs_2 ++ (lw_privs_3 ++ (lw_privs_4 ++ (lw_privs_5))))
def lw_tbl : List Cond := k2_sels lw_privs ++ tables_1
theorem lw_privs_ok : ∀ q ∈ lw_privs, lw_okq q := by
  show ∀ q ∈ lw_privs_1 ++ (lw_privs_2 ++ (lw_privs_3 ++ (lw_privs_4 ++ (lw_privs_5)))), lw_okq q
  exact List.forall_mem_append.mpr ⟨lw_r1, List.forall_mem_append.mpr ⟨lw_r2, List.forall_mem_append.mpr ⟨lw_r3, List.forall_mem_append.mpr ⟨lw_r4, lw_r5⟩⟩⟩⟩
-- ===== end of PART A; then your names; then what follows =====
end
section
def RX0 : String := "BestParses$Blocks"
def TX0 : u_T := fun k => match k with
  | 0 => ("BestParses$Blocks", "text", "LBestParses$Text;", true)
  | 1 => ("BestParses$Blocks", "cuts", "[I", true)
  | 2 => ("BestParses$Blocks", "cutCount", "I", false)
  | 3 => ("BestParses$Blocks", "takenCuts", "[I", true)
  | 4 => ("BestParses$Blocks", "takenCount", "I", false)
  | 5 => ("BestParses$Blocks", "restCosts", "[J", true)
  | 6 => ("BestParses$Blocks", "restBlocks", "[I", true)
  | 7 => ("BestParses$Blocks", "nextBounds", "[I", true)
  | _ => ("BestParses$Blocks", "times", "[I", true)
def tyX0 : Nat → FieldType := fun k => match k with
  | 0 => .object "BestParses$Text"
  | 1 => .array .int
  | 2 => .int
  | 3 => .array .int
  | 4 => .int
  | 5 => .array .long
  | 6 => .array .int
  | 7 => .array .int
  | _ => .array .int
theorem nmX0 : ∀ a, a < 9 → ∀ b, b < 9 → a ≠ b → (TX0 a).2.1 ≠ (TX0 b).2.1 := by decide +kernel
theorem tyX0_ok : ∀ k, k < 9 → parseFieldDescriptor (TX0 k).2.2.1 = some (tyX0 k) := by decide +kernel
abbrev cX0_init : ByteArray := prog_2_method_1_code
def yX0_init : MethodName := ⟨RX0, "<init>", "(LBestParses$Text;)V"⟩
abbrev cX0_forget : ByteArray := prog_2_method_2_code
def yX0_forget : MethodName := ⟨RX0, "forget", "()V"⟩
abbrev cX0_addCut : ByteArray := prog_2_method_3_code
def yX0_addCut : MethodName := ⟨RX0, "addCut", "(I)Z"⟩
abbrev cX0_divide : ByteArray := prog_2_method_4_code
def yX0_divide : MethodName := ⟨RX0, "divide", "(I)J"⟩
abbrev cX0_findRest : ByteArray := prog_2_method_5_code
def yX0_findRest : MethodName := ⟨RX0, "findRest", "(II)V"⟩
abbrev cX0_countOctet : ByteArray := prog_2_method_6_code
def yX0_countOctet : MethodName := ⟨RX0, "countOctet", "(I)I"⟩
abbrev cX0_placeOf : ByteArray := prog_2_method_7_code
def yX0_placeOf : MethodName := ⟨RX0, "placeOf", "(I)I"⟩
def RX1 : String := "BestParses$Costs"
def TX1 : u_T := fun k => match k with
  | 0 => ("BestParses$Costs", "classes", "I", true)
  | 1 => ("BestParses$Costs", "values", "[I", true)
  | 2 => ("BestParses$Costs", "times", "[I", true)
  | 3 => ("BestParses$Costs", "lengthCosts", "[I", true)
  | _ => ("BestParses$Costs", "distanceCosts", "[I", true)
def tyX1 : Nat → FieldType := fun k => match k with
  | 0 => .int
  | 1 => .array .int
  | 2 => .array .int
  | 3 => .array .int
  | _ => .array .int
theorem nmX1 : ∀ a, a < 5 → ∀ b, b < 5 → a ≠ b → (TX1 a).2.1 ≠ (TX1 b).2.1 := by decide +kernel
theorem tyX1_ok : ∀ k, k < 5 → parseFieldDescriptor (TX1 k).2.2.1 = some (tyX1 k) := by decide +kernel
abbrev cX1_init : ByteArray := prog_3_method_1_code
def yX1_init : MethodName := ⟨RX1, "<init>", "(I)V"⟩
abbrev cX1_reset : ByteArray := prog_3_method_2_code
def yX1_reset : MethodName := ⟨RX1, "reset", "()V"⟩
abbrev cX1_has : ByteArray := prog_3_method_3_code
def yX1_has : MethodName := ⟨RX1, "has", "(II)Z"⟩
abbrev cX1_of : ByteArray := prog_3_method_4_code
def yX1_of : MethodName := ⟨RX1, "of", "(II)I"⟩
abbrev cX1_put : ByteArray := prog_3_method_5_code
def yX1_put : MethodName := ⟨RX1, "put", "(III)V"⟩
abbrev cX1_copyFrom : ByteArray := prog_3_method_6_code
def yX1_copyFrom : MethodName := ⟨RX1, "copyFrom", "(LBestParses$Costs;)V"⟩
abbrev cX1_prepare : ByteArray := prog_3_method_7_code
def yX1_prepare : MethodName := ⟨RX1, "prepare", "(LBestParses$Text;)V"⟩
abbrev cX1_literalCost : ByteArray := prog_3_method_8_code
def yX1_literalCost : MethodName := ⟨RX1, "literalCost", "(I)I"⟩
abbrev cX1_kindCost : ByteArray := prog_3_method_9_code
def yX1_kindCost : MethodName := ⟨RX1, "kindCost", "(I)I"⟩
abbrev cX1_stepCost : ByteArray := prog_3_method_10_code
def yX1_stepCost : MethodName := ⟨RX1, "stepCost", "(LBestParses$Parse;ILBestParses$Text;)I"⟩
abbrev cX1_lengthCost : ByteArray := prog_3_method_11_code
def yX1_lengthCost : MethodName := ⟨RX1, "lengthCost", "(I)I"⟩
abbrev cX1_distanceCost : ByteArray := prog_3_method_12_code
def yX1_distanceCost : MethodName := ⟨RX1, "distanceCost", "(I)I"⟩
abbrev cX1_lengthSlot : ByteArray := prog_3_method_13_code
def yX1_lengthSlot : MethodName := ⟨RX1, "lengthSlot", "(I)I"⟩
abbrev cX1_distanceSlot : ByteArray := prog_3_method_14_code
def yX1_distanceSlot : MethodName := ⟨RX1, "distanceSlot", "(I)I"⟩
abbrev cX1_fitTo : ByteArray := prog_3_method_15_code
def yX1_fitTo : MethodName := ⟨RX1, "fitTo", "(LBestParses$Parse;LBestParses$Text;)V"⟩
abbrev cX1_countSymbols : ByteArray := prog_3_method_16_code
def yX1_countSymbols : MethodName := ⟨RX1, "countSymbols", "(LBestParses$Parse;LBestParses$Text;)V"⟩
abbrev cX1_countOne : ByteArray := prog_3_method_17_code
def yX1_countOne : MethodName := ⟨RX1, "countOne", "(II)V"⟩
abbrev cX1_fitClass : ByteArray := prog_3_method_18_code
def yX1_fitClass : MethodName := ⟨RX1, "fitClass", "(I)V"⟩
def RX2 : String := "BestParses$Form"
def TX2 : u_T := fun k => match k with
  | _ => ("", "", "", false)
def tyX2 : Nat → FieldType := fun k => match k with
  | _ => .int
theorem nmX2 : ∀ a, a < 0 → ∀ b, b < 0 → a ≠ b → (TX2 a).2.1 ≠ (TX2 b).2.1 := by decide +kernel
theorem tyX2_ok : ∀ k, k < 0 → parseFieldDescriptor (TX2 k).2.2.1 = some (tyX2 k) := by decide +kernel
abbrev cX2_init : ByteArray := prog_4_method_1_code
def yX2_init : MethodName := ⟨RX2, "<init>", "(LBestParses$Text;LBestParses$Costs;)V"⟩
abbrev cX2_costOf : ByteArray := prog_4_method_3_code
def yX2_costOf : MethodName := ⟨RX2, "costOf", "(LBestParses$Parse;)J"⟩
def RX3 : String := "BestParses$Latest"
def TX3 : u_T := fun k => match k with
  | _ => ("", "", "", false)
def tyX3 : Nat → FieldType := fun k => match k with
  | _ => .int
theorem nmX3 : ∀ a, a < 0 → ∀ b, b < 0 → a ≠ b → (TX3 a).2.1 ≠ (TX3 b).2.1 := by decide +kernel
theorem tyX3_ok : ∀ k, k < 0 → parseFieldDescriptor (TX3 k).2.2.1 = some (tyX3 k) := by decide +kernel
abbrev cX3_at : ByteArray := prog_5_method_2_code
def yX3_at : MethodName := ⟨RX3, "at", "(JI)I"⟩
abbrev cX3_behindCopy : ByteArray := prog_5_method_3_code
def yX3_behindCopy : MethodName := ⟨RX3, "behindCopy", "(JI)J"⟩
abbrev cX3_behindAgain : ByteArray := prog_5_method_4_code
def yX3_behindAgain : MethodName := ⟨RX3, "behindAgain", "(JI)J"⟩
def RX4 : String := "BestParses$LatestForm"
def TX4 : u_T := fun k => match k with
  | 0 => ("BestParses$Form", "text", "LBestParses$Text;", true)
  | 1 => ("BestParses$Form", "costs", "LBestParses$Costs;", true)
  | 2 => ("BestParses$LatestForm", "keys", "[J", true)
  | 3 => ("BestParses$LatestForm", "cameBy", "[I", true)
  | 4 => ("BestParses$LatestForm", "held", "[I", true)
  | 5 => ("BestParses$LatestForm", "dropped", "[Z", true)
  | 6 => ("BestParses$LatestForm", "bounds", "[J", true)
  | 7 => ("BestParses$LatestForm", "keptStates", "I", false)
  | 8 => ("BestParses$LatestForm", "place", "I", false)
  | 9 => ("BestParses$LatestForm", "rank", "I", false)
  | 10 => ("BestParses$LatestForm", "sum", "J", false)
  | _ => ("BestParses$LatestForm", "latest", "J", false)
def tyX4 : Nat → FieldType := fun k => match k with
  | 0 => .object "BestParses$Text"
  | 1 => .object "BestParses$Costs"
  | 2 => .array .long
  | 3 => .array .int
  | 4 => .array .int
  | 5 => .array .boolean
  | 6 => .array .long
  | 7 => .int
  | 8 => .int
  | 9 => .int
  | 10 => .long
  | _ => .long
theorem nmX4 : ∀ a, a < 12 → ∀ b, b < 12 → a ≠ b → (TX4 a).2.1 ≠ (TX4 b).2.1 := by decide +kernel
theorem tyX4_ok : ∀ k, k < 12 → parseFieldDescriptor (TX4 k).2.2.1 = some (tyX4 k) := by decide +kernel
abbrev cX4_init : ByteArray := prog_6_method_1_code
def yX4_init : MethodName := ⟨RX4, "<init>", "(LBestParses$Text;LBestParses$Costs;)V"⟩
abbrev cX4_findBest : ByteArray := prog_6_method_2_code
def yX4_findBest : MethodName := ⟨RX4, "findBest", "(LBestParses$Parse;I)I"⟩
abbrev cX4_begin : ByteArray := prog_6_method_3_code
def yX4_begin : MethodName := ⟨RX4, "begin", "(I)V"⟩
abbrev cX4_goFrom : ByteArray := prog_6_method_4_code
def yX4_goFrom : MethodName := ⟨RX4, "goFrom", "(II)V"⟩
abbrev cX4_copiesWereLed : ByteArray := prog_6_method_5_code
def yX4_copiesWereLed : MethodName := ⟨RX4, "copiesWereLed", "()Z"⟩
abbrev cX4_leadByCopies : ByteArray := prog_6_method_6_code
def yX4_leadByCopies : MethodName := ⟨RX4, "leadByCopies", "()V"⟩
abbrev cX4_leadByAgain : ByteArray := prog_6_method_7_code
def yX4_leadByAgain : MethodName := ⟨RX4, "leadByAgain", "(I)V"⟩
abbrev cX4_lead : ByteArray := prog_6_method_8_code
def yX4_lead : MethodName := ⟨RX4, "lead", "(IIIJ)V"⟩
abbrev cX4_makeRoom : ByteArray := prog_6_method_9_code
def yX4_makeRoom : MethodName := ⟨RX4, "makeRoom", "(I)Z"⟩
abbrev cX4_insert : ByteArray := prog_6_method_10_code
def yX4_insert : MethodName := ⟨RX4, "insert", "(IIJI)V"⟩
abbrev cX4_tellSteps : ByteArray := prog_6_method_11_code
def yX4_tellSteps : MethodName := ⟨RX4, "tellSteps", "(LBestParses$Parse;)V"⟩
def RX5 : String := "BestParses$OctetForm"
def TX5 : u_T := fun k => match k with
  | 0 => ("BestParses$Form", "text", "LBestParses$Text;", true)
  | 1 => ("BestParses$Form", "costs", "LBestParses$Costs;", true)
  | 2 => ("BestParses$OctetForm", "sums", "[I", true)
  | 3 => ("BestParses$OctetForm", "cameBy", "[I", true)
  | 4 => ("BestParses$OctetForm", "firstLiterals", "[I", true)
  | 5 => ("BestParses$OctetForm", "firstSums", "[I", true)
  | _ => ("BestParses$OctetForm", "literalCosts", "[I", true)
def tyX5 : Nat → FieldType := fun k => match k with
  | 0 => .object "BestParses$Text"
  | 1 => .object "BestParses$Costs"
  | 2 => .array .int
  | 3 => .array .int
  | 4 => .array .int
  | 5 => .array .int
  | _ => .array .int
theorem nmX5 : ∀ a, a < 7 → ∀ b, b < 7 → a ≠ b → (TX5 a).2.1 ≠ (TX5 b).2.1 := by decide +kernel
theorem tyX5_ok : ∀ k, k < 7 → parseFieldDescriptor (TX5 k).2.2.1 = some (tyX5 k) := by decide +kernel
abbrev cX5_init : ByteArray := prog_7_method_1_code
def yX5_init : MethodName := ⟨RX5, "<init>", "(LBestParses$Text;LBestParses$Costs;)V"⟩
abbrev cX5_findBest : ByteArray := prog_7_method_2_code
def yX5_findBest : MethodName := ⟨RX5, "findBest", "(LBestParses$Parse;I)I"⟩
abbrev cX5_findFirst : ByteArray := prog_7_method_3_code
def yX5_findFirst : MethodName := ⟨RX5, "findFirst", "(I)V"⟩
abbrev cX5_lead : ByteArray := prog_7_method_4_code
def yX5_lead : MethodName := ⟨RX5, "lead", "(II)V"⟩
abbrev cX5_tellSteps : ByteArray := prog_7_method_5_code
def yX5_tellSteps : MethodName := ⟨RX5, "tellSteps", "(LBestParses$Parse;)V"⟩
abbrev cX5_costOf : ByteArray := prog_7_method_6_code
def yX5_costOf : MethodName := ⟨RX5, "costOf", "(LBestParses$Parse;)J"⟩
abbrev cX5_copyCost : ByteArray := prog_7_method_7_code
def yX5_copyCost : MethodName := ⟨RX5, "copyCost", "(I)I"⟩
abbrev cX5_beyond : ByteArray := prog_7_method_8_code
def yX5_beyond : MethodName := ⟨RX5, "beyond", "(II)I"⟩
def RX6 : String := "BestParses$Parse"
def TX6 : u_T := fun k => match k with
  | 0 => ("BestParses$Parse", "places", "[I", true)
  | 1 => ("BestParses$Parse", "lengths", "[I", true)
  | 2 => ("BestParses$Parse", "distances", "[I", true)
  | 3 => ("BestParses$Parse", "kinds", "[I", true)
  | 4 => ("BestParses$Parse", "toldOctets", "[I", true)
  | 5 => ("BestParses$Parse", "count", "I", false)
  | 6 => ("BestParses$Parse", "sumThen", "J", false)
  | _ => ("BestParses$Parse", "leastOfAll", "Z", false)
def tyX6 : Nat → FieldType := fun k => match k with
  | 0 => .array .int
  | 1 => .array .int
  | 2 => .array .int
  | 3 => .array .int
  | 4 => .array .int
  | 5 => .int
  | 6 => .long
  | _ => .boolean
theorem nmX6 : ∀ a, a < 8 → ∀ b, b < 8 → a ≠ b → (TX6 a).2.1 ≠ (TX6 b).2.1 := by decide +kernel
theorem tyX6_ok : ∀ k, k < 8 → parseFieldDescriptor (TX6 k).2.2.1 = some (tyX6 k) := by decide +kernel
abbrev cX6_init : ByteArray := prog_8_method_1_code
def yX6_init : MethodName := ⟨RX6, "<init>", "()V"⟩
abbrev cX6_hasStep : ByteArray := prog_8_method_2_code
def yX6_hasStep : MethodName := ⟨RX6, "hasStep", "(I)Z"⟩
abbrev cX6_begin : ByteArray := prog_8_method_3_code
def yX6_begin : MethodName := ⟨RX6, "begin", "()V"⟩
abbrev cX6_add : ByteArray := prog_8_method_4_code
def yX6_add : MethodName := ⟨RX6, "add", "(IIII)V"⟩
abbrev cX6_turnRound : ByteArray := prog_8_method_5_code
def yX6_turnRound : MethodName := ⟨RX6, "turnRound", "()V"⟩
abbrev cX6_swap : ByteArray := prog_8_method_6_code
def yX6_swap : MethodName := ⟨RX6, "swap", "([III)V"⟩
abbrev cX6_finish : ByteArray := prog_8_method_7_code
def yX6_finish : MethodName := ⟨RX6, "finish", "(LBestParses$Text;JZ)V"⟩
abbrev cX6_tellBack : ByteArray := prog_8_method_8_code
def yX6_tellBack : MethodName := ⟨RX6, "tellBack", "(III)V"⟩
def RX7 : String := "BestParses$SlotForm"
def TX7 : u_T := fun k => match k with
  | 0 => ("BestParses$Form", "text", "LBestParses$Text;", true)
  | 1 => ("BestParses$Form", "costs", "LBestParses$Costs;", true)
  | 2 => ("BestParses$SlotForm", "sums", "[I", true)
  | _ => ("BestParses$SlotForm", "cameBy", "[I", true)
def tyX7 : Nat → FieldType := fun k => match k with
  | 0 => .object "BestParses$Text"
  | 1 => .object "BestParses$Costs"
  | 2 => .array .int
  | _ => .array .int
theorem nmX7 : ∀ a, a < 4 → ∀ b, b < 4 → a ≠ b → (TX7 a).2.1 ≠ (TX7 b).2.1 := by decide +kernel
theorem tyX7_ok : ∀ k, k < 4 → parseFieldDescriptor (TX7 k).2.2.1 = some (tyX7 k) := by decide +kernel
abbrev cX7_init : ByteArray := prog_9_method_1_code
def yX7_init : MethodName := ⟨RX7, "<init>", "(LBestParses$Text;LBestParses$Costs;)V"⟩
abbrev cX7_findBest : ByteArray := prog_9_method_2_code
def yX7_findBest : MethodName := ⟨RX7, "findBest", "(LBestParses$Parse;I)I"⟩
abbrev cX7_lead : ByteArray := prog_9_method_3_code
def yX7_lead : MethodName := ⟨RX7, "lead", "(III)V"⟩
abbrev cX7_tellSteps : ByteArray := prog_9_method_4_code
def yX7_tellSteps : MethodName := ⟨RX7, "tellSteps", "(LBestParses$Parse;)V"⟩
def RX8 : String := "BestParses$Stepper"
def TX8 : u_T := fun k => match k with
  | 0 => ("BestParses$Stepper", "text", "LBestParses$Text;", true)
  | _ => ("BestParses$Stepper", "withLatest", "Z", true)
def tyX8 : Nat → FieldType := fun k => match k with
  | 0 => .object "BestParses$Text"
  | _ => .boolean
theorem nmX8 : ∀ a, a < 2 → ∀ b, b < 2 → a ≠ b → (TX8 a).2.1 ≠ (TX8 b).2.1 := by decide +kernel
theorem tyX8_ok : ∀ k, k < 2 → parseFieldDescriptor (TX8 k).2.2.1 = some (tyX8 k) := by decide +kernel
abbrev cX8_init : ByteArray := prog_10_method_1_code
def yX8_init : MethodName := ⟨RX8, "<init>", "(LBestParses$Text;Z)V"⟩
abbrev cX8_walk : ByteArray := prog_10_method_2_code
def yX8_walk : MethodName := ⟨RX8, "walk", "(LBestParses$Parse;I)V"⟩
abbrev cX8_longerAhead : ByteArray := prog_10_method_3_code
def yX8_longerAhead : MethodName := ⟨RX8, "longerAhead", "(III)Z"⟩
abbrev cX8_againAsLong : ByteArray := prog_10_method_4_code
def yX8_againAsLong : MethodName := ⟨RX8, "againAsLong", "(JII)I"⟩
def RX9 : String := "BestParses$Text"
def TX9 : u_T := fun k => match k with
  | 0 => ("BestParses$Text", "leastLength", "I", true)
  | 1 => ("BestParses$Text", "greatestLength", "I", true)
  | 2 => ("BestParses$Text", "octetRow", "[I", true)
  | 3 => ("BestParses$Text", "size", "I", false)
  | 4 => ("BestParses$Text", "endRuns", "[I", true)
  | 5 => ("BestParses$Text", "nearest", "[I", true)
  | _ => ("BestParses$Text", "longestRuns", "[I", true)
def tyX9 : Nat → FieldType := fun k => match k with
  | 0 => .int
  | 1 => .int
  | 2 => .array .int
  | 3 => .int
  | 4 => .array .int
  | 5 => .array .int
  | _ => .array .int
theorem nmX9 : ∀ a, a < 7 → ∀ b, b < 7 → a ≠ b → (TX9 a).2.1 ≠ (TX9 b).2.1 := by decide +kernel
theorem tyX9_ok : ∀ k, k < 7 → parseFieldDescriptor (TX9 k).2.2.1 = some (tyX9 k) := by decide +kernel
abbrev cX9_init : ByteArray := prog_11_method_1_code
def yX9_init : MethodName := ⟨RX9, "<init>", "(I)V"⟩
abbrev cX9_has : ByteArray := prog_11_method_2_code
def yX9_has : MethodName := ⟨RX9, "has", "(I)Z"⟩
abbrev cX9_append : ByteArray := prog_11_method_3_code
def yX9_append : MethodName := ⟨RX9, "append", "(I)V"⟩
abbrev cX9_noteCopies : ByteArray := prog_11_method_4_code
def yX9_noteCopies : MethodName := ⟨RX9, "noteCopies", "(III)V"⟩
abbrev cX9_longestCopy : ByteArray := prog_11_method_5_code
def yX9_longestCopy : MethodName := ⟨RX9, "longestCopy", "(I)I"⟩
abbrev cX9_copyDistance : ByteArray := prog_11_method_6_code
def yX9_copyDistance : MethodName := ⟨RX9, "copyDistance", "(II)I"⟩
abbrev cX9_sameBy : ByteArray := prog_11_method_7_code
def yX9_sameBy : MethodName := ⟨RX9, "sameBy", "(II)I"⟩
abbrev cX9_nearestIndex : ByteArray := prog_11_method_8_code
def yX9_nearestIndex : MethodName := ⟨RX9, "nearestIndex", "(II)I"⟩
def RX10 : String := "BestParses"
def TX10 : u_T := fun k => match k with
  | 0 => ("BestParses", "form", "I", true)
  | 1 => ("BestParses", "text", "LBestParses$Text;", true)
  | 2 => ("BestParses", "costs", "LBestParses$Costs;", true)
  | 3 => ("BestParses", "leastCosts", "LBestParses$Costs;", true)
  | 4 => ("BestParses", "rules", "LBestParses$Form;", true)
  | 5 => ("BestParses", "stepper", "LBestParses$Stepper;", true)
  | 6 => ("BestParses", "blocks", "LBestParses$Blocks;", true)
  | 7 => ("BestParses", "current", "LBestParses$Parse;", false)
  | 8 => ("BestParses", "spare", "LBestParses$Parse;", false)
  | 9 => ("BestParses", "parsed", "Z", false)
  | 10 => ("BestParses", "kept", "I", false)
  | _ => ("BestParses", "droppedPlaces", "I", false)
def tyX10 : Nat → FieldType := fun k => match k with
  | 0 => .int
  | 1 => .object "BestParses$Text"
  | 2 => .object "BestParses$Costs"
  | 3 => .object "BestParses$Costs"
  | 4 => .object "BestParses$Form"
  | 5 => .object "BestParses$Stepper"
  | 6 => .object "BestParses$Blocks"
  | 7 => .object "BestParses$Parse"
  | 8 => .object "BestParses$Parse"
  | 9 => .boolean
  | 10 => .int
  | _ => .int
theorem nmX10 : ∀ a, a < 12 → ∀ b, b < 12 → a ≠ b → (TX10 a).2.1 ≠ (TX10 b).2.1 := by decide +kernel
theorem tyX10_ok : ∀ k, k < 12 → parseFieldDescriptor (TX10 k).2.2.1 = some (tyX10 k) := by decide +kernel
abbrev cX10_init : ByteArray := prog_1_method_1_code
def yX10_init : MethodName := ⟨RX10, "<init>", "(I)V"⟩
abbrev cX10_octets : ByteArray := prog_1_method_2_code
def yX10_octets : MethodName := ⟨RX10, "octets", "(IJ)I"⟩
abbrev cX10_cost : ByteArray := prog_1_method_3_code
def yX10_cost : MethodName := ⟨RX10, "cost", "(III)I"⟩
abbrev cX10_price : ByteArray := prog_1_method_4_code
def yX10_price : MethodName := ⟨RX10, "price", "(II)I"⟩
abbrev cX10_keep : ByteArray := prog_1_method_5_code
def yX10_keep : MethodName := ⟨RX10, "keep", "(I)I"⟩
abbrev cX10_parse : ByteArray := prog_1_method_6_code
def yX10_parse : MethodName := ⟨RX10, "parse", "(I)I"⟩
abbrev cX10_step : ByteArray := prog_1_method_7_code
def yX10_step : MethodName := ⟨RX10, "step", "(II)I"⟩
abbrev cX10_sum : ByteArray := prog_1_method_8_code
def yX10_sum : MethodName := ⟨RX10, "sum", "()J"⟩
abbrev cX10_again : ByteArray := prog_1_method_9_code
def yX10_again : MethodName := ⟨RX10, "again", "()J"⟩
abbrev cX10_least : ByteArray := prog_1_method_10_code
def yX10_least : MethodName := ⟨RX10, "least", "()Z"⟩
abbrev cX10_told : ByteArray := prog_1_method_11_code
def yX10_told : MethodName := ⟨RX10, "told", "(I)I"⟩
abbrev cX10_rounds : ByteArray := prog_1_method_12_code
def yX10_rounds : MethodName := ⟨RX10, "rounds", "(I)J"⟩
abbrev cX10_longest : ByteArray := prog_1_method_13_code
def yX10_longest : MethodName := ⟨RX10, "longest", "(I)I"⟩
abbrev cX10_distance : ByteArray := prog_1_method_14_code
def yX10_distance : MethodName := ⟨RX10, "distance", "(II)I"⟩
abbrev cX10_cut : ByteArray := prog_1_method_15_code
def yX10_cut : MethodName := ⟨RX10, "cut", "(I)I"⟩
abbrev cX10_split : ByteArray := prog_1_method_16_code
def yX10_split : MethodName := ⟨RX10, "split", "(I)J"⟩
abbrev cX10_taken : ByteArray := prog_1_method_17_code
def yX10_taken : MethodName := ⟨RX10, "taken", "(I)I"⟩
abbrev cX10_many : ByteArray := prog_1_method_18_code
def yX10_many : MethodName := ⟨RX10, "many", "(I)I"⟩
abbrev cX10_clear : ByteArray := prog_1_method_19_code
def yX10_clear : MethodName := ⟨RX10, "clear", "()V"⟩
abbrev cX10_trier : ByteArray := prog_1_method_20_code
def yX10_trier : MethodName := ⟨RX10, "trier", "(I)I"⟩
abbrev cX10_findBest : ByteArray := prog_1_method_21_code
def yX10_findBest : MethodName := ⟨RX10, "findBest", "(LBestParses$Parse;)V"⟩
abbrev cX10_takeSpare : ByteArray := prog_1_method_22_code
def yX10_takeSpare : MethodName := ⟨RX10, "takeSpare", "()V"⟩
abbrev cX10_logOf : ByteArray := prog_1_method_23_code
def yX10_logOf : MethodName := ⟨RX10, "logOf", "(I)I"⟩
abbrev cX10_highestBit : ByteArray := prog_1_method_24_code
def yX10_highestBit : MethodName := ⟨RX10, "highestBit", "(I)I"⟩
def RX11 : String := "BestParsesModel"
def TX11 : u_T := fun k => match k with
  | 0 => ("BestParsesModel", "thrown", "I", false)
  | 1 => ("BestParsesModel", "form", "I", true)
  | 2 => ("BestParsesModel", "text", "[I", true)
  | 3 => ("BestParsesModel", "n", "I", false)
  | 4 => ("BestParsesModel", "costs", "[I", true)
  | 5 => ("BestParsesModel", "kept", "I", false)
  | 6 => ("BestParsesModel", "cuts", "[I", true)
  | 7 => ("BestParsesModel", "cutCount", "I", false)
  | 8 => ("BestParsesModel", "taken", "[I", true)
  | 9 => ("BestParsesModel", "takenCount", "I", false)
  | 10 => ("BestParsesModel", "isParse", "Z", false)
  | 11 => ("BestParsesModel", "steps", "I", false)
  | 12 => ("BestParsesModel", "stepAt", "[I", true)
  | 13 => ("BestParsesModel", "stepSize", "[I", true)
  | 14 => ("BestParsesModel", "stepBack", "[I", true)
  | 15 => ("BestParsesModel", "stepKind", "[I", true)
  | 16 => ("BestParsesModel", "sum", "J", false)
  | 17 => ("BestParsesModel", "isLeast", "Z", false)
  | 18 => ("BestParsesModel", "dropped", "I", false)
  | 19 => ("BestParsesModel", "same", "[I", true)
  | 20 => ("BestParsesModel", "nearest", "[I", true)
  | 21 => ("BestParsesModel", "latest", "[I", true)
  | 22 => ("BestParsesModel", "bestKind", "I", false)
  | 23 => ("BestParsesModel", "least", "[I", true)
  | 24 => ("BestParsesModel", "cameFrom", "[I", true)
  | 25 => ("BestParsesModel", "cameRow", "[I", true)
  | 26 => ("BestParsesModel", "cameBack", "[I", true)
  | 27 => ("BestParsesModel", "byLiteral", "[Z", true)
  | 28 => ("BestParsesModel", "turned", "[I", true)
  | 29 => ("BestParsesModel", "turnedKind", "[I", true)
  | 30 => ("BestParsesModel", "turnedBack", "[I", true)
  | 31 => ("BestParsesModel", "turnedSize", "[I", true)
  | 32 => ("BestParsesModel", "many", "[I", true)
  | 33 => ("BestParsesModel", "falls", "[Z", true)
  | 34 => ("BestParsesModel", "stateSum", "[I", true)
  | 35 => ("BestParsesModel", "stateBack", "[I", true)
  | 36 => ("BestParsesModel", "stateFrom", "[I", true)
  | 37 => ("BestParsesModel", "stateKind", "[I", true)
  | 38 => ("BestParsesModel", "stateOld", "[I", true)
  | 39 => ("BestParsesModel", "uses", "[I", true)
  | 40 => ("BestParsesModel", "keptCosts", "[I", true)
  | 41 => ("BestParsesModel", "keptAt", "[I", true)
  | 42 => ("BestParsesModel", "keptSize", "[I", true)
  | 43 => ("BestParsesModel", "keptBack", "[I", true)
  | 44 => ("BestParsesModel", "keptKind", "[I", true)
  | 45 => ("BestParsesModel", "made", "[I", true)
  | _ => ("BestParsesModel", "blockCost", "[J", true)
def tyX11 : Nat → FieldType := fun k => match k with
  | 0 => .int
  | 1 => .int
  | 2 => .array .int
  | 3 => .int
  | 4 => .array .int
  | 5 => .int
  | 6 => .array .int
  | 7 => .int
  | 8 => .array .int
  | 9 => .int
  | 10 => .boolean
  | 11 => .int
  | 12 => .array .int
  | 13 => .array .int
  | 14 => .array .int
  | 15 => .array .int
  | 16 => .long
  | 17 => .boolean
  | 18 => .int
  | 19 => .array .int
  | 20 => .array .int
  | 21 => .array .int
  | 22 => .int
  | 23 => .array .int
  | 24 => .array .int
  | 25 => .array .int
  | 26 => .array .int
  | 27 => .array .boolean
  | 28 => .array .int
  | 29 => .array .int
  | 30 => .array .int
  | 31 => .array .int
  | 32 => .array .int
  | 33 => .array .boolean
  | 34 => .array .int
  | 35 => .array .int
  | 36 => .array .int
  | 37 => .array .int
  | 38 => .array .int
  | 39 => .array .int
  | 40 => .array .int
  | 41 => .array .int
  | 42 => .array .int
  | 43 => .array .int
  | 44 => .array .int
  | 45 => .array .int
  | _ => .array .long
theorem nmX11 : ∀ a, a < 47 → ∀ b, b < 47 → a ≠ b → (TX11 a).2.1 ≠ (TX11 b).2.1 := by decide +kernel
theorem tyX11_ok : ∀ k, k < 47 → parseFieldDescriptor (TX11 k).2.2.1 = some (tyX11 k) := by decide +kernel
abbrev cX11_init : ByteArray := prog_13_method_1_code
def yX11_init : MethodName := ⟨RX11, "<init>", "(I)V"⟩
abbrev cX11_thrown : ByteArray := prog_13_method_2_code
def yX11_thrown : MethodName := ⟨RX11, "thrown", "()I"⟩
abbrev cX11_start : ByteArray := prog_13_method_3_code
def yX11_start : MethodName := ⟨RX11, "start", "()V"⟩
abbrev cX11_shortest : ByteArray := prog_13_method_4_code
def yX11_shortest : MethodName := ⟨RX11, "shortest", "()I"⟩
abbrev cX11_greatest : ByteArray := prog_13_method_5_code
def yX11_greatest : MethodName := ⟨RX11, "greatest", "()I"⟩
abbrev cX11_symbols : ByteArray := prog_13_method_6_code
def yX11_symbols : MethodName := ⟨RX11, "symbols", "(I)I"⟩
abbrev cX11_isCost : ByteArray := prog_13_method_7_code
def yX11_isCost : MethodName := ⟨RX11, "isCost", "(II)Z"⟩
abbrev cX11_octets : ByteArray := prog_13_method_8_code
def yX11_octets : MethodName := ⟨RX11, "octets", "(IJ)I"⟩
abbrev cX11_cost : ByteArray := prog_13_method_9_code
def yX11_cost : MethodName := ⟨RX11, "cost", "(III)I"⟩
abbrev cX11_price : ByteArray := prog_13_method_10_code
def yX11_price : MethodName := ⟨RX11, "price", "(II)I"⟩
abbrev cX11_keep : ByteArray := prog_13_method_11_code
def yX11_keep : MethodName := ⟨RX11, "keep", "(I)I"⟩
abbrev cX11_layOut : ByteArray := prog_13_method_12_code
def yX11_layOut : MethodName := ⟨RX11, "layOut", "()V"⟩
abbrev cX11_longestCopy : ByteArray := prog_13_method_13_code
def yX11_longestCopy : MethodName := ⟨RX11, "longestCopy", "(I)I"⟩
abbrev cX11_longestAgain : ByteArray := prog_13_method_14_code
def yX11_longestAgain : MethodName := ⟨RX11, "longestAgain", "(II)I"⟩
abbrev cX11_high : ByteArray := prog_13_method_15_code
def yX11_high : MethodName := ⟨RX11, "high", "(I)I"⟩
abbrev cX11_lengthSlot : ByteArray := prog_13_method_16_code
def yX11_lengthSlot : MethodName := ⟨RX11, "lengthSlot", "(I)I"⟩
abbrev cX11_lengthBits : ByteArray := prog_13_method_17_code
def yX11_lengthBits : MethodName := ⟨RX11, "lengthBits", "(I)I"⟩
abbrev cX11_distanceSlot : ByteArray := prog_13_method_18_code
def yX11_distanceSlot : MethodName := ⟨RX11, "distanceSlot", "(I)I"⟩
abbrev cX11_distanceBits : ByteArray := prog_13_method_19_code
def yX11_distanceBits : MethodName := ⟨RX11, "distanceBits", "(I)I"⟩
abbrev cX11_lengthCost : ByteArray := prog_13_method_20_code
def yX11_lengthCost : MethodName := ⟨RX11, "lengthCost", "(I)I"⟩
abbrev cX11_distanceCost : ByteArray := prog_13_method_21_code
def yX11_distanceCost : MethodName := ⟨RX11, "distanceCost", "(I)I"⟩
abbrev cX11_kindCost : ByteArray := prog_13_method_22_code
def yX11_kindCost : MethodName := ⟨RX11, "kindCost", "(I)I"⟩
abbrev cX11_more : ByteArray := prog_13_method_23_code
def yX11_more : MethodName := ⟨RX11, "more", "(II)I"⟩
abbrev cX11_stepCost : ByteArray := prog_13_method_24_code
def yX11_stepCost : MethodName := ⟨RX11, "stepCost", "(IIIII)I"⟩
abbrev cX11_allCost : ByteArray := prog_13_method_25_code
def yX11_allCost : MethodName := ⟨RX11, "allCost", "()J"⟩
abbrev cX11_clearLatest : ByteArray := prog_13_method_26_code
def yX11_clearLatest : MethodName := ⟨RX11, "clearLatest", "()V"⟩
abbrev cX11_ahead : ByteArray := prog_13_method_27_code
def yX11_ahead : MethodName := ⟨RX11, "ahead", "(II)V"⟩
abbrev cX11_longestOf : ByteArray := prog_13_method_28_code
def yX11_longestOf : MethodName := ⟨RX11, "longestOf", "(I)I"⟩
abbrev cX11_addStep : ByteArray := prog_13_method_29_code
def yX11_addStep : MethodName := ⟨RX11, "addStep", "(IIII)V"⟩
abbrev cX11_greedy : ByteArray := prog_13_method_30_code
def yX11_greedy : MethodName := ⟨RX11, "greedy", "(I)V"⟩
abbrev cX11_at : ByteArray := prog_13_method_31_code
def yX11_at : MethodName := ⟨RX11, "at", "(II)I"⟩
abbrev cX11_firstRow : ByteArray := prog_13_method_32_code
def yX11_firstRow : MethodName := ⟨RX11, "firstRow", "(I)I"⟩
abbrev cX11_clearTable : ByteArray := prog_13_method_33_code
def yX11_clearTable : MethodName := ⟨RX11, "clearTable", "()V"⟩
abbrev cX11_copies : ByteArray := prog_13_method_34_code
def yX11_copies : MethodName := ⟨RX11, "copies", "(II)V"⟩
abbrev cX11_literals : ByteArray := prog_13_method_35_code
def yX11_literals : MethodName := ⟨RX11, "literals", "(I)V"⟩
abbrev cX11_backPlain : ByteArray := prog_13_method_36_code
def yX11_backPlain : MethodName := ⟨RX11, "backPlain", "()V"⟩
abbrev cX11_turnBack : ByteArray := prog_13_method_37_code
def yX11_turnBack : MethodName := ⟨RX11, "turnBack", "(I)V"⟩
abbrev cX11_bestPlain : ByteArray := prog_13_method_38_code
def yX11_bestPlain : MethodName := ⟨RX11, "bestPlain", "()V"⟩
abbrev cX11_isState : ByteArray := prog_13_method_39_code
def yX11_isState : MethodName := ⟨RX11, "isState", "(I)Z"⟩
abbrev cX11_isBehind : ByteArray := prog_13_method_40_code
def yX11_isBehind : MethodName := ⟨RX11, "isBehind", "(II)Z"⟩
abbrev cX11_moveState : ByteArray := prog_13_method_41_code
def yX11_moveState : MethodName := ⟨RX11, "moveState", "(II)V"⟩
abbrev cX11_comes : ByteArray := prog_13_method_42_code
def yX11_comes : MethodName := ⟨RX11, "comes", "(IIIII)V"⟩
abbrev cX11_takeLatest : ByteArray := prog_13_method_43_code
def yX11_takeLatest : MethodName := ⟨RX11, "takeLatest", "(I)V"⟩
abbrev cX11_expand : ByteArray := prog_13_method_44_code
def yX11_expand : MethodName := ⟨RX11, "expand", "(II)V"⟩
abbrev cX11_bestWide : ByteArray := prog_13_method_45_code
def yX11_bestWide : MethodName := ⟨RX11, "bestWide", "()V"⟩
abbrev cX11_best : ByteArray := prog_13_method_46_code
def yX11_best : MethodName := ⟨RX11, "best", "()V"⟩
abbrev cX11_parse : ByteArray := prog_13_method_47_code
def yX11_parse : MethodName := ⟨RX11, "parse", "(I)I"⟩
abbrev cX11_log : ByteArray := prog_13_method_48_code
def yX11_log : MethodName := ⟨RX11, "log", "(I)I"⟩
abbrev cX11_fit : ByteArray := prog_13_method_49_code
def yX11_fit : MethodName := ⟨RX11, "fit", "()V"⟩
abbrev cX11_rounds : ByteArray := prog_13_method_50_code
def yX11_rounds : MethodName := ⟨RX11, "rounds", "(I)J"⟩
abbrev cX11_step : ByteArray := prog_13_method_51_code
def yX11_step : MethodName := ⟨RX11, "step", "(II)I"⟩
abbrev cX11_sum : ByteArray := prog_13_method_52_code
def yX11_sum : MethodName := ⟨RX11, "sum", "()J"⟩
abbrev cX11_again : ByteArray := prog_13_method_53_code
def yX11_again : MethodName := ⟨RX11, "again", "()J"⟩
abbrev cX11_least : ByteArray := prog_13_method_54_code
def yX11_least : MethodName := ⟨RX11, "least", "()Z"⟩
abbrev cX11_told : ByteArray := prog_13_method_55_code
def yX11_told : MethodName := ⟨RX11, "told", "(I)I"⟩
abbrev cX11_longest : ByteArray := prog_13_method_56_code
def yX11_longest : MethodName := ⟨RX11, "longest", "(I)I"⟩
abbrev cX11_distance : ByteArray := prog_13_method_57_code
def yX11_distance : MethodName := ⟨RX11, "distance", "(II)I"⟩
abbrev cX11_cut : ByteArray := prog_13_method_58_code
def yX11_cut : MethodName := ⟨RX11, "cut", "(I)I"⟩
abbrev cX11_border : ByteArray := prog_13_method_59_code
def yX11_border : MethodName := ⟨RX11, "border", "(I)I"⟩
abbrev cX11_fillBlocks : ByteArray := prog_13_method_60_code
def yX11_fillBlocks : MethodName := ⟨RX11, "fillBlocks", "(I)V"⟩
abbrev cX11_setCost : ByteArray := prog_13_method_61_code
def yX11_setCost : MethodName := ⟨RX11, "setCost", "(I)J"⟩
abbrev cX11_count : ByteArray := prog_13_method_62_code
def yX11_count : MethodName := ⟨RX11, "count", "(I)I"⟩
abbrev cX11_isBefore : ByteArray := prog_13_method_63_code
def yX11_isBefore : MethodName := ⟨RX11, "isBefore", "(II)Z"⟩
abbrev cX11_split : ByteArray := prog_13_method_64_code
def yX11_split : MethodName := ⟨RX11, "split", "(I)J"⟩
abbrev cX11_taken : ByteArray := prog_13_method_65_code
def yX11_taken : MethodName := ⟨RX11, "taken", "(I)I"⟩
abbrev cX11_many : ByteArray := prog_13_method_66_code
def yX11_many : MethodName := ⟨RX11, "many", "(I)I"⟩
abbrev cX11_clear : ByteArray := prog_13_method_67_code
def yX11_clear : MethodName := ⟨RX11, "clear", "()V"⟩
abbrev cX11_trier : ByteArray := prog_13_method_68_code
def yX11_trier : MethodName := ⟨RX11, "trier", "(I)I"⟩
def RJ7 : String := "java/util/Arrays"
def TJ7 : u_T := fun k => match k with
  | _ => ("", "", "", false)
def tyJ7 : Nat → FieldType := fun k => match k with
  | _ => .int
theorem nmJ7 : ∀ a, a < 0 → ∀ b, b < 0 → a ≠ b → (TJ7 a).2.1 ≠ (TJ7 b).2.1 := by decide +kernel
theorem tyJ7_ok : ∀ k, k < 0 → parseFieldDescriptor (TJ7 k).2.2.1 = some (tyJ7 k) := by decide +kernel
abbrev cJ7_rangeCheck_23922 : ByteArray := prog_28_method_30_code
def yJ7_rangeCheck_23922 : MethodName := ⟨RJ7, "rangeCheck", "(III)V"⟩
abbrev cJ7_fill_d0a16 : ByteArray := prog_28_method_101_code
def yJ7_fill_d0a16 : MethodName := ⟨RJ7, "fill", "([JJ)V"⟩
abbrev cJ7_fill_53178 : ByteArray := prog_28_method_103_code
def yJ7_fill_53178 : MethodName := ⟨RJ7, "fill", "([II)V"⟩
abbrev cJ7_fill_fda19 : ByteArray := prog_28_method_104_code
def yJ7_fill_fda19 : MethodName := ⟨RJ7, "fill", "([IIII)V"⟩
abbrev cJ7_copyOf_9075b : ByteArray := prog_28_method_121_code
def yJ7_copyOf_9075b : MethodName := ⟨RJ7, "copyOf", "([BI)[B"⟩
abbrev cJ7_checkLength_df160 : ByteArray := prog_28_method_131_code
def yJ7_checkLength_df160 : MethodName := ⟨RJ7, "checkLength", "(II)V"⟩
abbrev cJ7_copyOfRange_39247 : ByteArray := prog_28_method_132_code
def yJ7_copyOfRange_39247 : MethodName := ⟨RJ7, "copyOfRange", "([BII)[B"⟩
abbrev cJ7_copyOfRangeByte_39247 : ByteArray := prog_28_method_133_code
def yJ7_copyOfRangeByte_39247 : MethodName := ⟨RJ7, "copyOfRangeByte", "([BII)[B"⟩
def RL : String := "BestParsesLaw"
abbrev cL_cell : ByteArray := method_2_code
def yL_cell : MethodName := ⟨RL, "cell", "([II)I"⟩
abbrev cL_trier : ByteArray := method_3_code
def yL_trier : MethodName := ⟨RL, "trier", "(LBestParses;I[J)I"⟩
abbrev cL_law : ByteArray := code
def yL_law : MethodName := ⟨RL, "law", "([I)Z"⟩
end
section
/-! the classes of the light machine: kind k (1, 2 ..) is the class k - 1 of xCl; 11 says: one of the three forms -/
def xG : List Jvm.Cond := lw_tbl.filter goodWord
def xCl : List vw_C := [(RX0, TX0, 9), (RX1, TX1, 5), (RX4, TX4, 12), (RX5, TX5, 7), (RX6, TX6, 8), (RX7, TX7, 4), (RX8, TX8, 2), (RX9, TX9, 7), (RX10, TX10, 12), (RX11, TX11, 47)]
def xtyL : List (Nat → FieldType) := [tyX0, tyX1, tyX4, tyX5, tyX6, tyX7, tyX8, tyX9, tyX10, tyX11]
def xftL : List (List Nat) := [[], [3, 3, 0, 3, 0, 3, 3, 3, 3], [0, 3, 3, 3, 3], [3, 3, 3, 3, 3, 3, 3, 0, 0, 0, 1, 1], [3, 3, 3, 3, 3, 3, 3], [3, 3, 3, 3, 3, 0, 1, 2], [3, 3, 3, 3], [3, 2], [0, 0, 3, 0, 3, 3, 3], [0, 3, 3, 3, 3, 3, 3, 3, 3, 2, 0, 0], [0, 0, 3, 0, 3, 0, 3, 0, 3, 0, 2, 0, 3, 3, 3, 3, 1, 2, 0, 3, 3, 3, 0, 3, 3, 3, 3, 3, 3, 3, 3, 3, 3, 3, 3, 3, 3, 3, 3, 3, 3, 3, 3, 3, 3, 3, 3]]
def xft (k j : Nat) : Nat := (xftL.getD k []).getD j 9
def xsub (r k : Nat) : Bool := (r == k && !(r == 11)) || (r == 11 && (k == 3 || k == 4 || k == 6))
theorem xG_of {w : Jvm.Cond} (i : Nat) (h : tables_1[i]? = some w) (hg : goodWord w = true) : w ∈ xG := List.mem_filter.mpr ⟨List.mem_append_right _ (List.mem_of_getElem? h), hg⟩
theorem xG_sel {q : MethodName × Nat} (h : q ∈ lw_privs) : Jvm.Cond.selects q.1.cls q.1 q.1 ∈ k2_sels lw_privs := by
  first | exact List.mem_map.mpr ⟨q, h, rfl⟩ | (unfold k2_sels; exact List.mem_map.mpr ⟨q, h, rfl⟩)
def xok (f : FieldType) (n : Nat) : Bool := match f, n with
  | .int, 0 => true
  | .long, 1 => true
  | .boolean, 2 => true
  | .object _, 3 => true
  | .array _, 3 => true
  | _, _ => false
theorem xinX0 : ∀ w ∈ u_ws RX0 TX0 9, w ∈ xG := by
  intro w h
  obtain ⟨k, hk, rfl⟩ := List.mem_map.mp h
  have hk := List.mem_range.mp hk
  have h2 : ∀ k, k < 9 → tables_1[(([566, 568, 570, 572, 574, 576, 578, 580, 582] : List Nat).getD k 0)]? = some (u_lay RX0 TX0 k) ∧ goodWord (u_lay RX0 TX0 k) = true := by decide +kernel
  exact xG_of _ (h2 k hk).1 (h2 k hk).2
theorem xkdX0 : Jvm.Cond.instantiable RX0 9 ∈ xG ∧ Jvm.Cond.initialized RX0 ∈ xG := ⟨xG_of 549 (by decide +kernel) (by decide +kernel), xG_of 25 (by decide +kernel) (by decide +kernel)⟩
theorem xtkX0 : ∀ k, k < 9 → xok (tyX0 k) (xft 1 k) = true := by decide +kernel
theorem xinX1 : ∀ w ∈ u_ws RX1 TX1 5, w ∈ xG := by
  intro w h
  obtain ⟨k, hk, rfl⟩ := List.mem_map.mp h
  have hk := List.mem_range.mp hk
  have h2 : ∀ k, k < 5 → tables_1[(([424, 426, 428, 430, 432] : List Nat).getD k 0)]? = some (u_lay RX1 TX1 k) ∧ goodWord (u_lay RX1 TX1 k) = true := by decide +kernel
  exact xG_of _ (h2 k hk).1 (h2 k hk).2
theorem xkdX1 : Jvm.Cond.instantiable RX1 5 ∈ xG ∧ Jvm.Cond.initialized RX1 ∈ xG := ⟨xG_of 91 (by decide +kernel) (by decide +kernel), xG_of 4 (by decide +kernel) (by decide +kernel)⟩
theorem xtkX1 : ∀ k, k < 5 → xok (tyX1 k) (xft 2 k) = true := by decide +kernel
theorem xinX4 : ∀ w ∈ u_ws RX4 TX4 12, w ∈ xG := by
  intro w h
  obtain ⟨k, hk, rfl⟩ := List.mem_map.mp h
  have hk := List.mem_range.mp hk
  have h2 : ∀ k, k < 12 → tables_1[(([530, 531, 510, 512, 514, 516, 518, 520, 522, 524, 526, 528] : List Nat).getD k 0)]? = some (u_lay RX4 TX4 k) ∧ goodWord (u_lay RX4 TX4 k) = true := by decide +kernel
  exact xG_of _ (h2 k hk).1 (h2 k hk).2
theorem xkdX4 : Jvm.Cond.instantiable RX4 12 ∈ xG ∧ Jvm.Cond.initialized RX4 ∈ xG := ⟨xG_of 495 (by decide +kernel) (by decide +kernel), xG_of 23 (by decide +kernel) (by decide +kernel)⟩
theorem xtkX4 : ∀ k, k < 12 → xok (tyX4 k) (xft 3 k) = true := by decide +kernel
theorem xinX5 : ∀ w ∈ u_ws RX5 TX5 7, w ∈ xG := by
  intro w h
  obtain ⟨k, hk, rfl⟩ := List.mem_map.mp h
  have hk := List.mem_range.mp hk
  have h2 : ∀ k, k < 7 → tables_1[(([491, 492, 481, 483, 485, 487, 489] : List Nat).getD k 0)]? = some (u_lay RX5 TX5 k) ∧ goodWord (u_lay RX5 TX5 k) = true := by decide +kernel
  exact xG_of _ (h2 k hk).1 (h2 k hk).2
theorem xkdX5 : Jvm.Cond.instantiable RX5 7 ∈ xG ∧ Jvm.Cond.initialized RX5 ∈ xG := ⟨xG_of 468 (by decide +kernel) (by decide +kernel), xG_of 22 (by decide +kernel) (by decide +kernel)⟩
theorem xtkX5 : ∀ k, k < 7 → xok (tyX5 k) (xft 4 k) = true := by decide +kernel
theorem xinX6 : ∀ w ∈ u_ws RX6 TX6 8, w ∈ xG := by
  intro w h
  obtain ⟨k, hk, rfl⟩ := List.mem_map.mp h
  have hk := List.mem_range.mp hk
  have h2 : ∀ k, k < 8 → tables_1[(([616, 618, 620, 622, 624, 626, 628, 630] : List Nat).getD k 0)]? = some (u_lay RX6 TX6 k) ∧ goodWord (u_lay RX6 TX6 k) = true := by decide +kernel
  exact xG_of _ (h2 k hk).1 (h2 k hk).2
theorem xkdX6 : Jvm.Cond.instantiable RX6 8 ∈ xG ∧ Jvm.Cond.initialized RX6 ∈ xG := ⟨xG_of 586 (by decide +kernel) (by decide +kernel), xG_of 26 (by decide +kernel) (by decide +kernel)⟩
theorem xtkX6 : ∀ k, k < 8 → xok (tyX6 k) (xft 5 k) = true := by decide +kernel
theorem xinX7 : ∀ w ∈ u_ws RX7 TX7 4, w ∈ xG := by
  intro w h
  obtain ⟨k, hk, rfl⟩ := List.mem_map.mp h
  have hk := List.mem_range.mp hk
  have h2 : ∀ k, k < 4 → tables_1[(([462, 464, 458, 460] : List Nat).getD k 0)]? = some (u_lay RX7 TX7 k) ∧ goodWord (u_lay RX7 TX7 k) = true := by decide +kernel
  exact xG_of _ (h2 k hk).1 (h2 k hk).2
theorem xkdX7 : Jvm.Cond.instantiable RX7 4 ∈ xG ∧ Jvm.Cond.initialized RX7 ∈ xG := ⟨xG_of 436 (by decide +kernel) (by decide +kernel), xG_of 21 (by decide +kernel) (by decide +kernel)⟩
theorem xtkX7 : ∀ k, k < 4 → xok (tyX7 k) (xft 6 k) = true := by decide +kernel
theorem xinX8 : ∀ w ∈ u_ws RX8 TX8 2, w ∈ xG := by
  intro w h
  obtain ⟨k, hk, rfl⟩ := List.mem_map.mp h
  have hk := List.mem_range.mp hk
  have h2 : ∀ k, k < 2 → tables_1[(([543, 545] : List Nat).getD k 0)]? = some (u_lay RX8 TX8 k) ∧ goodWord (u_lay RX8 TX8 k) = true := by decide +kernel
  exact xG_of _ (h2 k hk).1 (h2 k hk).2
theorem xkdX8 : Jvm.Cond.instantiable RX8 2 ∈ xG ∧ Jvm.Cond.initialized RX8 ∈ xG := ⟨xG_of 536 (by decide +kernel) (by decide +kernel), xG_of 24 (by decide +kernel) (by decide +kernel)⟩
theorem xtkX8 : ∀ k, k < 2 → xok (tyX8 k) (xft 7 k) = true := by decide +kernel
theorem xinX9 : ∀ w ∈ u_ws RX9 TX9 7, w ∈ xG := by
  intro w h
  obtain ⟨k, hk, rfl⟩ := List.mem_map.mp h
  have hk := List.mem_range.mp hk
  have h2 : ∀ k, k < 7 → tables_1[(([74, 76, 78, 80, 82, 84, 86] : List Nat).getD k 0)]? = some (u_lay RX9 TX9 k) ∧ goodWord (u_lay RX9 TX9 k) = true := by decide +kernel
  exact xG_of _ (h2 k hk).1 (h2 k hk).2
theorem xkdX9 : Jvm.Cond.instantiable RX9 7 ∈ xG ∧ Jvm.Cond.initialized RX9 ∈ xG := ⟨xG_of 44 (by decide +kernel) (by decide +kernel), xG_of 3 (by decide +kernel) (by decide +kernel)⟩
theorem xtkX9 : ∀ k, k < 7 → xok (tyX9 k) (xft 8 k) = true := by decide +kernel
theorem xinX10 : ∀ w ∈ u_ws RX10 TX10 12, w ∈ xG := by
  intro w h
  obtain ⟨k, hk, rfl⟩ := List.mem_map.mp h
  have hk := List.mem_range.mp hk
  have h2 : ∀ k, k < 12 → tables_1[(([645, 647, 649, 651, 653, 655, 657, 659, 661, 663, 665, 667] : List Nat).getD k 0)]? = some (u_lay RX10 TX10 k) ∧ goodWord (u_lay RX10 TX10 k) = true := by decide +kernel
  exact xG_of _ (h2 k hk).1 (h2 k hk).2
theorem xkdX10 : Jvm.Cond.instantiable RX10 12 ∈ xG ∧ Jvm.Cond.initialized RX10 ∈ xG := ⟨xG_of 30 (by decide +kernel) (by decide +kernel), xG_of 1 (by decide +kernel) (by decide +kernel)⟩
theorem xtkX10 : ∀ k, k < 12 → xok (tyX10 k) (xft 9 k) = true := by decide +kernel
theorem xinX11 : ∀ w ∈ u_ws RX11 TX11 47, w ∈ xG := by
  intro w h
  obtain ⟨k, hk, rfl⟩ := List.mem_map.mp h
  have hk := List.mem_range.mp hk
  have h2 : ∀ k, k < 47 → tables_1[(([1128, 1130, 1132, 1134, 1136, 1138, 1140, 1142, 1144, 1146, 1148, 1150, 1152, 1154, 1156, 1158, 1160, 1162, 1164, 1166, 1168, 1170, 1172, 1174, 1176, 1178, 1180, 1182, 1184, 1186, 1188, 1190, 1192, 1194, 1196, 1198, 1200, 1202, 1204, 1206, 1208, 1210, 1212, 1214, 1216, 1218, 1220] : List Nat).getD k 0)]? = some (u_lay RX11 TX11 k) ∧ goodWord (u_lay RX11 TX11 k) = true := by decide +kernel
  exact xG_of _ (h2 k hk).1 (h2 k hk).2
theorem xkdX11 : Jvm.Cond.instantiable RX11 47 ∈ xG ∧ Jvm.Cond.initialized RX11 ∈ xG := ⟨xG_of 1070 (by decide +kernel) (by decide +kernel), xG_of 27 (by decide +kernel) (by decide +kernel)⟩
theorem xtkX11 : ∀ k, k < 47 → xok (tyX11 k) (xft 10 k) = true := by decide +kernel
/-- what is known of a class of the light machine -/
def xKnow (i : Nat) (q : vw_C) : Prop := (∀ w ∈ u_ws q.1 q.2.1 q.2.2, w ∈ xG) ∧ (Jvm.Cond.instantiable q.1 q.2.2 ∈ xG ∧ Jvm.Cond.initialized q.1 ∈ xG) ∧ (∀ a, a < q.2.2 → ∀ b, b < q.2.2 → a ≠ b → (q.2.1 a).2.1 ≠ (q.2.1 b).2.1) ∧ ∃ ty : Nat → FieldType, (∀ k, k < q.2.2 → parseFieldDescriptor (q.2.1 k).2.2.1 = some (ty k)) ∧ ∀ k, k < q.2.2 → xok (ty k) (xft (i + 1) k) = true
theorem xknow : ∀ (i : Nat) (q : vw_C), xCl[i]? = some q → xKnow i q := by
  intro i q h
  match i, h with
  | 0, h => cases h; exact ⟨xinX0, xkdX0, nmX0, tyX0, tyX0_ok, xtkX0⟩
  | 1, h => cases h; exact ⟨xinX1, xkdX1, nmX1, tyX1, tyX1_ok, xtkX1⟩
  | 2, h => cases h; exact ⟨xinX4, xkdX4, nmX4, tyX4, tyX4_ok, xtkX4⟩
  | 3, h => cases h; exact ⟨xinX5, xkdX5, nmX5, tyX5, tyX5_ok, xtkX5⟩
  | 4, h => cases h; exact ⟨xinX6, xkdX6, nmX6, tyX6, tyX6_ok, xtkX6⟩
  | 5, h => cases h; exact ⟨xinX7, xkdX7, nmX7, tyX7, tyX7_ok, xtkX7⟩
  | 6, h => cases h; exact ⟨xinX8, xkdX8, nmX8, tyX8, tyX8_ok, xtkX8⟩
  | 7, h => cases h; exact ⟨xinX9, xkdX9, nmX9, tyX9, tyX9_ok, xtkX9⟩
  | 8, h => cases h; exact ⟨xinX10, xkdX10, nmX10, tyX10, tyX10_ok, xtkX10⟩
  | 9, h => cases h; exact ⟨xinX11, xkdX11, nmX11, tyX11, tyX11_ok, xtkX11⟩
  | i + 10, h => simp [xCl] at h
end
section
/-! THE LIGHT MACHINE: cells by number, ints, longs and references by cell and place; a step is a function; nothing of frames, links and tables -/
abbrev xS : Type := (Nat → Nat × Nat) × (List Nat × Nat × Nat) × (Nat → Nat → Int32) × (Nat → Nat → Int64) × (Nat → Nat → Option Nat)
abbrev xL : Type := List (Option Value)
abbrev xF : Type := Nat × xL × List Value × xS
abbrev xI : Type := Instr × Nat × Nat × Nat
def xup {α : Type} (f : Nat → Nat → α) (a k : Nat) (v : α) : Nat → Nat → α := va_up f a (va_up (f a) k v)
def xat (pc : Nat) : List (Nat × xI) → Option xI
  | [] => none
  | e :: t => if e.1 = pc then some e.2 else xat pc t
theorem xat_mem {pc : Nat} {x : xI} : ∀ {t : List (Nat × xI)}, xat pc t = some x → (pc, x) ∈ t
  | [], h => by simp [xat] at h
  | e :: t, h => by
    unfold xat at h
    split at h
    · rename_i he
      cases h
      subst he
      exact List.mem_cons_self
    · exact List.mem_cons_of_mem _ (xat_mem h)
def xld (L : xL) (i : Nat) : Option Value := match L[i]? with
  | some o => o
  | none => none
def xclr (L : xL) (i : Nat) : xL := match i with
  | 0 => L
  | j + 1 => match xld L j with
    | some v => if v.category = 2 then L.set j none else L
    | none => L
def xst1 (L : xL) (i : Nat) (v : Value) : Option xL := if i < L.length then some ((xclr L i).set i (some v)) else none
def xst2 (L : xL) (i : Nat) (v : Value) : Option xL := if i + 1 < L.length then some (((xclr L i).set i (some v)).set (i + 1) none) else none
def xii (f : Int32 → Int32 → Int32) (st : List Value) : Option (List Value) := match st with
  | .int y :: .int x :: r => some (.int (f x y) :: r)
  | _ => none
def xjj (f : Int64 → Int64 → Int64) (st : List Value) : Option (List Value) := match st with
  | .long y :: .long x :: r => some (.long (f x y) :: r)
  | _ => none
def xji (f : Int64 → Int32 → Int64) (st : List Value) : Option (List Value) := match st with
  | .int y :: .long x :: r => some (.long (f x y) :: r)
  | _ => none
/-- instructions of the operand stack alone -/
def xop (ins : Instr) (r1 : Nat) (st : List Value) : Option (List Value) := match ins with
  | .iconst n => some (.int (Int32.ofInt n) :: st)
  | .bipush n => some (.int (Int8.ofInt n).toInt32 :: st)
  | .sipush n => some (.int (Int16.ofInt n).toInt32 :: st)
  | .lconst n => some (.long (Int64.ofNat (n : Nat)) :: st)
  | .ldc _ => some (.int (Int32.ofNat r1) :: st)
  | .ldc_w _ => some (.int (Int32.ofNat r1) :: st)
  | .ldc2_w _ => some (.long (Int64.ofNat r1) :: st)
  | .iadd => xii (fun x y => x + y) st
  | .isub => xii (fun x y => x - y) st
  | .imul => xii (fun x y => x * y) st
  | .iand => xii (fun x y => x &&& y) st
  | .ior => xii (fun x y => x ||| y) st
  | .ixor => xii (fun x y => x ^^^ y) st
  | .ishl => xii (fun x y => x <<< (y &&& 31)) st
  | .ishr => xii (fun x y => x >>> (y &&& 31)) st
  | .idiv => match st with
    | .int y :: .int x :: r => if y = 0 then none else some (.int (x / y) :: r)
    | _ => none
  | .ineg => match st with
    | .int x :: r => some (.int (-x) :: r)
    | _ => none
  | .i2l => match st with
    | .int x :: r => some (.long x.toInt64 :: r)
    | _ => none
  | .l2i => match st with
    | .long x :: r => some (.int x.toInt32 :: r)
    | _ => none
  | .ladd => xjj (fun x y => x + y) st
  | .lsub => xjj (fun x y => x - y) st
  | .lmul => xjj (fun x y => x * y) st
  | .land => xjj (fun x y => x &&& y) st
  | .lor => xjj (fun x y => x ||| y) st
  | .lxor => xjj (fun x y => x ^^^ y) st
  | .lshl => xji (fun x y => x <<< (y.toInt64 &&& 63)) st
  | .lshr => xji (fun x y => x >>> (y.toInt64 &&& 63)) st
  | .lushr => xji (fun x y => (x.toUInt64 >>> (y.toInt64.toUInt64 &&& Int64.toUInt64 63)).toInt64) st
  | .lcmp => match st with
    | .long y :: .long x :: r => some (.int (lg_cmp x y) :: r)
    | _ => none
  | .dup => match st with
    | v :: r => if v.category = 1 then some (v :: v :: r) else none
    | _ => none
  | .dup2 => match st with
    | v :: w :: r => if v.category = 1 ∧ w.category = 1 then some (v :: w :: v :: w :: r) else none
    | _ => none
  | _ => none
/-- loads and stores of the locals -/
def xlo (ins : Instr) (L : xL) (st : List Value) : Option (xL × List Value) := match ins with
  | .iload_n k => match xld L (k : Nat) with
    | some (.int x) => some (L, .int x :: st)
    | _ => none
  | .iload i => match xld L i with
    | some (.int x) => some (L, .int x :: st)
    | _ => none
  | .lload_n k => match xld L (k : Nat) with
    | some (.long x) => some (L, .long x :: st)
    | _ => none
  | .lload i => match xld L i with
    | some (.long x) => some (L, .long x :: st)
    | _ => none
  | .aload_n k => match xld L (k : Nat) with
    | some (.ref x) => some (L, .ref x :: st)
    | _ => none
  | .aload i => match xld L i with
    | some (.ref x) => some (L, .ref x :: st)
    | _ => none
  | .istore_n k => match st with
    | .int x :: r => (xst1 L (k : Nat) (.int x)).map (fun L' => (L', r))
    | _ => none
  | .istore i => match st with
    | .int x :: r => (xst1 L i (.int x)).map (fun L' => (L', r))
    | _ => none
  | .astore_n k => match st with
    | .ref x :: r => (xst1 L (k : Nat) (.ref x)).map (fun L' => (L', r))
    | _ => none
  | .astore i => match st with
    | .ref x :: r => (xst1 L i (.ref x)).map (fun L' => (L', r))
    | _ => none
  | .lstore_n k => match st with
    | .long x :: r => (xst2 L (k : Nat) (.long x)).map (fun L' => (L', r))
    | _ => none
  | .lstore i => match st with
    | .long x :: r => (xst2 L i (.long x)).map (fun L' => (L', r))
    | _ => none
  | .iinc i n => match xld L i with
    | some (.int x) => (xst1 L i (.int (x + Int32.ofInt n))).map (fun L' => (L', st))
    | _ => none
  | _ => none
def xcmp (c : Jvm.ClassFile.Cond) (x y : Int32) : Bool := match c with
  | .eq => decide (x = y)
  | .ne => decide (¬ x = y)
  | .lt => decide (x < y)
  | .ge => decide (y ≤ x)
  | .gt => decide (y < x)
  | .le => decide (x ≤ y)
/-- branches: r1 is where they go -/
def xbr (ins : Instr) (r1 pc : Nat) (st : List Value) : Option (Nat × List Value) := match ins with
  | .goto _ => some (r1, st)
  | .if_icmp c _ => match st with
    | .int y :: .int x :: r => some (if xcmp c x y = true then r1 else pc + 3, r)
    | _ => none
  | .ifCond c _ => match st with
    | .int x :: r => some (if xcmp c x 0 = true then r1 else pc + 3, r)
    | _ => none
  | .tableswitch dflt lo hi offs => match st with
    | .int x :: r => (if x.toInt < lo ∨ hi < x.toInt then some dflt else offs[(x.toInt - lo).toNat]?).bind (fun o => match (pc : Int) + o with
      | .ofNat t => some (t, r)
      | _ => none)
    | _ => none
  | _ => none
/-- how long an instruction is, where the step asks for it -/
def xlen (ins : Instr) : Nat := match ins with
  | .bipush _ | .ldc _ | .iload _ | .lload _ | .aload _ | .istore _ | .astore _ | .lstore _ | .newarray _ => 2
  | .sipush _ | .ldc_w _ | .ldc2_w _ | .iinc _ _ | .goto _ | .if_icmp _ _ | .ifCond _ _ | .getfield _ | .putfield _ | .getstatic _ | .new _ | .invokevirtual _ | .invokestatic _ | .invokespecial _ => 3
  | _ => 1
end
section
/-! THE LIGHT MACHINE'S STEPS ARE THE MACHINE'S: stack, locals, branches -/
def xsh (ad : Nat → Nat) (v : Value) : Value := match v with
  | .ref k => .ref (ad k)
  | v => v
theorem xsh_cat (ad : Nat → Nat) (v : Value) : (xsh ad v).category = v.category := by cases v <;> rfl
def xas (ad : Nat → Nat) (L : xL) : List (Nat × Value) := (List.range L.length).filterMap (fun i => (xld L i).map (fun v => (i, xsh ad v)))
theorem xld_lt {L : xL} {i : Nat} {v : Value} (h : xld L i = some v) : i < L.length := by
  unfold xld at h
  split at h
  · rename_i o ho
    exact (List.getElem?_eq_some_iff.mp ho).1
  · cases h
theorem xas_mem {ad : Nat → Nat} {L : xL} {i : Nat} {w : Value} : (i, w) ∈ xas ad L ↔ ∃ v, xld L i = some v ∧ w = xsh ad v := by
  unfold xas
  constructor
  · intro h
    obtain ⟨j, -, hj⟩ := List.mem_filterMap.mp h
    cases hv : xld L j with
    | none => rw [hv] at hj; cases hj
    | some v =>
      rw [hv] at hj
      cases hj
      exact ⟨v, hv, rfl⟩
  · rintro ⟨v, hv, rfl⟩
    exact List.mem_filterMap.mpr ⟨i, List.mem_range.mpr (xld_lt hv), by rw [hv]; rfl⟩
def xLH (ad : Nat → Nat) (ls : Array Slot) (L : xL) : Prop := lv_has ls L.length (xas ad L)
theorem xLH.at {ad : Nat → Nat} {ls : Array Slot} {L : xL} (h : xLH ad ls L) {i : Nat} {v : Value} (hv : xld L i = some v) : ls[i]? = some (.val (xsh ad v)) := h.2.2 (i, xsh ad v) (xas_mem.mpr ⟨v, hv, rfl⟩)
theorem xclr_len (L : xL) (i : Nat) : (xclr L i).length = L.length := by
  unfold xclr
  split
  · rfl
  · split
    · split
      · simp
      · rfl
    · rfl
theorem xld_set_ne {L : xL} {i j : Nat} {o : Option Value} (h : i ≠ j) : xld (L.set i o) j = xld L j := by
  unfold xld
  rw [List.getElem?_set_ne h]
theorem xld_set_self {L : xL} {i : Nat} {o : Option Value} (h : i < L.length) : xld (L.set i o) i = o := by
  unfold xld
  rw [List.getElem?_set_self h]
theorem xclr_ld {L : xL} {i j : Nat} {v : Value} (h : xld (xclr L i) j = some v) : xld L j = some v ∧ ¬ (j + 1 = i ∧ v.category = 2) := by
  unfold xclr at h
  split at h
  · exact ⟨h, fun z => by omega⟩
  · rename_i k
    split at h
    · rename_i u hu
      split at h
      · by_cases hjk : k = j
        · subst hjk
          rw [xld_set_self (xld_lt hu)] at h
          cases h
        · rw [xld_set_ne hjk] at h
          exact ⟨h, fun z => hjk (by omega)⟩
      · rename_i hc
        refine ⟨h, fun z => ?_⟩
        obtain ⟨z1, z2⟩ := z
        have : j = k := by omega
        subst this
        rw [hu] at h
        cases h
        exact hc z2
    · rename_i hn
      refine ⟨h, fun z => ?_⟩
      have : j = k := by omega
      subst this
      rw [hn] at h
      cases h
theorem xLH.st1 {ad : Nat → Nat} {ls : Array Slot} {L L' : xL} {i : Nat} {v : Value} (hs : xst1 L i v = some L') (h : lv_has ls L.length ((i, xsh ad v) :: (xas ad L).filter (fun q => !(q.1 == i) && !(q.1 + 1 == i && q.2.category == 2)))) : xLH ad ls L' := by
  unfold xst1 at hs
  split at hs
  · rename_i hi
    cases hs
    unfold xLH
    have hlen : ((xclr L i).set i (some v)).length = L.length := by simp [xclr_len]
    rw [hlen]
    refine ⟨h.1, h.2.1, fun q hq => ?_⟩
    obtain ⟨j, w⟩ := q
    obtain ⟨u, hu, rfl⟩ := xas_mem.mp hq
    by_cases hij : i = j
    · subst hij
      rw [xld_set_self (by rw [xclr_len]; exact hi)] at hu
      cases hu
      exact h.2.2 _ List.mem_cons_self
    · rw [xld_set_ne hij] at hu
      obtain ⟨h1, h2⟩ := xclr_ld hu
      refine h.2.2 (j, xsh ad u) (List.mem_cons_of_mem _ (List.mem_filter.mpr ⟨xas_mem.mpr ⟨u, h1, rfl⟩, ?_⟩))
      simp only [Bool.and_eq_true, Bool.not_eq_true', beq_eq_false_iff_ne, ne_eq, Bool.and_eq_false_iff]
      refine ⟨fun z => hij z.symm, ?_⟩
      by_cases hj : j + 1 = i
      · right
        rw [xsh_cat]
        exact fun z => h2 ⟨hj, z⟩
      · left
        exact hj
  · cases hs
theorem xLH.st2 {ad : Nat → Nat} {ls : Array Slot} {L L' : xL} {i : Nat} {v : Value} (hs : xst2 L i v = some L') (h : lv_has ls L.length ((i, xsh ad v) :: (xas ad L).filter (fun q => !(q.1 == i) && (!(q.1 == i + 1) && !(q.1 + 1 == i && q.2.category == 2))))) : xLH ad ls L' := by
  unfold xst2 at hs
  split at hs
  · rename_i hi
    cases hs
    unfold xLH
    have hlen : (((xclr L i).set i (some v)).set (i + 1) none).length = L.length := by simp [xclr_len]
    rw [hlen]
    refine ⟨h.1, h.2.1, fun q hq => ?_⟩
    obtain ⟨j, w⟩ := q
    obtain ⟨u, hu, rfl⟩ := xas_mem.mp hq
    by_cases hij1 : i + 1 = j
    · subst hij1
      rw [xld_set_self (by rw [List.length_set, xclr_len]; exact hi)] at hu
      cases hu
    rw [xld_set_ne hij1] at hu
    by_cases hij : i = j
    · subst hij
      rw [xld_set_self (by rw [xclr_len]; omega)] at hu
      cases hu
      exact h.2.2 _ List.mem_cons_self
    · rw [xld_set_ne hij] at hu
      obtain ⟨h1, h2⟩ := xclr_ld hu
      refine h.2.2 (j, xsh ad u) (List.mem_cons_of_mem _ (List.mem_filter.mpr ⟨xas_mem.mpr ⟨u, h1, rfl⟩, ?_⟩))
      simp only [Bool.and_eq_true, Bool.not_eq_true', beq_eq_false_iff_ne, ne_eq, Bool.and_eq_false_iff]
      refine ⟨fun z => hij z.symm, fun z => hij1 z.symm, ?_⟩
      by_cases hj : j + 1 = i
      · right
        rw [xsh_cat]
        exact fun z => h2 ⟨hj, z⟩
      · left
        exact hj
  · cases hs
theorem xst1_lt {L L' : xL} {i : Nat} {v : Value} (hs : xst1 L i v = some L') : i < L.length := by
  unfold xst1 at hs
  split at hs
  · assumption
  · cases hs
theorem xst2_lt {L L' : xL} {i : Nat} {v : Value} (hs : xst2 L i v = some L') : i + 1 < L.length := by
  unfold xst2 at hs
  split at hs
  · assumption
  · cases hs
section XA
variable {p : Program} {l : Launch} {e : Env} {R : Room} {s : State} {m : MethodId} {args : Array Value} {below : List Frame} {meth : Method} {c : Code} {H : Heap} {locs : List Loc} {cells slots : Nat} {Q : State → Prop}
variable {cc : ByteArray} {pc : Nat} {ls : Array Slot} {ad : Nat → Nat}
/-- what a constant's instruction asks of the words -/
def xcon (Ts : List Jvm.Cond) (own : String) (ins : Instr) (r1 : Nat) : Prop := match ins with
  | .ldc i => Jvm.Cond.constant own i (Int32.ofNat r1) ∈ Ts
  | .ldc_w i => Jvm.Cond.constant own i (Int32.ofNat r1) ∈ Ts
  | .ldc2_w i => Jvm.Cond.constantLong own i (Int64.ofNat r1) ∈ Ts
  | _ => True
set_option maxHeartbeats 4000000 in
theorem xop_ok (hexec : p.tables.exec = Jvm.exec) (hb : c.code = cc) {Ts : List Jvm.Cond} {own : String} (hown : s.vm.findClass own = some m.cls) (hts : ∀ w ∈ Ts, w.before args s = true) {ins : Instr} {r1 : Nat} (hd : decode cc pc = .ok (ins, xlen ins)) (hc : xcon Ts own ins r1)
    {st st' : List Value} (h : xop ins r1 st = some st') (k : W p l e R s m args below meth c H locs cells slots Q (F0 m (pc + xlen ins) ls (st'.map (xsh ad)))) : W p l e R s m args below meth c H locs cells slots Q (F0 m pc ls (st.map (xsh ad))) := by
  unfold xop at h
  split at h
  · cases h; exact lv_iconst hexec hb hd rfl k
  · cases h; exact lv_bipush hexec hb hd rfl k
  · cases h; exact lv_sipush hexec hb hd rfl k
  · cases h; exact lv_lconst hexec hb hd rfl k
  · cases h; exact lv_ldc hexec hb hown (hts _ hc) hd k
  · cases h; exact lv_ldcw hexec hb hown (hts _ hc) hd k
  · cases h; exact lv_ldc2 hexec hb hown (hts _ hc) hd k
  · unfold xii at h; split at h <;> cases h; exact lv_iadd hexec hb hd k
  · unfold xii at h; split at h <;> cases h; exact lv_isub hexec hb hd k
  · unfold xii at h; split at h <;> cases h; exact lv_imul hexec hb hd k
  · unfold xii at h; split at h <;> cases h; exact lv_iand hexec hb hd k
  · unfold xii at h; split at h <;> cases h; exact lv_ior hexec hb hd k
  · unfold xii at h; split at h <;> cases h; exact lv_ixor hexec hb hd k
  · unfold xii at h; split at h <;> cases h; exact lv_ishl hexec hb hd k
  · unfold xii at h; split at h <;> cases h; exact lv_ishr hexec hb hd k
  · split at h
    · split at h
      · cases h
      · rename_i hne
        cases h; exact lv_idiv hexec hb hd hne k
    · cases h
  · split at h <;> cases h; exact lv_ineg hexec hb hd k
  · split at h <;> cases h; exact lv_i2l hexec hb hd rfl k
  · split at h <;> cases h; exact lv_l2i hexec hb hd rfl k
  · unfold xjj at h; split at h <;> cases h; exact lv_ladd hexec hb hd k
  · unfold xjj at h; split at h <;> cases h; exact lv_lsub hexec hb hd k
  · unfold xjj at h; split at h <;> cases h; exact lv_lmul hexec hb hd k
  · unfold xjj at h; split at h <;> cases h; exact lv_land hexec hb hd k
  · unfold xjj at h; split at h <;> cases h; exact lv_lor hexec hb hd k
  · unfold xjj at h; split at h <;> cases h; exact lv_lxor hexec hb hd k
  · unfold xji at h; split at h <;> cases h; exact lv_lshl hexec hb hd rfl k
  · unfold xji at h; split at h <;> cases h; exact lv_lshr hexec hb hd rfl k
  · unfold xji at h; split at h <;> cases h; exact lv_lushr hexec hb hd rfl k
  · split at h <;> cases h; exact W.lcmp hexec hb hd k
  · split at h
    · split at h
      · rename_i v r hv
        cases h; exact lv_dup (va := xsh ad v) hexec hb hd (by rw [xsh_cat]; exact hv) k
      · cases h
    · cases h
  · split at h
    · split at h
      · rename_i v w r hv
        cases h; exact lv_dup2_11 (va := xsh ad v) (vb := xsh ad w) hexec hb hd (by rw [xsh_cat]; exact hv.1) (by rw [xsh_cat]; exact hv.2) k
      · cases h
    · cases h
  · cases h
set_option maxHeartbeats 4000000 in
theorem xlo_ok (hexec : p.tables.exec = Jvm.exec) (hb : c.code = cc) {ins : Instr} (hd : decode cc pc = .ok (ins, xlen ins))
    {L L' : xL} {st st' : List Value} (hl : xLH ad ls L) (h : xlo ins L st = some (L', st')) (k : ∀ ls', xLH ad ls' L' → W p l e R s m args below meth c H locs cells slots Q (F0 m (pc + xlen ins) ls' (st'.map (xsh ad)))) : W p l e R s m args below meth c H locs cells slots Q (F0 m pc ls (st.map (xsh ad))) := by
  unfold xlo at h
  split at h
  · split at h
    · rename_i hx
      cases h; exact lv_iload_n hexec hb hd rfl (hl.at hx) (k ls hl)
    · cases h
  · split at h
    · rename_i hx
      cases h; exact lv_iload hexec hb hd (hl.at hx) (k ls hl)
    · cases h
  · split at h
    · rename_i hx
      cases h; exact lv_lload_n hexec hb hd rfl (hl.at hx) (k ls hl)
    · cases h
  · split at h
    · rename_i hx
      cases h; exact lv_lload hexec hb hd (hl.at hx) (k ls hl)
    · cases h
  · split at h
    · rename_i hx
      cases h; exact lv_aload_n hexec hb hd rfl (hl.at hx) (k ls hl)
    · cases h
  · split at h
    · rename_i hx
      cases h; exact lv_aload hexec hb hd (hl.at hx) (k ls hl)
    · cases h
  · split at h
    · obtain ⟨L2, hs, he⟩ := Option.map_eq_some_iff.mp h
      cases he
      exact lv_istore_n hexec hb hd rfl hl (xst1_lt hs) rfl (fun ls' h' => k ls' (xLH.st1 hs h'))
    · cases h
  · split at h
    · obtain ⟨L2, hs, he⟩ := Option.map_eq_some_iff.mp h
      cases he
      exact lv_istore hexec hb hd hl (xst1_lt hs) rfl (fun ls' h' => k ls' (xLH.st1 hs h'))
    · cases h
  · split at h
    · obtain ⟨L2, hs, he⟩ := Option.map_eq_some_iff.mp h
      cases he
      exact lv_astore_n hexec hb hd rfl hl (xst1_lt hs) rfl (fun ls' h' => k ls' (xLH.st1 hs h'))
    · cases h
  · split at h
    · obtain ⟨L2, hs, he⟩ := Option.map_eq_some_iff.mp h
      cases he
      exact lv_astore hexec hb hd hl (xst1_lt hs) rfl (fun ls' h' => k ls' (xLH.st1 hs h'))
    · cases h
  · split at h
    · obtain ⟨L2, hs, he⟩ := Option.map_eq_some_iff.mp h
      cases he
      exact lv_lstore_n hexec hb hd rfl hl (xst2_lt hs) rfl (fun ls' h' => k ls' (xLH.st2 hs h'))
    · cases h
  · split at h
    · obtain ⟨L2, hs, he⟩ := Option.map_eq_some_iff.mp h
      cases he
      exact lv_lstore hexec hb hd hl (xst2_lt hs) rfl (fun ls' h' => k ls' (xLH.st2 hs h'))
    · cases h
  · split at h
    · rename_i x hx
      obtain ⟨L2, hs, he⟩ := Option.map_eq_some_iff.mp h
      cases he
      obtain ⟨kk, hkk⟩ := List.getElem?_of_mem (xas_mem.mpr ⟨_, hx, rfl⟩ : (_, xsh ad (.int x)) ∈ xas ad L)
      exact lv_iinc hexec hb hd hl hkk rfl (xst1_lt hs) rfl (fun ls' h' => k ls' (xLH.st1 hs h'))
    · cases h
  · cases h
/-- where a branch goes, and how long it is -/
def xbrk (ins : Instr) (r1 pc : Nat) : Prop := match ins with
  | .goto off => (pc : Int) + off = (r1 : Int)
  | .if_icmp _ off => (pc : Int) + off = (r1 : Int)
  | .ifCond _ off => (pc : Int) + off = (r1 : Int)
  | _ => True
set_option maxHeartbeats 4000000 in
theorem xbr_ok (hexec : p.tables.exec = Jvm.exec) (hb : c.code = cc) {ins : Instr} {len r1 : Nat} (hd : decode cc pc = .ok (ins, len)) (hlen : (∃ a b d o, ins = .tableswitch a b d o) ∨ len = xlen ins) (hk : xbrk ins r1 pc)
    {st st' : List Value} {pc' : Nat} (h : xbr ins r1 pc st = some (pc', st')) (k : W p l e R s m args below meth c H locs cells slots Q (F0 m pc' ls (st'.map (xsh ad)))) : W p l e R s m args below meth c H locs cells slots Q (F0 m pc ls (st.map (xsh ad))) := by
  unfold xbr at h
  split at h
  · obtain ⟨_, _, _, _, hq⟩ | rfl := hlen
    · cases hq
    · cases h; exact lv_goto hexec hb hd hk k
  · rename_i cd off
    obtain ⟨_, _, _, _, hq⟩ | rfl := hlen
    · cases hq
    split at h
    · cases h
      cases cd
      · refine lv_icmp_eq hexec hb hd hk (fun hz => ?_) (fun hz => ?_) <;> simpa [xcmp, hz] using k
      · refine lv_icmp_ne hexec hb hd hk (fun hz => ?_) (fun hz => ?_) <;> simpa [xcmp, hz] using k
      · refine lv_icmp_lt hexec hb hd hk (fun hz => by simpa only [xcmp, decide_eq_true_eq, if_pos hz] using k) (fun hz => by simpa only [xcmp, decide_eq_true_eq, if_neg hz] using k)
      · refine lv_icmp_ge hexec hb hd hk (fun hz => by simpa only [xcmp, decide_eq_true_eq, if_pos hz] using k) (fun hz => by simpa only [xcmp, decide_eq_true_eq, if_neg hz] using k)
      · refine lv_icmp_gt hexec hb hd hk (fun hz => by simpa only [xcmp, decide_eq_true_eq, if_pos hz] using k) (fun hz => by simpa only [xcmp, decide_eq_true_eq, if_neg hz] using k)
      · refine lv_icmp_le hexec hb hd hk (fun hz => by simpa only [xcmp, decide_eq_true_eq, if_pos hz] using k) (fun hz => by simpa only [xcmp, decide_eq_true_eq, if_neg hz] using k)
    · cases h
  · rename_i cd off
    obtain ⟨_, _, _, _, hq⟩ | rfl := hlen
    · cases hq
    split at h
    · cases h
      cases cd
      · refine lv_if_eq hexec hb hd hk (fun hz => ?_) (fun hz => ?_) <;> simpa [xcmp, hz] using k
      · refine lv_if_ne hexec hb hd hk (fun hz => ?_) (fun hz => ?_) <;> simpa [xcmp, hz] using k
      · refine lv_if_lt hexec hb hd hk (fun hz => by simpa only [xcmp, decide_eq_true_eq, if_pos hz] using k) (fun hz => by simpa only [xcmp, decide_eq_true_eq, if_neg hz] using k)
      · refine lv_if_ge hexec hb hd hk (fun hz => by simpa only [xcmp, decide_eq_true_eq, if_pos hz] using k) (fun hz => by simpa only [xcmp, decide_eq_true_eq, if_neg hz] using k)
      · refine lv_if_gt hexec hb hd hk (fun hz => by simpa only [xcmp, decide_eq_true_eq, if_pos hz] using k) (fun hz => by simpa only [xcmp, decide_eq_true_eq, if_neg hz] using k)
      · refine lv_if_le hexec hb hd hk (fun hz => by simpa only [xcmp, decide_eq_true_eq, if_pos hz] using k) (fun hz => by simpa only [xcmp, decide_eq_true_eq, if_neg hz] using k)
    · cases h
  · rename_i dflt lo hi offs
    split at h
    · rename_i x r
      obtain ⟨o, ho, h2⟩ := Option.bind_eq_some_iff.mp h
      split at h2
      · rename_i t ht
        cases h2
        by_cases hr : x.toInt < lo ∨ hi < x.toInt
        · rw [if_pos hr] at ho
          cases ho
          exact lv_tableOut hexec hb hd hr ht k
        · rw [if_neg hr] at ho
          rw [not_or] at hr
          exact lv_tableIn hexec hb hd hr.1 hr.2 ho ht k
      · cases h2
    · cases h
  · cases h
end XA
end
section
/-! THE LIGHT MACHINE'S HEAP -/
def xv (h : xS) (a k : Nat) : Value := if xft (h.1 a).1 k = 1 then .long (h.2.2.2.1 a k) else if xft (h.1 a).1 k = 3 then va_rf (h.2.2.2.2 a k) else .int (h.2.2.1 a k)
def xpf (h : xS) (a k : Nat) (v : Value) : Option xS := match v with
  | .int x => if xft (h.1 a).1 k = 0 ∨ (xft (h.1 a).1 k = 2 ∧ (x = 0 ∨ x = 1)) then some (h.1, h.2.1, xup h.2.2.1 a k x, h.2.2.2) else none
  | .long x => if xft (h.1 a).1 k = 1 then some (h.1, h.2.1, h.2.2.1, xup h.2.2.2.1 a k x, h.2.2.2.2) else none
  | .ref b => if xft (h.1 a).1 k = 3 then some (h.1, h.2.1, h.2.2.1, h.2.2.2.1, xup h.2.2.2.2 a k (some b)) else none
  | _ => none
/-- fields and arrays: r1 is the class's kind (or the cell of a static array), r2 the field -/
def xhp (ins : Instr) (r1 r2 : Nat) (st : List Value) (h : xS) : Option (List Value × xS) := match ins with
  | .getfield _ => match st with
    | .ref a :: r => if xsub r1 (h.1 a).1 = true then some (xv h a r2 :: r, h) else none
    | _ => none
  | .putfield _ => match st with
    | v :: .ref a :: r => if xsub r1 (h.1 a).1 = true then (xpf h a r2 v).map (fun h' => (r, h')) else none
    | _ => none
  | .getstatic _ => some (.ref r1 :: st, h)
  | .iaload => match st with
    | .int i :: .ref a :: r => if ((h.1 a).1 = 100 ∨ (h.1 a).1 = 103) ∧ ¬ (i < 0 ∨ (h.1 a).2 ≤ i.toNatClampNeg) then some (.int (h.2.2.1 a i.toNatClampNeg) :: r, h) else none
    | _ => none
  | .baload => match st with
    | .int i :: .ref a :: r => if (h.1 a).1 = 102 ∧ ¬ (i < 0 ∨ (h.1 a).2 ≤ i.toNatClampNeg) then some (.int (h.2.2.1 a i.toNatClampNeg) :: r, h) else none
    | _ => none
  | .laload => match st with
    | .int i :: .ref a :: r => if (h.1 a).1 = 101 ∧ ¬ (i < 0 ∨ (h.1 a).2 ≤ i.toNatClampNeg) then some (.long (h.2.2.2.1 a i.toNatClampNeg) :: r, h) else none
    | _ => none
  | .iastore => match st with
    | .int x :: .int i :: .ref a :: r => if (h.1 a).1 = 100 ∧ ¬ (i < 0 ∨ (h.1 a).2 ≤ i.toNatClampNeg) then some (r, (h.1, h.2.1, xup h.2.2.1 a i.toNatClampNeg x, h.2.2.2)) else none
    | _ => none
  | .bastore => match st with
    | .int x :: .int i :: .ref a :: r => if ((h.1 a).1 = 102 ∧ (x = 0 ∨ x = 1)) ∧ ¬ (i < 0 ∨ (h.1 a).2 ≤ i.toNatClampNeg) then some (r, (h.1, h.2.1, xup h.2.2.1 a i.toNatClampNeg x, h.2.2.2)) else none
    | _ => none
  | .lastore => match st with
    | .long x :: .int i :: .ref a :: r => if (h.1 a).1 = 101 ∧ ¬ (i < 0 ∨ (h.1 a).2 ≤ i.toNatClampNeg) then some (r, (h.1, h.2.1, h.2.2.1, xup h.2.2.2.1 a i.toNatClampNeg x, h.2.2.2.2)) else none
    | _ => none
  | .arraylength => match st with
    | .ref a :: r => if (h.1 a).1 = 100 ∨ (h.1 a).1 = 103 ∨ (h.1 a).1 = 101 then some (.int (Int32.ofNat (h.1 a).2) :: r, h) else none
    | _ => none
  | _ => none
/-- cells that are made: the next of the plan -/
def xal (ins : Instr) (r1 : Nat) (st : List Value) (h : xS) : Option (List Value × xS × Nat) := match ins with
  | .newarray t => match st, h.2.1.1 with
    | .int n :: r, a :: pl => if (h.1 a).1 = 0 ∧ ¬ n < 0 ∧ n.toNatClampNeg ≤ 1000000 then match t with
        | .int => some (.ref a :: r, (va_up h.1 a (100, n.toNatClampNeg), (pl, h.2.1.2.1 + 1, h.2.1.2.2 + n.toNatClampNeg), va_up h.2.2.1 a (fun _ => 0), h.2.2.2), n.toNatClampNeg)
        | .long => some (.ref a :: r, (va_up h.1 a (101, n.toNatClampNeg), (pl, h.2.1.2.1 + 1, h.2.1.2.2 + n.toNatClampNeg), h.2.2.1, va_up h.2.2.2.1 a (fun _ => 0), h.2.2.2.2), n.toNatClampNeg)
        | .boolean => some (.ref a :: r, (va_up h.1 a (102, n.toNatClampNeg), (pl, h.2.1.2.1 + 1, h.2.1.2.2 + n.toNatClampNeg), va_up h.2.2.1 a (fun _ => 0), h.2.2.2), n.toNatClampNeg)
        | _ => none
      else none
    | _, _ => none
  | .new _ => match h.2.1.1 with
    | a :: pl => if (h.1 a).1 = 0 ∧ r1 ≠ 0 ∧ r1 < 100 then match xCl[r1 - 1]? with
        | some q => some (.ref a :: st, (va_up h.1 a (r1, q.2.2), (pl, h.2.1.2.1 + 1, h.2.1.2.2 + q.2.2), va_up h.2.2.1 a (fun _ => 0), va_up h.2.2.2.1 a (fun _ => 0), va_up h.2.2.2.2 a (fun _ => none)), q.2.2)
        | none => none
      else none
    | _ => none
  | _ => none
def xown (h : xS) (a : Nat) : Prop := (h.1 a).1 ≠ 0 ∧ (h.1 a).1 ≠ 103
def xcell (D : va_G) (dA : Nat → ClassId) (ad : Nat → Nat) (h : xS) (a : Nat) (H : Heap) : Prop :=
  ((h.1 a).1 = 100 → H[ad a]? = some (arrV (dA 100) (h.1 a).2 (fun j => .int (h.2.2.1 a j)))) ∧
  ((h.1 a).1 = 101 → H[ad a]? = some (arrV (dA 101) (h.1 a).2 (fun j => .long (h.2.2.2.1 a j)))) ∧
  ((h.1 a).1 = 102 → H[ad a]? = some (arrV (dA 102) (h.1 a).2 (fun j => .int (h.2.2.1 a j)))) ∧
  ∀ q, (h.1 a).1 ≠ 0 → xCl[(h.1 a).1 - 1]? = some q → t_OB (ad a) (D.1 ((h.1 a).1 - 1)) q.2.2 (D.2 ((h.1 a).1 - 1)) H (fun k => xsh ad (xv h a k))
def xHO (D : va_G) (dA : Nat → ClassId) (ad : Nat → Nat) (base : Nat) (xe : Nat → Option (Nat × (Nat → Int32))) (h : xS) (H : Heap) : Prop :=
  (∀ a, xown h a → xcell D dA ad h a H ∧ base ≤ ad a ∧ ad a < H.size) ∧
  (∀ a b, xown h a → xown h b → ad a = ad b → a = b) ∧
  (∀ a, (h.1 a).1 = 103 → ∃ n f, xe a = some (n, f) ∧ h.1 a = (103, n) ∧ h.2.2.1 a = f) ∧
  ∀ (j a : Nat), h.2.1.1[j]? = some a → ad a = H.size + j
theorem xcell.congr {D : va_G} {dA : Nat → ClassId} {ad : Nat → Nat} {h h1 : xS} {a : Nat} {H H1 : Heap} (c : xcell D dA ad h a H) (eK : h1.1 a = h.1 a) (eI : h1.2.2.1 a = h.2.2.1 a) (eJ : h1.2.2.2.1 a = h.2.2.2.1 a) (eR : h1.2.2.2.2 a = h.2.2.2.2 a) (eH : H1[ad a]? = H[ad a]?) : xcell D dA ad h1 a H1 := by
  unfold xcell at c ⊢
  have ev : (fun k => xsh ad (xv h1 a k)) = fun k => xsh ad (xv h a k) := by
    funext k
    unfold xv
    rw [eK, eI, eJ, eR]
  rw [eK, eI, eJ, eH, ev]
  exact ⟨c.1, c.2.1, c.2.2.1, fun q h0 hq => (c.2.2.2 q h0 hq).kept eH⟩
/-- one cell changes -/
theorem xHO.put {D : va_G} {dA : Nat → ClassId} {ad : Nat → Nat} {base : Nat} {xe : Nat → Option (Nat × (Nat → Int32))} {h h1 : xS} {H H1 : Heap} (o : xHO D dA ad base xe h H) {a : Nat} (ha : xown h a) (eK : h1.1 = h.1) (eP : h1.2.1 = h.2.1) (eO : ∀ b, b ≠ a → h1.2.2.1 b = h.2.2.1 b ∧ h1.2.2.2.1 b = h.2.2.2.1 b ∧ h1.2.2.2.2 b = h.2.2.2.2 b)
    (z : H1.size = H.size) (oq : ∀ q : Nat, q ≠ ad a → H1[q]? = H[q]?) (hc : xcell D dA ad h1 a H1) : xHO D dA ad base xe h1 H1 := by
  obtain ⟨o1, o2, o3, o4⟩ := o
  refine ⟨fun b hb => ?_, fun b d hb hd => ?_, fun b hb => ?_, fun j b hj => ?_⟩
  · have hb' : xown h b := by unfold xown at hb ⊢; rw [← eK]; exact hb
    obtain ⟨c1, c2, c3⟩ := o1 b hb'
    refine ⟨?_, c2, by rw [z]; exact c3⟩
    by_cases hba : b = a
    · subst hba; exact hc
    · obtain ⟨e1, e2, e3⟩ := eO b hba
      exact c1.congr (by rw [eK]) e1 e2 e3 (oq _ (fun hz => hba (o2 b a hb' ha hz)))
  · unfold xown at hb hd
    rw [eK] at hb hd
    exact o2 b d hb hd
  · rw [eK] at hb ⊢
    obtain ⟨n, f, f1, f2, f3⟩ := o3 b hb
    refine ⟨n, f, f1, f2, ?_⟩
    rw [(eO b (fun hz => ha.2 (by rw [← hz]; exact hb))).1]
    exact f3
  · rw [eP] at hj
    rw [z]
    exact o4 j b hj
theorem xup_ne {α : Type} (f : Nat → Nat → α) {a b : Nat} (k : Nat) (v : α) (h : b ≠ a) : xup f a k v b = f b := va_up_ne _ _ h
theorem xup_at {α : Type} (f : Nat → Nat → α) (a k : Nat) (v : α) (j : Nat) : xup f a k v a j = if j = k then v else f a j := by unfold xup; rw [va_up_self]; rfl
/-- what a field's instruction asks of the words -/
def xGF (own : String) (idx k j : Nat) : Prop := ∃ q : vw_C, k ≠ 0 ∧ k < 100 ∧ xCl[k - 1]? = some q ∧ j < q.2.2 ∧ ∃ ref : String, Jvm.Cond.fieldLink own idx ref (q.2.1 j).2.1 (q.2.1 j).2.2.1 ∈ xG ∧ (ref = (q.2.1 j).1 ∨ Jvm.Cond.sameField ref (q.2.1 j).1 (q.2.1 j).2.1 (q.2.1 j).2.2.1 ∈ xG)
def xPF (own : String) (ini : Bool) (k j : Nat) : Prop := ∀ q : vw_C, xCl[k - 1]? = some q → (q.2.1 j).2.2.2 = false ∨ ((q.2.1 j).2.2.2 = true ∧ ini = true ∧ (q.2.1 j).1 = own)
/-- a static array: its field, and the cell that it is -/
def xST (own : String) (idx k : Nat) (D : Nat → Option (String × String × String)) : Prop := ∃ C n d, D k = some (C, n, d) ∧ Jvm.Cond.fieldLink own idx C n d ∈ xG
def xhw (sd : Nat → Option (String × String × String)) (own : String) (ini : Bool) (ins : Instr) (r1 r2 : Nat) : Prop := match ins with
  | .getfield i => ∀ k, xsub r1 k = true → xGF own i k r2
  | .putfield i => ∀ k, xsub r1 k = true → xGF own i k r2 ∧ xPF own ini k r2
  | .getstatic i => xST own i r1 sd
  | _ => True
abbrev xtys (dA : Nat → ClassId) : List (ClassId × FieldType) := [(dA 100, .int), (dA 101, .long), (dA 102, .boolean)]
/-- what stays true of the tables and of what the run doesn't own -/
def xKK (D : va_G) (dA : Nat → ClassId) (ad : Nat → Nat) (base : Nat) (xe : Nat → Option (Nat × (Nat → Int32))) (sd : Nat → Option (String × String × String)) (s : State) : Prop :=
  va_K D xCl (xtys dA) s ∧ (∀ a n f, xe a = some (n, f) → va_T .int (ad a) n (fun j => .int (f j)) (fun q => base ≤ q) s s.heap) ∧ ∀ k C n d, sd k = some (C, n, d) → va_Z C n d (.ref (ad k)) (fun q => base ≤ q) s s.heap
section XH
variable {p : Program} {l : Launch} {e : Env} {R : Room} {s : State} {m : MethodId} {args : Array Value} {below : List Frame} {meth : Method} {c : Code} {H : Heap} {locs : List Loc} {cells slots : Nat} {Q : State → Prop}
variable {cc : ByteArray} {pc nL : Nat} {ls : Array Slot} {ad : Nat → Nat} {D : va_G} {dA : Nat → ClassId} {base : Nat} {xe : Nat → Option (Nat × (Nat → Int32))} {sd : Nat → Option (String × String × String)} {own : String}
theorem xsh_rf (ad : Nat → Nat) (o : Option Nat) : xsh ad (va_rf o) = va_rf (o.map ad) := by cases o <;> rfl
theorem xgf_ok (S : CallFix p m c cc nL s args xG own) (hK : va_K D xCl (xtys dA) s) {h : xS} (hH : xHO D dA ad base xe h H) {a k idx : Nat} (hw : xGF own idx (h.1 a).1 k) (hd : decode cc pc = .ok (.getfield idx, 3)) {rest : List Value}
    (kk : W p l e R s m args below meth c H locs cells slots Q (F0 m (pc + 3) ls (xsh ad (xv h a k) :: rest))) : W p l e R s m args below meth c H locs cells slots Q (F0 m pc ls (.ref (ad a) :: rest)) := by
  obtain ⟨hexec, hb, -, hown, hts⟩ := S
  obtain ⟨q, hk0, hk1, hq, hj, ref, hl, hs⟩ := hw
  obtain ⟨hin, -, -, -, -, -⟩ := xknow _ q hq
  obtain ⟨⟨-, -, -, co⟩, -, -⟩ := hH.1 a ⟨hk0, by omega⟩
  obtain ⟨cell, q1, q2, q3, q4⟩ := co q hk0 hq
  obtain ⟨hS, hfc, kC, hkC, hkind⟩ := hK.1 _ q hq
  obtain ⟨cf, kf, fi, f, hi, hsl⟩ := hS k hj
  have hsame : ∀ x, s.fieldFound? (q.2.1 k).1 (q.2.1 k).2.1 (q.2.1 k).2.2.1 = some x → s.fieldFound? ref (q.2.1 k).2.1 (q.2.1 k).2.2.1 = some x := by
    rcases hs with hs | hs
    · subst hs; exact fun x hx => hx
    · exact u_same (hts _ hs)
  refine W.getf hexec hb hown (hts _ hl) (hsame _ hi) (u_facts hfc hkC (u_lays hts hin hj) hi).1 q1 (by rw [q3]; exact fun h => by cases h) (v := xsh ad (xv h a k)) ?_ rfl rfl hd kk
  rw [hsl, q4 k hj]
theorem xok_fit {f : FieldType} {n : Nat} (h : xok f n = true) {v : Value} (hv : (n = 0 ∧ ∃ x, v = .int x) ∨ (n = 2 ∧ ∃ x : Int32, v = .int x ∧ (x = 0 ∨ x = 1)) ∨ (n = 1 ∧ ∃ x, v = .long x) ∨ (n = 3 ∧ ∃ x, v = .ref x)) : narrow f v = v ∧ fits f v = true := by
  rcases hv with ⟨rfl, x, rfl⟩ | ⟨rfl, x, rfl, hx⟩ | ⟨rfl, x, rfl⟩ | ⟨rfl, x, rfl⟩
  · cases f <;> simp [xok] at h
    exact ⟨rfl, rfl⟩
  · cases f <;> simp [xok] at h
    rcases hx with rfl | rfl <;> exact ⟨by decide, by decide⟩
  · cases f <;> simp [xok] at h
    exact ⟨rfl, rfl⟩
  · cases f <;> simp [xok] at h
    · exact ⟨rfl, rfl⟩
    · exact ⟨rfl, rfl⟩
theorem xpf_ok (S : CallFix p m c cc nL s args xG own) (hK : va_K D xCl (xtys dA) s) {h h1 : xS} (hH : xHO D dA ad base xe h H) (hS0 : va_S (fun q => base ≤ q) s.heap H locs) {a k idx : Nat} {ini : Bool} (hw : xGF own idx (h.1 a).1 k ∧ xPF own ini (h.1 a).1 k) (hini : ini = true → meth.name = "<init>") (hd : decode cc pc = .ok (.putfield idx, 3)) {v : Value} {rest : List Value} (hx : xpf h a k v = some h1)
    (kk : ∀ H1 locs1, xHO D dA ad base xe h1 H1 → va_S (fun q => base ≤ q) s.heap H1 locs1 → W p l e R s m args below meth c H1 locs1 cells slots Q (F0 m (pc + 3) ls rest)) : W p l e R s m args below meth c H locs cells slots Q (F0 m pc ls (xsh ad v :: .ref (ad a) :: rest)) := by
  obtain ⟨hexec, hb, -, hown, hts⟩ := S
  obtain ⟨⟨q, hk0, hk1, hq, hj, ref, hl, hs⟩, hfin⟩ := hw
  obtain ⟨hin, -, hnm, ty, hty, hok⟩ := xknow _ q hq
  have hoa : xown h a := ⟨hk0, by omega⟩
  obtain ⟨⟨c1, c2, c3, co⟩, hba, -⟩ := hH.1 a hoa
  obtain ⟨cell, q1, q2, q3, q4⟩ := co q hk0 hq
  have hap := va_apart (own := own) hts hin ty hty hnm hK hq
  obtain ⟨hS, hfc, kC, hkC, hkind⟩ := hK.1 _ q hq
  obtain ⟨cf, kf, fi, f, hi, hsl⟩ := hS k hj
  have hsame : ∀ x, s.fieldFound? (q.2.1 k).1 (q.2.1 k).2.1 (q.2.1 k).2.2.1 = some x → s.fieldFound? ref (q.2.1 k).2.1 (q.2.1 k).2.2.1 = some x := by
    rcases hs with hs | hs
    · subst hs; exact fun x hx => hx
    · exact u_same (hts _ hs)
  have hokk := hok k hj
  rw [show (h.1 a).1 - 1 + 1 = (h.1 a).1 by omega] at hokk
  -- the value fits, the new picture is the old one with the value at k
  have key : (narrow (ty k) (xsh ad v) = xsh ad v ∧ fits (ty k) (xsh ad v) = true) ∧ h1.1 = h.1 ∧ h1.2.1 = h.2.1 ∧ (∀ b, b ≠ a → h1.2.2.1 b = h.2.2.1 b ∧ h1.2.2.2.1 b = h.2.2.2.1 b ∧ h1.2.2.2.2 b = h.2.2.2.2 b) ∧ ∀ j, updV (fun k => xsh ad (xv h a k)) k (xsh ad v) j = xsh ad (xv h1 a j) := by
    unfold xpf at hx
    split at hx
    · rename_i x
      split at hx
      · rename_i hc
        cases hx
        refine ⟨xok_fit hokk ?_, rfl, rfl, fun b hb => ⟨xup_ne _ _ _ hb, rfl, rfl⟩, fun j => ?_⟩
        · rcases hc with hc | ⟨hc, hc2⟩
          · exact Or.inl ⟨hc, x, rfl⟩
          · exact Or.inr (Or.inl ⟨hc, x, rfl, hc2⟩)
        · unfold updV xv
          by_cases hjk : j = k
          · subst hjk
            have h1 : xft (h.1 a).1 j ≠ 1 := by rcases hc with hc | ⟨hc, -⟩ <;> omega
            have h3 : xft (h.1 a).1 j ≠ 3 := by rcases hc with hc | ⟨hc, -⟩ <;> omega
            simp [h1, h3, xup_at]
          · simp [hjk, xup_at]
      · cases hx
    · rename_i x
      split at hx
      · rename_i hc
        cases hx
        refine ⟨xok_fit hokk (Or.inr (Or.inr (Or.inl ⟨hc, x, rfl⟩))), rfl, rfl, fun b hb => ⟨rfl, xup_ne _ _ _ hb, rfl⟩, fun j => ?_⟩
        unfold updV xv
        by_cases hjk : j = k
        · subst hjk
          simp [hc, xup_at]
        · simp [hjk, xup_at]
      · cases hx
    · rename_i x
      split at hx
      · rename_i hc
        cases hx
        refine ⟨xok_fit hokk (Or.inr (Or.inr (Or.inr ⟨hc, ad x, rfl⟩))), rfl, rfl, fun b hb => ⟨rfl, rfl, xup_ne _ _ _ hb⟩, fun j => ?_⟩
        unfold updV xv
        by_cases hjk : j = k
        · subst hjk
          simp [hc, xup_at]
          rfl
        · simp [hjk, xup_at]
      · cases hx
    · cases hx
  obtain ⟨⟨hn, hf⟩, eK, eP, eO, eV⟩ := key
  have fin : ∀ H1 : Heap, H1[ad a]? = some (cell.setSlot (D.2 ((h.1 a).1 - 1) k) (xsh ad v)) → H1.size = H.size → (∀ z : Nat, z ≠ ad a → H1[z]? = H[z]?) → W p l e R s m args below meth c H1 (locs ++ [⟨ad a, D.2 ((h.1 a).1 - 1) k⟩]) cells slots Q (F0 m (pc + 3) ls rest) := by
    intro H1 e1 e2 e3
    refine kk H1 _ (hH.put hoa eK eP eO e2 e3 ?_) (hS0.put e2 e3 hba)
    refine ⟨fun hz => ?_, fun hz => ?_, fun hz => ?_, fun r hr0 hr => ?_⟩
    · rw [eK] at hz; omega
    · rw [eK] at hz; omega
    · rw [eK] at hz; omega
    · rw [eK] at hr hr0 ⊢
      cases hq.symm.trans hr
      exact t_OB.to (V := updV (fun k => xsh ad (xv h a k)) k (xsh ad v)) ⟨_, e1, q2, q3, t_set q4 hap hj _⟩ (fun j _ => eV j)
  have hst := (u_facts hfc hkC (u_lays hts hin hj) hi).1
  have hlay := hts _ (hin _ (u_in_lay hj))
  unfold u_lay at hlay
  rcases hfin q hq with hfa | ⟨hfa, hi1, hdecl⟩
  · rw [if_neg (by rw [hfa]; decide)] at hlay
    have h6 := u_store hfc hkC hkind hlay hi (hty k hj) hn hf
    refine W.putK hexec hb (f := f) ⟨hown, hts _ hl, ⟨_, _, _, hsame _ hi⟩, hst⟩ (by rw [q2]; exact h6) q1 q3 (by rw [hsl]; exact k2_hasslot (q4 k hj)) rfl rfl hd fun H' e1 e2 e3 => ?_
    rw [hsl] at e1 ⊢
    exact fin H' e1 e2 e3
  · rw [if_pos hfa] at hlay
    have hcf : m.cls = cf := by
      obtain ⟨_, _, c', _, _, _, -, -, hf', -, -, -, hown2, -⟩ := Cond.laysFinal_spec hlay
      have e1 : c' = cf := by have := hi.symm.trans hf'; simp at this; exact this.1.symm
      rw [hdecl] at hown2
      rw [← e1]; exact Option.some.inj (hown.symm.trans hown2)
    have h6 := u_fits hfc hkC hkind (Or.inr hlay) hi (hty k hj) hn hf
    refine W.putFinK hexec hb hown (hts _ hl) (hsame _ hi) hst hcf (hini hi1) (by rw [q2]; exact h6) q1 q3 (by rw [hsl]; exact k2_hasslot (q4 k hj)) rfl rfl hd fun H' e1 e2 e3 => ?_
    rw [hsl] at e1 ⊢
    exact fin H' e1 e2 e3
end XH
end
section
/-! THE LIGHT MACHINE'S HEAP, instruction by instruction -/
section XH2
variable {p : Program} {l : Launch} {e : Env} {R : Room} {s : State} {m : MethodId} {args : Array Value} {below : List Frame} {meth : Method} {c : Code} {H : Heap} {locs : List Loc} {cells slots : Nat} {Q : State → Prop}
variable {cc : ByteArray} {pc nL : Nat} {ls : Array Slot} {ad : Nat → Nat} {D : va_G} {dA : Nat → ClassId} {base : Nat} {xe : Nat → Option (Nat × (Nat → Int32))} {sd : Nat → Option (String × String × String)} {own : String}
theorem xarr_I {cA : ClassId} {n k : Nat} {x : Int32} (I : Nat → Nat → Int32) (a : Nat) : (arrV cA n (fun j => .int (I a j))).setSlot k (.int x) = arrV cA n (fun j => .int (xup I a k x a j)) := by
  rw [arrV_store]
  congr 1
  funext j
  rw [xup_at]
  unfold updV
  split <;> rfl
theorem xarr_J {cA : ClassId} {n k : Nat} {x : Int64} (J : Nat → Nat → Int64) (a : Nat) : (arrV cA n (fun j => .long (J a j))).setSlot k (.long x) = arrV cA n (fun j => .long (xup J a k x a j)) := by
  rw [arrV_store]
  congr 1
  funext j
  rw [xup_at]
  unfold updV
  split <;> rfl
set_option maxHeartbeats 4000000 in
theorem xhp_ok (S : CallFix p m c cc nL s args xG own) (hKK : xKK D dA ad base xe sd s) {h h1 : xS} (hH : xHO D dA ad base xe h H) (hS0 : va_S (fun q => base ≤ q) s.heap H locs) {ini : Bool} (hini : ini = true → meth.name = "<init>") {ins : Instr} {r1 r2 : Nat} (hd : decode cc pc = .ok (ins, xlen ins)) (hw : xhw sd own ini ins r1 r2) {st st' : List Value} (hx : xhp ins r1 r2 st h = some (st', h1))
    (kk : ∀ H1 locs1, xHO D dA ad base xe h1 H1 → va_S (fun q => base ≤ q) s.heap H1 locs1 → W p l e R s m args below meth c H1 locs1 cells slots Q (F0 m (pc + xlen ins) ls (st'.map (xsh ad)))) : W p l e R s m args below meth c H locs cells slots Q (F0 m pc ls (st.map (xsh ad))) := by
  obtain ⟨hK, hE, hZ⟩ := hKK
  have S0 := S
  obtain ⟨hexec, hb, -, hown, hts⟩ := S
  unfold xhp at hx
  split at hx
  · split at hx
    · split at hx
      · rename_i hs
        cases hx
        exact xgf_ok S0 hK hH (hw _ hs) hd (kk _ _ hH hS0)
      · cases hx
    · cases hx
  · split at hx
    · split at hx
      · rename_i hs
        obtain ⟨h2, hp, he⟩ := Option.map_eq_some_iff.mp hx
        cases he
        exact xpf_ok S0 hK hH hS0 (hw _ hs) hini hd hp kk
      · cases hx
    · cases hx
  · cases hx
    obtain ⟨C, n, d, h1, h2⟩ := hw
    exact va_gets hexec hb (hZ _ _ _ _ h1) hS0 hown (hts _ h2) (fun x hx => hx) hd (kk _ _ hH hS0)
  · split at hx
    · rename_i i a r
      split at hx
      · rename_i hc
        obtain ⟨hc, hin⟩ := hc
        cases hx
        have hlt : i.toNatClampNeg < (h.1 a).2 := Nat.not_le.mp fun q => hin (Or.inr q)
        rcases hc with hc | hc
        · obtain ⟨⟨c1, -⟩, -, -⟩ := hH.1 a ⟨by omega, by omega⟩
          exact W.iald (v := .int (h.2.2.1 a i.toNatClampNeg)) hexec hb (c1 hc) ((hK.2 0 _ rfl).1 _ (fun j => .int (h.2.2.1 a j))) (fun q => by cases q) (by rw [arrV_size]; exact hin) (by rw [arrV_read _ _ hlt]) rfl rfl hd (kk _ _ hH hS0)
        · obtain ⟨n, f, f1, f2, f3⟩ := hH.2.2.1 a hc
          rw [f2] at hin
          exact va_ti hexec hb (hE a n f f1) hS0 hin rfl hd (by have := kk _ _ hH hS0; rw [f3] at this; exact this)
      · cases hx
    · cases hx
  · split at hx
    · rename_i i a r
      split at hx
      · rename_i hc
        obtain ⟨hc, hin⟩ := hc
        cases hx
        have hlt : i.toNatClampNeg < (h.1 a).2 := Nat.not_le.mp fun q => hin (Or.inr q)
        obtain ⟨⟨-, -, c1, -⟩, -, -⟩ := hH.1 a ⟨by omega, by omega⟩
        exact W.zald (v := .int (h.2.2.1 a i.toNatClampNeg)) hexec hb (c1 hc) ((hK.2 2 _ rfl).1 _ (fun j => .int (h.2.2.1 a j))) (fun q => by cases q) (by rw [arrV_size]; exact hin) (by rw [arrV_read _ _ hlt]) rfl rfl hd (kk _ _ hH hS0)
      · cases hx
    · cases hx
  · split at hx
    · rename_i i a r
      split at hx
      · rename_i hc
        obtain ⟨hc, hin⟩ := hc
        cases hx
        have hlt : i.toNatClampNeg < (h.1 a).2 := Nat.not_le.mp fun q => hin (Or.inr q)
        obtain ⟨⟨-, c1, -⟩, -, -⟩ := hH.1 a ⟨by omega, by omega⟩
        exact W.lald (v := .long (h.2.2.2.1 a i.toNatClampNeg)) hexec hb (c1 hc) ((hK.2 1 _ rfl).1 _ (fun j => .long (h.2.2.2.1 a j))) (fun q => by cases q) (by rw [arrV_size]; exact hin) (by rw [arrV_read _ _ hlt]) rfl rfl hd (kk _ _ hH hS0)
      · cases hx
    · cases hx
  · split at hx
    · rename_i x i a r
      split at hx
      · rename_i hc
        obtain ⟨hc, hin⟩ := hc
        cases hx
        have hoa : xown h a := ⟨by omega, by omega⟩
        obtain ⟨⟨c1, -⟩, hba, -⟩ := hH.1 a hoa
        refine W.iast hexec hb (c1 hc) ((hK.2 0 _ rfl).1 _ (fun j => .int (h.2.2.1 a j))) (fun q => by cases q) (by rw [arrV_size]; exact hin) rfl rfl hd fun H1 e1 z oq => ?_
        refine kk H1 _ (hH.put hoa rfl rfl (fun b hb => ⟨xup_ne _ _ _ hb, rfl, rfl⟩) z oq ⟨fun _ => ?_, fun hz => ?_, fun hz => ?_, fun q h0 hq => ?_⟩) (hS0.put z oq hba)
        · rw [e1, xarr_I]
        · exact absurd (hc.symm.trans hz) (by decide)
        · exact absurd (hc.symm.trans hz) (by decide)
        · rw [hc] at hq; simp [xCl] at hq
      · cases hx
    · cases hx
  · split at hx
    · rename_i x i a r
      split at hx
      · rename_i hc
        obtain ⟨⟨hc, hx01⟩, hin⟩ := hc
        cases hx
        have hoa : xown h a := ⟨by omega, by omega⟩
        obtain ⟨⟨-, -, c1, -⟩, hba, -⟩ := hH.1 a hoa
        refine W.zast hexec hb (c1 hc) ((hK.2 2 _ rfl).1 _ (fun j => .int (h.2.2.1 a j))) (fun q => by cases q) (by rw [arrV_size]; exact hin) rfl rfl hd fun H1 e1 z oq => ?_
        have hnar : narrow .boolean (.int x) = .int x := by rcases hx01 with rfl | rfl <;> decide
        rw [hnar] at e1
        refine kk H1 _ (hH.put hoa rfl rfl (fun b hb => ⟨xup_ne _ _ _ hb, rfl, rfl⟩) z oq ⟨fun hz => ?_, fun hz => ?_, fun _ => ?_, fun q h0 hq => ?_⟩) (hS0.put z oq hba)
        · exact absurd (hc.symm.trans hz) (by decide)
        · exact absurd (hc.symm.trans hz) (by decide)
        · rw [e1, xarr_I]
        · rw [hc] at hq; simp [xCl] at hq
      · cases hx
    · cases hx
  · split at hx
    · rename_i x i a r
      split at hx
      · rename_i hc
        obtain ⟨hc, hin⟩ := hc
        cases hx
        have hoa : xown h a := ⟨by omega, by omega⟩
        obtain ⟨⟨-, c1, -⟩, hba, -⟩ := hH.1 a hoa
        refine W.last hexec hb (c1 hc) ((hK.2 1 _ rfl).1 _ (fun j => .long (h.2.2.2.1 a j))) (fun q => by cases q) (by rw [arrV_size]; exact hin) rfl rfl hd fun H1 e1 z oq => ?_
        refine kk H1 _ (hH.put hoa rfl rfl (fun b hb => ⟨rfl, xup_ne _ _ _ hb, rfl⟩) z oq ⟨fun hz => ?_, fun _ => ?_, fun hz => ?_, fun q h0 hq => ?_⟩) (hS0.put z oq hba)
        · exact absurd (hc.symm.trans hz) (by decide)
        · rw [e1, xarr_J]
        · exact absurd (hc.symm.trans hz) (by decide)
        · rw [hc] at hq; simp [xCl] at hq
      · cases hx
    · cases hx
  · split at hx
    · rename_i a r
      split at hx
      · rename_i hc
        cases hx
        rcases hc with hc | hc | hc
        · obtain ⟨⟨c1, -⟩, -, -⟩ := hH.1 a ⟨by omega, by omega⟩
          exact W.alen (n := Int32.ofNat (h.1 a).2) hexec hb (c1 hc) ((hK.2 0 _ rfl).1 _ (fun j => .int (h.2.2.1 a j))) (by rw [arrV_size] <;> rfl) rfl rfl hd (kk _ _ hH hS0)
        · obtain ⟨n, f, f1, f2, f3⟩ := hH.2.2.1 a hc
          exact va_tlen hexec hb (hE a n f f1) hS0 rfl hd (by have := kk _ _ hH hS0; rw [f2] at this; exact this)
        · obtain ⟨⟨-, c1, -⟩, -, -⟩ := hH.1 a ⟨by omega, by omega⟩
          exact W.alen (n := Int32.ofNat (h.1 a).2) hexec hb (c1 hc) ((hK.2 1 _ rfl).1 _ (fun j => .long (h.2.2.2.1 a j))) (by rw [arrV_size] <;> rfl) rfl rfl hd (kk _ _ hH hS0)
      · cases hx
    · cases hx
  · cases hx
end XH2
end
section
/-! CELLS THAT ARE MADE -/
theorem xHO.push {D : va_G} {dA : Nat → ClassId} {ad : Nat → Nat} {base : Nat} {xe : Nat → Option (Nat × (Nat → Int32))} {h h1 : xS} {H H1 : Heap} (o : xHO D dA ad base xe h H) {a : Nat} {pl : List Nat} {kn : Nat × Nat} (hp : h.2.1.1 = a :: pl) (hdead : (h.1 a).1 = 0) (eK : h1.1 = va_up h.1 a kn) (hkn : kn.1 ≠ 0 ∧ kn.1 ≠ 103) (eP : h1.2.1.1 = pl) (eO : ∀ b, b ≠ a → h1.2.2.1 b = h.2.2.1 b ∧ h1.2.2.2.1 b = h.2.2.2.1 b ∧ h1.2.2.2.2 b = h.2.2.2.2 b)
    (hbase : base ≤ H.size) (z : H1.size = H.size + 1) (oq : ∀ q : Nat, q < H.size → H1[q]? = H[q]?) (hc : xcell D dA ad h1 a H1) : xHO D dA ad base xe h1 H1 := by
  obtain ⟨o1, o2, o3, o4⟩ := o
  have hada : ad a = H.size := by have := o4 0 a (by rw [hp]; rfl); omega
  have hKa : h1.1 a = kn := by rw [eK, va_up_self]
  have hKb : ∀ b, b ≠ a → h1.1 b = h.1 b := fun b hb => by rw [eK, va_up_ne _ _ hb]
  have old : ∀ b, b ≠ a → xown h1 b → xown h b := fun b hb hx => by unfold xown at hx ⊢; rw [← hKb b hb]; exact hx
  refine ⟨fun b hb => ?_, fun b d hb hd hbd => ?_, fun b hb => ?_, fun j b hj => ?_⟩
  · by_cases hba : b = a
    · subst hba
      exact ⟨hc, by rw [hada]; exact hbase, by rw [hada, z]; omega⟩
    · obtain ⟨c1, c2, c3⟩ := o1 b (old b hba hb)
      obtain ⟨e1, e2, e3⟩ := eO b hba
      exact ⟨c1.congr (hKb b hba) e1 e2 e3 (oq _ c3), c2, by rw [z]; omega⟩
  · by_cases hba : b = a
    · by_cases hda : d = a
      · rw [hba, hda]
      · have := (o1 d (old d hda hd)).2.2
        rw [hba, hada] at hbd
        omega
    · by_cases hda : d = a
      · have := (o1 b (old b hba hb)).2.2
        rw [hda, hada] at hbd
        omega
      · exact o2 b d (old b hba hb) (old d hda hd) hbd
  · by_cases hba : b = a
    · subst hba
      rw [hKa] at hb
      exact absurd hb hkn.2
    · rw [hKb b hba] at hb ⊢
      obtain ⟨n, f, f1, f2, f3⟩ := o3 b hb
      exact ⟨n, f, f1, f2, by rw [(eO b hba).1]; exact f3⟩
  · rw [eP] at hj
    have := o4 (j + 1) b (by rw [hp]; exact hj)
    rw [z]
    omega
def xaw (own : String) (ins : Instr) (r1 : Nat) : Prop := match ins with
  | .newarray t => Jvm.Cond.arrayClass (newarray.typeOf t) ∈ xG
  | .new i => ∀ q, xCl[r1 - 1]? = some q → Jvm.Cond.classLink own i q.1 ∈ xG
  | _ => True
section XAL
variable {p : Program} {l : Launch} {e : Env} {R : Room} {s : State} {m : MethodId} {args : Array Value} {below : List Frame} {meth : Method} {c : Code} {H : Heap} {locs : List Loc} {cells slots : Nat} {Q : State → Prop}
variable {cc : ByteArray} {pc nL : Nat} {ls : Array Slot} {ad : Nat → Nat} {D : va_G} {dA : Nat → ClassId} {base : Nat} {xe : Nat → Option (Nat × (Nat → Int32))} {sd : Nat → Option (String × String × String)} {own : String}
theorem xS_push {A : Nat → Prop} {H0 H H1 : Heap} {locs : List Loc} (hS : va_S A H0 H locs) (z : H1.size = H.size + 1) (oq : ∀ q : Nat, q < H.size → H1[q]? = H[q]?) : va_S A H0 H1 locs :=
  ⟨by have := hS.1; omega, fun q h1 h2 => (oq q (Nat.lt_of_lt_of_le h1 hS.1)).trans (hS.2.1 q h1 h2), hS.2.2⟩
theorem xdef_ok {f : FieldType} {n : Nat} (h : xok f n = true) : defaultValue f = if n = 1 then .long 0 else if n = 3 then .null else .int 0 := by
  unfold xok at h
  split at h <;> first | rfl | cases h
set_option maxHeartbeats 4000000 in
theorem xal_ok (S : CallFix p m c cc nL s args xG own) (hKK : xKK D dA ad base xe sd s) {h h1 : xS} (hH : xHO D dA ad base xe h H) (hS0 : va_S (fun q => base ≤ q) s.heap H locs) (hbase : base ≤ s.heap.size) {ins : Instr} {r1 ds : Nat} (hd : decode cc pc = .ok (ins, xlen ins)) (hw : xaw own ins r1) {st st' : List Value} (hx : xal ins r1 st h = some (st', h1, ds)) (hcells : cells + 1 ≤ R.cells) (hslots : slots + ds ≤ R.slots)
    (kk : ∀ H1, xHO D dA ad base xe h1 H1 → va_S (fun q => base ≤ q) s.heap H1 locs → W p l e R s m args below meth c H1 locs (cells + 1) (slots + ds) Q (F0 m (pc + xlen ins) ls (st'.map (xsh ad)))) : W p l e R s m args below meth c H locs cells slots Q (F0 m pc ls (st.map (xsh ad))) := by
  obtain ⟨hK, -, -⟩ := hKK
  obtain ⟨hexec, hb, -, hown, hts⟩ := S
  have hbH : base ≤ H.size := Nat.le_trans hbase hS0.1
  unfold xal at hx
  split at hx
  · rename_i t
    split at hx
    · rename_i n r a pl hpl
      have hada : ad a = H.size := by have := hH.2.2.2 0 a (by rw [hpl]; rfl); omega
      split at hx
      · rename_i hc
        obtain ⟨hdead, hn, hle⟩ := hc
        split at hx
        · cases hx
          refine va_newaK hexec hb (hts _ hw) rfl hd rfl hn rfl (by show n.toNatClampNeg * 4 ≤ _; omega) hcells hslots rfl fun H1 cA e1 z oq _ hNm => ?_
          have hcA : cA = dA 100 := Option.some.inj (hNm.symm.trans (hK.2 0 _ rfl).2)
          subst hcA
          have := kk H1 (hH.push hpl hdead rfl ⟨(fun z => by cases z), (fun z => by cases z)⟩ rfl (fun b hb => ⟨va_up_ne _ _ hb, rfl, rfl⟩) hbH z oq ⟨fun _ => ?_, fun hz => ?_, fun hz => ?_, fun q h0 hq => ?_⟩) (xS_push hS0 z oq)
          · rw [← hada]; exact this
          · rw [hada, e1]; simp only [va_up_self]; rfl
          · simp only [va_up_self] at hz; omega
          · simp only [va_up_self] at hz; omega
          · simp only [va_up_self] at hq; simp [xCl] at hq
        · cases hx
          refine va_newaK hexec hb (hts _ hw) rfl hd rfl hn rfl (by show n.toNatClampNeg * 8 ≤ _; omega) hcells hslots rfl fun H1 cA e1 z oq _ hNm => ?_
          have hcA : cA = dA 101 := Option.some.inj (hNm.symm.trans (hK.2 1 _ rfl).2)
          subst hcA
          have := kk H1 (hH.push hpl hdead rfl ⟨(fun z => by cases z), (fun z => by cases z)⟩ rfl (fun b hb => ⟨rfl, va_up_ne _ _ hb, rfl⟩) hbH z oq ⟨fun hz => ?_, fun _ => ?_, fun hz => ?_, fun q h0 hq => ?_⟩) (xS_push hS0 z oq)
          · rw [← hada]; exact this
          · simp only [va_up_self] at hz; omega
          · rw [hada, e1]; simp only [va_up_self]; rfl
          · simp only [va_up_self] at hz; omega
          · simp only [va_up_self] at hq; simp [xCl] at hq
        · cases hx
          refine va_newaK hexec hb (hts _ hw) rfl hd rfl hn rfl (by show n.toNatClampNeg * 1 ≤ _; omega) hcells hslots rfl fun H1 cA e1 z oq _ hNm => ?_
          have hcA : cA = dA 102 := Option.some.inj (hNm.symm.trans (hK.2 2 _ rfl).2)
          subst hcA
          have := kk H1 (hH.push hpl hdead rfl ⟨(fun z => by cases z), (fun z => by cases z)⟩ rfl (fun b hb => ⟨va_up_ne _ _ hb, rfl, rfl⟩) hbH z oq ⟨fun hz => ?_, fun hz => ?_, fun _ => ?_, fun q h0 hq => ?_⟩) (xS_push hS0 z oq)
          · rw [← hada]; exact this
          · simp only [va_up_self] at hz; omega
          · simp only [va_up_self] at hz; omega
          · rw [hada, e1]; simp only [va_up_self]; rfl
          · simp only [va_up_self] at hq; simp [xCl] at hq
        · cases hx
      · cases hx
    · cases hx
  · split at hx
    · rename_i a pl hpl
      have hada : ad a = H.size := by have := hH.2.2.2 0 a (by rw [hpl]; rfl); omega
      split at hx
      · rename_i hc
        obtain ⟨hdead, hr0, hr1⟩ := hc
        split at hx
        · rename_i q hq
          cases hx
          obtain ⟨hin, ⟨hins, hini⟩, hnm, ty, hty, hok⟩ := xknow _ q hq
          have hKn := hK.1 _ q hq
          refine W.newcK hexec hb hown (hts _ (hw q hq)) (hts _ hins) (hts _ hini) rfl hd hcells hslots hKn.2.1 rfl fun H1 kC hkC e1 z oq => ?_
          have := kk H1 (hH.push hpl hdead rfl ⟨hr0, by show r1 ≠ 103; omega⟩ rfl (fun b hb => ⟨va_up_ne _ _ hb, va_up_ne _ _ hb, va_up_ne _ _ hb⟩) hbH z oq ⟨fun hz => ?_, fun hz => ?_, fun hz => ?_, fun q2 h0 hq2 => ?_⟩) (xS_push hS0 z oq)
          · rw [← hada]; exact this
          · simp only [va_up_self] at hz; omega
          · simp only [va_up_self] at hz; omega
          · simp only [va_up_self] at hz; omega
          · simp only [va_up_self] at hq2 ⊢
            cases hq.symm.trans hq2
            rw [hada]
            refine (u_born ty hts hin hKn hkC e1 hty).to (fun k hk => ?_)
            rw [xdef_ok (hok k hk)]
            unfold xv
            simp only [va_up_self]
            rw [show r1 - 1 + 1 = r1 by omega]
            split
            · rfl
            · split <;> rfl
        · cases hx
      · cases hx
    · cases hx
  · cases hx
end XAL
end
section
/-! THE METHODS, as rows of the light machine -/
def kX0_init : List (Nat × xI) := [(0, .aload_n 0, 1, 0, 0), (1, .invokespecial 1, 3, 1003, 1), (4, .aload_n 0, 1, 0, 0), (5, .bipush 12, 2, 0, 0), (7, .newarray .int, 2, 0, 0), (9, .putfield 9, 3, 1, 1), (12, .aload_n 0, 1, 0, 0), (13, .bipush 12, 2, 0, 0), (15, .newarray .int, 2, 0, 0), (17, .putfield 13, 3, 1, 3), (20, .aload_n 0, 1, 0, 0), (21, .bipush 14, 2, 0, 0), (23, .newarray .long, 2, 0, 0), (25, .putfield 16, 3, 1, 5), (28, .aload_n 0, 1, 0, 0), (29, .bipush 14, 2, 0, 0), (31, .newarray .int, 2, 0, 0), (33, .putfield 20, 3, 1, 6), (36, .aload_n 0, 1, 0, 0), (37, .bipush 14, 2, 0, 0), (39, .newarray .int, 2, 0, 0), (41, .putfield 23, 3, 1, 7), (44, .aload_n 0, 1, 0, 0), (45, .sipush 256, 3, 0, 0), (48, .newarray .int, 2, 0, 0), (50, .putfield 26, 3, 1, 8), (53, .aload_n 0, 1, 0, 0), (54, .aload_n 1, 1, 0, 0), (55, .putfield 29, 3, 1, 0), (58, .return_, 1, 0, 0)]
def kX0_forget : List (Nat × xI) := [(0, .aload_n 0, 1, 0, 0), (1, .iconst 0, 1, 0, 0), (2, .putfield 33, 3, 1, 2), (5, .aload_n 0, 1, 0, 0), (6, .iconst 0, 1, 0, 0), (7, .putfield 37, 3, 1, 4), (10, .return_, 1, 0, 0)]
def kX0_addCut_0 : List (Nat × xI) := [(0, .iload_n 1, 1, 0, 0), (1, .iconst 1, 1, 0, 0), (2, .if_icmp .lt 23, 3, 25, 0), (5, .iload_n 1, 1, 0, 0), (6, .aload_n 0, 1, 0, 0), (7, .getfield 29, 3, 1, 0), (10, .getfield 40, 3, 8, 3), (13, .if_icmp .ge 12, 3, 25, 0), (16, .aload_n 0, 1, 0, 0), (17, .getfield 33, 3, 1, 2), (20, .bipush 12, 2, 0, 0), (22, .if_icmp .lt 5, 3, 27, 0), (25, .iconst 0, 1, 0, 0), (26, .ireturn, 1, 0, 0), (27, .iconst 0, 1, 0, 0), (28, .istore_n 2, 1, 0, 0), (29, .iload_n 2, 1, 0, 0), (30, .aload_n 0, 1, 0, 0), (31, .getfield 33, 3, 1, 2), (34, .if_icmp .ge 19, 3, 53, 0), (37, .aload_n 0, 1, 0, 0), (38, .getfield 9, 3, 1, 1), (41, .iload_n 2, 1, 0, 0), (42, .iaload, 1, 0, 0), (43, .iload_n 1, 1, 0, 0), (44, .if_icmp .ge 9, 3, 53, 0), (47, .iinc 2 1, 3, 0, 0), (50, .goto (-21), 3, 29, 0), (53, .iload_n 2, 1, 0, 0), (54, .aload_n 0, 1, 0, 0), (55, .getfield 33, 3, 1, 2), (58, .if_icmp .ge 15, 3, 73, 0), (61, .aload_n 0, 1, 0, 0), (62, .getfield 9, 3, 1, 1), (65, .iload_n 2, 1, 0, 0), (66, .iaload, 1, 0, 0), (67, .iload_n 1, 1, 0, 0), (68, .if_icmp .ne 5, 3, 73, 0), (71, .iconst 0, 1, 0, 0), (72, .ireturn, 1, 0, 0), (73, .aload_n 0, 1, 0, 0), (74, .getfield 33, 3, 1, 2), (77, .istore_n 3, 1, 0, 0), (78, .iload_n 3, 1, 0, 0), (79, .iload_n 2, 1, 0, 0), (80, .if_icmp .le 23, 3, 103, 0), (83, .aload_n 0, 1, 0, 0), (84, .getfield 9, 3, 1, 1), (87, .iload_n 3, 1, 0, 0), (88, .aload_n 0, 1, 0, 0), (89, .getfield 9, 3, 1, 1), (92, .iload_n 3, 1, 0, 0), (93, .iconst 1, 1, 0, 0), (94, .isub, 1, 0, 0), (95, .iaload, 1, 0, 0), (96, .iastore, 1, 0, 0), (97, .iinc 3 (-1), 3, 0, 0), (100, .goto (-22), 3, 78, 0), (103, .aload_n 0, 1, 0, 0), (104, .getfield 9, 3, 1, 1)]
def kX0_addCut_1 : List (Nat × xI) := [(107, .iload_n 2, 1, 0, 0), (108, .iload_n 1, 1, 0, 0), (109, .iastore, 1, 0, 0), (110, .aload_n 0, 1, 0, 0), (111, .dup, 1, 0, 0), (112, .getfield 33, 3, 1, 2), (115, .iconst 1, 1, 0, 0), (116, .iadd, 1, 0, 0), (117, .putfield 33, 3, 1, 2), (120, .iconst 1, 1, 0, 0), (121, .ireturn, 1, 0, 0)]
def kX0_addCut : List (Nat × xI) := kX0_addCut_0 ++ (kX0_addCut_1)
def kX0_divide_0 : List (Nat × xI) := [(0, .aload_n 0, 1, 0, 0), (1, .getfield 33, 3, 1, 2), (4, .iconst 1, 1, 0, 0), (5, .iadd, 1, 0, 0), (6, .istore_n 2, 1, 0, 0), (7, .aload_n 0, 1, 0, 0), (8, .getfield 16, 3, 1, 5), (11, .iload_n 2, 1, 0, 0), (12, .lconst 0, 1, 0, 0), (13, .lastore, 1, 0, 0), (14, .aload_n 0, 1, 0, 0), (15, .getfield 20, 3, 1, 6), (18, .iload_n 2, 1, 0, 0), (19, .iconst 0, 1, 0, 0), (20, .iastore, 1, 0, 0), (21, .aload_n 0, 1, 0, 0), (22, .getfield 33, 3, 1, 2), (25, .istore_n 3, 1, 0, 0), (26, .iload_n 3, 1, 0, 0), (27, .ifCond .lt 15, 3, 42, 0), (30, .aload_n 0, 1, 0, 0), (31, .iload_n 3, 1, 0, 0), (32, .iload_n 1, 1, 0, 0), (33, .invokevirtual 45, 3, 4, 3), (36, .iinc 3 (-1), 3, 0, 0), (39, .goto (-13), 3, 26, 0), (42, .aload_n 0, 1, 0, 0), (43, .iconst 0, 1, 0, 0), (44, .putfield 37, 3, 1, 4), (47, .aload_n 0, 1, 0, 0), (48, .getfield 23, 3, 1, 7), (51, .iconst 0, 1, 0, 0), (52, .iaload, 1, 0, 0), (53, .istore_n 3, 1, 0, 0), (54, .iload_n 3, 1, 0, 0), (55, .iload_n 2, 1, 0, 0), (56, .if_icmp .ge 46, 3, 102, 0), (59, .aload_n 0, 1, 0, 0), (60, .getfield 37, 3, 1, 4), (63, .bipush 12, 2, 0, 0), (65, .if_icmp .ge 37, 3, 102, 0), (68, .aload_n 0, 1, 0, 0), (69, .getfield 13, 3, 1, 3), (72, .aload_n 0, 1, 0, 0), (73, .getfield 37, 3, 1, 4), (76, .aload_n 0, 1, 0, 0), (77, .iload_n 3, 1, 0, 0), (78, .invokevirtual 49, 3, 6, 2), (81, .iastore, 1, 0, 0), (82, .aload_n 0, 1, 0, 0), (83, .dup, 1, 0, 0), (84, .getfield 37, 3, 1, 4), (87, .iconst 1, 1, 0, 0), (88, .iadd, 1, 0, 0), (89, .putfield 37, 3, 1, 4), (92, .aload_n 0, 1, 0, 0), (93, .getfield 23, 3, 1, 7), (96, .iload_n 3, 1, 0, 0), (97, .iaload, 1, 0, 0), (98, .istore_n 3, 1, 0, 0)]
def kX0_divide_1 : List (Nat × xI) := [(99, .goto (-45), 3, 54, 0), (102, .aload_n 0, 1, 0, 0), (103, .getfield 16, 3, 1, 5), (106, .iconst 0, 1, 0, 0), (107, .laload, 1, 0, 0), (108, .lreturn, 1, 0, 0)]
def kX0_divide : List (Nat × xI) := kX0_divide_0 ++ (kX0_divide_1)
def kX0_findRest_0 : List (Nat × xI) := [(0, .aload_n 0, 1, 0, 0), (1, .getfield 26, 3, 1, 8), (4, .iconst 0, 1, 0, 0), (5, .invokestatic 53, 3, 166, 2), (8, .aload_n 0, 1, 0, 0), (9, .iload_n 1, 1, 0, 0), (10, .invokevirtual 49, 3, 6, 2), (13, .istore_n 3, 1, 0, 0), (14, .iload_n 3, 1, 0, 0), (15, .istore 4, 2, 0, 0), (17, .iconst 0, 1, 0, 0), (18, .istore 5, 2, 0, 0), (20, .iload_n 1, 1, 0, 0), (21, .iconst 1, 1, 0, 0), (22, .iadd, 1, 0, 0), (23, .istore 6, 2, 0, 0), (25, .iload 6, 2, 0, 0), (27, .aload_n 0, 1, 0, 0), (28, .getfield 33, 3, 1, 2), (31, .iconst 1, 1, 0, 0), (32, .iadd, 1, 0, 0), (33, .if_icmp .gt 157, 3, 190, 0), (36, .aload_n 0, 1, 0, 0), (37, .iload 6, 2, 0, 0), (39, .invokevirtual 49, 3, 6, 2), (42, .istore 7, 2, 0, 0), (44, .iload 4, 2, 0, 0), (46, .iload 7, 2, 0, 0), (48, .if_icmp .ge 28, 3, 76, 0), (51, .iload 5, 2, 0, 0), (53, .aload_n 0, 1, 0, 0), (54, .aload_n 0, 1, 0, 0), (55, .getfield 29, 3, 1, 0), (58, .getfield 59, 3, 8, 2), (61, .iload 4, 2, 0, 0), (63, .iaload, 1, 0, 0), (64, .invokevirtual 62, 3, 5, 2), (67, .iadd, 1, 0, 0), (68, .istore 5, 2, 0, 0), (70, .iinc 4 1, 3, 0, 0), (73, .goto (-29), 3, 44, 0), (76, .iload 7, 2, 0, 0), (78, .iload_n 3, 1, 0, 0), (79, .isub, 1, 0, 0), (80, .istore 8, 2, 0, 0), (82, .iload_n 2, 1, 0, 0), (83, .iload 8, 2, 0, 0), (85, .iload 8, 2, 0, 0), (87, .invokestatic 65, 3, 94, 1), (90, .imul, 1, 0, 0), (91, .iadd, 1, 0, 0), (92, .iload 5, 2, 0, 0), (94, .isub, 1, 0, 0), (95, .i2l, 1, 0, 0), (96, .aload_n 0, 1, 0, 0), (97, .getfield 16, 3, 1, 5), (100, .iload 6, 2, 0, 0), (102, .laload, 1, 0, 0), (103, .ladd, 1, 0, 0), (104, .lstore 9, 2, 0, 0)]
def kX0_findRest_1 : List (Nat × xI) := [(106, .iconst 1, 1, 0, 0), (107, .aload_n 0, 1, 0, 0), (108, .getfield 20, 3, 1, 6), (111, .iload 6, 2, 0, 0), (113, .iaload, 1, 0, 0), (114, .iadd, 1, 0, 0), (115, .istore 11, 2, 0, 0), (117, .iload 6, 2, 0, 0), (119, .iload_n 1, 1, 0, 0), (120, .iconst 1, 1, 0, 0), (121, .iadd, 1, 0, 0), (122, .if_icmp .eq 38, 3, 160, 0), (125, .lload 9, 2, 0, 0), (127, .aload_n 0, 1, 0, 0), (128, .getfield 16, 3, 1, 5), (131, .iload_n 1, 1, 0, 0), (132, .laload, 1, 0, 0), (133, .lcmp, 1, 0, 0), (134, .ifCond .lt 26, 3, 160, 0), (137, .lload 9, 2, 0, 0), (139, .aload_n 0, 1, 0, 0), (140, .getfield 16, 3, 1, 5), (143, .iload_n 1, 1, 0, 0), (144, .laload, 1, 0, 0), (145, .lcmp, 1, 0, 0), (146, .ifCond .ne 38, 3, 184, 0), (149, .iload 11, 2, 0, 0), (151, .aload_n 0, 1, 0, 0), (152, .getfield 20, 3, 1, 6), (155, .iload_n 1, 1, 0, 0), (156, .iaload, 1, 0, 0), (157, .if_icmp .ge 27, 3, 184, 0), (160, .aload_n 0, 1, 0, 0), (161, .getfield 16, 3, 1, 5), (164, .iload_n 1, 1, 0, 0), (165, .lload 9, 2, 0, 0), (167, .lastore, 1, 0, 0), (168, .aload_n 0, 1, 0, 0), (169, .getfield 20, 3, 1, 6), (172, .iload_n 1, 1, 0, 0), (173, .iload 11, 2, 0, 0), (175, .iastore, 1, 0, 0), (176, .aload_n 0, 1, 0, 0), (177, .getfield 23, 3, 1, 7), (180, .iload_n 1, 1, 0, 0), (181, .iload 6, 2, 0, 0), (183, .iastore, 1, 0, 0), (184, .iinc 6 1, 3, 0, 0), (187, .goto (-162), 3, 25, 0), (190, .return_, 1, 0, 0)]
def kX0_findRest : List (Nat × xI) := kX0_findRest_0 ++ (kX0_findRest_1)
def kX0_countOctet : List (Nat × xI) := [(0, .aload_n 0, 1, 0, 0), (1, .getfield 26, 3, 1, 8), (4, .iload_n 1, 1, 0, 0), (5, .iaload, 1, 0, 0), (6, .istore_n 2, 1, 0, 0), (7, .aload_n 0, 1, 0, 0), (8, .getfield 26, 3, 1, 8), (11, .iload_n 1, 1, 0, 0), (12, .iload_n 2, 1, 0, 0), (13, .iconst 1, 1, 0, 0), (14, .iadd, 1, 0, 0), (15, .iastore, 1, 0, 0), (16, .iload_n 2, 1, 0, 0), (17, .iconst 1, 1, 0, 0), (18, .iadd, 1, 0, 0), (19, .iload_n 2, 1, 0, 0), (20, .iconst 1, 1, 0, 0), (21, .iadd, 1, 0, 0), (22, .invokestatic 65, 3, 94, 1), (25, .imul, 1, 0, 0), (26, .iload_n 2, 1, 0, 0), (27, .iload_n 2, 1, 0, 0), (28, .invokestatic 65, 3, 94, 1), (31, .imul, 1, 0, 0), (32, .isub, 1, 0, 0), (33, .ireturn, 1, 0, 0)]
def kX0_placeOf : List (Nat × xI) := [(0, .iload_n 1, 1, 0, 0), (1, .ifCond .gt 5, 3, 6, 0), (4, .iconst 0, 1, 0, 0), (5, .ireturn, 1, 0, 0), (6, .iload_n 1, 1, 0, 0), (7, .aload_n 0, 1, 0, 0), (8, .getfield 33, 3, 1, 2), (11, .if_icmp .gt 14, 3, 25, 0), (14, .aload_n 0, 1, 0, 0), (15, .getfield 9, 3, 1, 1), (18, .iload_n 1, 1, 0, 0), (19, .iconst 1, 1, 0, 0), (20, .isub, 1, 0, 0), (21, .iaload, 1, 0, 0), (22, .goto 10, 3, 32, 0), (25, .aload_n 0, 1, 0, 0), (26, .getfield 29, 3, 1, 0), (29, .getfield 40, 3, 8, 3), (32, .ireturn, 1, 0, 0)]
def kX1_init : List (Nat × xI) := [(0, .aload_n 0, 1, 0, 0), (1, .invokespecial 3, 3, 1003, 1), (4, .aload_n 0, 1, 0, 0), (5, .sipush 315, 3, 0, 0), (8, .newarray .int, 2, 0, 0), (10, .putfield 11, 3, 2, 1), (13, .aload_n 0, 1, 0, 0), (14, .sipush 315, 3, 0, 0), (17, .newarray .int, 2, 0, 0), (19, .putfield 15, 3, 2, 2), (22, .aload_n 0, 1, 0, 0), (23, .sipush 301, 3, 0, 0), (26, .newarray .int, 2, 0, 0), (28, .putfield 18, 3, 2, 3), (31, .aload_n 0, 1, 0, 0), (32, .sipush 300, 3, 0, 0), (35, .newarray .int, 2, 0, 0), (37, .putfield 21, 3, 2, 4), (40, .aload_n 0, 1, 0, 0), (41, .iload_n 1, 1, 0, 0), (42, .iconst 1, 1, 0, 0), (43, .if_icmp .ne 7, 3, 50, 0), (46, .iconst 0, 1, 0, 0), (47, .goto 12, 3, 59, 0), (50, .iload_n 1, 1, 0, 0), (51, .ifCond .ne 7, 3, 58, 0), (54, .iconst 3, 1, 0, 0), (55, .goto 4, 3, 59, 0), (58, .iconst 4, 1, 0, 0), (59, .putfield 24, 3, 2, 0), (62, .aload_n 0, 1, 0, 0), (63, .invokevirtual 28, 3, 8, 1), (66, .return_, 1, 0, 0)]
def kX1_reset : List (Nat × xI) := [(0, .iconst 0, 1, 0, 0), (1, .istore_n 1, 1, 0, 0), (2, .iload_n 1, 1, 0, 0), (3, .iconst 4, 1, 0, 0), (4, .if_icmp .ge 37, 3, 41, 0), (7, .aload_n 0, 1, 0, 0), (8, .getfield 11, 3, 2, 1), (11, .getstatic 31, 3, 2, 0), (14, .iload_n 1, 1, 0, 0), (15, .iaload, 1, 0, 0), (16, .getstatic 31, 3, 2, 0), (19, .iload_n 1, 1, 0, 0), (20, .iaload, 1, 0, 0), (21, .getstatic 34, 3, 1, 0), (24, .iload_n 1, 1, 0, 0), (25, .iaload, 1, 0, 0), (26, .iadd, 1, 0, 0), (27, .getstatic 37, 3, 3, 0), (30, .iload_n 1, 1, 0, 0), (31, .iaload, 1, 0, 0), (32, .invokestatic 40, 3, 167, 4), (35, .iinc 1 1, 3, 0, 0), (38, .goto (-36), 3, 2, 0), (41, .return_, 1, 0, 0)]
def kX1_has : List (Nat × xI) := [(0, .iload_n 1, 1, 0, 0), (1, .ifCond .lt 28, 3, 29, 0), (4, .iload_n 1, 1, 0, 0), (5, .aload_n 0, 1, 0, 0), (6, .getfield 24, 3, 2, 0), (9, .if_icmp .ge 20, 3, 29, 0), (12, .iload_n 2, 1, 0, 0), (13, .ifCond .lt 16, 3, 29, 0), (16, .iload_n 2, 1, 0, 0), (17, .getstatic 34, 3, 1, 0), (20, .iload_n 1, 1, 0, 0), (21, .iaload, 1, 0, 0), (22, .if_icmp .ge 7, 3, 29, 0), (25, .iconst 1, 1, 0, 0), (26, .goto 4, 3, 30, 0), (29, .iconst 0, 1, 0, 0), (30, .ireturn, 1, 0, 0)]
def kX1_of : List (Nat × xI) := [(0, .aload_n 0, 1, 0, 0), (1, .iload_n 1, 1, 0, 0), (2, .iload_n 2, 1, 0, 0), (3, .invokevirtual 46, 3, 9, 3), (6, .ifCond .eq 18, 3, 24, 0), (9, .aload_n 0, 1, 0, 0), (10, .getfield 11, 3, 2, 1), (13, .getstatic 31, 3, 2, 0), (16, .iload_n 1, 1, 0, 0), (17, .iaload, 1, 0, 0), (18, .iload_n 2, 1, 0, 0), (19, .iadd, 1, 0, 0), (20, .iaload, 1, 0, 0), (21, .goto 4, 3, 25, 0), (24, .iconst 0, 1, 0, 0), (25, .ireturn, 1, 0, 0)]
def kX1_put : List (Nat × xI) := [(0, .aload_n 0, 1, 0, 0), (1, .iload_n 1, 1, 0, 0), (2, .iload_n 2, 1, 0, 0), (3, .invokevirtual 46, 3, 9, 3), (6, .ifCond .eq 16, 3, 22, 0), (9, .aload_n 0, 1, 0, 0), (10, .getfield 11, 3, 2, 1), (13, .getstatic 31, 3, 2, 0), (16, .iload_n 1, 1, 0, 0), (17, .iaload, 1, 0, 0), (18, .iload_n 2, 1, 0, 0), (19, .iadd, 1, 0, 0), (20, .iload_n 3, 1, 0, 0), (21, .iastore, 1, 0, 0), (22, .return_, 1, 0, 0)]
def kX1_copyFrom : List (Nat × xI) := [(0, .aload_n 1, 1, 0, 0), (1, .getfield 11, 3, 2, 1), (4, .iconst 0, 1, 0, 0), (5, .aload_n 0, 1, 0, 0), (6, .getfield 11, 3, 2, 1), (9, .iconst 0, 1, 0, 0), (10, .sipush 315, 3, 0, 0), (13, .invokestatic 50, 3, 1002, 5), (16, .return_, 1, 0, 0)]
def kX1_prepare : List (Nat × xI) := [(0, .aload_n 1, 1, 0, 0), (1, .getfield 56, 3, 8, 0), (4, .istore_n 2, 1, 0, 0), (5, .iload_n 2, 1, 0, 0), (6, .aload_n 1, 1, 0, 0), (7, .getfield 61, 3, 8, 3), (10, .if_icmp .gt 25, 3, 35, 0), (13, .aload_n 0, 1, 0, 0), (14, .getfield 18, 3, 2, 3), (17, .iload_n 2, 1, 0, 0), (18, .aload_n 0, 1, 0, 0), (19, .iload_n 2, 1, 0, 0), (20, .aload_n 1, 1, 0, 0), (21, .getfield 56, 3, 8, 0), (24, .isub, 1, 0, 0), (25, .invokevirtual 64, 3, 17, 2), (28, .iastore, 1, 0, 0), (29, .iinc 2 1, 3, 0, 0), (32, .goto (-27), 3, 5, 0), (35, .iconst 1, 1, 0, 0), (36, .istore_n 2, 1, 0, 0), (37, .iload_n 2, 1, 0, 0), (38, .aload_n 1, 1, 0, 0), (39, .getfield 61, 3, 8, 3), (42, .if_icmp .ge 22, 3, 64, 0), (45, .aload_n 0, 1, 0, 0), (46, .getfield 21, 3, 2, 4), (49, .iload_n 2, 1, 0, 0), (50, .aload_n 0, 1, 0, 0), (51, .iload_n 2, 1, 0, 0), (52, .iconst 1, 1, 0, 0), (53, .isub, 1, 0, 0), (54, .invokevirtual 68, 3, 18, 2), (57, .iastore, 1, 0, 0), (58, .iinc 2 1, 3, 0, 0), (61, .goto (-24), 3, 37, 0), (64, .return_, 1, 0, 0)]
def kX1_literalCost : List (Nat × xI) := [(0, .aload_n 0, 1, 0, 0), (1, .iconst 0, 1, 0, 0), (2, .iload_n 1, 1, 0, 0), (3, .invokevirtual 71, 3, 10, 3), (6, .aload_n 0, 1, 0, 0), (7, .iconst 3, 1, 0, 0), (8, .iconst 0, 1, 0, 0), (9, .invokevirtual 71, 3, 10, 3), (12, .iadd, 1, 0, 0), (13, .ireturn, 1, 0, 0)]
def kX1_kindCost : List (Nat × xI) := [(0, .aload_n 0, 1, 0, 0), (1, .iconst 3, 1, 0, 0), (2, .iload_n 1, 1, 0, 0), (3, .invokevirtual 71, 3, 10, 3), (6, .ireturn, 1, 0, 0)]
def kX1_stepCost : List (Nat × xI) := [(0, .aload_n 1, 1, 0, 0), (1, .iload_n 2, 1, 0, 0), (2, .invokevirtual 75, 3, 50, 2), (5, .ifCond .ne 5, 3, 10, 0), (8, .iconst 0, 1, 0, 0), (9, .ireturn, 1, 0, 0), (10, .aload_n 1, 1, 0, 0), (11, .getfield 81, 3, 5, 3), (14, .iload_n 2, 1, 0, 0), (15, .iaload, 1, 0, 0), (16, .istore 4, 2, 0, 0), (18, .iload 4, 2, 0, 0), (20, .ifCond .ne 19, 3, 39, 0), (23, .aload_n 0, 1, 0, 0), (24, .aload_n 3, 1, 0, 0), (25, .getfield 84, 3, 8, 2), (28, .aload_n 1, 1, 0, 0), (29, .getfield 87, 3, 5, 0), (32, .iload_n 2, 1, 0, 0), (33, .iaload, 1, 0, 0), (34, .iaload, 1, 0, 0), (35, .invokevirtual 90, 3, 14, 2), (38, .ireturn, 1, 0, 0), (39, .iload 4, 2, 0, 0), (41, .bipush 6, 2, 0, 0), (43, .if_icmp .ne 10, 3, 53, 0), (46, .aload_n 0, 1, 0, 0), (47, .bipush 6, 2, 0, 0), (49, .invokevirtual 93, 3, 15, 2), (52, .ireturn, 1, 0, 0), (53, .aload_n 0, 1, 0, 0), (54, .iload 4, 2, 0, 0), (56, .invokevirtual 93, 3, 15, 2), (59, .aload_n 0, 1, 0, 0), (60, .aload_n 1, 1, 0, 0), (61, .getfield 96, 3, 5, 1), (64, .iload_n 2, 1, 0, 0), (65, .iaload, 1, 0, 0), (66, .aload_n 3, 1, 0, 0), (67, .getfield 56, 3, 8, 0), (70, .isub, 1, 0, 0), (71, .invokevirtual 64, 3, 17, 2), (74, .iadd, 1, 0, 0), (75, .istore 5, 2, 0, 0), (77, .iload 4, 2, 0, 0), (79, .iconst 1, 1, 0, 0), (80, .if_icmp .ne 21, 3, 101, 0), (83, .iload 5, 2, 0, 0), (85, .aload_n 0, 1, 0, 0), (86, .aload_n 1, 1, 0, 0), (87, .getfield 99, 3, 5, 2), (90, .iload_n 2, 1, 0, 0), (91, .iaload, 1, 0, 0), (92, .iconst 1, 1, 0, 0), (93, .isub, 1, 0, 0), (94, .invokevirtual 68, 3, 18, 2), (97, .iadd, 1, 0, 0), (98, .goto 5, 3, 103, 0), (101, .iload 5, 2, 0, 0), (103, .ireturn, 1, 0, 0)]
def kX1_lengthCost : List (Nat × xI) := [(0, .aload_n 0, 1, 0, 0), (1, .iconst 1, 1, 0, 0), (2, .iload_n 1, 1, 0, 0), (3, .invokestatic 102, 3, 19, 1), (6, .invokevirtual 71, 3, 10, 3), (9, .bipush 64, 2, 0, 0), (11, .iload_n 1, 1, 0, 0), (12, .bipush 8, 2, 0, 0), (14, .if_icmp .ge 7, 3, 21, 0), (17, .iconst 0, 1, 0, 0), (18, .goto 9, 3, 27, 0), (21, .iload_n 1, 1, 0, 0), (22, .invokestatic 105, 3, 95, 1), (25, .iconst 2, 1, 0, 0), (26, .isub, 1, 0, 0), (27, .imul, 1, 0, 0), (28, .iadd, 1, 0, 0), (29, .ireturn, 1, 0, 0)]
def kX1_distanceCost : List (Nat × xI) := [(0, .aload_n 0, 1, 0, 0), (1, .iconst 2, 1, 0, 0), (2, .iload_n 1, 1, 0, 0), (3, .invokestatic 108, 3, 20, 1), (6, .invokevirtual 71, 3, 10, 3), (9, .bipush 64, 2, 0, 0), (11, .iload_n 1, 1, 0, 0), (12, .iconst 4, 1, 0, 0), (13, .if_icmp .ge 7, 3, 20, 0), (16, .iconst 0, 1, 0, 0), (17, .goto 9, 3, 26, 0), (20, .iload_n 1, 1, 0, 0), (21, .invokestatic 105, 3, 95, 1), (24, .iconst 1, 1, 0, 0), (25, .isub, 1, 0, 0), (26, .imul, 1, 0, 0), (27, .iadd, 1, 0, 0), (28, .ireturn, 1, 0, 0)]
def kX1_lengthSlot : List (Nat × xI) := [(0, .iload_n 0, 1, 0, 0), (1, .bipush 8, 2, 0, 0), (3, .if_icmp .ge 5, 3, 8, 0), (6, .iload_n 0, 1, 0, 0), (7, .ireturn, 1, 0, 0), (8, .iload_n 0, 1, 0, 0), (9, .invokestatic 105, 3, 95, 1), (12, .istore_n 1, 1, 0, 0), (13, .iconst 4, 1, 0, 0), (14, .iload_n 1, 1, 0, 0), (15, .iconst 1, 1, 0, 0), (16, .isub, 1, 0, 0), (17, .imul, 1, 0, 0), (18, .iload_n 0, 1, 0, 0), (19, .iload_n 1, 1, 0, 0), (20, .iconst 2, 1, 0, 0), (21, .isub, 1, 0, 0), (22, .ishr, 1, 0, 0), (23, .iconst 3, 1, 0, 0), (24, .iand, 1, 0, 0), (25, .iadd, 1, 0, 0), (26, .ireturn, 1, 0, 0)]
def kX1_distanceSlot : List (Nat × xI) := [(0, .iload_n 0, 1, 0, 0), (1, .iconst 4, 1, 0, 0), (2, .if_icmp .ge 5, 3, 7, 0), (5, .iload_n 0, 1, 0, 0), (6, .ireturn, 1, 0, 0), (7, .iload_n 0, 1, 0, 0), (8, .invokestatic 105, 3, 95, 1), (11, .istore_n 1, 1, 0, 0), (12, .iconst 2, 1, 0, 0), (13, .iload_n 1, 1, 0, 0), (14, .imul, 1, 0, 0), (15, .iload_n 0, 1, 0, 0), (16, .iload_n 1, 1, 0, 0), (17, .iconst 1, 1, 0, 0), (18, .isub, 1, 0, 0), (19, .ishr, 1, 0, 0), (20, .iconst 1, 1, 0, 0), (21, .iand, 1, 0, 0), (22, .iadd, 1, 0, 0), (23, .ireturn, 1, 0, 0)]
def kX1_fitTo : List (Nat × xI) := [(0, .aload_n 0, 1, 0, 0), (1, .aload_n 1, 1, 0, 0), (2, .aload_n 2, 1, 0, 0), (3, .invokevirtual 111, 3, 22, 3), (6, .iconst 0, 1, 0, 0), (7, .istore_n 3, 1, 0, 0), (8, .iload_n 3, 1, 0, 0), (9, .aload_n 0, 1, 0, 0), (10, .getfield 24, 3, 2, 0), (13, .if_icmp .ge 14, 3, 27, 0), (16, .aload_n 0, 1, 0, 0), (17, .iload_n 3, 1, 0, 0), (18, .invokevirtual 115, 3, 24, 2), (21, .iinc 3 1, 3, 0, 0), (24, .goto (-16), 3, 8, 0), (27, .return_, 1, 0, 0)]
def kX1_countSymbols_0 : List (Nat × xI) := [(0, .aload_n 0, 1, 0, 0), (1, .getfield 15, 3, 2, 2), (4, .iconst 0, 1, 0, 0), (5, .invokestatic 119, 3, 166, 2), (8, .iconst 0, 1, 0, 0), (9, .istore_n 3, 1, 0, 0), (10, .iload_n 3, 1, 0, 0), (11, .aload_n 1, 1, 0, 0), (12, .getfield 122, 3, 5, 5), (15, .if_icmp .ge 96, 3, 111, 0), (18, .aload_n 1, 1, 0, 0), (19, .getfield 81, 3, 5, 3), (22, .iload_n 3, 1, 0, 0), (23, .iaload, 1, 0, 0), (24, .istore 4, 2, 0, 0), (26, .aload_n 0, 1, 0, 0), (27, .iconst 3, 1, 0, 0), (28, .iload 4, 2, 0, 0), (30, .invokevirtual 125, 3, 23, 3), (33, .iload 4, 2, 0, 0), (35, .ifCond .ne 22, 3, 57, 0), (38, .aload_n 0, 1, 0, 0), (39, .iconst 0, 1, 0, 0), (40, .aload_n 2, 1, 0, 0), (41, .getfield 84, 3, 8, 2), (44, .aload_n 1, 1, 0, 0), (45, .getfield 87, 3, 5, 0), (48, .iload_n 3, 1, 0, 0), (49, .iaload, 1, 0, 0), (50, .iaload, 1, 0, 0), (51, .invokevirtual 125, 3, 23, 3), (54, .goto 29, 3, 83, 0), (57, .iload 4, 2, 0, 0), (59, .bipush 6, 2, 0, 0), (61, .if_icmp .eq 22, 3, 83, 0), (64, .aload_n 0, 1, 0, 0), (65, .iconst 1, 1, 0, 0), (66, .aload_n 1, 1, 0, 0), (67, .getfield 96, 3, 5, 1), (70, .iload_n 3, 1, 0, 0), (71, .iaload, 1, 0, 0), (72, .aload_n 2, 1, 0, 0), (73, .getfield 56, 3, 8, 0), (76, .isub, 1, 0, 0), (77, .invokestatic 102, 3, 19, 1), (80, .invokevirtual 125, 3, 23, 3), (83, .iload 4, 2, 0, 0), (85, .iconst 1, 1, 0, 0), (86, .if_icmp .ne 19, 3, 105, 0), (89, .aload_n 0, 1, 0, 0), (90, .iconst 2, 1, 0, 0), (91, .aload_n 1, 1, 0, 0), (92, .getfield 99, 3, 5, 2), (95, .iload_n 3, 1, 0, 0), (96, .iaload, 1, 0, 0), (97, .iconst 1, 1, 0, 0), (98, .isub, 1, 0, 0), (99, .invokestatic 108, 3, 20, 1), (102, .invokevirtual 125, 3, 23, 3), (105, .iinc 3 1, 3, 0, 0)]
def kX1_countSymbols_1 : List (Nat × xI) := [(108, .goto (-98), 3, 10, 0), (111, .return_, 1, 0, 0)]
def kX1_countSymbols : List (Nat × xI) := kX1_countSymbols_0 ++ (kX1_countSymbols_1)
def kX1_countOne : List (Nat × xI) := [(0, .aload_n 0, 1, 0, 0), (1, .iload_n 1, 1, 0, 0), (2, .iload_n 2, 1, 0, 0), (3, .invokevirtual 46, 3, 9, 3), (6, .ifCond .eq 19, 3, 25, 0), (9, .aload_n 0, 1, 0, 0), (10, .getfield 15, 3, 2, 2), (13, .getstatic 31, 3, 2, 0), (16, .iload_n 1, 1, 0, 0), (17, .iaload, 1, 0, 0), (18, .iload_n 2, 1, 0, 0), (19, .iadd, 1, 0, 0), (20, .dup2, 1, 0, 0), (21, .iaload, 1, 0, 0), (22, .iconst 1, 1, 0, 0), (23, .iadd, 1, 0, 0), (24, .iastore, 1, 0, 0), (25, .return_, 1, 0, 0)]
def kX1_fitClass : List (Nat × xI) := [(0, .getstatic 31, 3, 2, 0), (3, .iload_n 1, 1, 0, 0), (4, .iaload, 1, 0, 0), (5, .getstatic 34, 3, 1, 0), (8, .iload_n 1, 1, 0, 0), (9, .iaload, 1, 0, 0), (10, .iadd, 1, 0, 0), (11, .istore_n 2, 1, 0, 0), (12, .iconst 0, 1, 0, 0), (13, .istore_n 3, 1, 0, 0), (14, .getstatic 31, 3, 2, 0), (17, .iload_n 1, 1, 0, 0), (18, .iaload, 1, 0, 0), (19, .istore 4, 2, 0, 0), (21, .iload 4, 2, 0, 0), (23, .iload_n 2, 1, 0, 0), (24, .if_icmp .ge 19, 3, 43, 0), (27, .iload_n 3, 1, 0, 0), (28, .aload_n 0, 1, 0, 0), (29, .getfield 15, 3, 2, 2), (32, .iload 4, 2, 0, 0), (34, .iaload, 1, 0, 0), (35, .iadd, 1, 0, 0), (36, .istore_n 3, 1, 0, 0), (37, .iinc 4 1, 3, 0, 0), (40, .goto (-19), 3, 21, 0), (43, .iload_n 3, 1, 0, 0), (44, .getstatic 34, 3, 1, 0), (47, .iload_n 1, 1, 0, 0), (48, .iaload, 1, 0, 0), (49, .iadd, 1, 0, 0), (50, .invokestatic 129, 3, 94, 1), (53, .istore 4, 2, 0, 0), (55, .getstatic 31, 3, 2, 0), (58, .iload_n 1, 1, 0, 0), (59, .iaload, 1, 0, 0), (60, .istore 5, 2, 0, 0), (62, .iload 5, 2, 0, 0), (64, .iload_n 2, 1, 0, 0), (65, .if_icmp .ge 35, 3, 100, 0), (68, .aload_n 0, 1, 0, 0), (69, .getfield 11, 3, 2, 1), (72, .iload 5, 2, 0, 0), (74, .iconst 1, 1, 0, 0), (75, .iload 4, 2, 0, 0), (77, .aload_n 0, 1, 0, 0), (78, .getfield 15, 3, 2, 2), (81, .iload 5, 2, 0, 0), (83, .iaload, 1, 0, 0), (84, .iconst 1, 1, 0, 0), (85, .iadd, 1, 0, 0), (86, .invokestatic 129, 3, 94, 1), (89, .isub, 1, 0, 0), (90, .invokestatic 132, 3, 1000, 2), (93, .iastore, 1, 0, 0), (94, .iinc 5 1, 3, 0, 0), (97, .goto (-35), 3, 62, 0), (100, .return_, 1, 0, 0)]
def kX2_init : List (Nat × xI) := [(0, .aload_n 0, 1, 0, 0), (1, .invokespecial 1, 3, 1003, 1), (4, .aload_n 0, 1, 0, 0), (5, .aload_n 1, 1, 0, 0), (6, .putfield 7, 3, 11, 0), (9, .aload_n 0, 1, 0, 0), (10, .aload_n 2, 1, 0, 0), (11, .putfield 13, 3, 11, 1), (14, .return_, 1, 0, 0)]
def kX2_costOf : List (Nat × xI) := [(0, .iconst 0, 1, 0, 0), (1, .istore_n 2, 1, 0, 0), (2, .iconst 0, 1, 0, 0), (3, .istore_n 3, 1, 0, 0), (4, .iload_n 3, 1, 0, 0), (5, .aload_n 1, 1, 0, 0), (6, .getfield 17, 3, 5, 5), (9, .if_icmp .ge 25, 3, 34, 0), (12, .iload_n 2, 1, 0, 0), (13, .aload_n 0, 1, 0, 0), (14, .getfield 13, 3, 11, 1), (17, .aload_n 1, 1, 0, 0), (18, .iload_n 3, 1, 0, 0), (19, .aload_n 0, 1, 0, 0), (20, .getfield 7, 3, 11, 0), (23, .invokevirtual 23, 3, 16, 4), (26, .iadd, 1, 0, 0), (27, .istore_n 2, 1, 0, 0), (28, .iinc 3 1, 3, 0, 0), (31, .goto (-27), 3, 4, 0), (34, .iload_n 2, 1, 0, 0), (35, .i2l, 1, 0, 0), (36, .lreturn, 1, 0, 0)]
def kX3_at : List (Nat × xI) := [(0, .lload_n 0, 1, 0, 0), (1, .bipush 9, 2, 0, 0), (3, .iconst 3, 1, 0, 0), (4, .iload_n 2, 1, 0, 0), (5, .isub, 1, 0, 0), (6, .imul, 1, 0, 0), (7, .lushr, 1, 0, 0), (8, .l2i, 1, 0, 0), (9, .sipush 511, 3, 0, 0), (12, .iand, 1, 0, 0), (13, .ireturn, 1, 0, 0)]
def kX3_behindCopy : List (Nat × xI) := [(0, .iload_n 2, 1, 0, 0), (1, .i2l, 1, 0, 0), (2, .bipush 27, 2, 0, 0), (4, .lshl, 1, 0, 0), (5, .lload_n 0, 1, 0, 0), (6, .bipush 9, 2, 0, 0), (8, .lushr, 1, 0, 0), (9, .lor, 1, 0, 0), (10, .lreturn, 1, 0, 0)]
def kX3_behindAgain : List (Nat × xI) := [(0, .bipush 9, 2, 0, 0), (2, .iconst 3, 1, 0, 0), (3, .iload_n 2, 1, 0, 0), (4, .isub, 1, 0, 0), (5, .imul, 1, 0, 0), (6, .istore_n 3, 1, 0, 0), (7, .lload_n 0, 1, 0, 0), (8, .lconst 1, 1, 0, 0), (9, .iload_n 3, 1, 0, 0), (10, .lshl, 1, 0, 0), (11, .lconst 1, 1, 0, 0), (12, .lsub, 1, 0, 0), (13, .land, 1, 0, 0), (14, .lstore 4, 2, 0, 0), (16, .lload_n 0, 1, 0, 0), (17, .iload_n 3, 1, 0, 0), (18, .bipush 9, 2, 0, 0), (20, .iadd, 1, 0, 0), (21, .lushr, 1, 0, 0), (22, .iload_n 3, 1, 0, 0), (23, .lshl, 1, 0, 0), (24, .lstore 6, 2, 0, 0), (26, .lload_n 0, 1, 0, 0), (27, .iload_n 2, 1, 0, 0), (28, .invokestatic 9, 3, 27, 2), (31, .i2l, 1, 0, 0), (32, .bipush 27, 2, 0, 0), (34, .lshl, 1, 0, 0), (35, .lload 6, 2, 0, 0), (37, .lor, 1, 0, 0), (38, .lload 4, 2, 0, 0), (40, .lor, 1, 0, 0), (41, .lreturn, 1, 0, 0)]
def kX4_init : List (Nat × xI) := [(0, .aload_n 0, 1, 0, 0), (1, .aload_n 1, 1, 0, 0), (2, .aload_n 2, 1, 0, 0), (3, .invokespecial 3, 3, 25, 3), (6, .aload_n 0, 1, 0, 0), (7, .sipush 12040, 3, 0, 0), (10, .newarray .long, 2, 0, 0), (12, .putfield 9, 3, 3, 2), (15, .aload_n 0, 1, 0, 0), (16, .sipush 12040, 3, 0, 0), (19, .newarray .int, 2, 0, 0), (21, .putfield 15, 3, 3, 3), (24, .aload_n 0, 1, 0, 0), (25, .sipush 301, 3, 0, 0), (28, .newarray .int, 2, 0, 0), (30, .putfield 19, 3, 3, 4), (33, .aload_n 0, 1, 0, 0), (34, .sipush 300, 3, 0, 0), (37, .newarray .boolean, 2, 0, 0), (39, .putfield 22, 3, 3, 5), (42, .aload_n 0, 1, 0, 0), (43, .sipush 301, 3, 0, 0), (46, .newarray .long, 2, 0, 0), (48, .putfield 26, 3, 3, 6), (51, .return_, 1, 0, 0)]
def kX4_findBest : List (Nat × xI) := [(0, .aload_n 0, 1, 0, 0), (1, .iload_n 2, 1, 0, 0), (2, .invokevirtual 29, 3, 32, 2), (5, .iconst 0, 1, 0, 0), (6, .istore_n 3, 1, 0, 0), (7, .iconst 0, 1, 0, 0), (8, .istore 4, 2, 0, 0), (10, .iload 4, 2, 0, 0), (12, .aload_n 0, 1, 0, 0), (13, .getfield 33, 3, 3, 0), (16, .getfield 37, 3, 8, 3), (19, .if_icmp .ge 51, 3, 70, 0), (22, .iconst 0, 1, 0, 0), (23, .istore 5, 2, 0, 0), (25, .iload 5, 2, 0, 0), (27, .aload_n 0, 1, 0, 0), (28, .getfield 19, 3, 3, 4), (31, .iload 4, 2, 0, 0), (33, .iaload, 1, 0, 0), (34, .if_icmp .ge 17, 3, 51, 0), (37, .aload_n 0, 1, 0, 0), (38, .iload 4, 2, 0, 0), (40, .iload 5, 2, 0, 0), (42, .invokevirtual 43, 3, 33, 3), (45, .iinc 5 1, 3, 0, 0), (48, .goto (-23), 3, 25, 0), (51, .aload_n 0, 1, 0, 0), (52, .getfield 22, 3, 3, 5), (55, .iload 4, 2, 0, 0), (57, .baload, 1, 0, 0), (58, .ifCond .eq 6, 3, 64, 0), (61, .iinc 3 1, 3, 0, 0), (64, .iinc 4 1, 3, 0, 0), (67, .goto (-57), 3, 10, 0), (70, .aload_n 0, 1, 0, 0), (71, .aload_n 1, 1, 0, 0), (72, .invokevirtual 47, 3, 40, 2), (75, .iload_n 3, 1, 0, 0), (76, .ireturn, 1, 0, 0)]
def kX4_begin : List (Nat × xI) := [(0, .aload_n 0, 1, 0, 0), (1, .getfield 51, 3, 3, 1), (4, .aload_n 0, 1, 0, 0), (5, .getfield 33, 3, 3, 0), (8, .invokevirtual 55, 3, 13, 2), (11, .aload_n 0, 1, 0, 0), (12, .iconst 1, 1, 0, 0), (13, .iload_n 1, 1, 0, 0), (14, .bipush 40, 2, 0, 0), (16, .invokestatic 61, 3, 1001, 2), (19, .invokestatic 67, 3, 1000, 2), (22, .putfield 70, 3, 3, 7), (25, .iconst 0, 1, 0, 0), (26, .istore_n 2, 1, 0, 0), (27, .iload_n 2, 1, 0, 0), (28, .aload_n 0, 1, 0, 0), (29, .getfield 33, 3, 3, 0), (32, .getfield 37, 3, 8, 3), (35, .if_icmp .ge 23, 3, 58, 0), (38, .aload_n 0, 1, 0, 0), (39, .getfield 19, 3, 3, 4), (42, .iload_n 2, 1, 0, 0), (43, .iconst 0, 1, 0, 0), (44, .iastore, 1, 0, 0), (45, .aload_n 0, 1, 0, 0), (46, .getfield 22, 3, 3, 5), (49, .iload_n 2, 1, 0, 0), (50, .iconst 0, 1, 0, 0), (51, .bastore, 1, 0, 0), (52, .iinc 2 1, 3, 0, 0), (55, .goto (-28), 3, 27, 0), (58, .aload_n 0, 1, 0, 0), (59, .getfield 19, 3, 3, 4), (62, .aload_n 0, 1, 0, 0), (63, .getfield 33, 3, 3, 0), (66, .getfield 37, 3, 8, 3), (69, .iconst 0, 1, 0, 0), (70, .iastore, 1, 0, 0), (71, .aload_n 0, 1, 0, 0), (72, .getfield 19, 3, 3, 4), (75, .iconst 0, 1, 0, 0), (76, .iconst 1, 1, 0, 0), (77, .iastore, 1, 0, 0), (78, .aload_n 0, 1, 0, 0), (79, .getfield 26, 3, 3, 6), (82, .ldc2_w 73, 3, 4611686018427387904, 0), (85, .invokestatic 75, 3, 165, 2), (88, .aload_n 0, 1, 0, 0), (89, .getfield 9, 3, 3, 2), (92, .iconst 0, 1, 0, 0), (93, .ldc2_w 83, 3, 134480385, 0), (96, .lastore, 1, 0, 0), (97, .return_, 1, 0, 0)]
def kX4_goFrom_0 : List (Nat × xI) := [(0, .aload_n 0, 1, 0, 0), (1, .iload_n 1, 1, 0, 0), (2, .putfield 85, 3, 3, 8), (5, .aload_n 0, 1, 0, 0), (6, .iload_n 2, 1, 0, 0), (7, .putfield 88, 3, 3, 9), (10, .aload_n 0, 1, 0, 0), (11, .getfield 9, 3, 3, 2), (14, .iload_n 1, 1, 0, 0), (15, .bipush 40, 2, 0, 0), (17, .imul, 1, 0, 0), (18, .iload_n 2, 1, 0, 0), (19, .iadd, 1, 0, 0), (20, .laload, 1, 0, 0), (21, .lstore_n 3, 1, 0, 0), (22, .aload_n 0, 1, 0, 0), (23, .lload_n 3, 1, 0, 0), (24, .bipush 36, 2, 0, 0), (26, .lushr, 1, 0, 0), (27, .putfield 91, 3, 3, 10), (30, .aload_n 0, 1, 0, 0), (31, .lload_n 3, 1, 0, 0), (32, .ldc2_w 95, 3, 68719476735, 0), (35, .land, 1, 0, 0), (36, .putfield 97, 3, 3, 11), (39, .aload_n 0, 1, 0, 0), (40, .invokevirtual 100, 3, 34, 1), (43, .ifCond .ne 7, 3, 50, 0), (46, .aload_n 0, 1, 0, 0), (47, .invokevirtual 104, 3, 35, 1), (50, .iconst 0, 1, 0, 0), (51, .istore 5, 2, 0, 0), (53, .iload 5, 2, 0, 0), (55, .iconst 4, 1, 0, 0), (56, .if_icmp .ge 15, 3, 71, 0), (59, .aload_n 0, 1, 0, 0), (60, .iload 5, 2, 0, 0), (62, .invokevirtual 108, 3, 36, 2), (65, .iinc 5 1, 3, 0, 0), (68, .goto (-15), 3, 53, 0), (71, .aload_n 0, 1, 0, 0), (72, .getfield 97, 3, 3, 11), (75, .iconst 0, 1, 0, 0), (76, .invokestatic 111, 3, 27, 2), (79, .istore 5, 2, 0, 0), (81, .iload 5, 2, 0, 0), (83, .aload_n 0, 1, 0, 0), (84, .getfield 85, 3, 3, 8), (87, .if_icmp .gt 53, 3, 140, 0), (90, .aload_n 0, 1, 0, 0), (91, .getfield 33, 3, 3, 0), (94, .getfield 115, 3, 8, 2), (97, .aload_n 0, 1, 0, 0), (98, .getfield 85, 3, 3, 8), (101, .iaload, 1, 0, 0), (102, .aload_n 0, 1, 0, 0), (103, .getfield 33, 3, 3, 0), (106, .getfield 115, 3, 8, 2), (109, .aload_n 0, 1, 0, 0), (110, .getfield 85, 3, 3, 8)]
def kX4_goFrom_1 : List (Nat × xI) := [(113, .iload 5, 2, 0, 0), (115, .isub, 1, 0, 0), (116, .iaload, 1, 0, 0), (117, .if_icmp .ne 23, 3, 140, 0), (120, .aload_n 0, 1, 0, 0), (121, .bipush 6, 2, 0, 0), (123, .iconst 1, 1, 0, 0), (124, .aload_n 0, 1, 0, 0), (125, .getfield 51, 3, 3, 1), (128, .bipush 6, 2, 0, 0), (130, .invokevirtual 118, 3, 15, 2), (133, .aload_n 0, 1, 0, 0), (134, .getfield 97, 3, 3, 11), (137, .invokevirtual 122, 3, 37, 5), (140, .aload_n 0, 1, 0, 0), (141, .iconst 0, 1, 0, 0), (142, .iconst 1, 1, 0, 0), (143, .aload_n 0, 1, 0, 0), (144, .getfield 51, 3, 3, 1), (147, .aload_n 0, 1, 0, 0), (148, .getfield 33, 3, 3, 0), (151, .getfield 115, 3, 8, 2), (154, .aload_n 0, 1, 0, 0), (155, .getfield 85, 3, 3, 8), (158, .iaload, 1, 0, 0), (159, .invokevirtual 126, 3, 14, 2), (162, .aload_n 0, 1, 0, 0), (163, .getfield 97, 3, 3, 11), (166, .invokevirtual 122, 3, 37, 5), (169, .return_, 1, 0, 0)]
def kX4_goFrom : List (Nat × xI) := kX4_goFrom_0 ++ (kX4_goFrom_1)
def kX4_copiesWereLed : List (Nat × xI) := [(0, .aload_n 0, 1, 0, 0), (1, .getfield 85, 3, 3, 8), (4, .bipush 40, 2, 0, 0), (6, .imul, 1, 0, 0), (7, .istore_n 1, 1, 0, 0), (8, .iload_n 1, 1, 0, 0), (9, .istore_n 2, 1, 0, 0), (10, .iload_n 2, 1, 0, 0), (11, .iload_n 1, 1, 0, 0), (12, .aload_n 0, 1, 0, 0), (13, .getfield 88, 3, 3, 9), (16, .iadd, 1, 0, 0), (17, .if_icmp .ge 34, 3, 51, 0), (20, .aload_n 0, 1, 0, 0), (21, .getfield 9, 3, 3, 2), (24, .iload_n 2, 1, 0, 0), (25, .laload, 1, 0, 0), (26, .aload_n 0, 1, 0, 0), (27, .getfield 97, 3, 3, 11), (30, .lxor, 1, 0, 0), (31, .ldc2_w 95, 3, 68719476735, 0), (34, .land, 1, 0, 0), (35, .bipush 9, 2, 0, 0), (37, .lushr, 1, 0, 0), (38, .lconst 0, 1, 0, 0), (39, .lcmp, 1, 0, 0), (40, .ifCond .ne 5, 3, 45, 0), (43, .iconst 1, 1, 0, 0), (44, .ireturn, 1, 0, 0), (45, .iinc 2 1, 3, 0, 0), (48, .goto (-38), 3, 10, 0), (51, .iconst 0, 1, 0, 0), (52, .ireturn, 1, 0, 0)]
def kX4_leadByCopies : List (Nat × xI) := [(0, .aload_n 0, 1, 0, 0), (1, .getfield 51, 3, 3, 1), (4, .iconst 1, 1, 0, 0), (5, .invokevirtual 118, 3, 15, 2), (8, .istore_n 1, 1, 0, 0), (9, .aload_n 0, 1, 0, 0), (10, .getfield 33, 3, 3, 0), (13, .aload_n 0, 1, 0, 0), (14, .getfield 85, 3, 3, 8), (17, .invokevirtual 129, 3, 69, 2), (20, .istore_n 2, 1, 0, 0), (21, .iload_n 2, 1, 0, 0), (22, .aload_n 0, 1, 0, 0), (23, .getfield 33, 3, 3, 0), (26, .getfield 132, 3, 8, 0), (29, .if_icmp .lt 61, 3, 90, 0), (32, .aload_n 0, 1, 0, 0), (33, .getfield 33, 3, 3, 0), (36, .aload_n 0, 1, 0, 0), (37, .getfield 85, 3, 3, 8), (40, .iload_n 2, 1, 0, 0), (41, .invokevirtual 135, 3, 70, 3), (44, .istore_n 3, 1, 0, 0), (45, .iload_n 1, 1, 0, 0), (46, .aload_n 0, 1, 0, 0), (47, .getfield 51, 3, 3, 1), (50, .getfield 138, 3, 2, 3), (53, .iload_n 2, 1, 0, 0), (54, .iaload, 1, 0, 0), (55, .iadd, 1, 0, 0), (56, .aload_n 0, 1, 0, 0), (57, .getfield 51, 3, 3, 1), (60, .getfield 141, 3, 2, 4), (63, .iload_n 3, 1, 0, 0), (64, .iaload, 1, 0, 0), (65, .iadd, 1, 0, 0), (66, .istore 4, 2, 0, 0), (68, .aload_n 0, 1, 0, 0), (69, .iconst 1, 1, 0, 0), (70, .iload_n 2, 1, 0, 0), (71, .iload 4, 2, 0, 0), (73, .aload_n 0, 1, 0, 0), (74, .getfield 97, 3, 3, 11), (77, .iload_n 3, 1, 0, 0), (78, .invokestatic 144, 3, 28, 2), (81, .invokevirtual 122, 3, 37, 5), (84, .iinc 2 (-1), 3, 0, 0), (87, .goto (-66), 3, 21, 0), (90, .return_, 1, 0, 0)]
def kX4_leadByAgain : List (Nat × xI) := [(0, .aload_n 0, 1, 0, 0), (1, .getfield 33, 3, 3, 0), (4, .aload_n 0, 1, 0, 0), (5, .getfield 85, 3, 3, 8), (8, .aload_n 0, 1, 0, 0), (9, .getfield 97, 3, 3, 11), (12, .iload_n 1, 1, 0, 0), (13, .invokestatic 111, 3, 27, 2), (16, .invokevirtual 148, 3, 71, 3), (19, .istore_n 2, 1, 0, 0), (20, .aload_n 0, 1, 0, 0), (21, .getfield 51, 3, 3, 1), (24, .iconst 2, 1, 0, 0), (25, .iload_n 1, 1, 0, 0), (26, .iadd, 1, 0, 0), (27, .invokevirtual 118, 3, 15, 2), (30, .istore_n 3, 1, 0, 0), (31, .aload_n 0, 1, 0, 0), (32, .getfield 97, 3, 3, 11), (35, .iload_n 1, 1, 0, 0), (36, .invokestatic 151, 3, 29, 2), (39, .lstore 4, 2, 0, 0), (41, .iload_n 2, 1, 0, 0), (42, .aload_n 0, 1, 0, 0), (43, .getfield 33, 3, 3, 0), (46, .getfield 132, 3, 8, 0), (49, .if_icmp .lt 30, 3, 79, 0), (52, .aload_n 0, 1, 0, 0), (53, .iconst 2, 1, 0, 0), (54, .iload_n 1, 1, 0, 0), (55, .iadd, 1, 0, 0), (56, .iload_n 2, 1, 0, 0), (57, .iload_n 3, 1, 0, 0), (58, .aload_n 0, 1, 0, 0), (59, .getfield 51, 3, 3, 1), (62, .getfield 138, 3, 2, 3), (65, .iload_n 2, 1, 0, 0), (66, .iaload, 1, 0, 0), (67, .iadd, 1, 0, 0), (68, .lload 4, 2, 0, 0), (70, .invokevirtual 122, 3, 37, 5), (73, .iinc 2 (-1), 3, 0, 0), (76, .goto (-35), 3, 41, 0), (79, .return_, 1, 0, 0)]
def kX4_lead_0 : List (Nat × xI) := [(0, .aload_n 0, 1, 0, 0), (1, .getfield 85, 3, 3, 8), (4, .iload_n 2, 1, 0, 0), (5, .iadd, 1, 0, 0), (6, .istore 6, 2, 0, 0), (8, .aload_n 0, 1, 0, 0), (9, .getfield 91, 3, 3, 10), (12, .iload_n 3, 1, 0, 0), (13, .i2l, 1, 0, 0), (14, .ladd, 1, 0, 0), (15, .bipush 36, 2, 0, 0), (17, .lshl, 1, 0, 0), (18, .lload 4, 2, 0, 0), (20, .lor, 1, 0, 0), (21, .lstore 7, 2, 0, 0), (23, .lload 7, 2, 0, 0), (25, .aload_n 0, 1, 0, 0), (26, .getfield 26, 3, 3, 6), (29, .iload 6, 2, 0, 0), (31, .laload, 1, 0, 0), (32, .lcmp, 1, 0, 0), (33, .ifCond .le 4, 3, 37, 0), (36, .return_, 1, 0, 0), (37, .iload 6, 2, 0, 0), (39, .bipush 40, 2, 0, 0), (41, .imul, 1, 0, 0), (42, .aload_n 0, 1, 0, 0), (43, .getfield 19, 3, 3, 4), (46, .iload 6, 2, 0, 0), (48, .iaload, 1, 0, 0), (49, .iadd, 1, 0, 0), (50, .istore 9, 2, 0, 0), (52, .iload 6, 2, 0, 0), (54, .bipush 40, 2, 0, 0), (56, .imul, 1, 0, 0), (57, .istore 10, 2, 0, 0), (59, .iload 10, 2, 0, 0), (61, .iload 9, 2, 0, 0), (63, .if_icmp .ge 40, 3, 103, 0), (66, .aload_n 0, 1, 0, 0), (67, .getfield 9, 3, 3, 2), (70, .iload 10, 2, 0, 0), (72, .laload, 1, 0, 0), (73, .lload 7, 2, 0, 0), (75, .lcmp, 1, 0, 0), (76, .ifCond .gt 27, 3, 103, 0), (79, .aload_n 0, 1, 0, 0), (80, .getfield 9, 3, 3, 2), (83, .iload 10, 2, 0, 0), (85, .laload, 1, 0, 0), (86, .ldc2_w 95, 3, 68719476735, 0), (89, .land, 1, 0, 0), (90, .lload 4, 2, 0, 0), (92, .lcmp, 1, 0, 0), (93, .ifCond .ne 4, 3, 97, 0), (96, .return_, 1, 0, 0), (97, .iinc 10 1, 3, 0, 0), (100, .goto (-41), 3, 59, 0), (103, .iload 10, 2, 0, 0), (105, .istore 11, 2, 0, 0)]
def kX4_lead_1 : List (Nat × xI) := [(107, .iload 11, 2, 0, 0), (109, .iload 9, 2, 0, 0), (111, .if_icmp .ge 26, 3, 137, 0), (114, .aload_n 0, 1, 0, 0), (115, .getfield 9, 3, 3, 2), (118, .iload 11, 2, 0, 0), (120, .laload, 1, 0, 0), (121, .ldc2_w 95, 3, 68719476735, 0), (124, .land, 1, 0, 0), (125, .lload 4, 2, 0, 0), (127, .lcmp, 1, 0, 0), (128, .ifCond .eq 9, 3, 137, 0), (131, .iinc 11 1, 3, 0, 0), (134, .goto (-27), 3, 107, 0), (137, .iload 11, 2, 0, 0), (139, .iload 9, 2, 0, 0), (141, .if_icmp .ne 15, 3, 156, 0), (144, .aload_n 0, 1, 0, 0), (145, .iload 6, 2, 0, 0), (147, .invokevirtual 154, 3, 38, 2), (150, .ifCond .ne 6, 3, 156, 0), (153, .iinc 11 (-1), 3, 0, 0), (156, .iload 10, 2, 0, 0), (158, .iload 11, 2, 0, 0), (160, .if_icmp .gt 26, 3, 186, 0), (163, .aload_n 0, 1, 0, 0), (164, .iload 10, 2, 0, 0), (166, .iload 11, 2, 0, 0), (168, .lload 7, 2, 0, 0), (170, .aload_n 0, 1, 0, 0), (171, .getfield 88, 3, 3, 9), (174, .bipush 12, 2, 0, 0), (176, .ishl, 1, 0, 0), (177, .iload_n 2, 1, 0, 0), (178, .iconst 3, 1, 0, 0), (179, .ishl, 1, 0, 0), (180, .ior, 1, 0, 0), (181, .iload_n 1, 1, 0, 0), (182, .ior, 1, 0, 0), (183, .invokevirtual 158, 3, 39, 5), (186, .iload 6, 2, 0, 0), (188, .aload_n 0, 1, 0, 0), (189, .getfield 33, 3, 3, 0), (192, .getfield 37, 3, 8, 3), (195, .if_icmp .eq 13, 3, 208, 0), (198, .aload_n 0, 1, 0, 0), (199, .getfield 22, 3, 3, 5), (202, .iload 6, 2, 0, 0), (204, .baload, 1, 0, 0), (205, .ifCond .eq 30, 3, 235, 0), (208, .aload_n 0, 1, 0, 0), (209, .getfield 26, 3, 3, 6), (212, .iload 6, 2, 0, 0), (214, .aload_n 0, 1, 0, 0), (215, .getfield 9, 3, 3, 2), (218, .iload 6, 2, 0, 0), (220, .bipush 40, 2, 0, 0), (222, .imul, 1, 0, 0), (223, .aload_n 0, 1, 0, 0), (224, .getfield 19, 3, 3, 4)]
def kX4_lead_2 : List (Nat × xI) := [(227, .iload 6, 2, 0, 0), (229, .iaload, 1, 0, 0), (230, .iadd, 1, 0, 0), (231, .iconst 1, 1, 0, 0), (232, .isub, 1, 0, 0), (233, .laload, 1, 0, 0), (234, .lastore, 1, 0, 0), (235, .return_, 1, 0, 0)]
def kX4_lead : List (Nat × xI) := kX4_lead_0 ++ (kX4_lead_1 ++ (kX4_lead_2))
def kX4_makeRoom : List (Nat × xI) := [(0, .aload_n 0, 1, 0, 0), (1, .getfield 19, 3, 3, 4), (4, .iload_n 1, 1, 0, 0), (5, .iaload, 1, 0, 0), (6, .iload_n 1, 1, 0, 0), (7, .aload_n 0, 1, 0, 0), (8, .getfield 33, 3, 3, 0), (11, .getfield 37, 3, 8, 3), (14, .if_icmp .ne 7, 3, 21, 0), (17, .iconst 1, 1, 0, 0), (18, .goto 7, 3, 25, 0), (21, .aload_n 0, 1, 0, 0), (22, .getfield 70, 3, 3, 7), (25, .if_icmp .ge 15, 3, 40, 0), (28, .aload_n 0, 1, 0, 0), (29, .getfield 19, 3, 3, 4), (32, .iload_n 1, 1, 0, 0), (33, .dup2, 1, 0, 0), (34, .iaload, 1, 0, 0), (35, .iconst 1, 1, 0, 0), (36, .iadd, 1, 0, 0), (37, .iastore, 1, 0, 0), (38, .iconst 1, 1, 0, 0), (39, .ireturn, 1, 0, 0), (40, .iload_n 1, 1, 0, 0), (41, .aload_n 0, 1, 0, 0), (42, .getfield 33, 3, 3, 0), (45, .getfield 37, 3, 8, 3), (48, .if_icmp .ge 10, 3, 58, 0), (51, .aload_n 0, 1, 0, 0), (52, .getfield 22, 3, 3, 5), (55, .iload_n 1, 1, 0, 0), (56, .iconst 1, 1, 0, 0), (57, .bastore, 1, 0, 0), (58, .iconst 0, 1, 0, 0), (59, .ireturn, 1, 0, 0)]
def kX4_insert : List (Nat × xI) := [(0, .iload_n 2, 1, 0, 0), (1, .istore 6, 2, 0, 0), (3, .iload 6, 2, 0, 0), (5, .iload_n 1, 1, 0, 0), (6, .if_icmp .le 41, 3, 47, 0), (9, .aload_n 0, 1, 0, 0), (10, .getfield 9, 3, 3, 2), (13, .iload 6, 2, 0, 0), (15, .aload_n 0, 1, 0, 0), (16, .getfield 9, 3, 3, 2), (19, .iload 6, 2, 0, 0), (21, .iconst 1, 1, 0, 0), (22, .isub, 1, 0, 0), (23, .laload, 1, 0, 0), (24, .lastore, 1, 0, 0), (25, .aload_n 0, 1, 0, 0), (26, .getfield 15, 3, 3, 3), (29, .iload 6, 2, 0, 0), (31, .aload_n 0, 1, 0, 0), (32, .getfield 15, 3, 3, 3), (35, .iload 6, 2, 0, 0), (37, .iconst 1, 1, 0, 0), (38, .isub, 1, 0, 0), (39, .iaload, 1, 0, 0), (40, .iastore, 1, 0, 0), (41, .iinc 6 (-1), 3, 0, 0), (44, .goto (-41), 3, 3, 0), (47, .aload_n 0, 1, 0, 0), (48, .getfield 9, 3, 3, 2), (51, .iload_n 1, 1, 0, 0), (52, .lload_n 3, 1, 0, 0), (53, .lastore, 1, 0, 0), (54, .aload_n 0, 1, 0, 0), (55, .getfield 15, 3, 3, 3), (58, .iload_n 1, 1, 0, 0), (59, .iload 5, 2, 0, 0), (61, .iastore, 1, 0, 0), (62, .return_, 1, 0, 0)]
def kX4_tellSteps_0 : List (Nat × xI) := [(0, .aload_n 1, 1, 0, 0), (1, .invokevirtual 162, 3, 51, 1), (4, .aload_n 0, 1, 0, 0), (5, .getfield 33, 3, 3, 0), (8, .getfield 37, 3, 8, 3), (11, .istore_n 2, 1, 0, 0), (12, .iload_n 2, 1, 0, 0), (13, .bipush 40, 2, 0, 0), (15, .imul, 1, 0, 0), (16, .istore_n 3, 1, 0, 0), (17, .iload_n 2, 1, 0, 0), (18, .ifCond .le 87, 3, 105, 0), (21, .aload_n 0, 1, 0, 0), (22, .getfield 15, 3, 3, 3), (25, .iload_n 3, 1, 0, 0), (26, .iaload, 1, 0, 0), (27, .istore 4, 2, 0, 0), (29, .iload 4, 2, 0, 0), (31, .bipush 7, 2, 0, 0), (33, .iand, 1, 0, 0), (34, .istore 5, 2, 0, 0), (36, .iconst 1, 1, 0, 0), (37, .iload 4, 2, 0, 0), (39, .iconst 3, 1, 0, 0), (40, .ishr, 1, 0, 0), (41, .sipush 511, 3, 0, 0), (44, .iand, 1, 0, 0), (45, .invokestatic 67, 3, 1000, 2), (48, .istore 6, 2, 0, 0), (50, .iload 5, 2, 0, 0), (52, .ifCond .ne 7, 3, 59, 0), (55, .iconst 0, 1, 0, 0), (56, .goto 17, 3, 73, 0), (59, .aload_n 0, 1, 0, 0), (60, .getfield 9, 3, 3, 2), (63, .iload_n 3, 1, 0, 0), (64, .laload, 1, 0, 0), (65, .ldc2_w 95, 3, 68719476735, 0), (68, .land, 1, 0, 0), (69, .iconst 0, 1, 0, 0), (70, .invokestatic 111, 3, 27, 2), (73, .istore 7, 2, 0, 0), (75, .iload_n 2, 1, 0, 0), (76, .iload 6, 2, 0, 0), (78, .isub, 1, 0, 0), (79, .istore_n 2, 1, 0, 0), (80, .aload_n 1, 1, 0, 0), (81, .iload 5, 2, 0, 0), (83, .iload_n 2, 1, 0, 0), (84, .iload 6, 2, 0, 0), (86, .iload 7, 2, 0, 0), (88, .invokevirtual 166, 3, 52, 5), (91, .iload_n 2, 1, 0, 0), (92, .bipush 40, 2, 0, 0), (94, .imul, 1, 0, 0), (95, .iload 4, 2, 0, 0), (97, .bipush 12, 2, 0, 0), (99, .ishr, 1, 0, 0), (100, .iadd, 1, 0, 0), (101, .istore_n 3, 1, 0, 0)]
def kX4_tellSteps_1 : List (Nat × xI) := [(102, .goto (-85), 3, 17, 0), (105, .aload_n 1, 1, 0, 0), (106, .invokevirtual 170, 3, 53, 1), (109, .return_, 1, 0, 0)]
def kX4_tellSteps : List (Nat × xI) := kX4_tellSteps_0 ++ (kX4_tellSteps_1)
def kX5_init : List (Nat × xI) := [(0, .aload_n 0, 1, 0, 0), (1, .aload_n 1, 1, 0, 0), (2, .aload_n 2, 1, 0, 0), (3, .invokespecial 3, 3, 25, 3), (6, .aload_n 0, 1, 0, 0), (7, .sipush 301, 3, 0, 0), (10, .newarray .int, 2, 0, 0), (12, .putfield 9, 3, 4, 2), (15, .aload_n 0, 1, 0, 0), (16, .sipush 301, 3, 0, 0), (19, .newarray .int, 2, 0, 0), (21, .putfield 15, 3, 4, 3), (24, .aload_n 0, 1, 0, 0), (25, .sipush 301, 3, 0, 0), (28, .newarray .int, 2, 0, 0), (30, .putfield 18, 3, 4, 4), (33, .aload_n 0, 1, 0, 0), (34, .sipush 301, 3, 0, 0), (37, .newarray .int, 2, 0, 0), (39, .putfield 21, 3, 4, 5), (42, .aload_n 0, 1, 0, 0), (43, .sipush 301, 3, 0, 0), (46, .newarray .int, 2, 0, 0), (48, .putfield 24, 3, 4, 6), (51, .iconst 0, 1, 0, 0), (52, .istore_n 3, 1, 0, 0), (53, .iload_n 3, 1, 0, 0), (54, .sipush 300, 3, 0, 0), (57, .if_icmp .gt 27, 3, 84, 0), (60, .aload_n 0, 1, 0, 0), (61, .getfield 24, 3, 4, 6), (64, .iload_n 3, 1, 0, 0), (65, .sipush 512, 3, 0, 0), (68, .iload_n 3, 1, 0, 0), (69, .iload_n 3, 1, 0, 0), (70, .bipush 15, 2, 0, 0), (72, .invokestatic 27, 3, 48, 2), (75, .iadd, 1, 0, 0), (76, .imul, 1, 0, 0), (77, .iastore, 1, 0, 0), (78, .iinc 3 1, 3, 0, 0), (81, .goto (-28), 3, 53, 0), (84, .return_, 1, 0, 0)]
def kX5_findBest : List (Nat × xI) := [(0, .aload_n 0, 1, 0, 0), (1, .getfield 9, 3, 4, 2), (4, .ldc 31, 2, 1073741824, 0), (6, .invokestatic 32, 3, 166, 2), (9, .aload_n 0, 1, 0, 0), (10, .getfield 9, 3, 4, 2), (13, .iconst 0, 1, 0, 0), (14, .iconst 0, 1, 0, 0), (15, .iastore, 1, 0, 0), (16, .iconst 0, 1, 0, 0), (17, .istore_n 3, 1, 0, 0), (18, .iload_n 3, 1, 0, 0), (19, .aload_n 0, 1, 0, 0), (20, .getfield 38, 3, 4, 0), (23, .getfield 42, 3, 8, 3), (26, .if_icmp .ge 54, 3, 80, 0), (29, .aload_n 0, 1, 0, 0), (30, .getfield 38, 3, 4, 0), (33, .iload_n 3, 1, 0, 0), (34, .invokevirtual 48, 3, 69, 2), (37, .istore 4, 2, 0, 0), (39, .iload 4, 2, 0, 0), (41, .ifCond .le 8, 3, 49, 0), (44, .aload_n 0, 1, 0, 0), (45, .iload_n 3, 1, 0, 0), (46, .invokevirtual 52, 3, 43, 2), (49, .iload 4, 2, 0, 0), (51, .aload_n 0, 1, 0, 0), (52, .getfield 38, 3, 4, 0), (55, .getfield 56, 3, 8, 0), (58, .if_icmp .lt 16, 3, 74, 0), (61, .aload_n 0, 1, 0, 0), (62, .iload_n 3, 1, 0, 0), (63, .iload 4, 2, 0, 0), (65, .invokevirtual 59, 3, 44, 3), (68, .iinc 4 (-1), 3, 0, 0), (71, .goto (-22), 3, 49, 0), (74, .iinc 3 1, 3, 0, 0), (77, .goto (-59), 3, 18, 0), (80, .aload_n 0, 1, 0, 0), (81, .aload_n 0, 1, 0, 0), (82, .getfield 38, 3, 4, 0), (85, .getfield 42, 3, 8, 3), (88, .invokevirtual 52, 3, 43, 2), (91, .aload_n 0, 1, 0, 0), (92, .aload_n 1, 1, 0, 0), (93, .invokevirtual 63, 3, 45, 2), (96, .iconst 0, 1, 0, 0), (97, .ireturn, 1, 0, 0)]
def kX5_findFirst : List (Nat × xI) := [(0, .ldc 31, 2, 1073741824, 0), (2, .istore_n 2, 1, 0, 0), (3, .iconst 0, 1, 0, 0), (4, .istore_n 3, 1, 0, 0), (5, .iload_n 3, 1, 0, 0), (6, .iload_n 1, 1, 0, 0), (7, .if_icmp .gt 56, 3, 63, 0), (10, .aload_n 0, 1, 0, 0), (11, .getfield 9, 3, 4, 2), (14, .iload_n 1, 1, 0, 0), (15, .iload_n 3, 1, 0, 0), (16, .isub, 1, 0, 0), (17, .iaload, 1, 0, 0), (18, .istore 4, 2, 0, 0), (20, .iload 4, 2, 0, 0), (22, .ldc 31, 2, 1073741824, 0), (24, .if_icmp .eq 33, 3, 57, 0), (27, .iload 4, 2, 0, 0), (29, .aload_n 0, 1, 0, 0), (30, .getfield 24, 3, 4, 6), (33, .iload_n 3, 1, 0, 0), (34, .iaload, 1, 0, 0), (35, .iadd, 1, 0, 0), (36, .iload_n 2, 1, 0, 0), (37, .if_icmp .ge 20, 3, 57, 0), (40, .iload 4, 2, 0, 0), (42, .aload_n 0, 1, 0, 0), (43, .getfield 24, 3, 4, 6), (46, .iload_n 3, 1, 0, 0), (47, .iaload, 1, 0, 0), (48, .iadd, 1, 0, 0), (49, .istore_n 2, 1, 0, 0), (50, .aload_n 0, 1, 0, 0), (51, .getfield 18, 3, 4, 4), (54, .iload_n 1, 1, 0, 0), (55, .iload_n 3, 1, 0, 0), (56, .iastore, 1, 0, 0), (57, .iinc 3 1, 3, 0, 0), (60, .goto (-55), 3, 5, 0), (63, .aload_n 0, 1, 0, 0), (64, .getfield 21, 3, 4, 5), (67, .iload_n 1, 1, 0, 0), (68, .iload_n 2, 1, 0, 0), (69, .iastore, 1, 0, 0), (70, .return_, 1, 0, 0)]
def kX5_lead : List (Nat × xI) := [(0, .aload_n 0, 1, 0, 0), (1, .getfield 21, 3, 4, 5), (4, .iload_n 1, 1, 0, 0), (5, .iaload, 1, 0, 0), (6, .iload_n 2, 1, 0, 0), (7, .invokestatic 67, 3, 47, 1), (10, .iadd, 1, 0, 0), (11, .istore_n 3, 1, 0, 0), (12, .iload_n 3, 1, 0, 0), (13, .aload_n 0, 1, 0, 0), (14, .getfield 9, 3, 4, 2), (17, .iload_n 1, 1, 0, 0), (18, .iload_n 2, 1, 0, 0), (19, .iadd, 1, 0, 0), (20, .iaload, 1, 0, 0), (21, .if_icmp .ge 21, 3, 42, 0), (24, .aload_n 0, 1, 0, 0), (25, .getfield 9, 3, 4, 2), (28, .iload_n 1, 1, 0, 0), (29, .iload_n 2, 1, 0, 0), (30, .iadd, 1, 0, 0), (31, .iload_n 3, 1, 0, 0), (32, .iastore, 1, 0, 0), (33, .aload_n 0, 1, 0, 0), (34, .getfield 15, 3, 4, 3), (37, .iload_n 1, 1, 0, 0), (38, .iload_n 2, 1, 0, 0), (39, .iadd, 1, 0, 0), (40, .iload_n 2, 1, 0, 0), (41, .iastore, 1, 0, 0), (42, .return_, 1, 0, 0)]
def kX5_tellSteps : List (Nat × xI) := [(0, .aload_n 1, 1, 0, 0), (1, .invokevirtual 70, 3, 51, 1), (4, .aload_n 0, 1, 0, 0), (5, .getfield 38, 3, 4, 0), (8, .getfield 42, 3, 8, 3), (11, .istore_n 2, 1, 0, 0), (12, .iload_n 2, 1, 0, 0), (13, .ifCond .le 82, 3, 95, 0), (16, .iload_n 2, 1, 0, 0), (17, .aload_n 0, 1, 0, 0), (18, .getfield 18, 3, 4, 4), (21, .iload_n 2, 1, 0, 0), (22, .iaload, 1, 0, 0), (23, .isub, 1, 0, 0), (24, .istore_n 3, 1, 0, 0), (25, .iload_n 2, 1, 0, 0), (26, .iconst 1, 1, 0, 0), (27, .isub, 1, 0, 0), (28, .istore 4, 2, 0, 0), (30, .iload 4, 2, 0, 0), (32, .iload_n 3, 1, 0, 0), (33, .if_icmp .lt 18, 3, 51, 0), (36, .aload_n 1, 1, 0, 0), (37, .iconst 0, 1, 0, 0), (38, .iload 4, 2, 0, 0), (40, .iconst 1, 1, 0, 0), (41, .iconst 0, 1, 0, 0), (42, .invokevirtual 76, 3, 52, 5), (45, .iinc 4 (-1), 3, 0, 0), (48, .goto (-18), 3, 30, 0), (51, .iload_n 3, 1, 0, 0), (52, .istore_n 2, 1, 0, 0), (53, .iload_n 3, 1, 0, 0), (54, .ifCond .le 38, 3, 92, 0), (57, .iconst 1, 1, 0, 0), (58, .aload_n 0, 1, 0, 0), (59, .getfield 15, 3, 4, 3), (62, .iload_n 3, 1, 0, 0), (63, .iaload, 1, 0, 0), (64, .invokestatic 80, 3, 1000, 2), (67, .istore 4, 2, 0, 0), (69, .iload_n 3, 1, 0, 0), (70, .iload 4, 2, 0, 0), (72, .isub, 1, 0, 0), (73, .istore_n 2, 1, 0, 0), (74, .aload_n 1, 1, 0, 0), (75, .iconst 1, 1, 0, 0), (76, .iload_n 2, 1, 0, 0), (77, .iload 4, 2, 0, 0), (79, .aload_n 0, 1, 0, 0), (80, .getfield 38, 3, 4, 0), (83, .iload_n 2, 1, 0, 0), (84, .iload 4, 2, 0, 0), (86, .invokevirtual 85, 3, 70, 3), (89, .invokevirtual 76, 3, 52, 5), (92, .goto (-80), 3, 12, 0), (95, .aload_n 1, 1, 0, 0), (96, .invokevirtual 88, 3, 53, 1), (99, .return_, 1, 0, 0)]
def kX5_costOf : List (Nat × xI) := [(0, .sipush 512, 3, 0, 0), (3, .istore_n 2, 1, 0, 0), (4, .iconst 0, 1, 0, 0), (5, .istore_n 3, 1, 0, 0), (6, .iconst 0, 1, 0, 0), (7, .istore 4, 2, 0, 0), (9, .iload 4, 2, 0, 0), (11, .aload_n 1, 1, 0, 0), (12, .getfield 91, 3, 5, 5), (15, .if_icmp .ge 47, 3, 62, 0), (18, .aload_n 1, 1, 0, 0), (19, .getfield 94, 3, 5, 3), (22, .iload 4, 2, 0, 0), (24, .iaload, 1, 0, 0), (25, .ifCond .ne 9, 3, 34, 0), (28, .iinc 3 1, 3, 0, 0), (31, .goto 25, 3, 56, 0), (34, .iload_n 2, 1, 0, 0), (35, .aload_n 0, 1, 0, 0), (36, .getfield 24, 3, 4, 6), (39, .iload_n 3, 1, 0, 0), (40, .iaload, 1, 0, 0), (41, .aload_n 1, 1, 0, 0), (42, .getfield 97, 3, 5, 1), (45, .iload 4, 2, 0, 0), (47, .iaload, 1, 0, 0), (48, .invokestatic 67, 3, 47, 1), (51, .iadd, 1, 0, 0), (52, .iadd, 1, 0, 0), (53, .istore_n 2, 1, 0, 0), (54, .iconst 0, 1, 0, 0), (55, .istore_n 3, 1, 0, 0), (56, .iinc 4 1, 3, 0, 0), (59, .goto (-50), 3, 9, 0), (62, .iload_n 2, 1, 0, 0), (63, .aload_n 0, 1, 0, 0), (64, .getfield 24, 3, 4, 6), (67, .iload_n 3, 1, 0, 0), (68, .iaload, 1, 0, 0), (69, .iadd, 1, 0, 0), (70, .i2l, 1, 0, 0), (71, .lreturn, 1, 0, 0)]
def kX5_copyCost : List (Nat × xI) := [(0, .sipush 512, 3, 0, 0), (3, .iconst 3, 1, 0, 0), (4, .iload_n 0, 1, 0, 0), (5, .bipush 19, 2, 0, 0), (7, .invokestatic 27, 3, 48, 2), (10, .iadd, 1, 0, 0), (11, .imul, 1, 0, 0), (12, .ireturn, 1, 0, 0)]
def kX5_beyond : List (Nat × xI) := [(0, .iload_n 0, 1, 0, 0), (1, .iload_n 1, 1, 0, 0), (2, .if_icmp .ge 7, 3, 9, 0), (5, .iconst 0, 1, 0, 0), (6, .goto 12, 3, 18, 0), (9, .iconst 1, 1, 0, 0), (10, .iload_n 0, 1, 0, 0), (11, .iload_n 1, 1, 0, 0), (12, .isub, 1, 0, 0), (13, .sipush 255, 3, 0, 0), (16, .idiv, 1, 0, 0), (17, .iadd, 1, 0, 0), (18, .ireturn, 1, 0, 0)]
def kX6_init : List (Nat × xI) := [(0, .aload_n 0, 1, 0, 0), (1, .invokespecial 3, 3, 1003, 1), (4, .aload_n 0, 1, 0, 0), (5, .sipush 300, 3, 0, 0), (8, .newarray .int, 2, 0, 0), (10, .putfield 9, 3, 5, 0), (13, .aload_n 0, 1, 0, 0), (14, .sipush 300, 3, 0, 0), (17, .newarray .int, 2, 0, 0), (19, .putfield 15, 3, 5, 1), (22, .aload_n 0, 1, 0, 0), (23, .sipush 300, 3, 0, 0), (26, .newarray .int, 2, 0, 0), (28, .putfield 18, 3, 5, 2), (31, .aload_n 0, 1, 0, 0), (32, .sipush 300, 3, 0, 0), (35, .newarray .int, 2, 0, 0), (37, .putfield 21, 3, 5, 3), (40, .aload_n 0, 1, 0, 0), (41, .sipush 300, 3, 0, 0), (44, .newarray .int, 2, 0, 0), (46, .putfield 24, 3, 5, 4), (49, .return_, 1, 0, 0)]
def kX6_hasStep : List (Nat × xI) := [(0, .iload_n 1, 1, 0, 0), (1, .ifCond .lt 15, 3, 16, 0), (4, .iload_n 1, 1, 0, 0), (5, .aload_n 0, 1, 0, 0), (6, .getfield 27, 3, 5, 5), (9, .if_icmp .ge 7, 3, 16, 0), (12, .iconst 1, 1, 0, 0), (13, .goto 4, 3, 17, 0), (16, .iconst 0, 1, 0, 0), (17, .ireturn, 1, 0, 0)]
def kX6_begin : List (Nat × xI) := [(0, .aload_n 0, 1, 0, 0), (1, .iconst 0, 1, 0, 0), (2, .putfield 27, 3, 5, 5), (5, .return_, 1, 0, 0)]
def kX6_add : List (Nat × xI) := [(0, .aload_n 0, 1, 0, 0), (1, .getfield 27, 3, 5, 5), (4, .sipush 300, 3, 0, 0), (7, .if_icmp .lt 4, 3, 11, 0), (10, .return_, 1, 0, 0), (11, .aload_n 0, 1, 0, 0), (12, .getfield 21, 3, 5, 3), (15, .aload_n 0, 1, 0, 0), (16, .getfield 27, 3, 5, 5), (19, .iload_n 1, 1, 0, 0), (20, .iastore, 1, 0, 0), (21, .aload_n 0, 1, 0, 0), (22, .getfield 9, 3, 5, 0), (25, .aload_n 0, 1, 0, 0), (26, .getfield 27, 3, 5, 5), (29, .iload_n 2, 1, 0, 0), (30, .iastore, 1, 0, 0), (31, .aload_n 0, 1, 0, 0), (32, .getfield 15, 3, 5, 1), (35, .aload_n 0, 1, 0, 0), (36, .getfield 27, 3, 5, 5), (39, .iload_n 3, 1, 0, 0), (40, .iastore, 1, 0, 0), (41, .aload_n 0, 1, 0, 0), (42, .getfield 18, 3, 5, 2), (45, .aload_n 0, 1, 0, 0), (46, .getfield 27, 3, 5, 5), (49, .iload 4, 2, 0, 0), (51, .iastore, 1, 0, 0), (52, .aload_n 0, 1, 0, 0), (53, .dup, 1, 0, 0), (54, .getfield 27, 3, 5, 5), (57, .iconst 1, 1, 0, 0), (58, .iadd, 1, 0, 0), (59, .putfield 27, 3, 5, 5), (62, .return_, 1, 0, 0)]
def kX6_turnRound : List (Nat × xI) := [(0, .iconst 0, 1, 0, 0), (1, .istore_n 1, 1, 0, 0), (2, .iload_n 1, 1, 0, 0), (3, .aload_n 0, 1, 0, 0), (4, .getfield 27, 3, 5, 5), (7, .iconst 2, 1, 0, 0), (8, .idiv, 1, 0, 0), (9, .if_icmp .ge 54, 3, 63, 0), (12, .aload_n 0, 1, 0, 0), (13, .getfield 27, 3, 5, 5), (16, .iconst 1, 1, 0, 0), (17, .isub, 1, 0, 0), (18, .iload_n 1, 1, 0, 0), (19, .isub, 1, 0, 0), (20, .istore_n 2, 1, 0, 0), (21, .aload_n 0, 1, 0, 0), (22, .getfield 21, 3, 5, 3), (25, .iload_n 1, 1, 0, 0), (26, .iload_n 2, 1, 0, 0), (27, .invokestatic 31, 3, 54, 3), (30, .aload_n 0, 1, 0, 0), (31, .getfield 9, 3, 5, 0), (34, .iload_n 1, 1, 0, 0), (35, .iload_n 2, 1, 0, 0), (36, .invokestatic 31, 3, 54, 3), (39, .aload_n 0, 1, 0, 0), (40, .getfield 15, 3, 5, 1), (43, .iload_n 1, 1, 0, 0), (44, .iload_n 2, 1, 0, 0), (45, .invokestatic 31, 3, 54, 3), (48, .aload_n 0, 1, 0, 0), (49, .getfield 18, 3, 5, 2), (52, .iload_n 1, 1, 0, 0), (53, .iload_n 2, 1, 0, 0), (54, .invokestatic 31, 3, 54, 3), (57, .iinc 1 1, 3, 0, 0), (60, .goto (-58), 3, 2, 0), (63, .return_, 1, 0, 0)]
def kX6_swap : List (Nat × xI) := [(0, .aload_n 0, 1, 0, 0), (1, .iload_n 1, 1, 0, 0), (2, .iaload, 1, 0, 0), (3, .istore_n 3, 1, 0, 0), (4, .aload_n 0, 1, 0, 0), (5, .iload_n 1, 1, 0, 0), (6, .aload_n 0, 1, 0, 0), (7, .iload_n 2, 1, 0, 0), (8, .iaload, 1, 0, 0), (9, .iastore, 1, 0, 0), (10, .aload_n 0, 1, 0, 0), (11, .iload_n 2, 1, 0, 0), (12, .iload_n 3, 1, 0, 0), (13, .iastore, 1, 0, 0), (14, .return_, 1, 0, 0)]
def kX6_finish : List (Nat × xI) := [(0, .aload_n 0, 1, 0, 0), (1, .lload_n 2, 1, 0, 0), (2, .putfield 35, 3, 5, 6), (5, .aload_n 0, 1, 0, 0), (6, .iload 4, 2, 0, 0), (8, .putfield 39, 3, 5, 7), (11, .iconst 0, 1, 0, 0), (12, .istore 5, 2, 0, 0), (14, .iload 5, 2, 0, 0), (16, .aload_n 0, 1, 0, 0), (17, .getfield 27, 3, 5, 5), (20, .if_icmp .ge 65, 3, 85, 0), (23, .aload_n 0, 1, 0, 0), (24, .getfield 9, 3, 5, 0), (27, .iload 5, 2, 0, 0), (29, .iaload, 1, 0, 0), (30, .istore 6, 2, 0, 0), (32, .aload_n 0, 1, 0, 0), (33, .getfield 21, 3, 5, 3), (36, .iload 5, 2, 0, 0), (38, .iaload, 1, 0, 0), (39, .ifCond .ne 20, 3, 59, 0), (42, .aload_n 0, 1, 0, 0), (43, .getfield 24, 3, 5, 4), (46, .iload 6, 2, 0, 0), (48, .aload_n 1, 1, 0, 0), (49, .getfield 43, 3, 8, 2), (52, .iload 6, 2, 0, 0), (54, .iaload, 1, 0, 0), (55, .iastore, 1, 0, 0), (56, .goto 23, 3, 79, 0), (59, .aload_n 0, 1, 0, 0), (60, .iload 6, 2, 0, 0), (62, .aload_n 0, 1, 0, 0), (63, .getfield 15, 3, 5, 1), (66, .iload 5, 2, 0, 0), (68, .iaload, 1, 0, 0), (69, .aload_n 0, 1, 0, 0), (70, .getfield 18, 3, 5, 2), (73, .iload 5, 2, 0, 0), (75, .iaload, 1, 0, 0), (76, .invokevirtual 48, 3, 56, 4), (79, .iinc 5 1, 3, 0, 0), (82, .goto (-68), 3, 14, 0), (85, .return_, 1, 0, 0)]
def kX6_tellBack : List (Nat × xI) := [(0, .iload_n 1, 1, 0, 0), (1, .istore 4, 2, 0, 0), (3, .iload 4, 2, 0, 0), (5, .iload_n 1, 1, 0, 0), (6, .iload_n 2, 1, 0, 0), (7, .iadd, 1, 0, 0), (8, .if_icmp .ge 25, 3, 33, 0), (11, .aload_n 0, 1, 0, 0), (12, .getfield 24, 3, 5, 4), (15, .iload 4, 2, 0, 0), (17, .aload_n 0, 1, 0, 0), (18, .getfield 24, 3, 5, 4), (21, .iload 4, 2, 0, 0), (23, .iload_n 3, 1, 0, 0), (24, .isub, 1, 0, 0), (25, .iaload, 1, 0, 0), (26, .iastore, 1, 0, 0), (27, .iinc 4 1, 3, 0, 0), (30, .goto (-27), 3, 3, 0), (33, .return_, 1, 0, 0)]
def kX7_init : List (Nat × xI) := [(0, .aload_n 0, 1, 0, 0), (1, .aload_n 1, 1, 0, 0), (2, .aload_n 2, 1, 0, 0), (3, .invokespecial 3, 3, 25, 3), (6, .aload_n 0, 1, 0, 0), (7, .sipush 301, 3, 0, 0), (10, .newarray .int, 2, 0, 0), (12, .putfield 9, 3, 6, 2), (15, .aload_n 0, 1, 0, 0), (16, .sipush 301, 3, 0, 0), (19, .newarray .int, 2, 0, 0), (21, .putfield 15, 3, 6, 3), (24, .return_, 1, 0, 0)]
def kX7_findBest_0 : List (Nat × xI) := [(0, .aload_n 0, 1, 0, 0), (1, .getfield 18, 3, 6, 1), (4, .aload_n 0, 1, 0, 0), (5, .getfield 22, 3, 6, 0), (8, .invokevirtual 26, 3, 13, 2), (11, .aload_n 0, 1, 0, 0), (12, .getfield 9, 3, 6, 2), (15, .ldc 32, 2, 1073741824, 0), (17, .invokestatic 33, 3, 166, 2), (20, .aload_n 0, 1, 0, 0), (21, .getfield 9, 3, 6, 2), (24, .iconst 0, 1, 0, 0), (25, .iconst 0, 1, 0, 0), (26, .iastore, 1, 0, 0), (27, .iconst 0, 1, 0, 0), (28, .istore_n 3, 1, 0, 0), (29, .iload_n 3, 1, 0, 0), (30, .aload_n 0, 1, 0, 0), (31, .getfield 22, 3, 6, 0), (34, .getfield 39, 3, 8, 3), (37, .if_icmp .ge 99, 3, 136, 0), (40, .aload_n 0, 1, 0, 0), (41, .getfield 22, 3, 6, 0), (44, .iload_n 3, 1, 0, 0), (45, .invokevirtual 45, 3, 69, 2), (48, .istore 4, 2, 0, 0), (50, .iload 4, 2, 0, 0), (52, .aload_n 0, 1, 0, 0), (53, .getfield 22, 3, 6, 0), (56, .getfield 49, 3, 8, 0), (59, .if_icmp .lt 49, 3, 108, 0), (62, .aload_n 0, 1, 0, 0), (63, .getfield 22, 3, 6, 0), (66, .iload_n 3, 1, 0, 0), (67, .iload 4, 2, 0, 0), (69, .invokevirtual 52, 3, 70, 3), (72, .istore 5, 2, 0, 0), (74, .aload_n 0, 1, 0, 0), (75, .iload_n 3, 1, 0, 0), (76, .iload 4, 2, 0, 0), (78, .aload_n 0, 1, 0, 0), (79, .getfield 18, 3, 6, 1), (82, .getfield 56, 3, 2, 3), (85, .iload 4, 2, 0, 0), (87, .iaload, 1, 0, 0), (88, .aload_n 0, 1, 0, 0), (89, .getfield 18, 3, 6, 1), (92, .getfield 59, 3, 2, 4), (95, .iload 5, 2, 0, 0), (97, .iaload, 1, 0, 0), (98, .iadd, 1, 0, 0), (99, .invokevirtual 62, 3, 59, 4), (102, .iinc 4 (-1), 3, 0, 0), (105, .goto (-55), 3, 50, 0), (108, .aload_n 0, 1, 0, 0), (109, .iload_n 3, 1, 0, 0), (110, .iconst 1, 1, 0, 0), (111, .aload_n 0, 1, 0, 0), (112, .getfield 18, 3, 6, 1), (115, .aload_n 0, 1, 0, 0)]
def kX7_findBest_1 : List (Nat × xI) := [(116, .getfield 22, 3, 6, 0), (119, .getfield 66, 3, 8, 2), (122, .iload_n 3, 1, 0, 0), (123, .iaload, 1, 0, 0), (124, .invokevirtual 69, 3, 14, 2), (127, .invokevirtual 62, 3, 59, 4), (130, .iinc 3 1, 3, 0, 0), (133, .goto (-104), 3, 29, 0), (136, .aload_n 0, 1, 0, 0), (137, .aload_n 1, 1, 0, 0), (138, .invokevirtual 72, 3, 60, 2), (141, .iconst 0, 1, 0, 0), (142, .ireturn, 1, 0, 0)]
def kX7_findBest : List (Nat × xI) := kX7_findBest_0 ++ (kX7_findBest_1)
def kX7_lead : List (Nat × xI) := [(0, .aload_n 0, 1, 0, 0), (1, .getfield 9, 3, 6, 2), (4, .iload_n 1, 1, 0, 0), (5, .iaload, 1, 0, 0), (6, .iload_n 3, 1, 0, 0), (7, .iadd, 1, 0, 0), (8, .istore 4, 2, 0, 0), (10, .iload 4, 2, 0, 0), (12, .aload_n 0, 1, 0, 0), (13, .getfield 9, 3, 6, 2), (16, .iload_n 1, 1, 0, 0), (17, .iload_n 2, 1, 0, 0), (18, .iadd, 1, 0, 0), (19, .iaload, 1, 0, 0), (20, .if_icmp .ge 22, 3, 42, 0), (23, .aload_n 0, 1, 0, 0), (24, .getfield 9, 3, 6, 2), (27, .iload_n 1, 1, 0, 0), (28, .iload_n 2, 1, 0, 0), (29, .iadd, 1, 0, 0), (30, .iload 4, 2, 0, 0), (32, .iastore, 1, 0, 0), (33, .aload_n 0, 1, 0, 0), (34, .getfield 15, 3, 6, 3), (37, .iload_n 1, 1, 0, 0), (38, .iload_n 2, 1, 0, 0), (39, .iadd, 1, 0, 0), (40, .iload_n 2, 1, 0, 0), (41, .iastore, 1, 0, 0), (42, .return_, 1, 0, 0)]
def kX7_tellSteps : List (Nat × xI) := [(0, .aload_n 1, 1, 0, 0), (1, .invokevirtual 76, 3, 51, 1), (4, .aload_n 0, 1, 0, 0), (5, .getfield 22, 3, 6, 0), (8, .getfield 39, 3, 8, 3), (11, .istore_n 2, 1, 0, 0), (12, .iload_n 2, 1, 0, 0), (13, .ifCond .le 53, 3, 66, 0), (16, .iconst 1, 1, 0, 0), (17, .aload_n 0, 1, 0, 0), (18, .getfield 15, 3, 6, 3), (21, .iload_n 2, 1, 0, 0), (22, .iaload, 1, 0, 0), (23, .invokestatic 82, 3, 1000, 2), (26, .istore_n 3, 1, 0, 0), (27, .iload_n 2, 1, 0, 0), (28, .iload_n 3, 1, 0, 0), (29, .isub, 1, 0, 0), (30, .istore_n 2, 1, 0, 0), (31, .iload_n 3, 1, 0, 0), (32, .iconst 1, 1, 0, 0), (33, .if_icmp .ne 14, 3, 47, 0), (36, .aload_n 1, 1, 0, 0), (37, .iconst 0, 1, 0, 0), (38, .iload_n 2, 1, 0, 0), (39, .iconst 1, 1, 0, 0), (40, .iconst 0, 1, 0, 0), (41, .invokevirtual 87, 3, 52, 5), (44, .goto 19, 3, 63, 0), (47, .aload_n 1, 1, 0, 0), (48, .iconst 1, 1, 0, 0), (49, .iload_n 2, 1, 0, 0), (50, .iload_n 3, 1, 0, 0), (51, .aload_n 0, 1, 0, 0), (52, .getfield 22, 3, 6, 0), (55, .iload_n 2, 1, 0, 0), (56, .iload_n 3, 1, 0, 0), (57, .invokevirtual 52, 3, 70, 3), (60, .invokevirtual 87, 3, 52, 5), (63, .goto (-51), 3, 12, 0), (66, .aload_n 1, 1, 0, 0), (67, .invokevirtual 91, 3, 53, 1), (70, .return_, 1, 0, 0)]
def kX8_init : List (Nat × xI) := [(0, .aload_n 0, 1, 0, 0), (1, .invokespecial 3, 3, 1003, 1), (4, .aload_n 0, 1, 0, 0), (5, .aload_n 1, 1, 0, 0), (6, .putfield 9, 3, 7, 0), (9, .aload_n 0, 1, 0, 0), (10, .iload_n 2, 1, 0, 0), (11, .putfield 15, 3, 7, 1), (14, .return_, 1, 0, 0)]
def kX8_walk_0 : List (Nat × xI) := [(0, .aload_n 1, 1, 0, 0), (1, .invokevirtual 19, 3, 51, 1), (4, .ldc2_w 26, 3, 134480385, 0), (7, .lstore_n 3, 1, 0, 0), (8, .iconst 0, 1, 0, 0), (9, .istore 5, 2, 0, 0), (11, .iload 5, 2, 0, 0), (13, .aload_n 0, 1, 0, 0), (14, .getfield 9, 3, 7, 0), (17, .getfield 28, 3, 8, 3), (20, .if_icmp .ge 132, 3, 152, 0), (23, .aload_n 0, 1, 0, 0), (24, .getfield 9, 3, 7, 0), (27, .iload 5, 2, 0, 0), (29, .invokevirtual 34, 3, 69, 2), (32, .istore 6, 2, 0, 0), (34, .iload 6, 2, 0, 0), (36, .ifCond .eq 15, 3, 51, 0), (39, .aload_n 0, 1, 0, 0), (40, .iload 5, 2, 0, 0), (42, .iload 6, 2, 0, 0), (44, .iload_n 2, 1, 0, 0), (45, .invokevirtual 38, 3, 63, 4), (48, .ifCond .eq 18, 3, 66, 0), (51, .aload_n 1, 1, 0, 0), (52, .iconst 0, 1, 0, 0), (53, .iload 5, 2, 0, 0), (55, .iconst 1, 1, 0, 0), (56, .iconst 0, 1, 0, 0), (57, .invokevirtual 42, 3, 52, 5), (60, .iinc 5 1, 3, 0, 0), (63, .goto (-52), 3, 11, 0), (66, .aload_n 0, 1, 0, 0), (67, .lload_n 3, 1, 0, 0), (68, .iload 5, 2, 0, 0), (70, .iload 6, 2, 0, 0), (72, .invokevirtual 46, 3, 64, 4), (75, .istore 7, 2, 0, 0), (77, .iload 7, 2, 0, 0), (79, .iconst 4, 1, 0, 0), (80, .if_icmp .ge 31, 3, 111, 0), (83, .aload_n 1, 1, 0, 0), (84, .iconst 2, 1, 0, 0), (85, .iload 7, 2, 0, 0), (87, .iadd, 1, 0, 0), (88, .iload 5, 2, 0, 0), (90, .iload 6, 2, 0, 0), (92, .lload_n 3, 1, 0, 0), (93, .iload 7, 2, 0, 0), (95, .invokestatic 50, 3, 27, 2), (98, .invokevirtual 42, 3, 52, 5), (101, .lload_n 3, 1, 0, 0), (102, .iload 7, 2, 0, 0), (104, .invokestatic 54, 3, 29, 2), (107, .lstore_n 3, 1, 0, 0), (108, .goto 34, 3, 142, 0), (111, .aload_n 0, 1, 0, 0), (112, .getfield 9, 3, 7, 0), (115, .iload 5, 2, 0, 0), (117, .iload 6, 2, 0, 0)]
def kX8_walk_1 : List (Nat × xI) := [(119, .invokevirtual 58, 3, 70, 3), (122, .istore 8, 2, 0, 0), (124, .aload_n 1, 1, 0, 0), (125, .iconst 1, 1, 0, 0), (126, .iload 5, 2, 0, 0), (128, .iload 6, 2, 0, 0), (130, .iload 8, 2, 0, 0), (132, .invokevirtual 42, 3, 52, 5), (135, .lload_n 3, 1, 0, 0), (136, .iload 8, 2, 0, 0), (138, .invokestatic 62, 3, 28, 2), (141, .lstore_n 3, 1, 0, 0), (142, .iload 5, 2, 0, 0), (144, .iload 6, 2, 0, 0), (146, .iadd, 1, 0, 0), (147, .istore 5, 2, 0, 0), (149, .goto (-138), 3, 11, 0), (152, .return_, 1, 0, 0)]
def kX8_walk : List (Nat × xI) := kX8_walk_0 ++ (kX8_walk_1)
def kX8_longerAhead : List (Nat × xI) := [(0, .iconst 1, 1, 0, 0), (1, .istore 4, 2, 0, 0), (3, .iload 4, 2, 0, 0), (5, .iload_n 3, 1, 0, 0), (6, .if_icmp .gt 26, 3, 32, 0), (9, .aload_n 0, 1, 0, 0), (10, .getfield 9, 3, 7, 0), (13, .iload_n 1, 1, 0, 0), (14, .iload 4, 2, 0, 0), (16, .iadd, 1, 0, 0), (17, .invokevirtual 34, 3, 69, 2), (20, .iload_n 2, 1, 0, 0), (21, .if_icmp .le 5, 3, 26, 0), (24, .iconst 1, 1, 0, 0), (25, .ireturn, 1, 0, 0), (26, .iinc 4 1, 3, 0, 0), (29, .goto (-26), 3, 3, 0), (32, .iconst 0, 1, 0, 0), (33, .ireturn, 1, 0, 0)]
def kX8_againAsLong : List (Nat × xI) := [(0, .aload_n 0, 1, 0, 0), (1, .getfield 15, 3, 7, 1), (4, .ifCond .ne 5, 3, 9, 0), (7, .iconst 4, 1, 0, 0), (8, .ireturn, 1, 0, 0), (9, .iconst 0, 1, 0, 0), (10, .istore 5, 2, 0, 0), (12, .iload 5, 2, 0, 0), (14, .iconst 4, 1, 0, 0), (15, .if_icmp .ge 28, 3, 43, 0), (18, .aload_n 0, 1, 0, 0), (19, .getfield 9, 3, 7, 0), (22, .iload_n 3, 1, 0, 0), (23, .lload_n 1, 1, 0, 0), (24, .iload 5, 2, 0, 0), (26, .invokestatic 50, 3, 27, 2), (29, .invokevirtual 65, 3, 71, 3), (32, .iload 4, 2, 0, 0), (34, .if_icmp .ge 9, 3, 43, 0), (37, .iinc 5 1, 3, 0, 0), (40, .goto (-28), 3, 12, 0), (43, .iload 5, 2, 0, 0), (45, .ireturn, 1, 0, 0)]
def kX9_init : List (Nat × xI) := [(0, .aload_n 0, 1, 0, 0), (1, .invokespecial 3, 3, 1003, 1), (4, .aload_n 0, 1, 0, 0), (5, .sipush 300, 3, 0, 0), (8, .newarray .int, 2, 0, 0), (10, .putfield 9, 3, 8, 2), (13, .aload_n 0, 1, 0, 0), (14, .sipush 300, 3, 0, 0), (17, .newarray .int, 2, 0, 0), (19, .putfield 15, 3, 8, 4), (22, .aload_n 0, 1, 0, 0), (23, .ldc 18, 2, 44850, 0), (25, .newarray .int, 2, 0, 0), (27, .putfield 19, 3, 8, 5), (30, .aload_n 0, 1, 0, 0), (31, .sipush 300, 3, 0, 0), (34, .newarray .int, 2, 0, 0), (36, .putfield 22, 3, 8, 6), (39, .aload_n 0, 1, 0, 0), (40, .iload_n 1, 1, 0, 0), (41, .ifCond .ne 7, 3, 48, 0), (44, .iconst 3, 1, 0, 0), (45, .goto 13, 3, 58, 0), (48, .iload_n 1, 1, 0, 0), (49, .iconst 1, 1, 0, 0), (50, .if_icmp .ne 7, 3, 57, 0), (53, .iconst 4, 1, 0, 0), (54, .goto 4, 3, 58, 0), (57, .iconst 2, 1, 0, 0), (58, .putfield 25, 3, 8, 0), (61, .aload_n 0, 1, 0, 0), (62, .iload_n 1, 1, 0, 0), (63, .ifCond .ne 9, 3, 72, 0), (66, .sipush 258, 3, 0, 0), (69, .goto 17, 3, 86, 0), (72, .iload_n 1, 1, 0, 0), (73, .iconst 1, 1, 0, 0), (74, .if_icmp .ne 9, 3, 83, 0), (77, .sipush 300, 3, 0, 0), (80, .goto 6, 3, 86, 0), (83, .sipush 273, 3, 0, 0), (86, .putfield 29, 3, 8, 1), (89, .return_, 1, 0, 0)]
def kX9_has : List (Nat × xI) := [(0, .iload_n 1, 1, 0, 0), (1, .ifCond .lt 15, 3, 16, 0), (4, .iload_n 1, 1, 0, 0), (5, .aload_n 0, 1, 0, 0), (6, .getfield 32, 3, 8, 3), (9, .if_icmp .ge 7, 3, 16, 0), (12, .iconst 1, 1, 0, 0), (13, .goto 4, 3, 17, 0), (16, .iconst 0, 1, 0, 0), (17, .ireturn, 1, 0, 0)]
def kX9_append_0 : List (Nat × xI) := [(0, .aload_n 0, 1, 0, 0), (1, .getfield 32, 3, 8, 3), (4, .sipush 300, 3, 0, 0), (7, .if_icmp .lt 4, 3, 11, 0), (10, .return_, 1, 0, 0), (11, .aload_n 0, 1, 0, 0), (12, .getfield 32, 3, 8, 3), (15, .istore_n 2, 1, 0, 0), (16, .aload_n 0, 1, 0, 0), (17, .getfield 9, 3, 8, 2), (20, .iload_n 2, 1, 0, 0), (21, .iload_n 1, 1, 0, 0), (22, .iastore, 1, 0, 0), (23, .aload_n 0, 1, 0, 0), (24, .getfield 22, 3, 8, 6), (27, .iload_n 2, 1, 0, 0), (28, .iconst 0, 1, 0, 0), (29, .iastore, 1, 0, 0), (30, .aload_n 0, 1, 0, 0), (31, .getfield 15, 3, 8, 4), (34, .iload_n 2, 1, 0, 0), (35, .iconst 0, 1, 0, 0), (36, .iastore, 1, 0, 0), (37, .aload_n 0, 1, 0, 0), (38, .dup, 1, 0, 0), (39, .getfield 32, 3, 8, 3), (42, .iconst 1, 1, 0, 0), (43, .iadd, 1, 0, 0), (44, .putfield 32, 3, 8, 3), (47, .iconst 0, 1, 0, 0), (48, .istore_n 3, 1, 0, 0), (49, .iconst 1, 1, 0, 0), (50, .istore 4, 2, 0, 0), (52, .iload 4, 2, 0, 0), (54, .iload_n 2, 1, 0, 0), (55, .if_icmp .gt 71, 3, 126, 0), (58, .aload_n 0, 1, 0, 0), (59, .getfield 15, 3, 8, 4), (62, .iload 4, 2, 0, 0), (64, .aload_n 0, 1, 0, 0), (65, .getfield 9, 3, 8, 2), (68, .iload_n 2, 1, 0, 0), (69, .iload 4, 2, 0, 0), (71, .isub, 1, 0, 0), (72, .iaload, 1, 0, 0), (73, .iload_n 1, 1, 0, 0), (74, .if_icmp .ne 15, 3, 89, 0), (77, .aload_n 0, 1, 0, 0), (78, .getfield 15, 3, 8, 4), (81, .iload 4, 2, 0, 0), (83, .iaload, 1, 0, 0), (84, .iconst 1, 1, 0, 0), (85, .iadd, 1, 0, 0), (86, .goto 4, 3, 90, 0), (89, .iconst 0, 1, 0, 0), (90, .iastore, 1, 0, 0), (91, .aload_n 0, 1, 0, 0), (92, .getfield 15, 3, 8, 4), (95, .iload 4, 2, 0, 0), (97, .iaload, 1, 0, 0)]
def kX9_append_1 : List (Nat × xI) := [(98, .iload_n 3, 1, 0, 0), (99, .if_icmp .le 21, 3, 120, 0), (102, .aload_n 0, 1, 0, 0), (103, .iload_n 2, 1, 0, 0), (104, .iload 4, 2, 0, 0), (106, .iload_n 3, 1, 0, 0), (107, .iconst 1, 1, 0, 0), (108, .iadd, 1, 0, 0), (109, .invokevirtual 35, 3, 68, 4), (112, .aload_n 0, 1, 0, 0), (113, .getfield 15, 3, 8, 4), (116, .iload 4, 2, 0, 0), (118, .iaload, 1, 0, 0), (119, .istore_n 3, 1, 0, 0), (120, .iinc 4 1, 3, 0, 0), (123, .goto (-71), 3, 52, 0), (126, .return_, 1, 0, 0)]
def kX9_append : List (Nat × xI) := kX9_append_0 ++ (kX9_append_1)
def kX9_noteCopies : List (Nat × xI) := [(0, .aload_n 0, 1, 0, 0), (1, .getfield 15, 3, 8, 4), (4, .iload_n 2, 1, 0, 0), (5, .iaload, 1, 0, 0), (6, .aload_n 0, 1, 0, 0), (7, .getfield 29, 3, 8, 1), (10, .invokestatic 39, 3, 1001, 2), (13, .istore 4, 2, 0, 0), (15, .iload_n 3, 1, 0, 0), (16, .istore 5, 2, 0, 0), (18, .iload 5, 2, 0, 0), (20, .iload 4, 2, 0, 0), (22, .if_icmp .gt 34, 3, 56, 0), (25, .aload_n 0, 1, 0, 0), (26, .getfield 19, 3, 8, 5), (29, .iload_n 1, 1, 0, 0), (30, .iload 5, 2, 0, 0), (32, .invokestatic 45, 3, 72, 2), (35, .iload_n 2, 1, 0, 0), (36, .iastore, 1, 0, 0), (37, .aload_n 0, 1, 0, 0), (38, .getfield 22, 3, 8, 6), (41, .iload_n 1, 1, 0, 0), (42, .iload 5, 2, 0, 0), (44, .isub, 1, 0, 0), (45, .iconst 1, 1, 0, 0), (46, .iadd, 1, 0, 0), (47, .iload 5, 2, 0, 0), (49, .iastore, 1, 0, 0), (50, .iinc 5 1, 3, 0, 0), (53, .goto (-35), 3, 18, 0), (56, .return_, 1, 0, 0)]
def kX9_longestCopy : List (Nat × xI) := [(0, .aload_n 0, 1, 0, 0), (1, .iload_n 1, 1, 0, 0), (2, .invokevirtual 48, 3, 66, 2), (5, .ifCond .eq 25, 3, 30, 0), (8, .aload_n 0, 1, 0, 0), (9, .getfield 22, 3, 8, 6), (12, .iload_n 1, 1, 0, 0), (13, .iaload, 1, 0, 0), (14, .aload_n 0, 1, 0, 0), (15, .getfield 25, 3, 8, 0), (18, .if_icmp .lt 12, 3, 30, 0), (21, .aload_n 0, 1, 0, 0), (22, .getfield 22, 3, 8, 6), (25, .iload_n 1, 1, 0, 0), (26, .iaload, 1, 0, 0), (27, .goto 4, 3, 31, 0), (30, .iconst 0, 1, 0, 0), (31, .ireturn, 1, 0, 0)]
def kX9_copyDistance : List (Nat × xI) := [(0, .aload_n 0, 1, 0, 0), (1, .iload_n 1, 1, 0, 0), (2, .invokevirtual 48, 3, 66, 2), (5, .ifCond .eq 21, 3, 26, 0), (8, .iload_n 2, 1, 0, 0), (9, .aload_n 0, 1, 0, 0), (10, .getfield 25, 3, 8, 0), (13, .if_icmp .lt 13, 3, 26, 0), (16, .iload_n 2, 1, 0, 0), (17, .aload_n 0, 1, 0, 0), (18, .getfield 22, 3, 8, 6), (21, .iload_n 1, 1, 0, 0), (22, .iaload, 1, 0, 0), (23, .if_icmp .le 5, 3, 28, 0), (26, .iconst 0, 1, 0, 0), (27, .ireturn, 1, 0, 0), (28, .aload_n 0, 1, 0, 0), (29, .getfield 19, 3, 8, 5), (32, .iload_n 1, 1, 0, 0), (33, .iload_n 2, 1, 0, 0), (34, .iadd, 1, 0, 0), (35, .iconst 1, 1, 0, 0), (36, .isub, 1, 0, 0), (37, .iload_n 2, 1, 0, 0), (38, .invokestatic 45, 3, 72, 2), (41, .iaload, 1, 0, 0), (42, .ireturn, 1, 0, 0)]
def kX9_sameBy : List (Nat × xI) := [(0, .iload_n 2, 1, 0, 0), (1, .iconst 1, 1, 0, 0), (2, .if_icmp .lt 8, 3, 10, 0), (5, .iload_n 2, 1, 0, 0), (6, .iload_n 1, 1, 0, 0), (7, .if_icmp .le 5, 3, 12, 0), (10, .iconst 0, 1, 0, 0), (11, .ireturn, 1, 0, 0), (12, .aload_n 0, 1, 0, 0), (13, .getfield 32, 3, 8, 3), (16, .iload_n 1, 1, 0, 0), (17, .isub, 1, 0, 0), (18, .aload_n 0, 1, 0, 0), (19, .getfield 29, 3, 8, 1), (22, .invokestatic 39, 3, 1001, 2), (25, .istore_n 3, 1, 0, 0), (26, .iconst 0, 1, 0, 0), (27, .istore 4, 2, 0, 0), (29, .iload 4, 2, 0, 0), (31, .iload_n 3, 1, 0, 0), (32, .if_icmp .ge 32, 3, 64, 0), (35, .aload_n 0, 1, 0, 0), (36, .getfield 9, 3, 8, 2), (39, .iload_n 1, 1, 0, 0), (40, .iload 4, 2, 0, 0), (42, .iadd, 1, 0, 0), (43, .iaload, 1, 0, 0), (44, .aload_n 0, 1, 0, 0), (45, .getfield 9, 3, 8, 2), (48, .iload_n 1, 1, 0, 0), (49, .iload 4, 2, 0, 0), (51, .iadd, 1, 0, 0), (52, .iload_n 2, 1, 0, 0), (53, .isub, 1, 0, 0), (54, .iaload, 1, 0, 0), (55, .if_icmp .ne 9, 3, 64, 0), (58, .iinc 4 1, 3, 0, 0), (61, .goto (-32), 3, 29, 0), (64, .iload 4, 2, 0, 0), (66, .ireturn, 1, 0, 0)]
def kX9_nearestIndex : List (Nat × xI) := [(0, .iload_n 0, 1, 0, 0), (1, .iload_n 0, 1, 0, 0), (2, .iconst 1, 1, 0, 0), (3, .isub, 1, 0, 0), (4, .imul, 1, 0, 0), (5, .iconst 2, 1, 0, 0), (6, .idiv, 1, 0, 0), (7, .iload_n 1, 1, 0, 0), (8, .iadd, 1, 0, 0), (9, .iconst 1, 1, 0, 0), (10, .isub, 1, 0, 0), (11, .ireturn, 1, 0, 0)]
def kX10_init_0 : List (Nat × xI) := [(0, .aload_n 0, 1, 0, 0), (1, .invokespecial 1, 3, 1003, 1), (4, .aload_n 0, 1, 0, 0), (5, .iconst 0, 1, 0, 0), (6, .iload_n 1, 1, 0, 0), (7, .iconst 2, 1, 0, 0), (8, .invokestatic 9, 3, 1001, 2), (11, .invokestatic 15, 3, 1000, 2), (14, .putfield 18, 3, 9, 0), (17, .aload_n 0, 1, 0, 0), (18, .new 22, 3, 8, 0), (21, .dup, 1, 0, 0), (22, .aload_n 0, 1, 0, 0), (23, .getfield 18, 3, 9, 0), (26, .invokespecial 24, 3, 65, 2), (29, .putfield 27, 3, 9, 1), (32, .aload_n 0, 1, 0, 0), (33, .new 31, 3, 2, 0), (36, .dup, 1, 0, 0), (37, .aload_n 0, 1, 0, 0), (38, .getfield 18, 3, 9, 0), (41, .invokespecial 33, 3, 7, 2), (44, .putfield 34, 3, 9, 2), (47, .aload_n 0, 1, 0, 0), (48, .new 31, 3, 2, 0), (51, .dup, 1, 0, 0), (52, .aload_n 0, 1, 0, 0), (53, .getfield 18, 3, 9, 0), (56, .invokespecial 33, 3, 7, 2), (59, .putfield 38, 3, 9, 3), (62, .aload_n 0, 1, 0, 0), (63, .getfield 18, 3, 9, 0), (66, .ifCond .ne 25, 3, 91, 0), (69, .aload_n 0, 1, 0, 0), (70, .new 41, 3, 6, 0), (73, .dup, 1, 0, 0), (74, .aload_n 0, 1, 0, 0), (75, .getfield 27, 3, 9, 1), (78, .aload_n 0, 1, 0, 0), (79, .getfield 34, 3, 9, 2), (82, .invokespecial 43, 3, 57, 3), (85, .putfield 46, 3, 9, 4), (88, .goto 52, 3, 140, 0), (91, .aload_n 0, 1, 0, 0), (92, .getfield 18, 3, 9, 0), (95, .iconst 1, 1, 0, 0), (96, .if_icmp .ne 25, 3, 121, 0), (99, .aload_n 0, 1, 0, 0), (100, .new 50, 3, 4, 0), (103, .dup, 1, 0, 0), (104, .aload_n 0, 1, 0, 0), (105, .getfield 27, 3, 9, 1), (108, .aload_n 0, 1, 0, 0), (109, .getfield 34, 3, 9, 2), (112, .invokespecial 52, 3, 41, 3), (115, .putfield 46, 3, 9, 4), (118, .goto 22, 3, 140, 0), (121, .aload_n 0, 1, 0, 0), (122, .new 53, 3, 3, 0), (125, .dup, 1, 0, 0)]
def kX10_init_1 : List (Nat × xI) := [(126, .aload_n 0, 1, 0, 0), (127, .getfield 27, 3, 9, 1), (130, .aload_n 0, 1, 0, 0), (131, .getfield 34, 3, 9, 2), (134, .invokespecial 55, 3, 30, 3), (137, .putfield 46, 3, 9, 4), (140, .aload_n 0, 1, 0, 0), (141, .new 56, 3, 7, 0), (144, .dup, 1, 0, 0), (145, .aload_n 0, 1, 0, 0), (146, .getfield 27, 3, 9, 1), (149, .aload_n 0, 1, 0, 0), (150, .getfield 18, 3, 9, 0), (153, .iconst 2, 1, 0, 0), (154, .if_icmp .ne 7, 3, 161, 0), (157, .iconst 1, 1, 0, 0), (158, .goto 4, 3, 162, 0), (161, .iconst 0, 1, 0, 0), (162, .invokespecial 58, 3, 61, 3), (165, .putfield 61, 3, 9, 5), (168, .aload_n 0, 1, 0, 0), (169, .new 65, 3, 1, 0), (172, .dup, 1, 0, 0), (173, .aload_n 0, 1, 0, 0), (174, .getfield 27, 3, 9, 1), (177, .invokespecial 67, 3, 0, 2), (180, .putfield 70, 3, 9, 6), (183, .aload_n 0, 1, 0, 0), (184, .new 74, 3, 5, 0), (187, .dup, 1, 0, 0), (188, .invokespecial 76, 3, 49, 1), (191, .putfield 77, 3, 9, 7), (194, .aload_n 0, 1, 0, 0), (195, .new 74, 3, 5, 0), (198, .dup, 1, 0, 0), (199, .invokespecial 76, 3, 49, 1), (202, .putfield 81, 3, 9, 8), (205, .aload_n 0, 1, 0, 0), (206, .bipush 8, 2, 0, 0), (208, .putfield 84, 3, 9, 10), (211, .return_, 1, 0, 0)]
def kX10_init : List (Nat × xI) := kX10_init_0 ++ (kX10_init_1)
def kX10_octets : List (Nat × xI) := [(0, .iload_n 1, 1, 0, 0), (1, .iconst 1, 1, 0, 0), (2, .if_icmp .lt 24, 3, 26, 0), (5, .iload_n 1, 1, 0, 0), (6, .bipush 8, 2, 0, 0), (8, .if_icmp .gt 18, 3, 26, 0), (11, .aload_n 0, 1, 0, 0), (12, .getfield 27, 3, 9, 1), (15, .getfield 87, 3, 8, 3), (18, .iload_n 1, 1, 0, 0), (19, .iadd, 1, 0, 0), (20, .sipush 300, 3, 0, 0), (23, .if_icmp .le 5, 3, 28, 0), (26, .iconst (-1), 1, 0, 0), (27, .ireturn, 1, 0, 0), (28, .iconst 0, 1, 0, 0), (29, .istore 4, 2, 0, 0), (31, .iload 4, 2, 0, 0), (33, .iload_n 1, 1, 0, 0), (34, .if_icmp .ge 28, 3, 62, 0), (37, .aload_n 0, 1, 0, 0), (38, .getfield 27, 3, 9, 1), (41, .lload_n 2, 1, 0, 0), (42, .bipush 8, 2, 0, 0), (44, .iload 4, 2, 0, 0), (46, .imul, 1, 0, 0), (47, .lushr, 1, 0, 0), (48, .l2i, 1, 0, 0), (49, .sipush 255, 3, 0, 0), (52, .iand, 1, 0, 0), (53, .invokevirtual 90, 3, 67, 2), (56, .iinc 4 1, 3, 0, 0), (59, .goto (-28), 3, 31, 0), (62, .aload_n 0, 1, 0, 0), (63, .iconst 0, 1, 0, 0), (64, .putfield 93, 3, 9, 9), (67, .aload_n 0, 1, 0, 0), (68, .getfield 27, 3, 9, 1), (71, .getfield 87, 3, 8, 3), (74, .ireturn, 1, 0, 0)]
def kX10_cost : List (Nat × xI) := [(0, .aload_n 0, 1, 0, 0), (1, .getfield 34, 3, 9, 2), (4, .iload_n 1, 1, 0, 0), (5, .iload_n 2, 1, 0, 0), (6, .invokevirtual 97, 3, 9, 3), (9, .ifCond .eq 15, 3, 24, 0), (12, .iload_n 3, 1, 0, 0), (13, .iconst 1, 1, 0, 0), (14, .if_icmp .lt 10, 3, 24, 0), (17, .iload_n 3, 1, 0, 0), (18, .sipush 10000, 3, 0, 0), (21, .if_icmp .le 5, 3, 26, 0), (24, .iconst (-1), 1, 0, 0), (25, .ireturn, 1, 0, 0), (26, .aload_n 0, 1, 0, 0), (27, .getfield 34, 3, 9, 2), (30, .iload_n 1, 1, 0, 0), (31, .iload_n 2, 1, 0, 0), (32, .invokevirtual 101, 3, 10, 3), (35, .istore 4, 2, 0, 0), (37, .aload_n 0, 1, 0, 0), (38, .getfield 34, 3, 9, 2), (41, .iload_n 1, 1, 0, 0), (42, .iload_n 2, 1, 0, 0), (43, .iload_n 3, 1, 0, 0), (44, .invokevirtual 104, 3, 11, 4), (47, .iload 4, 2, 0, 0), (49, .ireturn, 1, 0, 0)]
def kX10_price : List (Nat × xI) := [(0, .aload_n 0, 1, 0, 0), (1, .getfield 34, 3, 9, 2), (4, .iload_n 1, 1, 0, 0), (5, .iload_n 2, 1, 0, 0), (6, .invokevirtual 97, 3, 9, 3), (9, .ifCond .eq 15, 3, 24, 0), (12, .aload_n 0, 1, 0, 0), (13, .getfield 34, 3, 9, 2), (16, .iload_n 1, 1, 0, 0), (17, .iload_n 2, 1, 0, 0), (18, .invokevirtual 101, 3, 10, 3), (21, .goto 4, 3, 25, 0), (24, .iconst (-1), 1, 0, 0), (25, .ireturn, 1, 0, 0)]
def kX10_keep : List (Nat × xI) := [(0, .iload_n 1, 1, 0, 0), (1, .iconst 1, 1, 0, 0), (2, .if_icmp .lt 17, 3, 19, 0), (5, .iload_n 1, 1, 0, 0), (6, .bipush 40, 2, 0, 0), (8, .if_icmp .gt 11, 3, 19, 0), (11, .aload_n 0, 1, 0, 0), (12, .getfield 18, 3, 9, 0), (15, .iconst 2, 1, 0, 0), (16, .if_icmp .eq 5, 3, 21, 0), (19, .iconst (-1), 1, 0, 0), (20, .ireturn, 1, 0, 0), (21, .aload_n 0, 1, 0, 0), (22, .getfield 84, 3, 9, 10), (25, .istore_n 2, 1, 0, 0), (26, .aload_n 0, 1, 0, 0), (27, .iload_n 1, 1, 0, 0), (28, .putfield 84, 3, 9, 10), (31, .iload_n 2, 1, 0, 0), (32, .ireturn, 1, 0, 0)]
def kX10_parse : List (Nat × xI) := [(0, .iload_n 1, 1, 0, 0), (1, .ifCond .lt 8, 3, 9, 0), (4, .iload_n 1, 1, 0, 0), (5, .iconst 3, 1, 0, 0), (6, .if_icmp .le 5, 3, 11, 0), (9, .iconst (-1), 1, 0, 0), (10, .ireturn, 1, 0, 0), (11, .iload_n 1, 1, 0, 0), (12, .iconst 3, 1, 0, 0), (13, .if_icmp .ne 14, 3, 27, 0), (16, .aload_n 0, 1, 0, 0), (17, .aload_n 0, 1, 0, 0), (18, .getfield 77, 3, 9, 7), (21, .invokevirtual 108, 3, 92, 2), (24, .goto 38, 3, 62, 0), (27, .aload_n 0, 1, 0, 0), (28, .getfield 61, 3, 9, 5), (31, .aload_n 0, 1, 0, 0), (32, .getfield 77, 3, 9, 7), (35, .iload_n 1, 1, 0, 0), (36, .invokevirtual 112, 3, 62, 3), (39, .aload_n 0, 1, 0, 0), (40, .getfield 77, 3, 9, 7), (43, .aload_n 0, 1, 0, 0), (44, .getfield 27, 3, 9, 1), (47, .aload_n 0, 1, 0, 0), (48, .getfield 46, 3, 9, 4), (51, .aload_n 0, 1, 0, 0), (52, .getfield 77, 3, 9, 7), (55, .invokevirtual 116, 3, 2000, 2), (58, .iconst 0, 1, 0, 0), (59, .invokevirtual 122, 3, 55, 4), (62, .aload_n 0, 1, 0, 0), (63, .iconst 1, 1, 0, 0), (64, .putfield 93, 3, 9, 9), (67, .aload_n 0, 1, 0, 0), (68, .getfield 77, 3, 9, 7), (71, .getfield 126, 3, 5, 5), (74, .ireturn, 1, 0, 0)]
def kX10_step : List (Nat × xI) := [(0, .aload_n 0, 1, 0, 0), (1, .getfield 93, 3, 9, 9), (4, .ifCond .eq 14, 3, 18, 0), (7, .aload_n 0, 1, 0, 0), (8, .getfield 77, 3, 9, 7), (11, .iload_n 1, 1, 0, 0), (12, .invokevirtual 129, 3, 50, 2), (15, .ifCond .ne 5, 3, 20, 0), (18, .iconst (-1), 1, 0, 0), (19, .ireturn, 1, 0, 0), (20, .iload_n 2, 1, 0, 0), (21, .tableswitch 71 0 3 #[31, 41, 51, 61], 31, 0, 0), (52, .aload_n 0, 1, 0, 0), (53, .getfield 77, 3, 9, 7), (56, .getfield 133, 3, 5, 0), (59, .iload_n 1, 1, 0, 0), (60, .iaload, 1, 0, 0), (61, .ireturn, 1, 0, 0), (62, .aload_n 0, 1, 0, 0), (63, .getfield 77, 3, 9, 7), (66, .getfield 137, 3, 5, 1), (69, .iload_n 1, 1, 0, 0), (70, .iaload, 1, 0, 0), (71, .ireturn, 1, 0, 0), (72, .aload_n 0, 1, 0, 0), (73, .getfield 77, 3, 9, 7), (76, .getfield 140, 3, 5, 2), (79, .iload_n 1, 1, 0, 0), (80, .iaload, 1, 0, 0), (81, .ireturn, 1, 0, 0), (82, .aload_n 0, 1, 0, 0), (83, .getfield 77, 3, 9, 7), (86, .getfield 143, 3, 5, 3), (89, .iload_n 1, 1, 0, 0), (90, .iaload, 1, 0, 0), (91, .ireturn, 1, 0, 0), (92, .iconst (-1), 1, 0, 0), (93, .ireturn, 1, 0, 0)]
def kX10_sum : List (Nat × xI) := [(0, .aload_n 0, 1, 0, 0), (1, .getfield 93, 3, 9, 9), (4, .ifCond .eq 13, 3, 17, 0), (7, .aload_n 0, 1, 0, 0), (8, .getfield 77, 3, 9, 7), (11, .getfield 146, 3, 5, 6), (14, .goto 6, 3, 20, 0), (17, .ldc2_w 150, 3, 18446744073709551615, 0), (20, .lreturn, 1, 0, 0)]
def kX10_again : List (Nat × xI) := [(0, .aload_n 0, 1, 0, 0), (1, .getfield 93, 3, 9, 9), (4, .ifCond .eq 17, 3, 21, 0), (7, .aload_n 0, 1, 0, 0), (8, .getfield 46, 3, 9, 4), (11, .aload_n 0, 1, 0, 0), (12, .getfield 77, 3, 9, 7), (15, .invokevirtual 116, 3, 2000, 2), (18, .goto 6, 3, 24, 0), (21, .ldc2_w 150, 3, 18446744073709551615, 0), (24, .lreturn, 1, 0, 0)]
def kX10_least : List (Nat × xI) := [(0, .aload_n 0, 1, 0, 0), (1, .getfield 93, 3, 9, 9), (4, .ifCond .eq 17, 3, 21, 0), (7, .aload_n 0, 1, 0, 0), (8, .getfield 77, 3, 9, 7), (11, .getfield 152, 3, 5, 7), (14, .ifCond .eq 7, 3, 21, 0), (17, .iconst 1, 1, 0, 0), (18, .goto 4, 3, 22, 0), (21, .iconst 0, 1, 0, 0), (22, .ireturn, 1, 0, 0)]
def kX10_told : List (Nat × xI) := [(0, .aload_n 0, 1, 0, 0), (1, .getfield 93, 3, 9, 9), (4, .ifCond .eq 26, 3, 30, 0), (7, .aload_n 0, 1, 0, 0), (8, .getfield 27, 3, 9, 1), (11, .iload_n 1, 1, 0, 0), (12, .invokevirtual 155, 3, 66, 2), (15, .ifCond .eq 15, 3, 30, 0), (18, .aload_n 0, 1, 0, 0), (19, .getfield 77, 3, 9, 7), (22, .getfield 157, 3, 5, 4), (25, .iload_n 1, 1, 0, 0), (26, .iaload, 1, 0, 0), (27, .goto 4, 3, 31, 0), (30, .iconst (-1), 1, 0, 0), (31, .ireturn, 1, 0, 0)]
def kX10_rounds_0 : List (Nat × xI) := [(0, .iload_n 1, 1, 0, 0), (1, .iconst 1, 1, 0, 0), (2, .if_icmp .lt 27, 3, 29, 0), (5, .iload_n 1, 1, 0, 0), (6, .bipush 8, 2, 0, 0), (8, .if_icmp .gt 21, 3, 29, 0), (11, .aload_n 0, 1, 0, 0), (12, .getfield 18, 3, 9, 0), (15, .iconst 1, 1, 0, 0), (16, .if_icmp .eq 13, 3, 29, 0), (19, .aload_n 0, 1, 0, 0), (20, .getfield 27, 3, 9, 1), (23, .getfield 87, 3, 8, 3), (26, .ifCond .ne 7, 3, 33, 0), (29, .ldc2_w 150, 3, 18446744073709551615, 0), (32, .lreturn, 1, 0, 0), (33, .lconst 0, 1, 0, 0), (34, .lstore_n 2, 1, 0, 0), (35, .iconst 0, 1, 0, 0), (36, .istore 4, 2, 0, 0), (38, .iload 4, 2, 0, 0), (40, .iload_n 1, 1, 0, 0), (41, .if_icmp .ge 75, 3, 116, 0), (44, .aload_n 0, 1, 0, 0), (45, .aload_n 0, 1, 0, 0), (46, .getfield 81, 3, 9, 8), (49, .invokevirtual 108, 3, 92, 2), (52, .aload_n 0, 1, 0, 0), (53, .getfield 34, 3, 9, 2), (56, .aload_n 0, 1, 0, 0), (57, .getfield 81, 3, 9, 8), (60, .aload_n 0, 1, 0, 0), (61, .getfield 27, 3, 9, 1), (64, .invokevirtual 160, 3, 21, 3), (67, .aload_n 0, 1, 0, 0), (68, .getfield 46, 3, 9, 4), (71, .aload_n 0, 1, 0, 0), (72, .getfield 81, 3, 9, 8), (75, .invokevirtual 116, 3, 2000, 2), (78, .lstore 5, 2, 0, 0), (80, .iload 4, 2, 0, 0), (82, .ifCond .eq 10, 3, 92, 0), (85, .lload 5, 2, 0, 0), (87, .lload_n 2, 1, 0, 0), (88, .lcmp, 1, 0, 0), (89, .ifCond .ge 21, 3, 110, 0), (92, .lload 5, 2, 0, 0), (94, .lstore_n 2, 1, 0, 0), (95, .aload_n 0, 1, 0, 0), (96, .getfield 38, 3, 9, 3), (99, .aload_n 0, 1, 0, 0), (100, .getfield 34, 3, 9, 2), (103, .invokevirtual 164, 3, 12, 2), (106, .aload_n 0, 1, 0, 0), (107, .invokevirtual 168, 3, 93, 1), (110, .iinc 4 1, 3, 0, 0), (113, .goto (-75), 3, 38, 0), (116, .aload_n 0, 1, 0, 0), (117, .getfield 34, 3, 9, 2), (120, .aload_n 0, 1, 0, 0)]
def kX10_rounds_1 : List (Nat × xI) := [(121, .getfield 38, 3, 9, 3), (124, .invokevirtual 164, 3, 12, 2), (127, .aload_n 0, 1, 0, 0), (128, .iconst 1, 1, 0, 0), (129, .putfield 93, 3, 9, 9), (132, .lload_n 2, 1, 0, 0), (133, .lreturn, 1, 0, 0)]
def kX10_rounds : List (Nat × xI) := kX10_rounds_0 ++ (kX10_rounds_1)
def kX10_longest : List (Nat × xI) := [(0, .aload_n 0, 1, 0, 0), (1, .getfield 27, 3, 9, 1), (4, .iload_n 1, 1, 0, 0), (5, .invokevirtual 155, 3, 66, 2), (8, .ifCond .eq 14, 3, 22, 0), (11, .aload_n 0, 1, 0, 0), (12, .getfield 27, 3, 9, 1), (15, .iload_n 1, 1, 0, 0), (16, .invokevirtual 171, 3, 69, 2), (19, .goto 4, 3, 23, 0), (22, .iconst (-1), 1, 0, 0), (23, .ireturn, 1, 0, 0)]
def kX10_distance : List (Nat × xI) := [(0, .aload_n 0, 1, 0, 0), (1, .getfield 27, 3, 9, 1), (4, .iload_n 1, 1, 0, 0), (5, .iload_n 2, 1, 0, 0), (6, .invokevirtual 175, 3, 70, 3), (9, .istore_n 3, 1, 0, 0), (10, .iload_n 3, 1, 0, 0), (11, .ifCond .le 7, 3, 18, 0), (14, .iload_n 3, 1, 0, 0), (15, .goto 4, 3, 19, 0), (18, .iconst (-1), 1, 0, 0), (19, .ireturn, 1, 0, 0)]
def kX10_cut : List (Nat × xI) := [(0, .aload_n 0, 1, 0, 0), (1, .getfield 70, 3, 9, 6), (4, .iload_n 1, 1, 0, 0), (5, .invokevirtual 178, 3, 2, 2), (8, .ifCond .eq 13, 3, 21, 0), (11, .aload_n 0, 1, 0, 0), (12, .getfield 70, 3, 9, 6), (15, .getfield 181, 3, 1, 2), (18, .goto 4, 3, 22, 0), (21, .iconst (-1), 1, 0, 0), (22, .ireturn, 1, 0, 0)]
def kX10_split : List (Nat × xI) := [(0, .iload_n 1, 1, 0, 0), (1, .ifCond .lt 19, 3, 20, 0), (4, .iload_n 1, 1, 0, 0), (5, .ldc 184, 2, 100000, 0), (7, .if_icmp .gt 13, 3, 20, 0), (10, .aload_n 0, 1, 0, 0), (11, .getfield 27, 3, 9, 1), (14, .getfield 87, 3, 8, 3), (17, .ifCond .ne 7, 3, 24, 0), (20, .ldc2_w 150, 3, 18446744073709551615, 0), (23, .lreturn, 1, 0, 0), (24, .aload_n 0, 1, 0, 0), (25, .getfield 70, 3, 9, 6), (28, .iload_n 1, 1, 0, 0), (29, .invokevirtual 185, 3, 3, 2), (32, .lreturn, 1, 0, 0)]
def kX10_taken : List (Nat × xI) := [(0, .iload_n 1, 1, 0, 0), (1, .ifCond .lt 26, 3, 27, 0), (4, .iload_n 1, 1, 0, 0), (5, .aload_n 0, 1, 0, 0), (6, .getfield 70, 3, 9, 6), (9, .getfield 189, 3, 1, 4), (12, .if_icmp .ge 15, 3, 27, 0), (15, .aload_n 0, 1, 0, 0), (16, .getfield 70, 3, 9, 6), (19, .getfield 192, 3, 1, 3), (22, .iload_n 1, 1, 0, 0), (23, .iaload, 1, 0, 0), (24, .goto 4, 3, 28, 0), (27, .iconst (-1), 1, 0, 0), (28, .ireturn, 1, 0, 0)]
def kX10_many : List (Nat × xI) := [(0, .iload_n 1, 1, 0, 0), (1, .tableswitch 101 0 6 #[43, 51, 70, 78, 86, 91, 96], 43, 0, 0), (44, .aload_n 0, 1, 0, 0), (45, .getfield 27, 3, 9, 1), (48, .getfield 87, 3, 8, 3), (51, .ireturn, 1, 0, 0), (52, .aload_n 0, 1, 0, 0), (53, .getfield 93, 3, 9, 9), (56, .ifCond .eq 13, 3, 69, 0), (59, .aload_n 0, 1, 0, 0), (60, .getfield 77, 3, 9, 7), (63, .getfield 126, 3, 5, 5), (66, .goto 4, 3, 70, 0), (69, .iconst 0, 1, 0, 0), (70, .ireturn, 1, 0, 0), (71, .aload_n 0, 1, 0, 0), (72, .getfield 70, 3, 9, 6), (75, .getfield 181, 3, 1, 2), (78, .ireturn, 1, 0, 0), (79, .aload_n 0, 1, 0, 0), (80, .getfield 70, 3, 9, 6), (83, .getfield 189, 3, 1, 4), (86, .ireturn, 1, 0, 0), (87, .aload_n 0, 1, 0, 0), (88, .getfield 195, 3, 9, 11), (91, .ireturn, 1, 0, 0), (92, .aload_n 0, 1, 0, 0), (93, .getfield 84, 3, 9, 10), (96, .ireturn, 1, 0, 0), (97, .aload_n 0, 1, 0, 0), (98, .getfield 18, 3, 9, 0), (101, .ireturn, 1, 0, 0), (102, .iconst (-1), 1, 0, 0), (103, .ireturn, 1, 0, 0)]
def kX10_clear : List (Nat × xI) := [(0, .aload_n 0, 1, 0, 0), (1, .getfield 27, 3, 9, 1), (4, .iconst 0, 1, 0, 0), (5, .putfield 87, 3, 8, 3), (8, .aload_n 0, 1, 0, 0), (9, .getfield 70, 3, 9, 6), (12, .invokevirtual 198, 3, 1, 1), (15, .aload_n 0, 1, 0, 0), (16, .getfield 34, 3, 9, 2), (19, .invokevirtual 201, 3, 8, 1), (22, .aload_n 0, 1, 0, 0), (23, .iconst 0, 1, 0, 0), (24, .putfield 93, 3, 9, 9), (27, .aload_n 0, 1, 0, 0), (28, .bipush 8, 2, 0, 0), (30, .putfield 84, 3, 9, 10), (33, .aload_n 0, 1, 0, 0), (34, .iconst 0, 1, 0, 0), (35, .putfield 195, 3, 9, 11), (38, .return_, 1, 0, 0)]
def kX10_findBest : List (Nat × xI) := [(0, .aload_n 0, 1, 0, 0), (1, .aload_n 0, 1, 0, 0), (2, .getfield 46, 3, 9, 4), (5, .aload_n 1, 1, 0, 0), (6, .aload_n 0, 1, 0, 0), (7, .getfield 84, 3, 9, 10), (10, .invokevirtual 214, 3, 2001, 3), (13, .putfield 195, 3, 9, 11), (16, .aload_n 1, 1, 0, 0), (17, .aload_n 0, 1, 0, 0), (18, .getfield 27, 3, 9, 1), (21, .aload_n 0, 1, 0, 0), (22, .getfield 46, 3, 9, 4), (25, .aload_n 1, 1, 0, 0), (26, .invokevirtual 116, 3, 2000, 2), (29, .aload_n 0, 1, 0, 0), (30, .getfield 195, 3, 9, 11), (33, .ifCond .ne 7, 3, 40, 0), (36, .iconst 1, 1, 0, 0), (37, .goto 4, 3, 41, 0), (40, .iconst 0, 1, 0, 0), (41, .invokevirtual 122, 3, 55, 4), (44, .return_, 1, 0, 0)]
def kX10_takeSpare : List (Nat × xI) := [(0, .aload_n 0, 1, 0, 0), (1, .getfield 77, 3, 9, 7), (4, .astore_n 1, 1, 0, 0), (5, .aload_n 0, 1, 0, 0), (6, .aload_n 0, 1, 0, 0), (7, .getfield 81, 3, 9, 8), (10, .putfield 77, 3, 9, 7), (13, .aload_n 0, 1, 0, 0), (14, .aload_n 1, 1, 0, 0), (15, .putfield 81, 3, 9, 8), (18, .return_, 1, 0, 0)]
def kX10_logOf : List (Nat × xI) := [(0, .iload_n 0, 1, 0, 0), (1, .iconst 1, 1, 0, 0), (2, .if_icmp .ge 5, 3, 7, 0), (5, .iconst 0, 1, 0, 0), (6, .ireturn, 1, 0, 0), (7, .iload_n 0, 1, 0, 0), (8, .invokestatic 217, 3, 95, 1), (11, .istore_n 1, 1, 0, 0), (12, .bipush 64, 2, 0, 0), (14, .iload_n 1, 1, 0, 0), (15, .imul, 1, 0, 0), (16, .bipush 64, 2, 0, 0), (18, .iload_n 0, 1, 0, 0), (19, .imul, 1, 0, 0), (20, .iload_n 1, 1, 0, 0), (21, .ishr, 1, 0, 0), (22, .iadd, 1, 0, 0), (23, .bipush 64, 2, 0, 0), (25, .isub, 1, 0, 0), (26, .ireturn, 1, 0, 0)]
def kX10_highestBit : List (Nat × xI) := [(0, .iconst 0, 1, 0, 0), (1, .istore_n 1, 1, 0, 0), (2, .iload_n 1, 1, 0, 0), (3, .bipush 30, 2, 0, 0), (5, .if_icmp .ge 17, 3, 22, 0), (8, .iload_n 0, 1, 0, 0), (9, .iload_n 1, 1, 0, 0), (10, .iconst 1, 1, 0, 0), (11, .iadd, 1, 0, 0), (12, .ishr, 1, 0, 0), (13, .ifCond .le 9, 3, 22, 0), (16, .iinc 1 1, 3, 0, 0), (19, .goto (-17), 3, 2, 0), (22, .iload_n 1, 1, 0, 0), (23, .ireturn, 1, 0, 0)]
def kX11_init_0 : List (Nat × xI) := [(0, .aload_n 0, 1, 0, 0), (1, .invokespecial 1, 3, 1003, 1), (4, .aload_n 0, 1, 0, 0), (5, .sipush 301, 3, 0, 0), (8, .newarray .int, 2, 0, 0), (10, .putfield 7, 3, 10, 2), (13, .aload_n 0, 1, 0, 0), (14, .sipush 1024, 3, 0, 0), (17, .newarray .int, 2, 0, 0), (19, .putfield 13, 3, 10, 4), (22, .aload_n 0, 1, 0, 0), (23, .bipush 8, 2, 0, 0), (25, .putfield 16, 3, 10, 5), (28, .aload_n 0, 1, 0, 0), (29, .bipush 12, 2, 0, 0), (31, .newarray .int, 2, 0, 0), (33, .putfield 20, 3, 10, 6), (36, .aload_n 0, 1, 0, 0), (37, .bipush 12, 2, 0, 0), (39, .newarray .int, 2, 0, 0), (41, .putfield 23, 3, 10, 8), (44, .aload_n 0, 1, 0, 0), (45, .sipush 301, 3, 0, 0), (48, .newarray .int, 2, 0, 0), (50, .putfield 26, 3, 10, 12), (53, .aload_n 0, 1, 0, 0), (54, .sipush 301, 3, 0, 0), (57, .newarray .int, 2, 0, 0), (59, .putfield 29, 3, 10, 13), (62, .aload_n 0, 1, 0, 0), (63, .sipush 301, 3, 0, 0), (66, .newarray .int, 2, 0, 0), (68, .putfield 32, 3, 10, 14), (71, .aload_n 0, 1, 0, 0), (72, .sipush 301, 3, 0, 0), (75, .newarray .int, 2, 0, 0), (77, .putfield 35, 3, 10, 15), (80, .aload_n 0, 1, 0, 0), (81, .ldc 38, 2, 90601, 0), (83, .newarray .int, 2, 0, 0), (85, .putfield 39, 3, 10, 19), (88, .aload_n 0, 1, 0, 0), (89, .ldc 38, 2, 90601, 0), (91, .newarray .int, 2, 0, 0), (93, .putfield 42, 3, 10, 20), (96, .aload_n 0, 1, 0, 0), (97, .iconst 4, 1, 0, 0), (98, .newarray .int, 2, 0, 0), (100, .putfield 45, 3, 10, 21), (103, .aload_n 0, 1, 0, 0), (104, .ldc 38, 2, 90601, 0), (106, .newarray .int, 2, 0, 0), (108, .putfield 48, 3, 10, 23), (111, .aload_n 0, 1, 0, 0), (112, .sipush 301, 3, 0, 0), (115, .newarray .int, 2, 0, 0), (117, .putfield 51, 3, 10, 24), (120, .aload_n 0, 1, 0, 0), (121, .sipush 301, 3, 0, 0), (124, .newarray .int, 2, 0, 0)]
def kX11_init_1 : List (Nat × xI) := [(126, .putfield 54, 3, 10, 25), (129, .aload_n 0, 1, 0, 0), (130, .sipush 301, 3, 0, 0), (133, .newarray .int, 2, 0, 0), (135, .putfield 57, 3, 10, 26), (138, .aload_n 0, 1, 0, 0), (139, .sipush 301, 3, 0, 0), (142, .newarray .boolean, 2, 0, 0), (144, .putfield 60, 3, 10, 27), (147, .aload_n 0, 1, 0, 0), (148, .sipush 301, 3, 0, 0), (151, .newarray .int, 2, 0, 0), (153, .putfield 64, 3, 10, 28), (156, .aload_n 0, 1, 0, 0), (157, .sipush 301, 3, 0, 0), (160, .newarray .int, 2, 0, 0), (162, .putfield 67, 3, 10, 29), (165, .aload_n 0, 1, 0, 0), (166, .sipush 301, 3, 0, 0), (169, .newarray .int, 2, 0, 0), (171, .putfield 70, 3, 10, 30), (174, .aload_n 0, 1, 0, 0), (175, .sipush 301, 3, 0, 0), (178, .newarray .int, 2, 0, 0), (180, .putfield 73, 3, 10, 31), (183, .aload_n 0, 1, 0, 0), (184, .sipush 301, 3, 0, 0), (187, .newarray .int, 2, 0, 0), (189, .putfield 76, 3, 10, 32), (192, .aload_n 0, 1, 0, 0), (193, .sipush 301, 3, 0, 0), (196, .newarray .boolean, 2, 0, 0), (198, .putfield 79, 3, 10, 33), (201, .aload_n 0, 1, 0, 0), (202, .sipush 12040, 3, 0, 0), (205, .newarray .int, 2, 0, 0), (207, .putfield 82, 3, 10, 34), (210, .aload_n 0, 1, 0, 0), (211, .ldc 85, 2, 48160, 0), (213, .newarray .int, 2, 0, 0), (215, .putfield 86, 3, 10, 35), (218, .aload_n 0, 1, 0, 0), (219, .sipush 12040, 3, 0, 0), (222, .newarray .int, 2, 0, 0), (224, .putfield 89, 3, 10, 36), (227, .aload_n 0, 1, 0, 0), (228, .sipush 12040, 3, 0, 0), (231, .newarray .int, 2, 0, 0), (233, .putfield 92, 3, 10, 37), (236, .aload_n 0, 1, 0, 0), (237, .sipush 12040, 3, 0, 0), (240, .newarray .int, 2, 0, 0), (242, .putfield 95, 3, 10, 38), (245, .aload_n 0, 1, 0, 0), (246, .sipush 1024, 3, 0, 0), (249, .newarray .int, 2, 0, 0), (251, .putfield 98, 3, 10, 39), (254, .aload_n 0, 1, 0, 0), (255, .sipush 1024, 3, 0, 0), (258, .newarray .int, 2, 0, 0)]
def kX11_init_2 : List (Nat × xI) := [(260, .putfield 101, 3, 10, 40), (263, .aload_n 0, 1, 0, 0), (264, .sipush 301, 3, 0, 0), (267, .newarray .int, 2, 0, 0), (269, .putfield 104, 3, 10, 41), (272, .aload_n 0, 1, 0, 0), (273, .sipush 301, 3, 0, 0), (276, .newarray .int, 2, 0, 0), (278, .putfield 107, 3, 10, 42), (281, .aload_n 0, 1, 0, 0), (282, .sipush 301, 3, 0, 0), (285, .newarray .int, 2, 0, 0), (287, .putfield 110, 3, 10, 43), (290, .aload_n 0, 1, 0, 0), (291, .sipush 301, 3, 0, 0), (294, .newarray .int, 2, 0, 0), (296, .putfield 113, 3, 10, 44), (299, .aload_n 0, 1, 0, 0), (300, .sipush 301, 3, 0, 0), (303, .newarray .int, 2, 0, 0), (305, .putfield 116, 3, 10, 45), (308, .aload_n 0, 1, 0, 0), (309, .sipush 196, 3, 0, 0), (312, .newarray .long, 2, 0, 0), (314, .putfield 119, 3, 10, 46), (317, .aload_n 0, 1, 0, 0), (318, .iload_n 1, 1, 0, 0), (319, .ifCond .ge 7, 3, 326, 0), (322, .iconst 0, 1, 0, 0), (323, .goto 13, 3, 336, 0), (326, .iload_n 1, 1, 0, 0), (327, .iconst 2, 1, 0, 0), (328, .if_icmp .le 7, 3, 335, 0), (331, .iconst 2, 1, 0, 0), (332, .goto 4, 3, 336, 0), (335, .iload_n 1, 1, 0, 0), (336, .putfield 123, 3, 10, 1), (339, .aload_n 0, 1, 0, 0), (340, .invokevirtual 126, 3, 98, 1), (343, .return_, 1, 0, 0)]
def kX11_init : List (Nat × xI) := kX11_init_0 ++ (kX11_init_1 ++ (kX11_init_2))
def kX11_thrown : List (Nat × xI) := [(0, .aload_n 0, 1, 0, 0), (1, .getfield 129, 3, 10, 0), (4, .ireturn, 1, 0, 0)]
def kX11_start : List (Nat × xI) := [(0, .iconst 0, 1, 0, 0), (1, .istore_n 1, 1, 0, 0), (2, .iload_n 1, 1, 0, 0), (3, .sipush 1024, 3, 0, 0), (6, .if_icmp .ge 43, 3, 49, 0), (9, .aload_n 0, 1, 0, 0), (10, .getfield 13, 3, 10, 4), (13, .iload_n 1, 1, 0, 0), (14, .iload_n 1, 1, 0, 0), (15, .sipush 256, 3, 0, 0), (18, .if_icmp .ge 9, 3, 27, 0), (21, .sipush 512, 3, 0, 0), (24, .goto 18, 3, 42, 0), (27, .iload_n 1, 1, 0, 0), (28, .sipush 768, 3, 0, 0), (31, .if_icmp .ge 9, 3, 40, 0), (34, .sipush 320, 3, 0, 0), (37, .goto 5, 3, 42, 0), (40, .bipush 64, 2, 0, 0), (42, .iastore, 1, 0, 0), (43, .iinc 1 1, 3, 0, 0), (46, .goto (-44), 3, 2, 0), (49, .aload_n 0, 1, 0, 0), (50, .bipush 8, 2, 0, 0), (52, .putfield 16, 3, 10, 5), (55, .return_, 1, 0, 0)]
def kX11_shortest : List (Nat × xI) := [(0, .aload_n 0, 1, 0, 0), (1, .getfield 123, 3, 10, 1), (4, .ifCond .ne 7, 3, 11, 0), (7, .iconst 3, 1, 0, 0), (8, .goto 16, 3, 24, 0), (11, .aload_n 0, 1, 0, 0), (12, .getfield 123, 3, 10, 1), (15, .iconst 1, 1, 0, 0), (16, .if_icmp .ne 7, 3, 23, 0), (19, .iconst 4, 1, 0, 0), (20, .goto 4, 3, 24, 0), (23, .iconst 2, 1, 0, 0), (24, .ireturn, 1, 0, 0)]
def kX11_greatest : List (Nat × xI) := [(0, .aload_n 0, 1, 0, 0), (1, .getfield 123, 3, 10, 1), (4, .ifCond .ne 9, 3, 13, 0), (7, .sipush 258, 3, 0, 0), (10, .goto 20, 3, 30, 0), (13, .aload_n 0, 1, 0, 0), (14, .getfield 123, 3, 10, 1), (17, .iconst 1, 1, 0, 0), (18, .if_icmp .ne 9, 3, 27, 0), (21, .sipush 300, 3, 0, 0), (24, .goto 6, 3, 30, 0), (27, .sipush 273, 3, 0, 0), (30, .ireturn, 1, 0, 0)]
def kX11_symbols : List (Nat × xI) := [(0, .iload_n 0, 1, 0, 0), (1, .ifCond .ne 9, 3, 10, 0), (4, .sipush 256, 3, 0, 0), (7, .goto 25, 3, 32, 0), (10, .iload_n 0, 1, 0, 0), (11, .iconst 1, 1, 0, 0), (12, .if_icmp .ne 8, 3, 20, 0), (15, .bipush 32, 2, 0, 0), (17, .goto 15, 3, 32, 0), (20, .iload_n 0, 1, 0, 0), (21, .iconst 2, 1, 0, 0), (22, .if_icmp .ne 8, 3, 30, 0), (25, .bipush 20, 2, 0, 0), (27, .goto 5, 3, 32, 0), (30, .bipush 7, 2, 0, 0), (32, .ireturn, 1, 0, 0)]
def kX11_isCost : List (Nat × xI) := [(0, .aload_n 0, 1, 0, 0), (1, .getfield 123, 3, 10, 1), (4, .iconst 1, 1, 0, 0), (5, .if_icmp .eq 39, 3, 44, 0), (8, .iload_n 1, 1, 0, 0), (9, .ifCond .lt 35, 3, 44, 0), (12, .iload_n 1, 1, 0, 0), (13, .aload_n 0, 1, 0, 0), (14, .getfield 123, 3, 10, 1), (17, .ifCond .ne 7, 3, 24, 0), (20, .iconst 3, 1, 0, 0), (21, .goto 4, 3, 25, 0), (24, .iconst 4, 1, 0, 0), (25, .if_icmp .ge 19, 3, 44, 0), (28, .iload_n 2, 1, 0, 0), (29, .ifCond .lt 15, 3, 44, 0), (32, .iload_n 2, 1, 0, 0), (33, .iload_n 1, 1, 0, 0), (34, .invokestatic 132, 3, 101, 1), (37, .if_icmp .ge 7, 3, 44, 0), (40, .iconst 1, 1, 0, 0), (41, .goto 4, 3, 45, 0), (44, .iconst 0, 1, 0, 0), (45, .ireturn, 1, 0, 0)]
def kX11_octets : List (Nat × xI) := [(0, .aload_n 0, 1, 0, 0), (1, .iconst 0, 1, 0, 0), (2, .putfield 129, 3, 10, 0), (5, .iload_n 1, 1, 0, 0), (6, .iconst 1, 1, 0, 0), (7, .if_icmp .lt 21, 3, 28, 0), (10, .iload_n 1, 1, 0, 0), (11, .bipush 8, 2, 0, 0), (13, .if_icmp .gt 15, 3, 28, 0), (16, .aload_n 0, 1, 0, 0), (17, .getfield 136, 3, 10, 3), (20, .iload_n 1, 1, 0, 0), (21, .iadd, 1, 0, 0), (22, .sipush 300, 3, 0, 0), (25, .if_icmp .le 5, 3, 30, 0), (28, .iconst (-1), 1, 0, 0), (29, .ireturn, 1, 0, 0), (30, .iconst 0, 1, 0, 0), (31, .istore 4, 2, 0, 0), (33, .iload 4, 2, 0, 0), (35, .iload_n 1, 1, 0, 0), (36, .if_icmp .ge 40, 3, 76, 0), (39, .aload_n 0, 1, 0, 0), (40, .getfield 7, 3, 10, 2), (43, .aload_n 0, 1, 0, 0), (44, .getfield 136, 3, 10, 3), (47, .lload_n 2, 1, 0, 0), (48, .bipush 8, 2, 0, 0), (50, .iload 4, 2, 0, 0), (52, .imul, 1, 0, 0), (53, .lshr, 1, 0, 0), (54, .ldc2_w 139, 3, 255, 0), (57, .land, 1, 0, 0), (58, .l2i, 1, 0, 0), (59, .iastore, 1, 0, 0), (60, .aload_n 0, 1, 0, 0), (61, .dup, 1, 0, 0), (62, .getfield 136, 3, 10, 3), (65, .iconst 1, 1, 0, 0), (66, .iadd, 1, 0, 0), (67, .putfield 136, 3, 10, 3), (70, .iinc 4 1, 3, 0, 0), (73, .goto (-40), 3, 33, 0), (76, .aload_n 0, 1, 0, 0), (77, .iconst 0, 1, 0, 0), (78, .putfield 141, 3, 10, 10), (81, .aload_n 0, 1, 0, 0), (82, .getfield 136, 3, 10, 3), (85, .ireturn, 1, 0, 0)]
def kX11_cost : List (Nat × xI) := [(0, .aload_n 0, 1, 0, 0), (1, .iconst 0, 1, 0, 0), (2, .putfield 129, 3, 10, 0), (5, .aload_n 0, 1, 0, 0), (6, .iload_n 1, 1, 0, 0), (7, .iload_n 2, 1, 0, 0), (8, .invokevirtual 145, 3, 102, 3), (11, .ifCond .eq 15, 3, 26, 0), (14, .iload_n 3, 1, 0, 0), (15, .iconst 1, 1, 0, 0), (16, .if_icmp .lt 10, 3, 26, 0), (19, .iload_n 3, 1, 0, 0), (20, .sipush 10000, 3, 0, 0), (23, .if_icmp .le 5, 3, 28, 0), (26, .iconst (-1), 1, 0, 0), (27, .ireturn, 1, 0, 0), (28, .aload_n 0, 1, 0, 0), (29, .getfield 13, 3, 10, 4), (32, .sipush 256, 3, 0, 0), (35, .iload_n 1, 1, 0, 0), (36, .imul, 1, 0, 0), (37, .iload_n 2, 1, 0, 0), (38, .iadd, 1, 0, 0), (39, .iaload, 1, 0, 0), (40, .istore 4, 2, 0, 0), (42, .aload_n 0, 1, 0, 0), (43, .getfield 13, 3, 10, 4), (46, .sipush 256, 3, 0, 0), (49, .iload_n 1, 1, 0, 0), (50, .imul, 1, 0, 0), (51, .iload_n 2, 1, 0, 0), (52, .iadd, 1, 0, 0), (53, .iload_n 3, 1, 0, 0), (54, .iastore, 1, 0, 0), (55, .iload 4, 2, 0, 0), (57, .ireturn, 1, 0, 0)]
def kX11_price : List (Nat × xI) := [(0, .aload_n 0, 1, 0, 0), (1, .iconst 0, 1, 0, 0), (2, .putfield 129, 3, 10, 0), (5, .aload_n 0, 1, 0, 0), (6, .iload_n 1, 1, 0, 0), (7, .iload_n 2, 1, 0, 0), (8, .invokevirtual 145, 3, 102, 3), (11, .ifCond .eq 18, 3, 29, 0), (14, .aload_n 0, 1, 0, 0), (15, .getfield 13, 3, 10, 4), (18, .sipush 256, 3, 0, 0), (21, .iload_n 1, 1, 0, 0), (22, .imul, 1, 0, 0), (23, .iload_n 2, 1, 0, 0), (24, .iadd, 1, 0, 0), (25, .iaload, 1, 0, 0), (26, .goto 4, 3, 30, 0), (29, .iconst (-1), 1, 0, 0), (30, .ireturn, 1, 0, 0)]
def kX11_keep : List (Nat × xI) := [(0, .aload_n 0, 1, 0, 0), (1, .iconst 0, 1, 0, 0), (2, .putfield 129, 3, 10, 0), (5, .iload_n 1, 1, 0, 0), (6, .iconst 1, 1, 0, 0), (7, .if_icmp .lt 17, 3, 24, 0), (10, .iload_n 1, 1, 0, 0), (11, .bipush 40, 2, 0, 0), (13, .if_icmp .gt 11, 3, 24, 0), (16, .aload_n 0, 1, 0, 0), (17, .getfield 123, 3, 10, 1), (20, .iconst 2, 1, 0, 0), (21, .if_icmp .eq 5, 3, 26, 0), (24, .iconst (-1), 1, 0, 0), (25, .ireturn, 1, 0, 0), (26, .aload_n 0, 1, 0, 0), (27, .getfield 16, 3, 10, 5), (30, .istore_n 2, 1, 0, 0), (31, .aload_n 0, 1, 0, 0), (32, .iload_n 1, 1, 0, 0), (33, .putfield 16, 3, 10, 5), (36, .iload_n 2, 1, 0, 0), (37, .ireturn, 1, 0, 0)]
def kX11_layOut_0 : List (Nat × xI) := [(0, .iconst 1, 1, 0, 0), (1, .istore_n 1, 1, 0, 0), (2, .iload_n 1, 1, 0, 0), (3, .sipush 300, 3, 0, 0), (6, .if_icmp .gt 67, 3, 73, 0), (9, .iconst 0, 1, 0, 0), (10, .istore_n 2, 1, 0, 0), (11, .aload_n 0, 1, 0, 0), (12, .getfield 136, 3, 10, 3), (15, .iconst 1, 1, 0, 0), (16, .isub, 1, 0, 0), (17, .istore_n 3, 1, 0, 0), (18, .iload_n 3, 1, 0, 0), (19, .iload_n 1, 1, 0, 0), (20, .if_icmp .lt 47, 3, 67, 0), (23, .aload_n 0, 1, 0, 0), (24, .getfield 7, 3, 10, 2), (27, .iload_n 3, 1, 0, 0), (28, .iaload, 1, 0, 0), (29, .aload_n 0, 1, 0, 0), (30, .getfield 7, 3, 10, 2), (33, .iload_n 3, 1, 0, 0), (34, .iload_n 1, 1, 0, 0), (35, .isub, 1, 0, 0), (36, .iaload, 1, 0, 0), (37, .if_icmp .ne 9, 3, 46, 0), (40, .iload_n 2, 1, 0, 0), (41, .iconst 1, 1, 0, 0), (42, .iadd, 1, 0, 0), (43, .goto 4, 3, 47, 0), (46, .iconst 0, 1, 0, 0), (47, .istore_n 2, 1, 0, 0), (48, .aload_n 0, 1, 0, 0), (49, .getfield 39, 3, 10, 19), (52, .sipush 301, 3, 0, 0), (55, .iload_n 3, 1, 0, 0), (56, .imul, 1, 0, 0), (57, .iload_n 1, 1, 0, 0), (58, .iadd, 1, 0, 0), (59, .iload_n 2, 1, 0, 0), (60, .iastore, 1, 0, 0), (61, .iinc 3 (-1), 3, 0, 0), (64, .goto (-46), 3, 18, 0), (67, .iinc 1 1, 3, 0, 0), (70, .goto (-68), 3, 2, 0), (73, .iconst 0, 1, 0, 0), (74, .istore_n 1, 1, 0, 0), (75, .iload_n 1, 1, 0, 0), (76, .aload_n 0, 1, 0, 0), (77, .getfield 136, 3, 10, 3), (80, .if_icmp .ge 133, 3, 213, 0), (83, .iconst 0, 1, 0, 0), (84, .istore_n 2, 1, 0, 0), (85, .iconst 1, 1, 0, 0), (86, .istore_n 3, 1, 0, 0), (87, .iload_n 3, 1, 0, 0), (88, .iload_n 1, 1, 0, 0), (89, .if_icmp .gt 88, 3, 177, 0), (92, .aload_n 0, 1, 0, 0), (93, .getfield 39, 3, 10, 19)]
def kX11_layOut_1 : List (Nat × xI) := [(96, .sipush 301, 3, 0, 0), (99, .iload_n 1, 1, 0, 0), (100, .imul, 1, 0, 0), (101, .iload_n 3, 1, 0, 0), (102, .iadd, 1, 0, 0), (103, .iaload, 1, 0, 0), (104, .istore 4, 2, 0, 0), (106, .iload 4, 2, 0, 0), (108, .aload_n 0, 1, 0, 0), (109, .invokevirtual 149, 3, 100, 1), (112, .if_icmp .le 10, 3, 122, 0), (115, .aload_n 0, 1, 0, 0), (116, .invokevirtual 149, 3, 100, 1), (119, .goto 5, 3, 124, 0), (122, .iload 4, 2, 0, 0), (124, .istore 4, 2, 0, 0), (126, .iload_n 2, 1, 0, 0), (127, .iconst 1, 1, 0, 0), (128, .iadd, 1, 0, 0), (129, .istore 5, 2, 0, 0), (131, .iload 5, 2, 0, 0), (133, .iload 4, 2, 0, 0), (135, .if_icmp .gt 23, 3, 158, 0), (138, .aload_n 0, 1, 0, 0), (139, .getfield 42, 3, 10, 20), (142, .sipush 301, 3, 0, 0), (145, .iload_n 1, 1, 0, 0), (146, .imul, 1, 0, 0), (147, .iload 5, 2, 0, 0), (149, .iadd, 1, 0, 0), (150, .iload_n 3, 1, 0, 0), (151, .iastore, 1, 0, 0), (152, .iinc 5 1, 3, 0, 0), (155, .goto (-24), 3, 131, 0), (158, .iload 4, 2, 0, 0), (160, .iload_n 2, 1, 0, 0), (161, .if_icmp .le 8, 3, 169, 0), (164, .iload 4, 2, 0, 0), (166, .goto 4, 3, 170, 0), (169, .iload_n 2, 1, 0, 0), (170, .istore_n 2, 1, 0, 0), (171, .iinc 3 1, 3, 0, 0), (174, .goto (-87), 3, 87, 0), (177, .iload_n 2, 1, 0, 0), (178, .iconst 1, 1, 0, 0), (179, .iadd, 1, 0, 0), (180, .istore_n 3, 1, 0, 0), (181, .iload_n 3, 1, 0, 0), (182, .sipush 300, 3, 0, 0), (185, .if_icmp .gt 22, 3, 207, 0), (188, .aload_n 0, 1, 0, 0), (189, .getfield 42, 3, 10, 20), (192, .sipush 301, 3, 0, 0), (195, .iload_n 1, 1, 0, 0), (196, .imul, 1, 0, 0), (197, .iload_n 3, 1, 0, 0), (198, .iadd, 1, 0, 0), (199, .iconst 0, 1, 0, 0), (200, .iastore, 1, 0, 0), (201, .iinc 3 1, 3, 0, 0)]
def kX11_layOut_2 : List (Nat × xI) := [(204, .goto (-23), 3, 181, 0), (207, .iinc 1 1, 3, 0, 0), (210, .goto (-135), 3, 75, 0), (213, .return_, 1, 0, 0)]
def kX11_layOut : List (Nat × xI) := kX11_layOut_0 ++ (kX11_layOut_1 ++ (kX11_layOut_2))
def kX11_longestCopy : List (Nat × xI) := [(0, .aload_n 0, 1, 0, 0), (1, .invokevirtual 149, 3, 100, 1), (4, .istore_n 2, 1, 0, 0), (5, .iload_n 2, 1, 0, 0), (6, .aload_n 0, 1, 0, 0), (7, .invokevirtual 153, 3, 99, 1), (10, .if_icmp .lt 24, 3, 34, 0), (13, .aload_n 0, 1, 0, 0), (14, .getfield 42, 3, 10, 20), (17, .sipush 301, 3, 0, 0), (20, .iload_n 1, 1, 0, 0), (21, .imul, 1, 0, 0), (22, .iload_n 2, 1, 0, 0), (23, .iadd, 1, 0, 0), (24, .iaload, 1, 0, 0), (25, .ifCond .ne 9, 3, 34, 0), (28, .iinc 2 (-1), 3, 0, 0), (31, .goto (-26), 3, 5, 0), (34, .iload_n 2, 1, 0, 0), (35, .aload_n 0, 1, 0, 0), (36, .invokevirtual 153, 3, 99, 1), (39, .if_icmp .ge 7, 3, 46, 0), (42, .iconst 0, 1, 0, 0), (43, .goto 4, 3, 47, 0), (46, .iload_n 2, 1, 0, 0), (47, .ireturn, 1, 0, 0)]
def kX11_longestAgain : List (Nat × xI) := [(0, .iload_n 2, 1, 0, 0), (1, .iload_n 1, 1, 0, 0), (2, .if_icmp .le 7, 3, 9, 0), (5, .iconst 0, 1, 0, 0), (6, .goto 15, 3, 21, 0), (9, .aload_n 0, 1, 0, 0), (10, .getfield 39, 3, 10, 19), (13, .sipush 301, 3, 0, 0), (16, .iload_n 1, 1, 0, 0), (17, .imul, 1, 0, 0), (18, .iload_n 2, 1, 0, 0), (19, .iadd, 1, 0, 0), (20, .iaload, 1, 0, 0), (21, .istore_n 3, 1, 0, 0), (22, .iload_n 3, 1, 0, 0), (23, .aload_n 0, 1, 0, 0), (24, .invokevirtual 149, 3, 100, 1), (27, .if_icmp .le 10, 3, 37, 0), (30, .aload_n 0, 1, 0, 0), (31, .invokevirtual 149, 3, 100, 1), (34, .goto 4, 3, 38, 0), (37, .iload_n 3, 1, 0, 0), (38, .istore_n 3, 1, 0, 0), (39, .iload_n 3, 1, 0, 0), (40, .iconst 2, 1, 0, 0), (41, .if_icmp .ge 7, 3, 48, 0), (44, .iconst 0, 1, 0, 0), (45, .goto 4, 3, 49, 0), (48, .iload_n 3, 1, 0, 0), (49, .ireturn, 1, 0, 0)]
def kX11_high : List (Nat × xI) := [(0, .iconst 0, 1, 0, 0), (1, .istore_n 1, 1, 0, 0), (2, .iload_n 0, 1, 0, 0), (3, .iload_n 1, 1, 0, 0), (4, .iconst 1, 1, 0, 0), (5, .iadd, 1, 0, 0), (6, .ishr, 1, 0, 0), (7, .ifCond .le 9, 3, 16, 0), (10, .iinc 1 1, 3, 0, 0), (13, .goto (-11), 3, 2, 0), (16, .iload_n 1, 1, 0, 0), (17, .ireturn, 1, 0, 0)]
def kX11_lengthSlot : List (Nat × xI) := [(0, .iload_n 0, 1, 0, 0), (1, .invokestatic 156, 3, 110, 1), (4, .istore_n 1, 1, 0, 0), (5, .iload_n 0, 1, 0, 0), (6, .bipush 8, 2, 0, 0), (8, .if_icmp .ge 7, 3, 15, 0), (11, .iload_n 0, 1, 0, 0), (12, .goto 16, 3, 28, 0), (15, .iconst 4, 1, 0, 0), (16, .iload_n 1, 1, 0, 0), (17, .iconst 1, 1, 0, 0), (18, .isub, 1, 0, 0), (19, .imul, 1, 0, 0), (20, .iload_n 0, 1, 0, 0), (21, .iload_n 1, 1, 0, 0), (22, .iconst 2, 1, 0, 0), (23, .isub, 1, 0, 0), (24, .ishr, 1, 0, 0), (25, .iconst 3, 1, 0, 0), (26, .iand, 1, 0, 0), (27, .iadd, 1, 0, 0), (28, .ireturn, 1, 0, 0)]
def kX11_lengthBits : List (Nat × xI) := [(0, .iload_n 0, 1, 0, 0), (1, .bipush 8, 2, 0, 0), (3, .if_icmp .ge 7, 3, 10, 0), (6, .iconst 0, 1, 0, 0), (7, .goto 9, 3, 16, 0), (10, .iload_n 0, 1, 0, 0), (11, .invokestatic 156, 3, 110, 1), (14, .iconst 2, 1, 0, 0), (15, .isub, 1, 0, 0), (16, .ireturn, 1, 0, 0)]
def kX11_distanceSlot : List (Nat × xI) := [(0, .iload_n 0, 1, 0, 0), (1, .invokestatic 156, 3, 110, 1), (4, .istore_n 1, 1, 0, 0), (5, .iload_n 0, 1, 0, 0), (6, .iconst 4, 1, 0, 0), (7, .if_icmp .ge 7, 3, 14, 0), (10, .iload_n 0, 1, 0, 0), (11, .goto 14, 3, 25, 0), (14, .iconst 2, 1, 0, 0), (15, .iload_n 1, 1, 0, 0), (16, .imul, 1, 0, 0), (17, .iload_n 0, 1, 0, 0), (18, .iload_n 1, 1, 0, 0), (19, .iconst 1, 1, 0, 0), (20, .isub, 1, 0, 0), (21, .ishr, 1, 0, 0), (22, .iconst 1, 1, 0, 0), (23, .iand, 1, 0, 0), (24, .iadd, 1, 0, 0), (25, .ireturn, 1, 0, 0)]
def kX11_distanceBits : List (Nat × xI) := [(0, .iload_n 0, 1, 0, 0), (1, .iconst 4, 1, 0, 0), (2, .if_icmp .ge 7, 3, 9, 0), (5, .iconst 0, 1, 0, 0), (6, .goto 9, 3, 15, 0), (9, .iload_n 0, 1, 0, 0), (10, .invokestatic 156, 3, 110, 1), (13, .iconst 1, 1, 0, 0), (14, .isub, 1, 0, 0), (15, .ireturn, 1, 0, 0)]
def kX11_lengthCost : List (Nat × xI) := [(0, .iload_n 1, 1, 0, 0), (1, .aload_n 0, 1, 0, 0), (2, .invokevirtual 153, 3, 99, 1), (5, .isub, 1, 0, 0), (6, .istore_n 2, 1, 0, 0), (7, .aload_n 0, 1, 0, 0), (8, .getfield 13, 3, 10, 4), (11, .sipush 256, 3, 0, 0), (14, .iload_n 2, 1, 0, 0), (15, .invokestatic 159, 3, 111, 1), (18, .iadd, 1, 0, 0), (19, .iaload, 1, 0, 0), (20, .bipush 64, 2, 0, 0), (22, .iload_n 2, 1, 0, 0), (23, .invokestatic 162, 3, 112, 1), (26, .imul, 1, 0, 0), (27, .iadd, 1, 0, 0), (28, .ireturn, 1, 0, 0)]
def kX11_distanceCost : List (Nat × xI) := [(0, .aload_n 0, 1, 0, 0), (1, .getfield 13, 3, 10, 4), (4, .sipush 512, 3, 0, 0), (7, .iload_n 1, 1, 0, 0), (8, .iconst 1, 1, 0, 0), (9, .isub, 1, 0, 0), (10, .invokestatic 165, 3, 113, 1), (13, .iadd, 1, 0, 0), (14, .iaload, 1, 0, 0), (15, .bipush 64, 2, 0, 0), (17, .iload_n 1, 1, 0, 0), (18, .iconst 1, 1, 0, 0), (19, .isub, 1, 0, 0), (20, .invokestatic 168, 3, 114, 1), (23, .imul, 1, 0, 0), (24, .iadd, 1, 0, 0), (25, .ireturn, 1, 0, 0)]
def kX11_kindCost : List (Nat × xI) := [(0, .aload_n 0, 1, 0, 0), (1, .getfield 123, 3, 10, 1), (4, .iconst 2, 1, 0, 0), (5, .if_icmp .ne 16, 3, 21, 0), (8, .aload_n 0, 1, 0, 0), (9, .getfield 13, 3, 10, 4), (12, .sipush 768, 3, 0, 0), (15, .iload_n 1, 1, 0, 0), (16, .iadd, 1, 0, 0), (17, .iaload, 1, 0, 0), (18, .goto 4, 3, 22, 0), (21, .iconst 0, 1, 0, 0), (22, .ireturn, 1, 0, 0)]
def kX11_more : List (Nat × xI) := [(0, .iload_n 0, 1, 0, 0), (1, .iload_n 1, 1, 0, 0), (2, .if_icmp .ge 7, 3, 9, 0), (5, .iconst 0, 1, 0, 0), (6, .goto 12, 3, 18, 0), (9, .iconst 1, 1, 0, 0), (10, .iload_n 0, 1, 0, 0), (11, .iload_n 1, 1, 0, 0), (12, .isub, 1, 0, 0), (13, .sipush 255, 3, 0, 0), (16, .idiv, 1, 0, 0), (17, .iadd, 1, 0, 0), (18, .ireturn, 1, 0, 0)]
def kX11_stepCost_0 : List (Nat × xI) := [(0, .aload_n 0, 1, 0, 0), (1, .getfield 123, 3, 10, 1), (4, .iconst 1, 1, 0, 0), (5, .if_icmp .ne 46, 3, 51, 0), (8, .iload_n 1, 1, 0, 0), (9, .ifCond .ne 29, 3, 38, 0), (12, .sipush 512, 3, 0, 0), (15, .iconst 1, 1, 0, 0), (16, .iload 5, 2, 0, 0), (18, .iconst 1, 1, 0, 0), (19, .iadd, 1, 0, 0), (20, .bipush 15, 2, 0, 0), (22, .invokestatic 171, 3, 118, 2), (25, .iadd, 1, 0, 0), (26, .iload 5, 2, 0, 0), (28, .bipush 15, 2, 0, 0), (30, .invokestatic 171, 3, 118, 2), (33, .isub, 1, 0, 0), (34, .imul, 1, 0, 0), (35, .goto 15, 3, 50, 0), (38, .sipush 512, 3, 0, 0), (41, .iconst 3, 1, 0, 0), (42, .iload_n 2, 1, 0, 0), (43, .bipush 19, 2, 0, 0), (45, .invokestatic 171, 3, 118, 2), (48, .iadd, 1, 0, 0), (49, .imul, 1, 0, 0), (50, .ireturn, 1, 0, 0), (51, .iload_n 1, 1, 0, 0), (52, .ifCond .ne 17, 3, 69, 0), (55, .aload_n 0, 1, 0, 0), (56, .getfield 13, 3, 10, 4), (59, .iload 4, 2, 0, 0), (61, .iaload, 1, 0, 0), (62, .aload_n 0, 1, 0, 0), (63, .iconst 0, 1, 0, 0), (64, .invokevirtual 175, 3, 117, 2), (67, .iadd, 1, 0, 0), (68, .ireturn, 1, 0, 0), (69, .iload_n 1, 1, 0, 0), (70, .iconst 1, 1, 0, 0), (71, .if_icmp .ne 21, 3, 92, 0), (74, .aload_n 0, 1, 0, 0), (75, .iconst 1, 1, 0, 0), (76, .invokevirtual 175, 3, 117, 2), (79, .aload_n 0, 1, 0, 0), (80, .iload_n 2, 1, 0, 0), (81, .invokevirtual 178, 3, 115, 2), (84, .iadd, 1, 0, 0), (85, .aload_n 0, 1, 0, 0), (86, .iload_n 3, 1, 0, 0), (87, .invokevirtual 181, 3, 116, 2), (90, .iadd, 1, 0, 0), (91, .ireturn, 1, 0, 0), (92, .iload_n 1, 1, 0, 0), (93, .bipush 6, 2, 0, 0), (95, .if_icmp .ne 12, 3, 107, 0), (98, .aload_n 0, 1, 0, 0), (99, .bipush 6, 2, 0, 0), (101, .invokevirtual 175, 3, 117, 2)]
def kX11_stepCost_1 : List (Nat × xI) := [(104, .goto 14, 3, 118, 0), (107, .aload_n 0, 1, 0, 0), (108, .iload_n 1, 1, 0, 0), (109, .invokevirtual 175, 3, 117, 2), (112, .aload_n 0, 1, 0, 0), (113, .iload_n 2, 1, 0, 0), (114, .invokevirtual 178, 3, 115, 2), (117, .iadd, 1, 0, 0), (118, .ireturn, 1, 0, 0)]
def kX11_stepCost : List (Nat × xI) := kX11_stepCost_0 ++ (kX11_stepCost_1)
def kX11_allCost : List (Nat × xI) := [(0, .aload_n 0, 1, 0, 0), (1, .getfield 123, 3, 10, 1), (4, .iconst 1, 1, 0, 0), (5, .if_icmp .ne 9, 3, 14, 0), (8, .ldc2_w 184, 3, 512, 0), (11, .goto 4, 3, 15, 0), (14, .lconst 0, 1, 0, 0), (15, .lstore_n 1, 1, 0, 0), (16, .iconst 0, 1, 0, 0), (17, .istore_n 3, 1, 0, 0), (18, .iconst 0, 1, 0, 0), (19, .istore 4, 2, 0, 0), (21, .iload 4, 2, 0, 0), (23, .aload_n 0, 1, 0, 0), (24, .getfield 186, 3, 10, 11), (27, .if_icmp .ge 69, 3, 96, 0), (30, .lload_n 1, 1, 0, 0), (31, .aload_n 0, 1, 0, 0), (32, .aload_n 0, 1, 0, 0), (33, .getfield 35, 3, 10, 15), (36, .iload 4, 2, 0, 0), (38, .iaload, 1, 0, 0), (39, .aload_n 0, 1, 0, 0), (40, .getfield 29, 3, 10, 13), (43, .iload 4, 2, 0, 0), (45, .iaload, 1, 0, 0), (46, .aload_n 0, 1, 0, 0), (47, .getfield 32, 3, 10, 14), (50, .iload 4, 2, 0, 0), (52, .iaload, 1, 0, 0), (53, .aload_n 0, 1, 0, 0), (54, .getfield 7, 3, 10, 2), (57, .aload_n 0, 1, 0, 0), (58, .getfield 26, 3, 10, 12), (61, .iload 4, 2, 0, 0), (63, .iaload, 1, 0, 0), (64, .iaload, 1, 0, 0), (65, .iload_n 3, 1, 0, 0), (66, .invokevirtual 189, 3, 119, 6), (69, .i2l, 1, 0, 0), (70, .ladd, 1, 0, 0), (71, .lstore_n 1, 1, 0, 0), (72, .aload_n 0, 1, 0, 0), (73, .getfield 35, 3, 10, 15), (76, .iload 4, 2, 0, 0), (78, .iaload, 1, 0, 0), (79, .ifCond .ne 9, 3, 88, 0), (82, .iload_n 3, 1, 0, 0), (83, .iconst 1, 1, 0, 0), (84, .iadd, 1, 0, 0), (85, .goto 4, 3, 89, 0), (88, .iconst 0, 1, 0, 0), (89, .istore_n 3, 1, 0, 0), (90, .iinc 4 1, 3, 0, 0), (93, .goto (-72), 3, 21, 0), (96, .lload_n 1, 1, 0, 0), (97, .lreturn, 1, 0, 0)]
def kX11_clearLatest : List (Nat × xI) := [(0, .iconst 0, 1, 0, 0), (1, .istore_n 1, 1, 0, 0), (2, .iload_n 1, 1, 0, 0), (3, .iconst 4, 1, 0, 0), (4, .if_icmp .ge 16, 3, 20, 0), (7, .aload_n 0, 1, 0, 0), (8, .getfield 45, 3, 10, 21), (11, .iload_n 1, 1, 0, 0), (12, .iconst 1, 1, 0, 0), (13, .iastore, 1, 0, 0), (14, .iinc 1 1, 3, 0, 0), (17, .goto (-15), 3, 2, 0), (20, .return_, 1, 0, 0)]
def kX11_ahead : List (Nat × xI) := [(0, .iload_n 2, 1, 0, 0), (1, .istore_n 3, 1, 0, 0), (2, .iload_n 3, 1, 0, 0), (3, .ifCond .le 23, 3, 26, 0), (6, .aload_n 0, 1, 0, 0), (7, .getfield 45, 3, 10, 21), (10, .iload_n 3, 1, 0, 0), (11, .aload_n 0, 1, 0, 0), (12, .getfield 45, 3, 10, 21), (15, .iload_n 3, 1, 0, 0), (16, .iconst 1, 1, 0, 0), (17, .isub, 1, 0, 0), (18, .iaload, 1, 0, 0), (19, .iastore, 1, 0, 0), (20, .iinc 3 (-1), 3, 0, 0), (23, .goto (-21), 3, 2, 0), (26, .aload_n 0, 1, 0, 0), (27, .getfield 45, 3, 10, 21), (30, .iconst 0, 1, 0, 0), (31, .iload_n 1, 1, 0, 0), (32, .iastore, 1, 0, 0), (33, .return_, 1, 0, 0)]
def kX11_longestOf : List (Nat × xI) := [(0, .iload_n 1, 1, 0, 0), (1, .aload_n 0, 1, 0, 0), (2, .getfield 136, 3, 10, 3), (5, .if_icmp .ge 11, 3, 16, 0), (8, .aload_n 0, 1, 0, 0), (9, .iload_n 1, 1, 0, 0), (10, .invokevirtual 193, 3, 108, 2), (13, .goto 4, 3, 17, 0), (16, .iconst 0, 1, 0, 0), (17, .istore_n 2, 1, 0, 0), (18, .aload_n 0, 1, 0, 0), (19, .iconst 1, 1, 0, 0), (20, .putfield 196, 3, 10, 22), (23, .aload_n 0, 1, 0, 0), (24, .getfield 123, 3, 10, 1), (27, .iconst 2, 1, 0, 0), (28, .if_icmp .ne 63, 3, 91, 0), (31, .iload_n 1, 1, 0, 0), (32, .aload_n 0, 1, 0, 0), (33, .getfield 136, 3, 10, 3), (36, .if_icmp .ge 55, 3, 91, 0), (39, .iconst 3, 1, 0, 0), (40, .istore_n 3, 1, 0, 0), (41, .iload_n 3, 1, 0, 0), (42, .ifCond .lt 49, 3, 91, 0), (45, .aload_n 0, 1, 0, 0), (46, .iload_n 1, 1, 0, 0), (47, .aload_n 0, 1, 0, 0), (48, .getfield 45, 3, 10, 21), (51, .iload_n 3, 1, 0, 0), (52, .iaload, 1, 0, 0), (53, .invokevirtual 199, 3, 109, 3), (56, .istore 4, 2, 0, 0), (58, .iload 4, 2, 0, 0), (60, .ifCond .le 25, 3, 85, 0), (63, .iload 4, 2, 0, 0), (65, .iload_n 2, 1, 0, 0), (66, .if_icmp .gt 9, 3, 75, 0), (69, .iload 4, 2, 0, 0), (71, .iload_n 2, 1, 0, 0), (72, .if_icmp .ne 13, 3, 85, 0), (75, .iload 4, 2, 0, 0), (77, .istore_n 2, 1, 0, 0), (78, .aload_n 0, 1, 0, 0), (79, .iconst 2, 1, 0, 0), (80, .iload_n 3, 1, 0, 0), (81, .iadd, 1, 0, 0), (82, .putfield 196, 3, 10, 22), (85, .iinc 3 (-1), 3, 0, 0), (88, .goto (-47), 3, 41, 0), (91, .iload_n 2, 1, 0, 0), (92, .ireturn, 1, 0, 0)]
def kX11_addStep : List (Nat × xI) := [(0, .aload_n 0, 1, 0, 0), (1, .getfield 26, 3, 10, 12), (4, .aload_n 0, 1, 0, 0), (5, .getfield 186, 3, 10, 11), (8, .iload_n 1, 1, 0, 0), (9, .iastore, 1, 0, 0), (10, .aload_n 0, 1, 0, 0), (11, .getfield 35, 3, 10, 15), (14, .aload_n 0, 1, 0, 0), (15, .getfield 186, 3, 10, 11), (18, .iload_n 2, 1, 0, 0), (19, .iastore, 1, 0, 0), (20, .aload_n 0, 1, 0, 0), (21, .getfield 29, 3, 10, 13), (24, .aload_n 0, 1, 0, 0), (25, .getfield 186, 3, 10, 11), (28, .iload_n 3, 1, 0, 0), (29, .iastore, 1, 0, 0), (30, .aload_n 0, 1, 0, 0), (31, .getfield 32, 3, 10, 14), (34, .aload_n 0, 1, 0, 0), (35, .getfield 186, 3, 10, 11), (38, .iload 4, 2, 0, 0), (40, .iastore, 1, 0, 0), (41, .aload_n 0, 1, 0, 0), (42, .dup, 1, 0, 0), (43, .getfield 186, 3, 10, 11), (46, .iconst 1, 1, 0, 0), (47, .iadd, 1, 0, 0), (48, .putfield 186, 3, 10, 11), (51, .return_, 1, 0, 0)]
def kX11_greedy_0 : List (Nat × xI) := [(0, .aload_n 0, 1, 0, 0), (1, .iconst 0, 1, 0, 0), (2, .putfield 186, 3, 10, 11), (5, .aload_n 0, 1, 0, 0), (6, .invokevirtual 202, 3, 121, 1), (9, .iconst 0, 1, 0, 0), (10, .istore_n 2, 1, 0, 0), (11, .iload_n 2, 1, 0, 0), (12, .aload_n 0, 1, 0, 0), (13, .getfield 136, 3, 10, 3), (16, .if_icmp .ge 178, 3, 194, 0), (19, .aload_n 0, 1, 0, 0), (20, .iload_n 2, 1, 0, 0), (21, .invokevirtual 205, 3, 123, 2), (24, .istore_n 3, 1, 0, 0), (25, .iconst 0, 1, 0, 0), (26, .istore 4, 2, 0, 0), (28, .iconst 1, 1, 0, 0), (29, .istore 5, 2, 0, 0), (31, .iload 5, 2, 0, 0), (33, .iload_n 1, 1, 0, 0), (34, .if_icmp .gt 42, 3, 76, 0), (37, .iload 4, 2, 0, 0), (39, .iload_n 2, 1, 0, 0), (40, .iload 5, 2, 0, 0), (42, .iadd, 1, 0, 0), (43, .aload_n 0, 1, 0, 0), (44, .getfield 136, 3, 10, 3), (47, .if_icmp .ge 19, 3, 66, 0), (50, .aload_n 0, 1, 0, 0), (51, .iload_n 2, 1, 0, 0), (52, .iload 5, 2, 0, 0), (54, .iadd, 1, 0, 0), (55, .invokevirtual 205, 3, 123, 2), (58, .iload_n 3, 1, 0, 0), (59, .if_icmp .le 7, 3, 66, 0), (62, .iconst 1, 1, 0, 0), (63, .goto 4, 3, 67, 0), (66, .iconst 0, 1, 0, 0), (67, .ior, 1, 0, 0), (68, .istore 4, 2, 0, 0), (70, .iinc 5 1, 3, 0, 0), (73, .goto (-42), 3, 31, 0), (76, .aload_n 0, 1, 0, 0), (77, .iload_n 2, 1, 0, 0), (78, .invokevirtual 205, 3, 123, 2), (81, .istore_n 3, 1, 0, 0), (82, .iload_n 3, 1, 0, 0), (83, .ifCond .eq 8, 3, 91, 0), (86, .iload 4, 2, 0, 0), (88, .ifCond .eq 17, 3, 105, 0), (91, .aload_n 0, 1, 0, 0), (92, .iload_n 2, 1, 0, 0), (93, .iconst 0, 1, 0, 0), (94, .iconst 1, 1, 0, 0), (95, .iconst 0, 1, 0, 0), (96, .invokevirtual 208, 3, 124, 5), (99, .iinc 2 1, 3, 0, 0), (102, .goto 89, 3, 191, 0), (105, .aload_n 0, 1, 0, 0)]
def kX11_greedy_1 : List (Nat × xI) := [(106, .getfield 196, 3, 10, 22), (109, .iconst 1, 1, 0, 0), (110, .if_icmp .ne 40, 3, 150, 0), (113, .aload_n 0, 1, 0, 0), (114, .getfield 42, 3, 10, 20), (117, .sipush 301, 3, 0, 0), (120, .iload_n 2, 1, 0, 0), (121, .imul, 1, 0, 0), (122, .iload_n 3, 1, 0, 0), (123, .iadd, 1, 0, 0), (124, .iaload, 1, 0, 0), (125, .istore 5, 2, 0, 0), (127, .aload_n 0, 1, 0, 0), (128, .iload_n 2, 1, 0, 0), (129, .iconst 1, 1, 0, 0), (130, .iload_n 3, 1, 0, 0), (131, .iload 5, 2, 0, 0), (133, .invokevirtual 208, 3, 124, 5), (136, .aload_n 0, 1, 0, 0), (137, .iload 5, 2, 0, 0), (139, .iconst 3, 1, 0, 0), (140, .invokevirtual 212, 3, 122, 3), (143, .iload_n 2, 1, 0, 0), (144, .iload_n 3, 1, 0, 0), (145, .iadd, 1, 0, 0), (146, .istore_n 2, 1, 0, 0), (147, .goto 44, 3, 191, 0), (150, .aload_n 0, 1, 0, 0), (151, .getfield 45, 3, 10, 21), (154, .aload_n 0, 1, 0, 0), (155, .getfield 196, 3, 10, 22), (158, .iconst 2, 1, 0, 0), (159, .isub, 1, 0, 0), (160, .iaload, 1, 0, 0), (161, .istore 5, 2, 0, 0), (163, .aload_n 0, 1, 0, 0), (164, .iload_n 2, 1, 0, 0), (165, .aload_n 0, 1, 0, 0), (166, .getfield 196, 3, 10, 22), (169, .iload_n 3, 1, 0, 0), (170, .iload 5, 2, 0, 0), (172, .invokevirtual 208, 3, 124, 5), (175, .aload_n 0, 1, 0, 0), (176, .iload 5, 2, 0, 0), (178, .aload_n 0, 1, 0, 0), (179, .getfield 196, 3, 10, 22), (182, .iconst 2, 1, 0, 0), (183, .isub, 1, 0, 0), (184, .invokevirtual 212, 3, 122, 3), (187, .iload_n 2, 1, 0, 0), (188, .iload_n 3, 1, 0, 0), (189, .iadd, 1, 0, 0), (190, .istore_n 2, 1, 0, 0), (191, .goto (-180), 3, 11, 0), (194, .aload_n 0, 1, 0, 0), (195, .aload_n 0, 1, 0, 0), (196, .invokevirtual 216, 3, 120, 1), (199, .putfield 220, 3, 10, 16), (202, .aload_n 0, 1, 0, 0), (203, .iconst 0, 1, 0, 0)]
def kX11_greedy_2 : List (Nat × xI) := [(204, .putfield 224, 3, 10, 17), (207, .return_, 1, 0, 0)]
def kX11_greedy : List (Nat × xI) := kX11_greedy_0 ++ (kX11_greedy_1 ++ (kX11_greedy_2))
def kX11_at : List (Nat × xI) := [(0, .sipush 301, 3, 0, 0), (3, .iload_n 1, 1, 0, 0), (4, .imul, 1, 0, 0), (5, .iload_n 2, 1, 0, 0), (6, .iadd, 1, 0, 0), (7, .ireturn, 1, 0, 0)]
def kX11_firstRow : List (Nat × xI) := [(0, .iconst 0, 1, 0, 0), (1, .istore_n 2, 1, 0, 0), (2, .iconst 1, 1, 0, 0), (3, .istore_n 3, 1, 0, 0), (4, .iload_n 3, 1, 0, 0), (5, .iload_n 1, 1, 0, 0), (6, .if_icmp .gt 44, 3, 50, 0), (9, .aload_n 0, 1, 0, 0), (10, .getfield 123, 3, 10, 1), (13, .iconst 1, 1, 0, 0), (14, .if_icmp .ne 36, 3, 50, 0), (17, .aload_n 0, 1, 0, 0), (18, .getfield 48, 3, 10, 23), (21, .aload_n 0, 1, 0, 0), (22, .iload_n 1, 1, 0, 0), (23, .iload_n 3, 1, 0, 0), (24, .invokevirtual 227, 3, 126, 3), (27, .iaload, 1, 0, 0), (28, .aload_n 0, 1, 0, 0), (29, .getfield 48, 3, 10, 23), (32, .aload_n 0, 1, 0, 0), (33, .iload_n 1, 1, 0, 0), (34, .iload_n 2, 1, 0, 0), (35, .invokevirtual 227, 3, 126, 3), (38, .iaload, 1, 0, 0), (39, .if_icmp .ge 5, 3, 44, 0), (42, .iload_n 3, 1, 0, 0), (43, .istore_n 2, 1, 0, 0), (44, .iinc 3 1, 3, 0, 0), (47, .goto (-43), 3, 4, 0), (50, .iload_n 2, 1, 0, 0), (51, .ireturn, 1, 0, 0)]
def kX11_clearTable : List (Nat × xI) := [(0, .iconst 0, 1, 0, 0), (1, .istore_n 1, 1, 0, 0), (2, .iload_n 1, 1, 0, 0), (3, .aload_n 0, 1, 0, 0), (4, .getfield 136, 3, 10, 3), (7, .if_icmp .gt 54, 3, 61, 0), (10, .iconst 0, 1, 0, 0), (11, .istore_n 2, 1, 0, 0), (12, .iload_n 2, 1, 0, 0), (13, .aload_n 0, 1, 0, 0), (14, .getfield 123, 3, 10, 1), (17, .iconst 1, 1, 0, 0), (18, .if_icmp .ne 7, 3, 25, 0), (21, .iload_n 1, 1, 0, 0), (22, .goto 4, 3, 26, 0), (25, .iconst 0, 1, 0, 0), (26, .if_icmp .gt 22, 3, 48, 0), (29, .aload_n 0, 1, 0, 0), (30, .getfield 48, 3, 10, 23), (33, .aload_n 0, 1, 0, 0), (34, .iload_n 1, 1, 0, 0), (35, .iload_n 2, 1, 0, 0), (36, .invokevirtual 227, 3, 126, 3), (39, .ldc 230, 2, 2000000000, 0), (41, .iastore, 1, 0, 0), (42, .iinc 2 1, 3, 0, 0), (45, .goto (-33), 3, 12, 0), (48, .aload_n 0, 1, 0, 0), (49, .getfield 60, 3, 10, 27), (52, .iload_n 1, 1, 0, 0), (53, .iconst 0, 1, 0, 0), (54, .bastore, 1, 0, 0), (55, .iinc 1 1, 3, 0, 0), (58, .goto (-56), 3, 2, 0), (61, .aload_n 0, 1, 0, 0), (62, .getfield 48, 3, 10, 23), (65, .iconst 0, 1, 0, 0), (66, .iconst 0, 1, 0, 0), (67, .iastore, 1, 0, 0), (68, .return_, 1, 0, 0)]
def kX11_copies_0 : List (Nat × xI) := [(0, .aload_n 0, 1, 0, 0), (1, .getfield 48, 3, 10, 23), (4, .aload_n 0, 1, 0, 0), (5, .iload_n 1, 1, 0, 0), (6, .iload_n 2, 1, 0, 0), (7, .invokevirtual 227, 3, 126, 3), (10, .iaload, 1, 0, 0), (11, .istore_n 3, 1, 0, 0), (12, .aload_n 0, 1, 0, 0), (13, .iload_n 1, 1, 0, 0), (14, .invokevirtual 193, 3, 108, 2), (17, .istore 4, 2, 0, 0), (19, .iload 4, 2, 0, 0), (21, .aload_n 0, 1, 0, 0), (22, .invokevirtual 153, 3, 99, 1), (25, .if_icmp .lt 115, 3, 140, 0), (28, .aload_n 0, 1, 0, 0), (29, .getfield 42, 3, 10, 20), (32, .sipush 301, 3, 0, 0), (35, .iload_n 1, 1, 0, 0), (36, .imul, 1, 0, 0), (37, .iload 4, 2, 0, 0), (39, .iadd, 1, 0, 0), (40, .iaload, 1, 0, 0), (41, .istore 5, 2, 0, 0), (43, .iload_n 3, 1, 0, 0), (44, .aload_n 0, 1, 0, 0), (45, .iconst 1, 1, 0, 0), (46, .iload 4, 2, 0, 0), (48, .iload 5, 2, 0, 0), (50, .iconst 0, 1, 0, 0), (51, .iconst 0, 1, 0, 0), (52, .invokevirtual 189, 3, 119, 6), (55, .iadd, 1, 0, 0), (56, .istore 6, 2, 0, 0), (58, .iload 6, 2, 0, 0), (60, .aload_n 0, 1, 0, 0), (61, .getfield 48, 3, 10, 23), (64, .aload_n 0, 1, 0, 0), (65, .iload_n 1, 1, 0, 0), (66, .iload 4, 2, 0, 0), (68, .iadd, 1, 0, 0), (69, .iconst 0, 1, 0, 0), (70, .invokevirtual 227, 3, 126, 3), (73, .iaload, 1, 0, 0), (74, .if_icmp .ge 60, 3, 134, 0), (77, .aload_n 0, 1, 0, 0), (78, .getfield 48, 3, 10, 23), (81, .aload_n 0, 1, 0, 0), (82, .iload_n 1, 1, 0, 0), (83, .iload 4, 2, 0, 0), (85, .iadd, 1, 0, 0), (86, .iconst 0, 1, 0, 0), (87, .invokevirtual 227, 3, 126, 3), (90, .iload 6, 2, 0, 0), (92, .iastore, 1, 0, 0), (93, .aload_n 0, 1, 0, 0), (94, .getfield 51, 3, 10, 24), (97, .iload_n 1, 1, 0, 0), (98, .iload 4, 2, 0, 0)]
def kX11_copies_1 : List (Nat × xI) := [(100, .iadd, 1, 0, 0), (101, .iload_n 1, 1, 0, 0), (102, .iastore, 1, 0, 0), (103, .aload_n 0, 1, 0, 0), (104, .getfield 54, 3, 10, 25), (107, .iload_n 1, 1, 0, 0), (108, .iload 4, 2, 0, 0), (110, .iadd, 1, 0, 0), (111, .iload_n 2, 1, 0, 0), (112, .iastore, 1, 0, 0), (113, .aload_n 0, 1, 0, 0), (114, .getfield 57, 3, 10, 26), (117, .iload_n 1, 1, 0, 0), (118, .iload 4, 2, 0, 0), (120, .iadd, 1, 0, 0), (121, .iload 5, 2, 0, 0), (123, .iastore, 1, 0, 0), (124, .aload_n 0, 1, 0, 0), (125, .getfield 60, 3, 10, 27), (128, .iload_n 1, 1, 0, 0), (129, .iload 4, 2, 0, 0), (131, .iadd, 1, 0, 0), (132, .iconst 0, 1, 0, 0), (133, .bastore, 1, 0, 0), (134, .iinc 4 (-1), 3, 0, 0), (137, .goto (-118), 3, 19, 0), (140, .return_, 1, 0, 0)]
def kX11_copies : List (Nat × xI) := kX11_copies_0 ++ (kX11_copies_1)
def kX11_literals_0 : List (Nat × xI) := [(0, .iconst 0, 1, 0, 0), (1, .istore_n 2, 1, 0, 0), (2, .iload_n 2, 1, 0, 0), (3, .aload_n 0, 1, 0, 0), (4, .getfield 123, 3, 10, 1), (7, .iconst 1, 1, 0, 0), (8, .if_icmp .ne 7, 3, 15, 0), (11, .iload_n 1, 1, 0, 0), (12, .goto 4, 3, 16, 0), (15, .iconst 0, 1, 0, 0), (16, .if_icmp .gt 106, 3, 122, 0), (19, .aload_n 0, 1, 0, 0), (20, .getfield 48, 3, 10, 23), (23, .aload_n 0, 1, 0, 0), (24, .iload_n 1, 1, 0, 0), (25, .iload_n 2, 1, 0, 0), (26, .invokevirtual 227, 3, 126, 3), (29, .iaload, 1, 0, 0), (30, .istore_n 3, 1, 0, 0), (31, .iload_n 3, 1, 0, 0), (32, .ldc 230, 2, 2000000000, 0), (34, .if_icmp .ge 82, 3, 116, 0), (37, .iload_n 3, 1, 0, 0), (38, .aload_n 0, 1, 0, 0), (39, .iconst 0, 1, 0, 0), (40, .iconst 1, 1, 0, 0), (41, .iconst 0, 1, 0, 0), (42, .aload_n 0, 1, 0, 0), (43, .getfield 7, 3, 10, 2), (46, .iload_n 1, 1, 0, 0), (47, .iaload, 1, 0, 0), (48, .iload_n 2, 1, 0, 0), (49, .invokevirtual 189, 3, 119, 6), (52, .iadd, 1, 0, 0), (53, .istore 4, 2, 0, 0), (55, .aload_n 0, 1, 0, 0), (56, .iload_n 1, 1, 0, 0), (57, .iconst 1, 1, 0, 0), (58, .iadd, 1, 0, 0), (59, .aload_n 0, 1, 0, 0), (60, .getfield 123, 3, 10, 1), (63, .iconst 1, 1, 0, 0), (64, .if_icmp .ne 9, 3, 73, 0), (67, .iload_n 2, 1, 0, 0), (68, .iconst 1, 1, 0, 0), (69, .iadd, 1, 0, 0), (70, .goto 4, 3, 74, 0), (73, .iconst 0, 1, 0, 0), (74, .invokevirtual 227, 3, 126, 3), (77, .istore 5, 2, 0, 0), (79, .iload 4, 2, 0, 0), (81, .aload_n 0, 1, 0, 0), (82, .getfield 48, 3, 10, 23), (85, .iload 5, 2, 0, 0), (87, .iaload, 1, 0, 0), (88, .if_icmp .ge 28, 3, 116, 0), (91, .aload_n 0, 1, 0, 0), (92, .getfield 48, 3, 10, 23), (95, .iload 5, 2, 0, 0), (97, .iload 4, 2, 0, 0)]
def kX11_literals_1 : List (Nat × xI) := [(99, .iastore, 1, 0, 0), (100, .aload_n 0, 1, 0, 0), (101, .getfield 123, 3, 10, 1), (104, .ifCond .ne 12, 3, 116, 0), (107, .aload_n 0, 1, 0, 0), (108, .getfield 60, 3, 10, 27), (111, .iload_n 1, 1, 0, 0), (112, .iconst 1, 1, 0, 0), (113, .iadd, 1, 0, 0), (114, .iconst 1, 1, 0, 0), (115, .bastore, 1, 0, 0), (116, .iinc 2 1, 3, 0, 0), (119, .goto (-117), 3, 2, 0), (122, .return_, 1, 0, 0)]
def kX11_literals : List (Nat × xI) := kX11_literals_0 ++ (kX11_literals_1)
def kX11_backPlain_0 : List (Nat × xI) := [(0, .aload_n 0, 1, 0, 0), (1, .getfield 136, 3, 10, 3), (4, .istore_n 1, 1, 0, 0), (5, .aload_n 0, 1, 0, 0), (6, .aload_n 0, 1, 0, 0), (7, .getfield 136, 3, 10, 3), (10, .invokevirtual 231, 3, 127, 2), (13, .istore_n 2, 1, 0, 0), (14, .aload_n 0, 1, 0, 0), (15, .aload_n 0, 1, 0, 0), (16, .getfield 48, 3, 10, 23), (19, .aload_n 0, 1, 0, 0), (20, .aload_n 0, 1, 0, 0), (21, .getfield 136, 3, 10, 3), (24, .iload_n 2, 1, 0, 0), (25, .invokevirtual 227, 3, 126, 3), (28, .iaload, 1, 0, 0), (29, .i2l, 1, 0, 0), (30, .aload_n 0, 1, 0, 0), (31, .getfield 123, 3, 10, 1), (34, .iconst 1, 1, 0, 0), (35, .if_icmp .ne 9, 3, 44, 0), (38, .ldc2_w 184, 3, 512, 0), (41, .goto 4, 3, 45, 0), (44, .lconst 0, 1, 0, 0), (45, .ladd, 1, 0, 0), (46, .putfield 220, 3, 10, 16), (49, .iconst 0, 1, 0, 0), (50, .istore_n 3, 1, 0, 0), (51, .iload_n 1, 1, 0, 0), (52, .ifCond .le 144, 3, 196, 0), (55, .aload_n 0, 1, 0, 0), (56, .getfield 123, 3, 10, 1), (59, .iconst 1, 1, 0, 0), (60, .if_icmp .ne 15, 3, 75, 0), (63, .iload_n 2, 1, 0, 0), (64, .ifCond .le 7, 3, 71, 0), (67, .iconst 1, 1, 0, 0), (68, .goto 13, 3, 81, 0), (71, .iconst 0, 1, 0, 0), (72, .goto 9, 3, 81, 0), (75, .aload_n 0, 1, 0, 0), (76, .getfield 60, 3, 10, 27), (79, .iload_n 1, 1, 0, 0), (80, .baload, 1, 0, 0), (81, .istore 4, 2, 0, 0), (83, .iload 4, 2, 0, 0), (85, .ifCond .eq 9, 3, 94, 0), (88, .iload_n 1, 1, 0, 0), (89, .iconst 1, 1, 0, 0), (90, .isub, 1, 0, 0), (91, .goto 9, 3, 100, 0), (94, .aload_n 0, 1, 0, 0), (95, .getfield 51, 3, 10, 24), (98, .iload_n 1, 1, 0, 0), (99, .iaload, 1, 0, 0), (100, .istore 5, 2, 0, 0), (102, .aload_n 0, 1, 0, 0), (103, .getfield 64, 3, 10, 28), (106, .iload_n 3, 1, 0, 0)]
def kX11_backPlain_1 : List (Nat × xI) := [(107, .iload 5, 2, 0, 0), (109, .iastore, 1, 0, 0), (110, .aload_n 0, 1, 0, 0), (111, .getfield 67, 3, 10, 29), (114, .iload_n 3, 1, 0, 0), (115, .iload 4, 2, 0, 0), (117, .ifCond .eq 7, 3, 124, 0), (120, .iconst 0, 1, 0, 0), (121, .goto 4, 3, 125, 0), (124, .iconst 1, 1, 0, 0), (125, .iastore, 1, 0, 0), (126, .aload_n 0, 1, 0, 0), (127, .getfield 70, 3, 10, 30), (130, .iload_n 3, 1, 0, 0), (131, .iload 4, 2, 0, 0), (133, .ifCond .eq 7, 3, 140, 0), (136, .iconst 0, 1, 0, 0), (137, .goto 9, 3, 146, 0), (140, .aload_n 0, 1, 0, 0), (141, .getfield 57, 3, 10, 26), (144, .iload_n 1, 1, 0, 0), (145, .iaload, 1, 0, 0), (146, .iastore, 1, 0, 0), (147, .aload_n 0, 1, 0, 0), (148, .getfield 73, 3, 10, 31), (151, .iload_n 3, 1, 0, 0), (152, .iload_n 1, 1, 0, 0), (153, .iload 5, 2, 0, 0), (155, .isub, 1, 0, 0), (156, .iastore, 1, 0, 0), (157, .iinc 3 1, 3, 0, 0), (160, .iload 4, 2, 0, 0), (162, .ifCond .eq 21, 3, 183, 0), (165, .aload_n 0, 1, 0, 0), (166, .getfield 123, 3, 10, 1), (169, .iconst 1, 1, 0, 0), (170, .if_icmp .ne 9, 3, 179, 0), (173, .iload_n 2, 1, 0, 0), (174, .iconst 1, 1, 0, 0), (175, .isub, 1, 0, 0), (176, .goto 13, 3, 189, 0), (179, .iconst 0, 1, 0, 0), (180, .goto 9, 3, 189, 0), (183, .aload_n 0, 1, 0, 0), (184, .getfield 54, 3, 10, 25), (187, .iload_n 1, 1, 0, 0), (188, .iaload, 1, 0, 0), (189, .istore_n 2, 1, 0, 0), (190, .iload 5, 2, 0, 0), (192, .istore_n 1, 1, 0, 0), (193, .goto (-142), 3, 51, 0), (196, .aload_n 0, 1, 0, 0), (197, .iload_n 3, 1, 0, 0), (198, .invokevirtual 234, 3, 132, 2), (201, .return_, 1, 0, 0)]
def kX11_backPlain : List (Nat × xI) := kX11_backPlain_0 ++ (kX11_backPlain_1)
def kX11_turnBack : List (Nat × xI) := [(0, .aload_n 0, 1, 0, 0), (1, .iconst 0, 1, 0, 0), (2, .putfield 186, 3, 10, 11), (5, .iload_n 1, 1, 0, 0), (6, .iconst 1, 1, 0, 0), (7, .isub, 1, 0, 0), (8, .istore_n 2, 1, 0, 0), (9, .iload_n 2, 1, 0, 0), (10, .ifCond .lt 37, 3, 47, 0), (13, .aload_n 0, 1, 0, 0), (14, .aload_n 0, 1, 0, 0), (15, .getfield 64, 3, 10, 28), (18, .iload_n 2, 1, 0, 0), (19, .iaload, 1, 0, 0), (20, .aload_n 0, 1, 0, 0), (21, .getfield 67, 3, 10, 29), (24, .iload_n 2, 1, 0, 0), (25, .iaload, 1, 0, 0), (26, .aload_n 0, 1, 0, 0), (27, .getfield 73, 3, 10, 31), (30, .iload_n 2, 1, 0, 0), (31, .iaload, 1, 0, 0), (32, .aload_n 0, 1, 0, 0), (33, .getfield 70, 3, 10, 30), (36, .iload_n 2, 1, 0, 0), (37, .iaload, 1, 0, 0), (38, .invokevirtual 208, 3, 124, 5), (41, .iinc 2 (-1), 3, 0, 0), (44, .goto (-35), 3, 9, 0), (47, .return_, 1, 0, 0)]
def kX11_bestPlain : List (Nat × xI) := [(0, .aload_n 0, 1, 0, 0), (1, .invokevirtual 238, 3, 128, 1), (4, .iconst 0, 1, 0, 0), (5, .istore_n 1, 1, 0, 0), (6, .iload_n 1, 1, 0, 0), (7, .aload_n 0, 1, 0, 0), (8, .getfield 136, 3, 10, 3), (11, .if_icmp .ge 24, 3, 35, 0), (14, .aload_n 0, 1, 0, 0), (15, .iload_n 1, 1, 0, 0), (16, .aload_n 0, 1, 0, 0), (17, .iload_n 1, 1, 0, 0), (18, .invokevirtual 231, 3, 127, 2), (21, .invokevirtual 241, 3, 129, 3), (24, .aload_n 0, 1, 0, 0), (25, .iload_n 1, 1, 0, 0), (26, .invokevirtual 244, 3, 130, 2), (29, .iinc 1 1, 3, 0, 0), (32, .goto (-26), 3, 6, 0), (35, .aload_n 0, 1, 0, 0), (36, .invokevirtual 247, 3, 131, 1), (39, .aload_n 0, 1, 0, 0), (40, .iconst 1, 1, 0, 0), (41, .putfield 224, 3, 10, 17), (44, .aload_n 0, 1, 0, 0), (45, .iconst 0, 1, 0, 0), (46, .putfield 250, 3, 10, 18), (49, .return_, 1, 0, 0)]
def kX11_isState : List (Nat × xI) := [(0, .iconst 1, 1, 0, 0), (1, .istore_n 2, 1, 0, 0), (2, .iconst 0, 1, 0, 0), (3, .istore_n 3, 1, 0, 0), (4, .iload_n 3, 1, 0, 0), (5, .iconst 4, 1, 0, 0), (6, .if_icmp .ge 36, 3, 42, 0), (9, .iload_n 2, 1, 0, 0), (10, .aload_n 0, 1, 0, 0), (11, .getfield 86, 3, 10, 35), (14, .iconst 4, 1, 0, 0), (15, .iload_n 1, 1, 0, 0), (16, .imul, 1, 0, 0), (17, .iload_n 3, 1, 0, 0), (18, .iadd, 1, 0, 0), (19, .iaload, 1, 0, 0), (20, .aload_n 0, 1, 0, 0), (21, .getfield 45, 3, 10, 21), (24, .iload_n 3, 1, 0, 0), (25, .iaload, 1, 0, 0), (26, .if_icmp .ne 7, 3, 33, 0), (29, .iconst 1, 1, 0, 0), (30, .goto 4, 3, 34, 0), (33, .iconst 0, 1, 0, 0), (34, .iand, 1, 0, 0), (35, .istore_n 2, 1, 0, 0), (36, .iinc 3 1, 3, 0, 0), (39, .goto (-35), 3, 4, 0), (42, .iload_n 2, 1, 0, 0), (43, .ireturn, 1, 0, 0)]
def kX11_isBehind : List (Nat × xI) := [(0, .aload_n 0, 1, 0, 0), (1, .getfield 82, 3, 10, 34), (4, .iload_n 1, 1, 0, 0), (5, .iaload, 1, 0, 0), (6, .iload_n 2, 1, 0, 0), (7, .if_icmp .eq 19, 3, 26, 0), (10, .aload_n 0, 1, 0, 0), (11, .getfield 82, 3, 10, 34), (14, .iload_n 1, 1, 0, 0), (15, .iaload, 1, 0, 0), (16, .iload_n 2, 1, 0, 0), (17, .if_icmp .le 7, 3, 24, 0), (20, .iconst 1, 1, 0, 0), (21, .goto 4, 3, 25, 0), (24, .iconst 0, 1, 0, 0), (25, .ireturn, 1, 0, 0), (26, .iconst 0, 1, 0, 0), (27, .istore_n 3, 1, 0, 0), (28, .iload_n 3, 1, 0, 0), (29, .iconst 4, 1, 0, 0), (30, .if_icmp .ge 53, 3, 83, 0), (33, .aload_n 0, 1, 0, 0), (34, .getfield 86, 3, 10, 35), (37, .iconst 4, 1, 0, 0), (38, .iload_n 1, 1, 0, 0), (39, .imul, 1, 0, 0), (40, .iload_n 3, 1, 0, 0), (41, .iadd, 1, 0, 0), (42, .iaload, 1, 0, 0), (43, .aload_n 0, 1, 0, 0), (44, .getfield 45, 3, 10, 21), (47, .iload_n 3, 1, 0, 0), (48, .iaload, 1, 0, 0), (49, .if_icmp .eq 28, 3, 77, 0), (52, .aload_n 0, 1, 0, 0), (53, .getfield 86, 3, 10, 35), (56, .iconst 4, 1, 0, 0), (57, .iload_n 1, 1, 0, 0), (58, .imul, 1, 0, 0), (59, .iload_n 3, 1, 0, 0), (60, .iadd, 1, 0, 0), (61, .iaload, 1, 0, 0), (62, .aload_n 0, 1, 0, 0), (63, .getfield 45, 3, 10, 21), (66, .iload_n 3, 1, 0, 0), (67, .iaload, 1, 0, 0), (68, .if_icmp .le 7, 3, 75, 0), (71, .iconst 1, 1, 0, 0), (72, .goto 4, 3, 76, 0), (75, .iconst 0, 1, 0, 0), (76, .ireturn, 1, 0, 0), (77, .iinc 3 1, 3, 0, 0), (80, .goto (-52), 3, 28, 0), (83, .iconst 0, 1, 0, 0), (84, .ireturn, 1, 0, 0)]
def kX11_moveState : List (Nat × xI) := [(0, .aload_n 0, 1, 0, 0), (1, .getfield 82, 3, 10, 34), (4, .iload_n 2, 1, 0, 0), (5, .aload_n 0, 1, 0, 0), (6, .getfield 82, 3, 10, 34), (9, .iload_n 1, 1, 0, 0), (10, .iaload, 1, 0, 0), (11, .iastore, 1, 0, 0), (12, .aload_n 0, 1, 0, 0), (13, .getfield 89, 3, 10, 36), (16, .iload_n 2, 1, 0, 0), (17, .aload_n 0, 1, 0, 0), (18, .getfield 89, 3, 10, 36), (21, .iload_n 1, 1, 0, 0), (22, .iaload, 1, 0, 0), (23, .iastore, 1, 0, 0), (24, .aload_n 0, 1, 0, 0), (25, .getfield 92, 3, 10, 37), (28, .iload_n 2, 1, 0, 0), (29, .aload_n 0, 1, 0, 0), (30, .getfield 92, 3, 10, 37), (33, .iload_n 1, 1, 0, 0), (34, .iaload, 1, 0, 0), (35, .iastore, 1, 0, 0), (36, .aload_n 0, 1, 0, 0), (37, .getfield 95, 3, 10, 38), (40, .iload_n 2, 1, 0, 0), (41, .aload_n 0, 1, 0, 0), (42, .getfield 95, 3, 10, 38), (45, .iload_n 1, 1, 0, 0), (46, .iaload, 1, 0, 0), (47, .iastore, 1, 0, 0), (48, .iconst 0, 1, 0, 0), (49, .istore_n 3, 1, 0, 0), (50, .iload_n 3, 1, 0, 0), (51, .iconst 4, 1, 0, 0), (52, .if_icmp .ge 29, 3, 81, 0), (55, .aload_n 0, 1, 0, 0), (56, .getfield 86, 3, 10, 35), (59, .iconst 4, 1, 0, 0), (60, .iload_n 2, 1, 0, 0), (61, .imul, 1, 0, 0), (62, .iload_n 3, 1, 0, 0), (63, .iadd, 1, 0, 0), (64, .aload_n 0, 1, 0, 0), (65, .getfield 86, 3, 10, 35), (68, .iconst 4, 1, 0, 0), (69, .iload_n 1, 1, 0, 0), (70, .imul, 1, 0, 0), (71, .iload_n 3, 1, 0, 0), (72, .iadd, 1, 0, 0), (73, .iaload, 1, 0, 0), (74, .iastore, 1, 0, 0), (75, .iinc 3 1, 3, 0, 0), (78, .goto (-28), 3, 50, 0), (81, .return_, 1, 0, 0)]
def kX11_comes_0 : List (Nat × xI) := [(0, .bipush 40, 2, 0, 0), (2, .iload_n 1, 1, 0, 0), (3, .imul, 1, 0, 0), (4, .istore 6, 2, 0, 0), (6, .aload_n 0, 1, 0, 0), (7, .getfield 76, 3, 10, 32), (10, .iload_n 1, 1, 0, 0), (11, .iaload, 1, 0, 0), (12, .istore 7, 2, 0, 0), (14, .iconst 0, 1, 0, 0), (15, .istore 8, 2, 0, 0), (17, .iload 8, 2, 0, 0), (19, .iload 7, 2, 0, 0), (21, .if_icmp .ge 78, 3, 99, 0), (24, .aload_n 0, 1, 0, 0), (25, .iload 6, 2, 0, 0), (27, .iload 8, 2, 0, 0), (29, .iadd, 1, 0, 0), (30, .invokevirtual 253, 3, 134, 2), (33, .ifCond .eq 60, 3, 93, 0), (36, .aload_n 0, 1, 0, 0), (37, .getfield 82, 3, 10, 34), (40, .iload 6, 2, 0, 0), (42, .iload 8, 2, 0, 0), (44, .iadd, 1, 0, 0), (45, .iaload, 1, 0, 0), (46, .iload_n 2, 1, 0, 0), (47, .if_icmp .gt 4, 3, 51, 0), (50, .return_, 1, 0, 0), (51, .iload 8, 2, 0, 0), (53, .istore 9, 2, 0, 0), (55, .iload 9, 2, 0, 0), (57, .iconst 1, 1, 0, 0), (58, .iadd, 1, 0, 0), (59, .iload 7, 2, 0, 0), (61, .if_icmp .ge 25, 3, 86, 0), (64, .aload_n 0, 1, 0, 0), (65, .iload 6, 2, 0, 0), (67, .iload 9, 2, 0, 0), (69, .iadd, 1, 0, 0), (70, .iconst 1, 1, 0, 0), (71, .iadd, 1, 0, 0), (72, .iload 6, 2, 0, 0), (74, .iload 9, 2, 0, 0), (76, .iadd, 1, 0, 0), (77, .invokevirtual 257, 3, 136, 3), (80, .iinc 9 1, 3, 0, 0), (83, .goto (-28), 3, 55, 0), (86, .iinc 7 (-1), 3, 0, 0), (89, .iload 7, 2, 0, 0), (91, .istore 8, 2, 0, 0), (93, .iinc 8 1, 3, 0, 0), (96, .goto (-79), 3, 17, 0), (99, .iload 7, 2, 0, 0), (101, .aload_n 0, 1, 0, 0), (102, .getfield 16, 3, 10, 5), (105, .if_icmp .ne 37, 3, 142, 0), (108, .aload_n 0, 1, 0, 0), (109, .getfield 79, 3, 10, 33), (112, .iload_n 1, 1, 0, 0)]
def kX11_comes_1 : List (Nat × xI) := [(113, .iconst 1, 1, 0, 0), (114, .bastore, 1, 0, 0), (115, .aload_n 0, 1, 0, 0), (116, .iload 6, 2, 0, 0), (118, .iload 7, 2, 0, 0), (120, .iadd, 1, 0, 0), (121, .iconst 1, 1, 0, 0), (122, .isub, 1, 0, 0), (123, .iload_n 2, 1, 0, 0), (124, .invokevirtual 260, 3, 135, 3), (127, .ifCond .ne 12, 3, 139, 0), (130, .aload_n 0, 1, 0, 0), (131, .getfield 76, 3, 10, 32), (134, .iload_n 1, 1, 0, 0), (135, .iload 7, 2, 0, 0), (137, .iastore, 1, 0, 0), (138, .return_, 1, 0, 0), (139, .iinc 7 (-1), 3, 0, 0), (142, .iload 7, 2, 0, 0), (144, .istore 8, 2, 0, 0), (146, .iload 8, 2, 0, 0), (148, .ifCond .le 40, 3, 188, 0), (151, .aload_n 0, 1, 0, 0), (152, .iload 6, 2, 0, 0), (154, .iload 8, 2, 0, 0), (156, .iadd, 1, 0, 0), (157, .iconst 1, 1, 0, 0), (158, .isub, 1, 0, 0), (159, .iload_n 2, 1, 0, 0), (160, .invokevirtual 260, 3, 135, 3), (163, .ifCond .eq 25, 3, 188, 0), (166, .aload_n 0, 1, 0, 0), (167, .iload 6, 2, 0, 0), (169, .iload 8, 2, 0, 0), (171, .iadd, 1, 0, 0), (172, .iconst 1, 1, 0, 0), (173, .isub, 1, 0, 0), (174, .iload 6, 2, 0, 0), (176, .iload 8, 2, 0, 0), (178, .iadd, 1, 0, 0), (179, .invokevirtual 257, 3, 136, 3), (182, .iinc 8 (-1), 3, 0, 0), (185, .goto (-39), 3, 146, 0), (188, .aload_n 0, 1, 0, 0), (189, .getfield 82, 3, 10, 34), (192, .iload 6, 2, 0, 0), (194, .iload 8, 2, 0, 0), (196, .iadd, 1, 0, 0), (197, .iload_n 2, 1, 0, 0), (198, .iastore, 1, 0, 0), (199, .aload_n 0, 1, 0, 0), (200, .getfield 89, 3, 10, 36), (203, .iload 6, 2, 0, 0), (205, .iload 8, 2, 0, 0), (207, .iadd, 1, 0, 0), (208, .iload_n 3, 1, 0, 0), (209, .iastore, 1, 0, 0), (210, .aload_n 0, 1, 0, 0), (211, .getfield 95, 3, 10, 38), (214, .iload 6, 2, 0, 0)]
def kX11_comes_2 : List (Nat × xI) := [(216, .iload 8, 2, 0, 0), (218, .iadd, 1, 0, 0), (219, .iload 4, 2, 0, 0), (221, .iastore, 1, 0, 0), (222, .aload_n 0, 1, 0, 0), (223, .getfield 92, 3, 10, 37), (226, .iload 6, 2, 0, 0), (228, .iload 8, 2, 0, 0), (230, .iadd, 1, 0, 0), (231, .iload 5, 2, 0, 0), (233, .iastore, 1, 0, 0), (234, .iconst 0, 1, 0, 0), (235, .istore 9, 2, 0, 0), (237, .iload 9, 2, 0, 0), (239, .iconst 4, 1, 0, 0), (240, .if_icmp .ge 31, 3, 271, 0), (243, .aload_n 0, 1, 0, 0), (244, .getfield 86, 3, 10, 35), (247, .iconst 4, 1, 0, 0), (248, .iload 6, 2, 0, 0), (250, .iload 8, 2, 0, 0), (252, .iadd, 1, 0, 0), (253, .imul, 1, 0, 0), (254, .iload 9, 2, 0, 0), (256, .iadd, 1, 0, 0), (257, .aload_n 0, 1, 0, 0), (258, .getfield 45, 3, 10, 21), (261, .iload 9, 2, 0, 0), (263, .iaload, 1, 0, 0), (264, .iastore, 1, 0, 0), (265, .iinc 9 1, 3, 0, 0), (268, .goto (-31), 3, 237, 0), (271, .aload_n 0, 1, 0, 0), (272, .getfield 76, 3, 10, 32), (275, .iload_n 1, 1, 0, 0), (276, .iload 7, 2, 0, 0), (278, .iconst 1, 1, 0, 0), (279, .iadd, 1, 0, 0), (280, .iastore, 1, 0, 0), (281, .return_, 1, 0, 0)]
def kX11_comes : List (Nat × xI) := kX11_comes_0 ++ (kX11_comes_1 ++ (kX11_comes_2))
def kX11_takeLatest : List (Nat × xI) := [(0, .iconst 0, 1, 0, 0), (1, .istore_n 2, 1, 0, 0), (2, .iload_n 2, 1, 0, 0), (3, .iconst 4, 1, 0, 0), (4, .if_icmp .ge 25, 3, 29, 0), (7, .aload_n 0, 1, 0, 0), (8, .getfield 45, 3, 10, 21), (11, .iload_n 2, 1, 0, 0), (12, .aload_n 0, 1, 0, 0), (13, .getfield 86, 3, 10, 35), (16, .iconst 4, 1, 0, 0), (17, .iload_n 1, 1, 0, 0), (18, .imul, 1, 0, 0), (19, .iload_n 2, 1, 0, 0), (20, .iadd, 1, 0, 0), (21, .iaload, 1, 0, 0), (22, .iastore, 1, 0, 0), (23, .iinc 2 1, 3, 0, 0), (26, .goto (-24), 3, 2, 0), (29, .return_, 1, 0, 0)]
def kX11_expand_0 : List (Nat × xI) := [(0, .bipush 40, 2, 0, 0), (2, .iload_n 1, 1, 0, 0), (3, .imul, 1, 0, 0), (4, .iload_n 2, 1, 0, 0), (5, .iadd, 1, 0, 0), (6, .istore_n 3, 1, 0, 0), (7, .aload_n 0, 1, 0, 0), (8, .getfield 82, 3, 10, 34), (11, .iload_n 3, 1, 0, 0), (12, .iaload, 1, 0, 0), (13, .istore 4, 2, 0, 0), (15, .aload_n 0, 1, 0, 0), (16, .iload_n 1, 1, 0, 0), (17, .invokevirtual 193, 3, 108, 2), (20, .istore 5, 2, 0, 0), (22, .iload 5, 2, 0, 0), (24, .aload_n 0, 1, 0, 0), (25, .invokevirtual 153, 3, 99, 1), (28, .if_icmp .lt 61, 3, 89, 0), (31, .aload_n 0, 1, 0, 0), (32, .iload_n 3, 1, 0, 0), (33, .invokevirtual 263, 3, 138, 2), (36, .aload_n 0, 1, 0, 0), (37, .getfield 42, 3, 10, 20), (40, .sipush 301, 3, 0, 0), (43, .iload_n 1, 1, 0, 0), (44, .imul, 1, 0, 0), (45, .iload 5, 2, 0, 0), (47, .iadd, 1, 0, 0), (48, .iaload, 1, 0, 0), (49, .istore 6, 2, 0, 0), (51, .aload_n 0, 1, 0, 0), (52, .iload 6, 2, 0, 0), (54, .iconst 3, 1, 0, 0), (55, .invokevirtual 212, 3, 122, 3), (58, .aload_n 0, 1, 0, 0), (59, .iload_n 1, 1, 0, 0), (60, .iload 5, 2, 0, 0), (62, .iadd, 1, 0, 0), (63, .iload 4, 2, 0, 0), (65, .aload_n 0, 1, 0, 0), (66, .iconst 1, 1, 0, 0), (67, .iload 5, 2, 0, 0), (69, .iload 6, 2, 0, 0), (71, .iconst 0, 1, 0, 0), (72, .iconst 0, 1, 0, 0), (73, .invokevirtual 189, 3, 119, 6), (76, .iadd, 1, 0, 0), (77, .iload_n 1, 1, 0, 0), (78, .iload_n 2, 1, 0, 0), (79, .iconst 1, 1, 0, 0), (80, .invokevirtual 266, 3, 137, 6), (83, .iinc 5 (-1), 3, 0, 0), (86, .goto (-64), 3, 22, 0), (89, .iconst 0, 1, 0, 0), (90, .istore 5, 2, 0, 0), (92, .iload 5, 2, 0, 0), (94, .iconst 4, 1, 0, 0), (95, .if_icmp .ge 83, 3, 178, 0), (98, .aload_n 0, 1, 0, 0)]
def kX11_expand_1 : List (Nat × xI) := [(99, .iload_n 3, 1, 0, 0), (100, .invokevirtual 263, 3, 138, 2), (103, .aload_n 0, 1, 0, 0), (104, .getfield 45, 3, 10, 21), (107, .iload 5, 2, 0, 0), (109, .iaload, 1, 0, 0), (110, .istore 6, 2, 0, 0), (112, .aload_n 0, 1, 0, 0), (113, .iload 6, 2, 0, 0), (115, .iload 5, 2, 0, 0), (117, .invokevirtual 212, 3, 122, 3), (120, .aload_n 0, 1, 0, 0), (121, .iload_n 1, 1, 0, 0), (122, .iload 6, 2, 0, 0), (124, .invokevirtual 199, 3, 109, 3), (127, .istore 7, 2, 0, 0), (129, .iload 7, 2, 0, 0), (131, .iconst 2, 1, 0, 0), (132, .if_icmp .lt 40, 3, 172, 0), (135, .aload_n 0, 1, 0, 0), (136, .iload_n 1, 1, 0, 0), (137, .iload 7, 2, 0, 0), (139, .iadd, 1, 0, 0), (140, .iload 4, 2, 0, 0), (142, .aload_n 0, 1, 0, 0), (143, .iconst 2, 1, 0, 0), (144, .iload 5, 2, 0, 0), (146, .iadd, 1, 0, 0), (147, .iload 7, 2, 0, 0), (149, .iload 6, 2, 0, 0), (151, .iconst 0, 1, 0, 0), (152, .iconst 0, 1, 0, 0), (153, .invokevirtual 189, 3, 119, 6), (156, .iadd, 1, 0, 0), (157, .iload_n 1, 1, 0, 0), (158, .iload_n 2, 1, 0, 0), (159, .iconst 2, 1, 0, 0), (160, .iload 5, 2, 0, 0), (162, .iadd, 1, 0, 0), (163, .invokevirtual 266, 3, 137, 6), (166, .iinc 7 (-1), 3, 0, 0), (169, .goto (-40), 3, 129, 0), (172, .iinc 5 1, 3, 0, 0), (175, .goto (-83), 3, 92, 0), (178, .aload_n 0, 1, 0, 0), (179, .iload_n 3, 1, 0, 0), (180, .invokevirtual 263, 3, 138, 2), (183, .aload_n 0, 1, 0, 0), (184, .getfield 45, 3, 10, 21), (187, .iconst 0, 1, 0, 0), (188, .iaload, 1, 0, 0), (189, .iload_n 1, 1, 0, 0), (190, .if_icmp .gt 54, 3, 244, 0), (193, .aload_n 0, 1, 0, 0), (194, .getfield 7, 3, 10, 2), (197, .iload_n 1, 1, 0, 0), (198, .iaload, 1, 0, 0), (199, .aload_n 0, 1, 0, 0), (200, .getfield 7, 3, 10, 2), (203, .iload_n 1, 1, 0, 0)]
def kX11_expand_2 : List (Nat × xI) := [(204, .aload_n 0, 1, 0, 0), (205, .getfield 45, 3, 10, 21), (208, .iconst 0, 1, 0, 0), (209, .iaload, 1, 0, 0), (210, .isub, 1, 0, 0), (211, .iaload, 1, 0, 0), (212, .if_icmp .ne 32, 3, 244, 0), (215, .aload_n 0, 1, 0, 0), (216, .iload_n 1, 1, 0, 0), (217, .iconst 1, 1, 0, 0), (218, .iadd, 1, 0, 0), (219, .iload 4, 2, 0, 0), (221, .aload_n 0, 1, 0, 0), (222, .bipush 6, 2, 0, 0), (224, .iconst 1, 1, 0, 0), (225, .aload_n 0, 1, 0, 0), (226, .getfield 45, 3, 10, 21), (229, .iconst 0, 1, 0, 0), (230, .iaload, 1, 0, 0), (231, .iconst 0, 1, 0, 0), (232, .iconst 0, 1, 0, 0), (233, .invokevirtual 189, 3, 119, 6), (236, .iadd, 1, 0, 0), (237, .iload_n 1, 1, 0, 0), (238, .iload_n 2, 1, 0, 0), (239, .bipush 6, 2, 0, 0), (241, .invokevirtual 266, 3, 137, 6), (244, .aload_n 0, 1, 0, 0), (245, .iload_n 1, 1, 0, 0), (246, .iconst 1, 1, 0, 0), (247, .iadd, 1, 0, 0), (248, .iload 4, 2, 0, 0), (250, .aload_n 0, 1, 0, 0), (251, .iconst 0, 1, 0, 0), (252, .iconst 1, 1, 0, 0), (253, .iconst 0, 1, 0, 0), (254, .aload_n 0, 1, 0, 0), (255, .getfield 7, 3, 10, 2), (258, .iload_n 1, 1, 0, 0), (259, .iaload, 1, 0, 0), (260, .iconst 0, 1, 0, 0), (261, .invokevirtual 189, 3, 119, 6), (264, .iadd, 1, 0, 0), (265, .iload_n 1, 1, 0, 0), (266, .iload_n 2, 1, 0, 0), (267, .iconst 0, 1, 0, 0), (268, .invokevirtual 266, 3, 137, 6), (271, .return_, 1, 0, 0)]
def kX11_expand : List (Nat × xI) := kX11_expand_0 ++ (kX11_expand_1 ++ (kX11_expand_2))
def kX11_bestWide_0 : List (Nat × xI) := [(0, .iconst 0, 1, 0, 0), (1, .istore_n 1, 1, 0, 0), (2, .iload_n 1, 1, 0, 0), (3, .aload_n 0, 1, 0, 0), (4, .getfield 136, 3, 10, 3), (7, .if_icmp .gt 23, 3, 30, 0), (10, .aload_n 0, 1, 0, 0), (11, .getfield 76, 3, 10, 32), (14, .iload_n 1, 1, 0, 0), (15, .iconst 0, 1, 0, 0), (16, .iastore, 1, 0, 0), (17, .aload_n 0, 1, 0, 0), (18, .getfield 79, 3, 10, 33), (21, .iload_n 1, 1, 0, 0), (22, .iconst 0, 1, 0, 0), (23, .bastore, 1, 0, 0), (24, .iinc 1 1, 3, 0, 0), (27, .goto (-25), 3, 2, 0), (30, .aload_n 0, 1, 0, 0), (31, .invokevirtual 202, 3, 121, 1), (34, .aload_n 0, 1, 0, 0), (35, .iconst 0, 1, 0, 0), (36, .iconst 0, 1, 0, 0), (37, .iconst 0, 1, 0, 0), (38, .iconst 0, 1, 0, 0), (39, .iconst 0, 1, 0, 0), (40, .invokevirtual 266, 3, 137, 6), (43, .iconst 0, 1, 0, 0), (44, .istore_n 1, 1, 0, 0), (45, .iload_n 1, 1, 0, 0), (46, .aload_n 0, 1, 0, 0), (47, .getfield 136, 3, 10, 3), (50, .if_icmp .ge 33, 3, 83, 0), (53, .iconst 0, 1, 0, 0), (54, .istore_n 2, 1, 0, 0), (55, .iload_n 2, 1, 0, 0), (56, .aload_n 0, 1, 0, 0), (57, .getfield 76, 3, 10, 32), (60, .iload_n 1, 1, 0, 0), (61, .iaload, 1, 0, 0), (62, .if_icmp .ge 15, 3, 77, 0), (65, .aload_n 0, 1, 0, 0), (66, .iload_n 1, 1, 0, 0), (67, .iload_n 2, 1, 0, 0), (68, .invokevirtual 270, 3, 139, 3), (71, .iinc 2 1, 3, 0, 0), (74, .goto (-19), 3, 55, 0), (77, .iinc 1 1, 3, 0, 0), (80, .goto (-35), 3, 45, 0), (83, .aload_n 0, 1, 0, 0), (84, .iconst 0, 1, 0, 0), (85, .putfield 250, 3, 10, 18), (88, .iconst 0, 1, 0, 0), (89, .istore_n 1, 1, 0, 0), (90, .iload_n 1, 1, 0, 0), (91, .aload_n 0, 1, 0, 0), (92, .getfield 136, 3, 10, 3), (95, .if_icmp .ge 32, 3, 127, 0), (98, .aload_n 0, 1, 0, 0), (99, .dup, 1, 0, 0)]
def kX11_bestWide_1 : List (Nat × xI) := [(100, .getfield 250, 3, 10, 18), (103, .aload_n 0, 1, 0, 0), (104, .getfield 79, 3, 10, 33), (107, .iload_n 1, 1, 0, 0), (108, .baload, 1, 0, 0), (109, .ifCond .eq 7, 3, 116, 0), (112, .iconst 1, 1, 0, 0), (113, .goto 4, 3, 117, 0), (116, .iconst 0, 1, 0, 0), (117, .iadd, 1, 0, 0), (118, .putfield 250, 3, 10, 18), (121, .iinc 1 1, 3, 0, 0), (124, .goto (-34), 3, 90, 0), (127, .aload_n 0, 1, 0, 0), (128, .aload_n 0, 1, 0, 0), (129, .getfield 250, 3, 10, 18), (132, .ifCond .ne 7, 3, 139, 0), (135, .iconst 1, 1, 0, 0), (136, .goto 4, 3, 140, 0), (139, .iconst 0, 1, 0, 0), (140, .putfield 224, 3, 10, 17), (143, .aload_n 0, 1, 0, 0), (144, .aload_n 0, 1, 0, 0), (145, .getfield 82, 3, 10, 34), (148, .bipush 40, 2, 0, 0), (150, .aload_n 0, 1, 0, 0), (151, .getfield 136, 3, 10, 3), (154, .imul, 1, 0, 0), (155, .iaload, 1, 0, 0), (156, .i2l, 1, 0, 0), (157, .putfield 220, 3, 10, 16), (160, .iconst 0, 1, 0, 0), (161, .istore_n 1, 1, 0, 0), (162, .aload_n 0, 1, 0, 0), (163, .getfield 136, 3, 10, 3), (166, .istore_n 2, 1, 0, 0), (167, .iconst 0, 1, 0, 0), (168, .istore_n 3, 1, 0, 0), (169, .iload_n 2, 1, 0, 0), (170, .ifCond .le 96, 3, 266, 0), (173, .bipush 40, 2, 0, 0), (175, .iload_n 2, 1, 0, 0), (176, .imul, 1, 0, 0), (177, .iload_n 3, 1, 0, 0), (178, .iadd, 1, 0, 0), (179, .istore 4, 2, 0, 0), (181, .aload_n 0, 1, 0, 0), (182, .getfield 89, 3, 10, 36), (185, .iload 4, 2, 0, 0), (187, .iaload, 1, 0, 0), (188, .istore 5, 2, 0, 0), (190, .aload_n 0, 1, 0, 0), (191, .getfield 92, 3, 10, 37), (194, .iload 4, 2, 0, 0), (196, .iaload, 1, 0, 0), (197, .istore 6, 2, 0, 0), (199, .aload_n 0, 1, 0, 0), (200, .getfield 64, 3, 10, 28), (203, .iload_n 1, 1, 0, 0), (204, .iload 5, 2, 0, 0)]
def kX11_bestWide_2 : List (Nat × xI) := [(206, .iastore, 1, 0, 0), (207, .aload_n 0, 1, 0, 0), (208, .getfield 67, 3, 10, 29), (211, .iload_n 1, 1, 0, 0), (212, .iload 6, 2, 0, 0), (214, .iastore, 1, 0, 0), (215, .aload_n 0, 1, 0, 0), (216, .getfield 73, 3, 10, 31), (219, .iload_n 1, 1, 0, 0), (220, .iload_n 2, 1, 0, 0), (221, .iload 5, 2, 0, 0), (223, .isub, 1, 0, 0), (224, .iastore, 1, 0, 0), (225, .aload_n 0, 1, 0, 0), (226, .getfield 70, 3, 10, 30), (229, .iload_n 1, 1, 0, 0), (230, .iload 6, 2, 0, 0), (232, .ifCond .ne 7, 3, 239, 0), (235, .iconst 0, 1, 0, 0), (236, .goto 12, 3, 248, 0), (239, .aload_n 0, 1, 0, 0), (240, .getfield 86, 3, 10, 35), (243, .iconst 4, 1, 0, 0), (244, .iload 4, 2, 0, 0), (246, .imul, 1, 0, 0), (247, .iaload, 1, 0, 0), (248, .iastore, 1, 0, 0), (249, .iinc 1 1, 3, 0, 0), (252, .aload_n 0, 1, 0, 0), (253, .getfield 95, 3, 10, 38), (256, .iload 4, 2, 0, 0), (258, .iaload, 1, 0, 0), (259, .istore_n 3, 1, 0, 0), (260, .iload 5, 2, 0, 0), (262, .istore_n 2, 1, 0, 0), (263, .goto (-94), 3, 169, 0), (266, .aload_n 0, 1, 0, 0), (267, .iload_n 1, 1, 0, 0), (268, .invokevirtual 234, 3, 132, 2), (271, .return_, 1, 0, 0)]
def kX11_bestWide : List (Nat × xI) := kX11_bestWide_0 ++ (kX11_bestWide_1 ++ (kX11_bestWide_2))
def kX11_best : List (Nat × xI) := [(0, .aload_n 0, 1, 0, 0), (1, .invokevirtual 273, 3, 107, 1), (4, .aload_n 0, 1, 0, 0), (5, .getfield 123, 3, 10, 1), (8, .iconst 2, 1, 0, 0), (9, .if_icmp .ne 10, 3, 19, 0), (12, .aload_n 0, 1, 0, 0), (13, .invokevirtual 276, 3, 140, 1), (16, .goto 7, 3, 23, 0), (19, .aload_n 0, 1, 0, 0), (20, .invokevirtual 279, 3, 133, 1), (23, .return_, 1, 0, 0)]
def kX11_parse : List (Nat × xI) := [(0, .aload_n 0, 1, 0, 0), (1, .iconst 0, 1, 0, 0), (2, .putfield 129, 3, 10, 0), (5, .iload_n 1, 1, 0, 0), (6, .ifCond .lt 8, 3, 14, 0), (9, .iload_n 1, 1, 0, 0), (10, .iconst 3, 1, 0, 0), (11, .if_icmp .le 5, 3, 16, 0), (14, .iconst (-1), 1, 0, 0), (15, .ireturn, 1, 0, 0), (16, .aload_n 0, 1, 0, 0), (17, .iconst 1, 1, 0, 0), (18, .putfield 141, 3, 10, 10), (21, .iload_n 1, 1, 0, 0), (22, .iconst 3, 1, 0, 0), (23, .if_icmp .ne 10, 3, 33, 0), (26, .aload_n 0, 1, 0, 0), (27, .invokevirtual 282, 3, 141, 1), (30, .goto 12, 3, 42, 0), (33, .aload_n 0, 1, 0, 0), (34, .invokevirtual 273, 3, 107, 1), (37, .aload_n 0, 1, 0, 0), (38, .iload_n 1, 1, 0, 0), (39, .invokevirtual 285, 3, 125, 2), (42, .aload_n 0, 1, 0, 0), (43, .getfield 186, 3, 10, 11), (46, .ireturn, 1, 0, 0)]
def kX11_log : List (Nat × xI) := [(0, .iload_n 0, 1, 0, 0), (1, .invokestatic 156, 3, 110, 1), (4, .istore_n 1, 1, 0, 0), (5, .bipush 64, 2, 0, 0), (7, .iload_n 1, 1, 0, 0), (8, .imul, 1, 0, 0), (9, .ldc2_w 288, 3, 64, 0), (12, .iload_n 0, 1, 0, 0), (13, .i2l, 1, 0, 0), (14, .lmul, 1, 0, 0), (15, .iload_n 1, 1, 0, 0), (16, .lshr, 1, 0, 0), (17, .l2i, 1, 0, 0), (18, .iadd, 1, 0, 0), (19, .bipush 64, 2, 0, 0), (21, .isub, 1, 0, 0), (22, .ireturn, 1, 0, 0)]
def kX11_fit_0 : List (Nat × xI) := [(0, .iconst 0, 1, 0, 0), (1, .istore_n 1, 1, 0, 0), (2, .iload_n 1, 1, 0, 0), (3, .sipush 1024, 3, 0, 0), (6, .if_icmp .ge 16, 3, 22, 0), (9, .aload_n 0, 1, 0, 0), (10, .getfield 98, 3, 10, 39), (13, .iload_n 1, 1, 0, 0), (14, .iconst 0, 1, 0, 0), (15, .iastore, 1, 0, 0), (16, .iinc 1 1, 3, 0, 0), (19, .goto (-17), 3, 2, 0), (22, .iconst 0, 1, 0, 0), (23, .istore_n 1, 1, 0, 0), (24, .iload_n 1, 1, 0, 0), (25, .aload_n 0, 1, 0, 0), (26, .getfield 186, 3, 10, 11), (29, .if_icmp .ge 119, 3, 148, 0), (32, .aload_n 0, 1, 0, 0), (33, .getfield 35, 3, 10, 15), (36, .iload_n 1, 1, 0, 0), (37, .iaload, 1, 0, 0), (38, .istore_n 2, 1, 0, 0), (39, .iload_n 2, 1, 0, 0), (40, .ifCond .ne 26, 3, 66, 0), (43, .aload_n 0, 1, 0, 0), (44, .getfield 98, 3, 10, 39), (47, .aload_n 0, 1, 0, 0), (48, .getfield 7, 3, 10, 2), (51, .aload_n 0, 1, 0, 0), (52, .getfield 26, 3, 10, 12), (55, .iload_n 1, 1, 0, 0), (56, .iaload, 1, 0, 0), (57, .iaload, 1, 0, 0), (58, .dup2, 1, 0, 0), (59, .iaload, 1, 0, 0), (60, .iconst 1, 1, 0, 0), (61, .iadd, 1, 0, 0), (62, .iastore, 1, 0, 0), (63, .goto 36, 3, 99, 0), (66, .iload_n 2, 1, 0, 0), (67, .bipush 6, 2, 0, 0), (69, .if_icmp .eq 30, 3, 99, 0), (72, .aload_n 0, 1, 0, 0), (73, .getfield 98, 3, 10, 39), (76, .sipush 256, 3, 0, 0), (79, .aload_n 0, 1, 0, 0), (80, .getfield 29, 3, 10, 13), (83, .iload_n 1, 1, 0, 0), (84, .iaload, 1, 0, 0), (85, .aload_n 0, 1, 0, 0), (86, .invokevirtual 153, 3, 99, 1), (89, .isub, 1, 0, 0), (90, .invokestatic 159, 3, 111, 1), (93, .iadd, 1, 0, 0), (94, .dup2, 1, 0, 0), (95, .iaload, 1, 0, 0), (96, .iconst 1, 1, 0, 0), (97, .iadd, 1, 0, 0), (98, .iastore, 1, 0, 0)]
def kX11_fit_1 : List (Nat × xI) := [(99, .iload_n 2, 1, 0, 0), (100, .iconst 1, 1, 0, 0), (101, .if_icmp .ne 27, 3, 128, 0), (104, .aload_n 0, 1, 0, 0), (105, .getfield 98, 3, 10, 39), (108, .sipush 512, 3, 0, 0), (111, .aload_n 0, 1, 0, 0), (112, .getfield 32, 3, 10, 14), (115, .iload_n 1, 1, 0, 0), (116, .iaload, 1, 0, 0), (117, .iconst 1, 1, 0, 0), (118, .isub, 1, 0, 0), (119, .invokestatic 165, 3, 113, 1), (122, .iadd, 1, 0, 0), (123, .dup2, 1, 0, 0), (124, .iaload, 1, 0, 0), (125, .iconst 1, 1, 0, 0), (126, .iadd, 1, 0, 0), (127, .iastore, 1, 0, 0), (128, .aload_n 0, 1, 0, 0), (129, .getfield 98, 3, 10, 39), (132, .sipush 768, 3, 0, 0), (135, .iload_n 2, 1, 0, 0), (136, .iadd, 1, 0, 0), (137, .dup2, 1, 0, 0), (138, .iaload, 1, 0, 0), (139, .iconst 1, 1, 0, 0), (140, .iadd, 1, 0, 0), (141, .iastore, 1, 0, 0), (142, .iinc 1 1, 3, 0, 0), (145, .goto (-121), 3, 24, 0), (148, .iconst 0, 1, 0, 0), (149, .istore_n 1, 1, 0, 0), (150, .iload_n 1, 1, 0, 0), (151, .aload_n 0, 1, 0, 0), (152, .getfield 123, 3, 10, 1), (155, .ifCond .ne 7, 3, 162, 0), (158, .iconst 3, 1, 0, 0), (159, .goto 4, 3, 163, 0), (162, .iconst 4, 1, 0, 0), (163, .if_icmp .ge 111, 3, 274, 0), (166, .iconst 0, 1, 0, 0), (167, .istore_n 2, 1, 0, 0), (168, .iconst 0, 1, 0, 0), (169, .istore_n 3, 1, 0, 0), (170, .iload_n 3, 1, 0, 0), (171, .iload_n 1, 1, 0, 0), (172, .invokestatic 132, 3, 101, 1), (175, .if_icmp .ge 24, 3, 199, 0), (178, .iload_n 2, 1, 0, 0), (179, .aload_n 0, 1, 0, 0), (180, .getfield 98, 3, 10, 39), (183, .sipush 256, 3, 0, 0), (186, .iload_n 1, 1, 0, 0), (187, .imul, 1, 0, 0), (188, .iload_n 3, 1, 0, 0), (189, .iadd, 1, 0, 0), (190, .iaload, 1, 0, 0), (191, .iadd, 1, 0, 0), (192, .istore_n 2, 1, 0, 0)]
def kX11_fit_2 : List (Nat × xI) := [(193, .iinc 3 1, 3, 0, 0), (196, .goto (-26), 3, 170, 0), (199, .iconst 0, 1, 0, 0), (200, .istore_n 3, 1, 0, 0), (201, .iload_n 3, 1, 0, 0), (202, .iload_n 1, 1, 0, 0), (203, .invokestatic 132, 3, 101, 1), (206, .if_icmp .ge 62, 3, 268, 0), (209, .iload_n 2, 1, 0, 0), (210, .iload_n 1, 1, 0, 0), (211, .invokestatic 132, 3, 101, 1), (214, .iadd, 1, 0, 0), (215, .invokestatic 290, 3, 143, 1), (218, .aload_n 0, 1, 0, 0), (219, .getfield 98, 3, 10, 39), (222, .sipush 256, 3, 0, 0), (225, .iload_n 1, 1, 0, 0), (226, .imul, 1, 0, 0), (227, .iload_n 3, 1, 0, 0), (228, .iadd, 1, 0, 0), (229, .iaload, 1, 0, 0), (230, .iconst 1, 1, 0, 0), (231, .iadd, 1, 0, 0), (232, .invokestatic 290, 3, 143, 1), (235, .isub, 1, 0, 0), (236, .istore 4, 2, 0, 0), (238, .aload_n 0, 1, 0, 0), (239, .getfield 13, 3, 10, 4), (242, .sipush 256, 3, 0, 0), (245, .iload_n 1, 1, 0, 0), (246, .imul, 1, 0, 0), (247, .iload_n 3, 1, 0, 0), (248, .iadd, 1, 0, 0), (249, .iload 4, 2, 0, 0), (251, .iconst 1, 1, 0, 0), (252, .if_icmp .ge 7, 3, 259, 0), (255, .iconst 1, 1, 0, 0), (256, .goto 5, 3, 261, 0), (259, .iload 4, 2, 0, 0), (261, .iastore, 1, 0, 0), (262, .iinc 3 1, 3, 0, 0), (265, .goto (-64), 3, 201, 0), (268, .iinc 1 1, 3, 0, 0), (271, .goto (-121), 3, 150, 0), (274, .return_, 1, 0, 0)]
def kX11_fit : List (Nat × xI) := kX11_fit_0 ++ (kX11_fit_1 ++ (kX11_fit_2))
def kX11_rounds_0 : List (Nat × xI) := [(0, .aload_n 0, 1, 0, 0), (1, .iconst 0, 1, 0, 0), (2, .putfield 129, 3, 10, 0), (5, .iload_n 1, 1, 0, 0), (6, .iconst 1, 1, 0, 0), (7, .if_icmp .lt 24, 3, 31, 0), (10, .iload_n 1, 1, 0, 0), (11, .bipush 8, 2, 0, 0), (13, .if_icmp .gt 18, 3, 31, 0), (16, .aload_n 0, 1, 0, 0), (17, .getfield 123, 3, 10, 1), (20, .iconst 1, 1, 0, 0), (21, .if_icmp .eq 10, 3, 31, 0), (24, .aload_n 0, 1, 0, 0), (25, .getfield 136, 3, 10, 3), (28, .ifCond .ne 7, 3, 35, 0), (31, .ldc2_w 293, 3, 18446744073709551615, 0), (34, .lreturn, 1, 0, 0), (35, .ldc2_w 293, 3, 18446744073709551615, 0), (38, .lstore_n 2, 1, 0, 0), (39, .iconst 0, 1, 0, 0), (40, .istore 4, 2, 0, 0), (42, .lconst 0, 1, 0, 0), (43, .lstore 5, 2, 0, 0), (45, .iconst 0, 1, 0, 0), (46, .istore 7, 2, 0, 0), (48, .iconst 0, 1, 0, 0), (49, .istore 8, 2, 0, 0), (51, .iload 8, 2, 0, 0), (53, .iload_n 1, 1, 0, 0), (54, .if_icmp .ge 162, 3, 216, 0), (57, .aload_n 0, 1, 0, 0), (58, .invokevirtual 282, 3, 141, 1), (61, .aload_n 0, 1, 0, 0), (62, .invokevirtual 295, 3, 144, 1), (65, .aload_n 0, 1, 0, 0), (66, .invokevirtual 216, 3, 120, 1), (69, .lstore 9, 2, 0, 0), (71, .lload_n 2, 1, 0, 0), (72, .lconst 0, 1, 0, 0), (73, .lcmp, 1, 0, 0), (74, .ifCond .lt 10, 3, 84, 0), (77, .lload 9, 2, 0, 0), (79, .lload_n 2, 1, 0, 0), (80, .lcmp, 1, 0, 0), (81, .ifCond .ge 129, 3, 210, 0), (84, .lload 9, 2, 0, 0), (86, .lstore_n 2, 1, 0, 0), (87, .aload_n 0, 1, 0, 0), (88, .getfield 186, 3, 10, 11), (91, .istore 4, 2, 0, 0), (93, .aload_n 0, 1, 0, 0), (94, .getfield 220, 3, 10, 16), (97, .lstore 5, 2, 0, 0), (99, .aload_n 0, 1, 0, 0), (100, .getfield 224, 3, 10, 17), (103, .istore 7, 2, 0, 0), (105, .iconst 0, 1, 0, 0), (106, .istore 11, 2, 0, 0), (108, .iload 11, 2, 0, 0)]
def kX11_rounds_1 : List (Nat × xI) := [(110, .sipush 1024, 3, 0, 0), (113, .if_icmp .ge 23, 3, 136, 0), (116, .aload_n 0, 1, 0, 0), (117, .getfield 101, 3, 10, 40), (120, .iload 11, 2, 0, 0), (122, .aload_n 0, 1, 0, 0), (123, .getfield 13, 3, 10, 4), (126, .iload 11, 2, 0, 0), (128, .iaload, 1, 0, 0), (129, .iastore, 1, 0, 0), (130, .iinc 11 1, 3, 0, 0), (133, .goto (-25), 3, 108, 0), (136, .iconst 0, 1, 0, 0), (137, .istore 11, 2, 0, 0), (139, .iload 11, 2, 0, 0), (141, .aload_n 0, 1, 0, 0), (142, .getfield 186, 3, 10, 11), (145, .if_icmp .ge 65, 3, 210, 0), (148, .aload_n 0, 1, 0, 0), (149, .getfield 104, 3, 10, 41), (152, .iload 11, 2, 0, 0), (154, .aload_n 0, 1, 0, 0), (155, .getfield 26, 3, 10, 12), (158, .iload 11, 2, 0, 0), (160, .iaload, 1, 0, 0), (161, .iastore, 1, 0, 0), (162, .aload_n 0, 1, 0, 0), (163, .getfield 107, 3, 10, 42), (166, .iload 11, 2, 0, 0), (168, .aload_n 0, 1, 0, 0), (169, .getfield 29, 3, 10, 13), (172, .iload 11, 2, 0, 0), (174, .iaload, 1, 0, 0), (175, .iastore, 1, 0, 0), (176, .aload_n 0, 1, 0, 0), (177, .getfield 110, 3, 10, 43), (180, .iload 11, 2, 0, 0), (182, .aload_n 0, 1, 0, 0), (183, .getfield 32, 3, 10, 14), (186, .iload 11, 2, 0, 0), (188, .iaload, 1, 0, 0), (189, .iastore, 1, 0, 0), (190, .aload_n 0, 1, 0, 0), (191, .getfield 113, 3, 10, 44), (194, .iload 11, 2, 0, 0), (196, .aload_n 0, 1, 0, 0), (197, .getfield 35, 3, 10, 15), (200, .iload 11, 2, 0, 0), (202, .iaload, 1, 0, 0), (203, .iastore, 1, 0, 0), (204, .iinc 11 1, 3, 0, 0), (207, .goto (-68), 3, 139, 0), (210, .iinc 8 1, 3, 0, 0), (213, .goto (-162), 3, 51, 0), (216, .iconst 0, 1, 0, 0), (217, .istore 8, 2, 0, 0), (219, .iload 8, 2, 0, 0), (221, .sipush 1024, 3, 0, 0), (224, .if_icmp .ge 23, 3, 247, 0), (227, .aload_n 0, 1, 0, 0)]
def kX11_rounds_2 : List (Nat × xI) := [(228, .getfield 13, 3, 10, 4), (231, .iload 8, 2, 0, 0), (233, .aload_n 0, 1, 0, 0), (234, .getfield 101, 3, 10, 40), (237, .iload 8, 2, 0, 0), (239, .iaload, 1, 0, 0), (240, .iastore, 1, 0, 0), (241, .iinc 8 1, 3, 0, 0), (244, .goto (-25), 3, 219, 0), (247, .aload_n 0, 1, 0, 0), (248, .iconst 0, 1, 0, 0), (249, .putfield 186, 3, 10, 11), (252, .iconst 0, 1, 0, 0), (253, .istore 8, 2, 0, 0), (255, .iload 8, 2, 0, 0), (257, .iload 4, 2, 0, 0), (259, .if_icmp .ge 41, 3, 300, 0), (262, .aload_n 0, 1, 0, 0), (263, .aload_n 0, 1, 0, 0), (264, .getfield 104, 3, 10, 41), (267, .iload 8, 2, 0, 0), (269, .iaload, 1, 0, 0), (270, .aload_n 0, 1, 0, 0), (271, .getfield 113, 3, 10, 44), (274, .iload 8, 2, 0, 0), (276, .iaload, 1, 0, 0), (277, .aload_n 0, 1, 0, 0), (278, .getfield 107, 3, 10, 42), (281, .iload 8, 2, 0, 0), (283, .iaload, 1, 0, 0), (284, .aload_n 0, 1, 0, 0), (285, .getfield 110, 3, 10, 43), (288, .iload 8, 2, 0, 0), (290, .iaload, 1, 0, 0), (291, .invokevirtual 208, 3, 124, 5), (294, .iinc 8 1, 3, 0, 0), (297, .goto (-42), 3, 255, 0), (300, .aload_n 0, 1, 0, 0), (301, .lload 5, 2, 0, 0), (303, .putfield 220, 3, 10, 16), (306, .aload_n 0, 1, 0, 0), (307, .iload 7, 2, 0, 0), (309, .putfield 224, 3, 10, 17), (312, .aload_n 0, 1, 0, 0), (313, .iconst 1, 1, 0, 0), (314, .putfield 141, 3, 10, 10), (317, .lload_n 2, 1, 0, 0), (318, .lreturn, 1, 0, 0)]
def kX11_rounds : List (Nat × xI) := kX11_rounds_0 ++ (kX11_rounds_1 ++ (kX11_rounds_2))
def kX11_step : List (Nat × xI) := [(0, .aload_n 0, 1, 0, 0), (1, .iconst 0, 1, 0, 0), (2, .putfield 129, 3, 10, 0), (5, .aload_n 0, 1, 0, 0), (6, .getfield 141, 3, 10, 10), (9, .ifCond .eq 24, 3, 33, 0), (12, .iload_n 1, 1, 0, 0), (13, .ifCond .lt 20, 3, 33, 0), (16, .iload_n 1, 1, 0, 0), (17, .aload_n 0, 1, 0, 0), (18, .getfield 186, 3, 10, 11), (21, .if_icmp .ge 12, 3, 33, 0), (24, .iload_n 2, 1, 0, 0), (25, .ifCond .lt 8, 3, 33, 0), (28, .iload_n 2, 1, 0, 0), (29, .iconst 3, 1, 0, 0), (30, .if_icmp .le 5, 3, 35, 0), (33, .iconst (-1), 1, 0, 0), (34, .ireturn, 1, 0, 0), (35, .iload_n 2, 1, 0, 0), (36, .ifCond .ne 12, 3, 48, 0), (39, .aload_n 0, 1, 0, 0), (40, .getfield 26, 3, 10, 12), (43, .iload_n 1, 1, 0, 0), (44, .iaload, 1, 0, 0), (45, .goto 37, 3, 82, 0), (48, .iload_n 2, 1, 0, 0), (49, .iconst 1, 1, 0, 0), (50, .if_icmp .ne 12, 3, 62, 0), (53, .aload_n 0, 1, 0, 0), (54, .getfield 29, 3, 10, 13), (57, .iload_n 1, 1, 0, 0), (58, .iaload, 1, 0, 0), (59, .goto 23, 3, 82, 0), (62, .iload_n 2, 1, 0, 0), (63, .iconst 2, 1, 0, 0), (64, .if_icmp .ne 12, 3, 76, 0), (67, .aload_n 0, 1, 0, 0), (68, .getfield 32, 3, 10, 14), (71, .iload_n 1, 1, 0, 0), (72, .iaload, 1, 0, 0), (73, .goto 9, 3, 82, 0), (76, .aload_n 0, 1, 0, 0), (77, .getfield 35, 3, 10, 15), (80, .iload_n 1, 1, 0, 0), (81, .iaload, 1, 0, 0), (82, .ireturn, 1, 0, 0)]
def kX11_sum : List (Nat × xI) := [(0, .aload_n 0, 1, 0, 0), (1, .iconst 0, 1, 0, 0), (2, .putfield 129, 3, 10, 0), (5, .aload_n 0, 1, 0, 0), (6, .getfield 141, 3, 10, 10), (9, .ifCond .eq 10, 3, 19, 0), (12, .aload_n 0, 1, 0, 0), (13, .getfield 220, 3, 10, 16), (16, .goto 6, 3, 22, 0), (19, .ldc2_w 293, 3, 18446744073709551615, 0), (22, .lreturn, 1, 0, 0)]
def kX11_again : List (Nat × xI) := [(0, .aload_n 0, 1, 0, 0), (1, .iconst 0, 1, 0, 0), (2, .putfield 129, 3, 10, 0), (5, .aload_n 0, 1, 0, 0), (6, .getfield 141, 3, 10, 10), (9, .ifCond .eq 10, 3, 19, 0), (12, .aload_n 0, 1, 0, 0), (13, .invokevirtual 216, 3, 120, 1), (16, .goto 6, 3, 22, 0), (19, .ldc2_w 293, 3, 18446744073709551615, 0), (22, .lreturn, 1, 0, 0)]
def kX11_least : List (Nat × xI) := [(0, .aload_n 0, 1, 0, 0), (1, .iconst 0, 1, 0, 0), (2, .putfield 129, 3, 10, 0), (5, .aload_n 0, 1, 0, 0), (6, .getfield 141, 3, 10, 10), (9, .ifCond .eq 14, 3, 23, 0), (12, .aload_n 0, 1, 0, 0), (13, .getfield 224, 3, 10, 17), (16, .ifCond .eq 7, 3, 23, 0), (19, .iconst 1, 1, 0, 0), (20, .goto 4, 3, 24, 0), (23, .iconst 0, 1, 0, 0), (24, .ireturn, 1, 0, 0)]
def kX11_told_0 : List (Nat × xI) := [(0, .aload_n 0, 1, 0, 0), (1, .iconst 0, 1, 0, 0), (2, .putfield 129, 3, 10, 0), (5, .aload_n 0, 1, 0, 0), (6, .getfield 141, 3, 10, 10), (9, .ifCond .eq 15, 3, 24, 0), (12, .iload_n 1, 1, 0, 0), (13, .ifCond .lt 11, 3, 24, 0), (16, .iload_n 1, 1, 0, 0), (17, .aload_n 0, 1, 0, 0), (18, .getfield 136, 3, 10, 3), (21, .if_icmp .lt 5, 3, 26, 0), (24, .iconst (-1), 1, 0, 0), (25, .ireturn, 1, 0, 0), (26, .iconst 0, 1, 0, 0), (27, .istore_n 2, 1, 0, 0), (28, .iload_n 2, 1, 0, 0), (29, .aload_n 0, 1, 0, 0), (30, .getfield 186, 3, 10, 11), (33, .if_icmp .ge 77, 3, 110, 0), (36, .iconst 0, 1, 0, 0), (37, .istore_n 3, 1, 0, 0), (38, .iload_n 3, 1, 0, 0), (39, .aload_n 0, 1, 0, 0), (40, .getfield 29, 3, 10, 13), (43, .iload_n 2, 1, 0, 0), (44, .iaload, 1, 0, 0), (45, .if_icmp .ge 59, 3, 104, 0), (48, .aload_n 0, 1, 0, 0), (49, .getfield 26, 3, 10, 12), (52, .iload_n 2, 1, 0, 0), (53, .iaload, 1, 0, 0), (54, .iload_n 3, 1, 0, 0), (55, .iadd, 1, 0, 0), (56, .istore 4, 2, 0, 0), (58, .aload_n 0, 1, 0, 0), (59, .getfield 116, 3, 10, 45), (62, .iload 4, 2, 0, 0), (64, .aload_n 0, 1, 0, 0), (65, .getfield 35, 3, 10, 15), (68, .iload_n 2, 1, 0, 0), (69, .iaload, 1, 0, 0), (70, .ifCond .ne 13, 3, 83, 0), (73, .aload_n 0, 1, 0, 0), (74, .getfield 7, 3, 10, 2), (77, .iload 4, 2, 0, 0), (79, .iaload, 1, 0, 0), (80, .goto 17, 3, 97, 0), (83, .aload_n 0, 1, 0, 0), (84, .getfield 116, 3, 10, 45), (87, .iload 4, 2, 0, 0), (89, .aload_n 0, 1, 0, 0), (90, .getfield 32, 3, 10, 14), (93, .iload_n 2, 1, 0, 0), (94, .iaload, 1, 0, 0), (95, .isub, 1, 0, 0), (96, .iaload, 1, 0, 0), (97, .iastore, 1, 0, 0), (98, .iinc 3 1, 3, 0, 0), (101, .goto (-63), 3, 38, 0)]
def kX11_told_1 : List (Nat × xI) := [(104, .iinc 2 1, 3, 0, 0), (107, .goto (-79), 3, 28, 0), (110, .aload_n 0, 1, 0, 0), (111, .getfield 116, 3, 10, 45), (114, .iload_n 1, 1, 0, 0), (115, .iaload, 1, 0, 0), (116, .ireturn, 1, 0, 0)]
def kX11_told : List (Nat × xI) := kX11_told_0 ++ (kX11_told_1)
def kX11_longest : List (Nat × xI) := [(0, .aload_n 0, 1, 0, 0), (1, .iconst 0, 1, 0, 0), (2, .putfield 129, 3, 10, 0), (5, .iload_n 1, 1, 0, 0), (6, .ifCond .lt 11, 3, 17, 0), (9, .iload_n 1, 1, 0, 0), (10, .aload_n 0, 1, 0, 0), (11, .getfield 136, 3, 10, 3), (14, .if_icmp .lt 5, 3, 19, 0), (17, .iconst (-1), 1, 0, 0), (18, .ireturn, 1, 0, 0), (19, .aload_n 0, 1, 0, 0), (20, .invokevirtual 273, 3, 107, 1), (23, .aload_n 0, 1, 0, 0), (24, .iload_n 1, 1, 0, 0), (25, .invokevirtual 193, 3, 108, 2), (28, .ireturn, 1, 0, 0)]
def kX11_distance : List (Nat × xI) := [(0, .aload_n 0, 1, 0, 0), (1, .iconst 0, 1, 0, 0), (2, .putfield 129, 3, 10, 0), (5, .iload_n 1, 1, 0, 0), (6, .ifCond .lt 27, 3, 33, 0), (9, .iload_n 1, 1, 0, 0), (10, .aload_n 0, 1, 0, 0), (11, .getfield 136, 3, 10, 3), (14, .if_icmp .ge 19, 3, 33, 0), (17, .iload_n 2, 1, 0, 0), (18, .aload_n 0, 1, 0, 0), (19, .invokevirtual 153, 3, 99, 1), (22, .if_icmp .lt 11, 3, 33, 0), (25, .iload_n 2, 1, 0, 0), (26, .aload_n 0, 1, 0, 0), (27, .invokevirtual 149, 3, 100, 1), (30, .if_icmp .le 5, 3, 35, 0), (33, .iconst (-1), 1, 0, 0), (34, .ireturn, 1, 0, 0), (35, .aload_n 0, 1, 0, 0), (36, .invokevirtual 273, 3, 107, 1), (39, .aload_n 0, 1, 0, 0), (40, .getfield 42, 3, 10, 20), (43, .sipush 301, 3, 0, 0), (46, .iload_n 1, 1, 0, 0), (47, .imul, 1, 0, 0), (48, .iload_n 2, 1, 0, 0), (49, .iadd, 1, 0, 0), (50, .iaload, 1, 0, 0), (51, .istore_n 3, 1, 0, 0), (52, .iload_n 3, 1, 0, 0), (53, .ifCond .ne 7, 3, 60, 0), (56, .iconst (-1), 1, 0, 0), (57, .goto 4, 3, 61, 0), (60, .iload_n 3, 1, 0, 0), (61, .ireturn, 1, 0, 0)]
def kX11_cut_0 : List (Nat × xI) := [(0, .aload_n 0, 1, 0, 0), (1, .iconst 0, 1, 0, 0), (2, .putfield 129, 3, 10, 0), (5, .iload_n 1, 1, 0, 0), (6, .ifCond .le 20, 3, 26, 0), (9, .iload_n 1, 1, 0, 0), (10, .aload_n 0, 1, 0, 0), (11, .getfield 136, 3, 10, 3), (14, .if_icmp .ge 12, 3, 26, 0), (17, .aload_n 0, 1, 0, 0), (18, .getfield 298, 3, 10, 7), (21, .bipush 12, 2, 0, 0), (23, .if_icmp .ne 5, 3, 28, 0), (26, .iconst (-1), 1, 0, 0), (27, .ireturn, 1, 0, 0), (28, .iconst 0, 1, 0, 0), (29, .istore_n 2, 1, 0, 0), (30, .iload_n 2, 1, 0, 0), (31, .aload_n 0, 1, 0, 0), (32, .getfield 298, 3, 10, 7), (35, .if_icmp .ge 19, 3, 54, 0), (38, .aload_n 0, 1, 0, 0), (39, .getfield 20, 3, 10, 6), (42, .iload_n 2, 1, 0, 0), (43, .iaload, 1, 0, 0), (44, .iload_n 1, 1, 0, 0), (45, .if_icmp .ge 9, 3, 54, 0), (48, .iinc 2 1, 3, 0, 0), (51, .goto (-21), 3, 30, 0), (54, .iload_n 2, 1, 0, 0), (55, .aload_n 0, 1, 0, 0), (56, .getfield 298, 3, 10, 7), (59, .if_icmp .ge 15, 3, 74, 0), (62, .aload_n 0, 1, 0, 0), (63, .getfield 20, 3, 10, 6), (66, .iload_n 2, 1, 0, 0), (67, .iaload, 1, 0, 0), (68, .iload_n 1, 1, 0, 0), (69, .if_icmp .ne 5, 3, 74, 0), (72, .iconst (-1), 1, 0, 0), (73, .ireturn, 1, 0, 0), (74, .aload_n 0, 1, 0, 0), (75, .getfield 298, 3, 10, 7), (78, .istore_n 3, 1, 0, 0), (79, .iload_n 3, 1, 0, 0), (80, .iload_n 2, 1, 0, 0), (81, .if_icmp .le 23, 3, 104, 0), (84, .aload_n 0, 1, 0, 0), (85, .getfield 20, 3, 10, 6), (88, .iload_n 3, 1, 0, 0), (89, .aload_n 0, 1, 0, 0), (90, .getfield 20, 3, 10, 6), (93, .iload_n 3, 1, 0, 0), (94, .iconst 1, 1, 0, 0), (95, .isub, 1, 0, 0), (96, .iaload, 1, 0, 0), (97, .iastore, 1, 0, 0), (98, .iinc 3 (-1), 3, 0, 0), (101, .goto (-22), 3, 79, 0), (104, .aload_n 0, 1, 0, 0)]
def kX11_cut_1 : List (Nat × xI) := [(105, .getfield 20, 3, 10, 6), (108, .iload_n 2, 1, 0, 0), (109, .iload_n 1, 1, 0, 0), (110, .iastore, 1, 0, 0), (111, .aload_n 0, 1, 0, 0), (112, .dup, 1, 0, 0), (113, .getfield 298, 3, 10, 7), (116, .iconst 1, 1, 0, 0), (117, .iadd, 1, 0, 0), (118, .putfield 298, 3, 10, 7), (121, .aload_n 0, 1, 0, 0), (122, .getfield 298, 3, 10, 7), (125, .ireturn, 1, 0, 0)]
def kX11_cut : List (Nat × xI) := kX11_cut_0 ++ (kX11_cut_1)
def kX11_border : List (Nat × xI) := [(0, .iload_n 1, 1, 0, 0), (1, .ifCond .ne 7, 3, 8, 0), (4, .iconst 0, 1, 0, 0), (5, .goto 26, 3, 31, 0), (8, .iload_n 1, 1, 0, 0), (9, .aload_n 0, 1, 0, 0), (10, .getfield 298, 3, 10, 7), (13, .if_icmp .le 10, 3, 23, 0), (16, .aload_n 0, 1, 0, 0), (17, .getfield 136, 3, 10, 3), (20, .goto 11, 3, 31, 0), (23, .aload_n 0, 1, 0, 0), (24, .getfield 20, 3, 10, 6), (27, .iload_n 1, 1, 0, 0), (28, .iconst 1, 1, 0, 0), (29, .isub, 1, 0, 0), (30, .iaload, 1, 0, 0), (31, .ireturn, 1, 0, 0)]
def kX11_fillBlocks_0 : List (Nat × xI) := [(0, .iconst 0, 1, 0, 0), (1, .istore_n 2, 1, 0, 0), (2, .iload_n 2, 1, 0, 0), (3, .aload_n 0, 1, 0, 0), (4, .getfield 298, 3, 10, 7), (7, .if_icmp .gt 177, 3, 184, 0), (10, .iload_n 2, 1, 0, 0), (11, .iconst 1, 1, 0, 0), (12, .iadd, 1, 0, 0), (13, .istore_n 3, 1, 0, 0), (14, .iload_n 3, 1, 0, 0), (15, .aload_n 0, 1, 0, 0), (16, .getfield 298, 3, 10, 7), (19, .iconst 1, 1, 0, 0), (20, .iadd, 1, 0, 0), (21, .if_icmp .gt 157, 3, 178, 0), (24, .iconst 0, 1, 0, 0), (25, .istore 4, 2, 0, 0), (27, .iload 4, 2, 0, 0), (29, .sipush 256, 3, 0, 0), (32, .if_icmp .ge 17, 3, 49, 0), (35, .aload_n 0, 1, 0, 0), (36, .getfield 98, 3, 10, 39), (39, .iload 4, 2, 0, 0), (41, .iconst 0, 1, 0, 0), (42, .iastore, 1, 0, 0), (43, .iinc 4 1, 3, 0, 0), (46, .goto (-19), 3, 27, 0), (49, .aload_n 0, 1, 0, 0), (50, .iload_n 2, 1, 0, 0), (51, .invokevirtual 301, 3, 154, 2), (54, .istore 4, 2, 0, 0), (56, .iload 4, 2, 0, 0), (58, .aload_n 0, 1, 0, 0), (59, .iload_n 3, 1, 0, 0), (60, .invokevirtual 301, 3, 154, 2), (63, .if_icmp .ge 25, 3, 88, 0), (66, .aload_n 0, 1, 0, 0), (67, .getfield 98, 3, 10, 39), (70, .aload_n 0, 1, 0, 0), (71, .getfield 7, 3, 10, 2), (74, .iload 4, 2, 0, 0), (76, .iaload, 1, 0, 0), (77, .dup2, 1, 0, 0), (78, .iaload, 1, 0, 0), (79, .iconst 1, 1, 0, 0), (80, .iadd, 1, 0, 0), (81, .iastore, 1, 0, 0), (82, .iinc 4 1, 3, 0, 0), (85, .goto (-29), 3, 56, 0), (88, .iload_n 1, 1, 0, 0), (89, .i2l, 1, 0, 0), (90, .lstore 4, 2, 0, 0), (92, .iconst 0, 1, 0, 0), (93, .istore 6, 2, 0, 0), (95, .iload 6, 2, 0, 0), (97, .sipush 256, 3, 0, 0), (100, .if_icmp .ge 59, 3, 159, 0), (103, .aload_n 0, 1, 0, 0), (104, .getfield 98, 3, 10, 39)]
def kX11_fillBlocks_1 : List (Nat × xI) := [(107, .iload 6, 2, 0, 0), (109, .iaload, 1, 0, 0), (110, .ifCond .le 43, 3, 153, 0), (113, .lload 4, 2, 0, 0), (115, .aload_n 0, 1, 0, 0), (116, .getfield 98, 3, 10, 39), (119, .iload 6, 2, 0, 0), (121, .iaload, 1, 0, 0), (122, .i2l, 1, 0, 0), (123, .aload_n 0, 1, 0, 0), (124, .iload_n 3, 1, 0, 0), (125, .invokevirtual 301, 3, 154, 2), (128, .aload_n 0, 1, 0, 0), (129, .iload_n 2, 1, 0, 0), (130, .invokevirtual 301, 3, 154, 2), (133, .isub, 1, 0, 0), (134, .invokestatic 290, 3, 143, 1), (137, .aload_n 0, 1, 0, 0), (138, .getfield 98, 3, 10, 39), (141, .iload 6, 2, 0, 0), (143, .iaload, 1, 0, 0), (144, .invokestatic 290, 3, 143, 1), (147, .isub, 1, 0, 0), (148, .i2l, 1, 0, 0), (149, .lmul, 1, 0, 0), (150, .ladd, 1, 0, 0), (151, .lstore 4, 2, 0, 0), (153, .iinc 6 1, 3, 0, 0), (156, .goto (-61), 3, 95, 0), (159, .aload_n 0, 1, 0, 0), (160, .getfield 119, 3, 10, 46), (163, .bipush 14, 2, 0, 0), (165, .iload_n 2, 1, 0, 0), (166, .imul, 1, 0, 0), (167, .iload_n 3, 1, 0, 0), (168, .iadd, 1, 0, 0), (169, .lload 4, 2, 0, 0), (171, .lastore, 1, 0, 0), (172, .iinc 3 1, 3, 0, 0), (175, .goto (-161), 3, 14, 0), (178, .iinc 2 1, 3, 0, 0), (181, .goto (-179), 3, 2, 0), (184, .return_, 1, 0, 0)]
def kX11_fillBlocks : List (Nat × xI) := kX11_fillBlocks_0 ++ (kX11_fillBlocks_1)
def kX11_setCost : List (Nat × xI) := [(0, .lconst 0, 1, 0, 0), (1, .lstore_n 2, 1, 0, 0), (2, .iconst 0, 1, 0, 0), (3, .istore 4, 2, 0, 0), (5, .iconst 1, 1, 0, 0), (6, .istore 5, 2, 0, 0), (8, .iload 5, 2, 0, 0), (10, .aload_n 0, 1, 0, 0), (11, .getfield 298, 3, 10, 7), (14, .iconst 1, 1, 0, 0), (15, .iadd, 1, 0, 0), (16, .if_icmp .gt 50, 3, 66, 0), (19, .iload 5, 2, 0, 0), (21, .aload_n 0, 1, 0, 0), (22, .getfield 298, 3, 10, 7), (25, .if_icmp .gt 15, 3, 40, 0), (28, .iload_n 1, 1, 0, 0), (29, .iload 5, 2, 0, 0), (31, .iconst 1, 1, 0, 0), (32, .isub, 1, 0, 0), (33, .ishr, 1, 0, 0), (34, .iconst 1, 1, 0, 0), (35, .iand, 1, 0, 0), (36, .iconst 1, 1, 0, 0), (37, .if_icmp .ne 23, 3, 60, 0), (40, .lload_n 2, 1, 0, 0), (41, .aload_n 0, 1, 0, 0), (42, .getfield 119, 3, 10, 46), (45, .bipush 14, 2, 0, 0), (47, .iload 4, 2, 0, 0), (49, .imul, 1, 0, 0), (50, .iload 5, 2, 0, 0), (52, .iadd, 1, 0, 0), (53, .laload, 1, 0, 0), (54, .ladd, 1, 0, 0), (55, .lstore_n 2, 1, 0, 0), (56, .iload 5, 2, 0, 0), (58, .istore 4, 2, 0, 0), (60, .iinc 5 1, 3, 0, 0), (63, .goto (-55), 3, 8, 0), (66, .lload_n 2, 1, 0, 0), (67, .lreturn, 1, 0, 0)]
def kX11_count : List (Nat × xI) := [(0, .iconst 0, 1, 0, 0), (1, .istore_n 1, 1, 0, 0), (2, .iload_n 0, 1, 0, 0), (3, .istore_n 2, 1, 0, 0), (4, .iload_n 2, 1, 0, 0), (5, .ifCond .le 16, 3, 21, 0), (8, .iload_n 1, 1, 0, 0), (9, .iload_n 2, 1, 0, 0), (10, .iconst 1, 1, 0, 0), (11, .iand, 1, 0, 0), (12, .iadd, 1, 0, 0), (13, .istore_n 1, 1, 0, 0), (14, .iload_n 2, 1, 0, 0), (15, .iconst 1, 1, 0, 0), (16, .ishr, 1, 0, 0), (17, .istore_n 2, 1, 0, 0), (18, .goto (-14), 3, 4, 0), (21, .iload_n 1, 1, 0, 0), (22, .ireturn, 1, 0, 0)]
def kX11_isBefore : List (Nat × xI) := [(0, .iload_n 0, 1, 0, 0), (1, .iload_n 1, 1, 0, 0), (2, .ixor, 1, 0, 0), (3, .istore_n 2, 1, 0, 0), (4, .iload_n 2, 1, 0, 0), (5, .iload_n 2, 1, 0, 0), (6, .ineg, 1, 0, 0), (7, .iand, 1, 0, 0), (8, .istore_n 3, 1, 0, 0), (9, .iload_n 0, 1, 0, 0), (10, .iload_n 3, 1, 0, 0), (11, .iand, 1, 0, 0), (12, .ifCond .eq 7, 3, 19, 0), (15, .iconst 1, 1, 0, 0), (16, .goto 4, 3, 20, 0), (19, .iconst 0, 1, 0, 0), (20, .ireturn, 1, 0, 0)]
def kX11_split_0 : List (Nat × xI) := [(0, .aload_n 0, 1, 0, 0), (1, .iconst 0, 1, 0, 0), (2, .putfield 129, 3, 10, 0), (5, .iload_n 1, 1, 0, 0), (6, .ifCond .lt 17, 3, 23, 0), (9, .iload_n 1, 1, 0, 0), (10, .ldc_w 304, 3, 100000, 0), (13, .if_icmp .gt 10, 3, 23, 0), (16, .aload_n 0, 1, 0, 0), (17, .getfield 136, 3, 10, 3), (20, .ifCond .ne 7, 3, 27, 0), (23, .ldc2_w 293, 3, 18446744073709551615, 0), (26, .lreturn, 1, 0, 0), (27, .aload_n 0, 1, 0, 0), (28, .iload_n 1, 1, 0, 0), (29, .invokevirtual 305, 3, 155, 2), (32, .iconst 0, 1, 0, 0), (33, .istore_n 2, 1, 0, 0), (34, .aload_n 0, 1, 0, 0), (35, .iconst 0, 1, 0, 0), (36, .invokevirtual 308, 3, 156, 2), (39, .lstore_n 3, 1, 0, 0), (40, .iconst 1, 1, 0, 0), (41, .istore 5, 2, 0, 0), (43, .iload 5, 2, 0, 0), (45, .iconst 1, 1, 0, 0), (46, .aload_n 0, 1, 0, 0), (47, .getfield 298, 3, 10, 7), (50, .ishl, 1, 0, 0), (51, .if_icmp .ge 70, 3, 121, 0), (54, .aload_n 0, 1, 0, 0), (55, .iload 5, 2, 0, 0), (57, .invokevirtual 308, 3, 156, 2), (60, .lstore 6, 2, 0, 0), (62, .lload 6, 2, 0, 0), (64, .lload_n 3, 1, 0, 0), (65, .lcmp, 1, 0, 0), (66, .ifCond .lt 43, 3, 109, 0), (69, .lload 6, 2, 0, 0), (71, .lload_n 3, 1, 0, 0), (72, .lcmp, 1, 0, 0), (73, .ifCond .ne 42, 3, 115, 0), (76, .iload 5, 2, 0, 0), (78, .invokestatic 312, 3, 157, 1), (81, .iload_n 2, 1, 0, 0), (82, .invokestatic 312, 3, 157, 1), (85, .if_icmp .lt 24, 3, 109, 0), (88, .iload 5, 2, 0, 0), (90, .invokestatic 312, 3, 157, 1), (93, .iload_n 2, 1, 0, 0), (94, .invokestatic 312, 3, 157, 1), (97, .if_icmp .ne 18, 3, 115, 0), (100, .iload 5, 2, 0, 0), (102, .iload_n 2, 1, 0, 0), (103, .invokestatic 315, 3, 158, 2), (106, .ifCond .eq 9, 3, 115, 0), (109, .lload 6, 2, 0, 0), (111, .lstore_n 3, 1, 0, 0), (112, .iload 5, 2, 0, 0), (114, .istore_n 2, 1, 0, 0)]
def kX11_split_1 : List (Nat × xI) := [(115, .iinc 5 1, 3, 0, 0), (118, .goto (-75), 3, 43, 0), (121, .aload_n 0, 1, 0, 0), (122, .iconst 0, 1, 0, 0), (123, .putfield 318, 3, 10, 9), (126, .iconst 0, 1, 0, 0), (127, .istore 5, 2, 0, 0), (129, .iload 5, 2, 0, 0), (131, .aload_n 0, 1, 0, 0), (132, .getfield 298, 3, 10, 7), (135, .if_icmp .ge 45, 3, 180, 0), (138, .iload_n 2, 1, 0, 0), (139, .iload 5, 2, 0, 0), (141, .ishr, 1, 0, 0), (142, .iconst 1, 1, 0, 0), (143, .iand, 1, 0, 0), (144, .iconst 1, 1, 0, 0), (145, .if_icmp .ne 29, 3, 174, 0), (148, .aload_n 0, 1, 0, 0), (149, .getfield 23, 3, 10, 8), (152, .aload_n 0, 1, 0, 0), (153, .getfield 318, 3, 10, 9), (156, .aload_n 0, 1, 0, 0), (157, .getfield 20, 3, 10, 6), (160, .iload 5, 2, 0, 0), (162, .iaload, 1, 0, 0), (163, .iastore, 1, 0, 0), (164, .aload_n 0, 1, 0, 0), (165, .dup, 1, 0, 0), (166, .getfield 318, 3, 10, 9), (169, .iconst 1, 1, 0, 0), (170, .iadd, 1, 0, 0), (171, .putfield 318, 3, 10, 9), (174, .iinc 5 1, 3, 0, 0), (177, .goto (-48), 3, 129, 0), (180, .lload_n 3, 1, 0, 0), (181, .lreturn, 1, 0, 0)]
def kX11_split : List (Nat × xI) := kX11_split_0 ++ (kX11_split_1)
def kX11_taken : List (Nat × xI) := [(0, .aload_n 0, 1, 0, 0), (1, .iconst 0, 1, 0, 0), (2, .putfield 129, 3, 10, 0), (5, .iload_n 1, 1, 0, 0), (6, .ifCond .lt 11, 3, 17, 0), (9, .iload_n 1, 1, 0, 0), (10, .aload_n 0, 1, 0, 0), (11, .getfield 318, 3, 10, 9), (14, .if_icmp .lt 7, 3, 21, 0), (17, .iconst (-1), 1, 0, 0), (18, .goto 9, 3, 27, 0), (21, .aload_n 0, 1, 0, 0), (22, .getfield 23, 3, 10, 8), (25, .iload_n 1, 1, 0, 0), (26, .iaload, 1, 0, 0), (27, .ireturn, 1, 0, 0)]
def kX11_many : List (Nat × xI) := [(0, .aload_n 0, 1, 0, 0), (1, .iconst 0, 1, 0, 0), (2, .putfield 129, 3, 10, 0), (5, .iload_n 1, 1, 0, 0), (6, .tableswitch 88 0 6 #[42, 47, 63, 68, 73, 78, 83], 42, 0, 0), (48, .aload_n 0, 1, 0, 0), (49, .getfield 136, 3, 10, 3), (52, .ireturn, 1, 0, 0), (53, .aload_n 0, 1, 0, 0), (54, .getfield 141, 3, 10, 10), (57, .ifCond .eq 10, 3, 67, 0), (60, .aload_n 0, 1, 0, 0), (61, .getfield 186, 3, 10, 11), (64, .goto 4, 3, 68, 0), (67, .iconst 0, 1, 0, 0), (68, .ireturn, 1, 0, 0), (69, .aload_n 0, 1, 0, 0), (70, .getfield 298, 3, 10, 7), (73, .ireturn, 1, 0, 0), (74, .aload_n 0, 1, 0, 0), (75, .getfield 318, 3, 10, 9), (78, .ireturn, 1, 0, 0), (79, .aload_n 0, 1, 0, 0), (80, .getfield 250, 3, 10, 18), (83, .ireturn, 1, 0, 0), (84, .aload_n 0, 1, 0, 0), (85, .getfield 16, 3, 10, 5), (88, .ireturn, 1, 0, 0), (89, .aload_n 0, 1, 0, 0), (90, .getfield 123, 3, 10, 1), (93, .ireturn, 1, 0, 0), (94, .iconst (-1), 1, 0, 0), (95, .ireturn, 1, 0, 0)]
def kX11_clear : List (Nat × xI) := [(0, .aload_n 0, 1, 0, 0), (1, .iconst 0, 1, 0, 0), (2, .putfield 129, 3, 10, 0), (5, .aload_n 0, 1, 0, 0), (6, .iconst 0, 1, 0, 0), (7, .putfield 136, 3, 10, 3), (10, .aload_n 0, 1, 0, 0), (11, .iconst 0, 1, 0, 0), (12, .putfield 298, 3, 10, 7), (15, .aload_n 0, 1, 0, 0), (16, .iconst 0, 1, 0, 0), (17, .putfield 318, 3, 10, 9), (20, .aload_n 0, 1, 0, 0), (21, .iconst 0, 1, 0, 0), (22, .putfield 141, 3, 10, 10), (25, .aload_n 0, 1, 0, 0), (26, .iconst 0, 1, 0, 0), (27, .putfield 250, 3, 10, 18), (30, .aload_n 0, 1, 0, 0), (31, .invokevirtual 126, 3, 98, 1), (34, .return_, 1, 0, 0)]
def kX11_trier : List (Nat × xI) := [(0, .aload_n 0, 1, 0, 0), (1, .iload_n 1, 1, 0, 0), (2, .ifCond .lt 11, 3, 13, 0), (5, .iload_n 1, 1, 0, 0), (6, .aload_n 0, 1, 0, 0), (7, .getfield 136, 3, 10, 3), (10, .if_icmp .lt 7, 3, 17, 0), (13, .iconst 1, 1, 0, 0), (14, .goto 4, 3, 18, 0), (17, .iconst 0, 1, 0, 0), (18, .putfield 129, 3, 10, 0), (21, .aload_n 0, 1, 0, 0), (22, .getfield 129, 3, 10, 0), (25, .ifCond .le 7, 3, 32, 0), (28, .iconst 0, 1, 0, 0), (29, .goto 9, 3, 38, 0), (32, .aload_n 0, 1, 0, 0), (33, .getfield 7, 3, 10, 2), (36, .iload_n 1, 1, 0, 0), (37, .iaload, 1, 0, 0), (38, .ireturn, 1, 0, 0)]
def kJ7_rangeCheck_23922 : List (Nat × xI) := [(0, .iload_n 1, 1, 0, 0), (1, .iload_n 2, 1, 0, 0), (2, .if_icmp .le 44, 3, 46, 0), (8, .dup, 1, 0, 0), (12, .dup, 1, 0, 0), (21, .iload_n 1, 1, 0, 0), (30, .iload_n 2, 1, 0, 0), (46, .iload_n 1, 1, 0, 0), (47, .ifCond .ge 12, 3, 59, 0), (53, .dup, 1, 0, 0), (54, .iload_n 1, 1, 0, 0), (59, .iload_n 2, 1, 0, 0), (60, .iload_n 0, 1, 0, 0), (61, .if_icmp .le 12, 3, 73, 0), (67, .dup, 1, 0, 0), (68, .iload_n 2, 1, 0, 0), (73, .return_, 1, 0, 0)]
def kJ7_fill_d0a16 : List (Nat × xI) := [(0, .iconst 0, 1, 0, 0), (1, .istore_n 3, 1, 0, 0), (2, .aload_n 0, 1, 0, 0), (3, .arraylength, 1, 0, 0), (4, .istore 4, 2, 0, 0), (6, .iload_n 3, 1, 0, 0), (7, .iload 4, 2, 0, 0), (9, .if_icmp .ge 13, 3, 22, 0), (12, .aload_n 0, 1, 0, 0), (13, .iload_n 3, 1, 0, 0), (14, .lload_n 1, 1, 0, 0), (15, .lastore, 1, 0, 0), (16, .iinc 3 1, 3, 0, 0), (19, .goto (-13), 3, 6, 0), (22, .return_, 1, 0, 0)]
def kJ7_fill_53178 : List (Nat × xI) := [(0, .iconst 0, 1, 0, 0), (1, .istore_n 2, 1, 0, 0), (2, .aload_n 0, 1, 0, 0), (3, .arraylength, 1, 0, 0), (4, .istore_n 3, 1, 0, 0), (5, .iload_n 2, 1, 0, 0), (6, .iload_n 3, 1, 0, 0), (7, .if_icmp .ge 13, 3, 20, 0), (10, .aload_n 0, 1, 0, 0), (11, .iload_n 2, 1, 0, 0), (12, .iload_n 1, 1, 0, 0), (13, .iastore, 1, 0, 0), (14, .iinc 2 1, 3, 0, 0), (17, .goto (-12), 3, 5, 0), (20, .return_, 1, 0, 0)]
def kJ7_fill_fda19 : List (Nat × xI) := [(0, .aload_n 0, 1, 0, 0), (1, .arraylength, 1, 0, 0), (2, .iload_n 1, 1, 0, 0), (3, .iload_n 2, 1, 0, 0), (4, .invokestatic 13, 3, 164, 3), (7, .iload_n 1, 1, 0, 0), (8, .istore 4, 2, 0, 0), (10, .iload 4, 2, 0, 0), (12, .iload_n 2, 1, 0, 0), (13, .if_icmp .ge 14, 3, 27, 0), (16, .aload_n 0, 1, 0, 0), (17, .iload 4, 2, 0, 0), (19, .iload_n 3, 1, 0, 0), (20, .iastore, 1, 0, 0), (21, .iinc 4 1, 3, 0, 0), (24, .goto (-14), 3, 10, 0), (27, .return_, 1, 0, 0)]
def kL_cell : List (Nat × xI) := [(0, .iload_n 1, 1, 0, 0), (1, .aload_n 0, 1, 0, 0), (2, .arraylength, 1, 0, 0), (3, .if_icmp .ge 9, 3, 12, 0), (6, .aload_n 0, 1, 0, 0), (7, .iload_n 1, 1, 0, 0), (8, .iaload, 1, 0, 0), (9, .goto 4, 3, 13, 0), (12, .iconst 0, 1, 0, 0), (13, .ireturn, 1, 0, 0)]
def kL_law_0 : List (Nat × xI) := [(0, .new 8, 3, 9, 0), (3, .dup, 1, 0, 0), (4, .aload_n 0, 1, 0, 0), (5, .iconst 0, 1, 0, 0), (6, .invokestatic 15, 3, 168, 2), (9, .invokespecial 21, 3, 73, 2), (12, .astore_n 1, 1, 0, 0), (13, .new 24, 3, 10, 0), (16, .dup, 1, 0, 0), (17, .aload_n 0, 1, 0, 0), (18, .iconst 0, 1, 0, 0), (19, .invokestatic 15, 3, 168, 2), (22, .invokespecial 26, 3, 96, 2), (25, .astore_n 2, 1, 0, 0), (26, .iconst 1, 1, 0, 0), (27, .newarray .long, 2, 0, 0), (29, .astore_n 3, 1, 0, 0), (30, .iconst 1, 1, 0, 0), (31, .istore 4, 2, 0, 0), (33, .iload 4, 2, 0, 0), (35, .aload_n 0, 1, 0, 0), (36, .arraylength, 1, 0, 0), (37, .iconst 4, 1, 0, 0), (38, .isub, 1, 0, 0), (39, .if_icmp .gt 671, 3, 710, 0), (42, .aload_n 0, 1, 0, 0), (43, .iload 4, 2, 0, 0), (45, .iaload, 1, 0, 0), (46, .bipush 31, 2, 0, 0), (48, .iand, 1, 0, 0), (49, .tableswitch 655 0 18 #[91, 160, 209, 246, 271, 296, 333, 347, 361, 374, 399, 425, 450, 487, 512, 538, 563, 588, 599], 91, 0, 0), (140, .aload_n 1, 1, 0, 0), (141, .aload_n 0, 1, 0, 0), (142, .iload 4, 2, 0, 0), (144, .iconst 1, 1, 0, 0), (145, .iadd, 1, 0, 0), (146, .iaload, 1, 0, 0), (147, .aload_n 0, 1, 0, 0), (148, .iload 4, 2, 0, 0), (150, .iconst 2, 1, 0, 0), (151, .iadd, 1, 0, 0), (152, .iaload, 1, 0, 0), (153, .i2l, 1, 0, 0), (154, .bipush 32, 2, 0, 0), (156, .lshl, 1, 0, 0), (157, .aload_n 0, 1, 0, 0), (158, .iload 4, 2, 0, 0), (160, .iconst 3, 1, 0, 0), (161, .iadd, 1, 0, 0), (162, .iaload, 1, 0, 0), (163, .i2l, 1, 0, 0), (164, .ldc2_w 27, 3, 4294967295, 0), (167, .land, 1, 0, 0), (168, .lor, 1, 0, 0), (169, .invokevirtual 29, 3, 74, 3), (172, .aload_n 2, 1, 0, 0), (173, .aload_n 0, 1, 0, 0), (174, .iload 4, 2, 0, 0), (176, .iconst 1, 1, 0, 0), (177, .iadd, 1, 0, 0)]
def kL_law_1 : List (Nat × xI) := [(178, .iaload, 1, 0, 0), (179, .aload_n 0, 1, 0, 0), (180, .iload 4, 2, 0, 0), (182, .iconst 2, 1, 0, 0), (183, .iadd, 1, 0, 0), (184, .iaload, 1, 0, 0), (185, .i2l, 1, 0, 0), (186, .bipush 32, 2, 0, 0), (188, .lshl, 1, 0, 0), (189, .aload_n 0, 1, 0, 0), (190, .iload 4, 2, 0, 0), (192, .iconst 3, 1, 0, 0), (193, .iadd, 1, 0, 0), (194, .iaload, 1, 0, 0), (195, .i2l, 1, 0, 0), (196, .ldc2_w 27, 3, 4294967295, 0), (199, .land, 1, 0, 0), (200, .lor, 1, 0, 0), (201, .invokevirtual 33, 3, 103, 3), (204, .if_icmp .eq 500, 3, 704, 0), (207, .iconst 0, 1, 0, 0), (208, .ireturn, 1, 0, 0), (209, .aload_n 1, 1, 0, 0), (210, .aload_n 0, 1, 0, 0), (211, .iload 4, 2, 0, 0), (213, .iconst 1, 1, 0, 0), (214, .iadd, 1, 0, 0), (215, .iaload, 1, 0, 0), (216, .aload_n 0, 1, 0, 0), (217, .iload 4, 2, 0, 0), (219, .iconst 2, 1, 0, 0), (220, .iadd, 1, 0, 0), (221, .iaload, 1, 0, 0), (222, .aload_n 0, 1, 0, 0), (223, .iload 4, 2, 0, 0), (225, .iconst 3, 1, 0, 0), (226, .iadd, 1, 0, 0), (227, .iaload, 1, 0, 0), (228, .invokevirtual 34, 3, 75, 4), (231, .aload_n 2, 1, 0, 0), (232, .aload_n 0, 1, 0, 0), (233, .iload 4, 2, 0, 0), (235, .iconst 1, 1, 0, 0), (236, .iadd, 1, 0, 0), (237, .iaload, 1, 0, 0), (238, .aload_n 0, 1, 0, 0), (239, .iload 4, 2, 0, 0), (241, .iconst 2, 1, 0, 0), (242, .iadd, 1, 0, 0), (243, .iaload, 1, 0, 0), (244, .aload_n 0, 1, 0, 0), (245, .iload 4, 2, 0, 0), (247, .iconst 3, 1, 0, 0), (248, .iadd, 1, 0, 0), (249, .iaload, 1, 0, 0), (250, .invokevirtual 38, 3, 104, 4), (253, .if_icmp .eq 451, 3, 704, 0), (256, .iconst 0, 1, 0, 0), (257, .ireturn, 1, 0, 0), (258, .aload_n 1, 1, 0, 0)]
def kL_law_2 : List (Nat × xI) := [(259, .aload_n 0, 1, 0, 0), (260, .iload 4, 2, 0, 0), (262, .iconst 1, 1, 0, 0), (263, .iadd, 1, 0, 0), (264, .iaload, 1, 0, 0), (265, .aload_n 0, 1, 0, 0), (266, .iload 4, 2, 0, 0), (268, .iconst 2, 1, 0, 0), (269, .iadd, 1, 0, 0), (270, .iaload, 1, 0, 0), (271, .invokevirtual 39, 3, 76, 3), (274, .aload_n 2, 1, 0, 0), (275, .aload_n 0, 1, 0, 0), (276, .iload 4, 2, 0, 0), (278, .iconst 1, 1, 0, 0), (279, .iadd, 1, 0, 0), (280, .iaload, 1, 0, 0), (281, .aload_n 0, 1, 0, 0), (282, .iload 4, 2, 0, 0), (284, .iconst 2, 1, 0, 0), (285, .iadd, 1, 0, 0), (286, .iaload, 1, 0, 0), (287, .invokevirtual 43, 3, 105, 3), (290, .if_icmp .eq 414, 3, 704, 0), (293, .iconst 0, 1, 0, 0), (294, .ireturn, 1, 0, 0), (295, .aload_n 1, 1, 0, 0), (296, .aload_n 0, 1, 0, 0), (297, .iload 4, 2, 0, 0), (299, .iconst 1, 1, 0, 0), (300, .iadd, 1, 0, 0), (301, .iaload, 1, 0, 0), (302, .invokevirtual 44, 3, 77, 2), (305, .aload_n 2, 1, 0, 0), (306, .aload_n 0, 1, 0, 0), (307, .iload 4, 2, 0, 0), (309, .iconst 1, 1, 0, 0), (310, .iadd, 1, 0, 0), (311, .iaload, 1, 0, 0), (312, .invokevirtual 47, 3, 106, 2), (315, .if_icmp .eq 389, 3, 704, 0), (318, .iconst 0, 1, 0, 0), (319, .ireturn, 1, 0, 0), (320, .aload_n 1, 1, 0, 0), (321, .aload_n 0, 1, 0, 0), (322, .iload 4, 2, 0, 0), (324, .iconst 1, 1, 0, 0), (325, .iadd, 1, 0, 0), (326, .iaload, 1, 0, 0), (327, .invokevirtual 48, 3, 78, 2), (330, .aload_n 2, 1, 0, 0), (331, .aload_n 0, 1, 0, 0), (332, .iload 4, 2, 0, 0), (334, .iconst 1, 1, 0, 0), (335, .iadd, 1, 0, 0), (336, .iaload, 1, 0, 0), (337, .invokevirtual 51, 3, 142, 2), (340, .if_icmp .eq 364, 3, 704, 0), (343, .iconst 0, 1, 0, 0), (344, .ireturn, 1, 0, 0)]
def kL_law_3 : List (Nat × xI) := [(345, .aload_n 1, 1, 0, 0), (346, .aload_n 0, 1, 0, 0), (347, .iload 4, 2, 0, 0), (349, .iconst 1, 1, 0, 0), (350, .iadd, 1, 0, 0), (351, .iaload, 1, 0, 0), (352, .aload_n 0, 1, 0, 0), (353, .iload 4, 2, 0, 0), (355, .iconst 2, 1, 0, 0), (356, .iadd, 1, 0, 0), (357, .iaload, 1, 0, 0), (358, .invokevirtual 52, 3, 79, 3), (361, .aload_n 2, 1, 0, 0), (362, .aload_n 0, 1, 0, 0), (363, .iload 4, 2, 0, 0), (365, .iconst 1, 1, 0, 0), (366, .iadd, 1, 0, 0), (367, .iaload, 1, 0, 0), (368, .aload_n 0, 1, 0, 0), (369, .iload 4, 2, 0, 0), (371, .iconst 2, 1, 0, 0), (372, .iadd, 1, 0, 0), (373, .iaload, 1, 0, 0), (374, .invokevirtual 55, 3, 146, 3), (377, .if_icmp .eq 327, 3, 704, 0), (380, .iconst 0, 1, 0, 0), (381, .ireturn, 1, 0, 0), (382, .aload_n 1, 1, 0, 0), (383, .invokevirtual 56, 3, 80, 1), (386, .aload_n 2, 1, 0, 0), (387, .invokevirtual 60, 3, 147, 1), (390, .lcmp, 1, 0, 0), (391, .ifCond .eq 313, 3, 704, 0), (394, .iconst 0, 1, 0, 0), (395, .ireturn, 1, 0, 0), (396, .aload_n 1, 1, 0, 0), (397, .invokevirtual 61, 3, 81, 1), (400, .aload_n 2, 1, 0, 0), (401, .invokevirtual 64, 3, 148, 1), (404, .lcmp, 1, 0, 0), (405, .ifCond .eq 299, 3, 704, 0), (408, .iconst 0, 1, 0, 0), (409, .ireturn, 1, 0, 0), (410, .aload_n 1, 1, 0, 0), (411, .invokevirtual 65, 3, 82, 1), (414, .aload_n 2, 1, 0, 0), (415, .invokevirtual 69, 3, 149, 1), (418, .if_icmp .eq 286, 3, 704, 0), (421, .iconst 0, 1, 0, 0), (422, .ireturn, 1, 0, 0), (423, .aload_n 1, 1, 0, 0), (424, .aload_n 0, 1, 0, 0), (425, .iload 4, 2, 0, 0), (427, .iconst 1, 1, 0, 0), (428, .iadd, 1, 0, 0), (429, .iaload, 1, 0, 0), (430, .invokevirtual 70, 3, 83, 2), (433, .aload_n 2, 1, 0, 0), (434, .aload_n 0, 1, 0, 0), (435, .iload 4, 2, 0, 0)]
def kL_law_4 : List (Nat × xI) := [(437, .iconst 1, 1, 0, 0), (438, .iadd, 1, 0, 0), (439, .iaload, 1, 0, 0), (440, .invokevirtual 73, 3, 150, 2), (443, .if_icmp .eq 261, 3, 704, 0), (446, .iconst 0, 1, 0, 0), (447, .ireturn, 1, 0, 0), (448, .aload_n 1, 1, 0, 0), (449, .aload_n 0, 1, 0, 0), (450, .iload 4, 2, 0, 0), (452, .iconst 1, 1, 0, 0), (453, .iadd, 1, 0, 0), (454, .iaload, 1, 0, 0), (455, .invokevirtual 74, 3, 84, 2), (458, .aload_n 2, 1, 0, 0), (459, .aload_n 0, 1, 0, 0), (460, .iload 4, 2, 0, 0), (462, .iconst 1, 1, 0, 0), (463, .iadd, 1, 0, 0), (464, .iaload, 1, 0, 0), (465, .invokevirtual 78, 3, 145, 2), (468, .lcmp, 1, 0, 0), (469, .ifCond .eq 235, 3, 704, 0), (472, .iconst 0, 1, 0, 0), (473, .ireturn, 1, 0, 0), (474, .aload_n 1, 1, 0, 0), (475, .aload_n 0, 1, 0, 0), (476, .iload 4, 2, 0, 0), (478, .iconst 1, 1, 0, 0), (479, .iadd, 1, 0, 0), (480, .iaload, 1, 0, 0), (481, .invokevirtual 79, 3, 85, 2), (484, .aload_n 2, 1, 0, 0), (485, .aload_n 0, 1, 0, 0), (486, .iload 4, 2, 0, 0), (488, .iconst 1, 1, 0, 0), (489, .iadd, 1, 0, 0), (490, .iaload, 1, 0, 0), (491, .invokevirtual 82, 3, 151, 2), (494, .if_icmp .eq 210, 3, 704, 0), (497, .iconst 0, 1, 0, 0), (498, .ireturn, 1, 0, 0), (499, .aload_n 1, 1, 0, 0), (500, .aload_n 0, 1, 0, 0), (501, .iload 4, 2, 0, 0), (503, .iconst 1, 1, 0, 0), (504, .iadd, 1, 0, 0), (505, .iaload, 1, 0, 0), (506, .aload_n 0, 1, 0, 0), (507, .iload 4, 2, 0, 0), (509, .iconst 2, 1, 0, 0), (510, .iadd, 1, 0, 0), (511, .iaload, 1, 0, 0), (512, .invokevirtual 83, 3, 86, 3), (515, .aload_n 2, 1, 0, 0), (516, .aload_n 0, 1, 0, 0), (517, .iload 4, 2, 0, 0), (519, .iconst 1, 1, 0, 0), (520, .iadd, 1, 0, 0), (521, .iaload, 1, 0, 0)]
def kL_law_5 : List (Nat × xI) := [(522, .aload_n 0, 1, 0, 0), (523, .iload 4, 2, 0, 0), (525, .iconst 2, 1, 0, 0), (526, .iadd, 1, 0, 0), (527, .iaload, 1, 0, 0), (528, .invokevirtual 86, 3, 152, 3), (531, .if_icmp .eq 173, 3, 704, 0), (534, .iconst 0, 1, 0, 0), (535, .ireturn, 1, 0, 0), (536, .aload_n 1, 1, 0, 0), (537, .aload_n 0, 1, 0, 0), (538, .iload 4, 2, 0, 0), (540, .iconst 1, 1, 0, 0), (541, .iadd, 1, 0, 0), (542, .iaload, 1, 0, 0), (543, .invokevirtual 87, 3, 87, 2), (546, .aload_n 2, 1, 0, 0), (547, .aload_n 0, 1, 0, 0), (548, .iload 4, 2, 0, 0), (550, .iconst 1, 1, 0, 0), (551, .iadd, 1, 0, 0), (552, .iaload, 1, 0, 0), (553, .invokevirtual 90, 3, 153, 2), (556, .if_icmp .eq 148, 3, 704, 0), (559, .iconst 0, 1, 0, 0), (560, .ireturn, 1, 0, 0), (561, .aload_n 1, 1, 0, 0), (562, .aload_n 0, 1, 0, 0), (563, .iload 4, 2, 0, 0), (565, .iconst 1, 1, 0, 0), (566, .iadd, 1, 0, 0), (567, .iaload, 1, 0, 0), (568, .invokevirtual 91, 3, 88, 2), (571, .aload_n 2, 1, 0, 0), (572, .aload_n 0, 1, 0, 0), (573, .iload 4, 2, 0, 0), (575, .iconst 1, 1, 0, 0), (576, .iadd, 1, 0, 0), (577, .iaload, 1, 0, 0), (578, .invokevirtual 94, 3, 159, 2), (581, .lcmp, 1, 0, 0), (582, .ifCond .eq 122, 3, 704, 0), (585, .iconst 0, 1, 0, 0), (586, .ireturn, 1, 0, 0), (587, .aload_n 1, 1, 0, 0), (588, .aload_n 0, 1, 0, 0), (589, .iload 4, 2, 0, 0), (591, .iconst 1, 1, 0, 0), (592, .iadd, 1, 0, 0), (593, .iaload, 1, 0, 0), (594, .invokevirtual 95, 3, 89, 2), (597, .aload_n 2, 1, 0, 0), (598, .aload_n 0, 1, 0, 0), (599, .iload 4, 2, 0, 0), (601, .iconst 1, 1, 0, 0), (602, .iadd, 1, 0, 0), (603, .iaload, 1, 0, 0), (604, .invokevirtual 98, 3, 160, 2), (607, .if_icmp .eq 97, 3, 704, 0), (610, .iconst 0, 1, 0, 0)]
def kL_law_6 : List (Nat × xI) := [(611, .ireturn, 1, 0, 0), (612, .aload_n 1, 1, 0, 0), (613, .aload_n 0, 1, 0, 0), (614, .iload 4, 2, 0, 0), (616, .iconst 1, 1, 0, 0), (617, .iadd, 1, 0, 0), (618, .iaload, 1, 0, 0), (619, .invokevirtual 99, 3, 90, 2), (622, .aload_n 2, 1, 0, 0), (623, .aload_n 0, 1, 0, 0), (624, .iload 4, 2, 0, 0), (626, .iconst 1, 1, 0, 0), (627, .iadd, 1, 0, 0), (628, .iaload, 1, 0, 0), (629, .invokevirtual 102, 3, 161, 2), (632, .if_icmp .eq 72, 3, 704, 0), (635, .iconst 0, 1, 0, 0), (636, .ireturn, 1, 0, 0), (637, .aload_n 1, 1, 0, 0), (638, .invokevirtual 103, 3, 91, 1), (641, .aload_n 2, 1, 0, 0), (642, .invokevirtual 106, 3, 162, 1), (645, .goto 59, 3, 704, 0), (648, .aload_n 1, 1, 0, 0), (649, .aload_n 0, 1, 0, 0), (650, .iload 4, 2, 0, 0), (652, .iconst 1, 1, 0, 0), (653, .iadd, 1, 0, 0), (654, .iaload, 1, 0, 0), (655, .aload_n 3, 1, 0, 0), (656, .invokestatic 107, 3, 1004, 3), (659, .istore 5, 2, 0, 0), (661, .aload_n 2, 1, 0, 0), (662, .aload_n 0, 1, 0, 0), (663, .iload 4, 2, 0, 0), (665, .iconst 1, 1, 0, 0), (666, .iadd, 1, 0, 0), (667, .iaload, 1, 0, 0), (668, .invokevirtual 110, 3, 163, 2), (671, .istore 6, 2, 0, 0), (673, .aload_n 2, 1, 0, 0), (674, .invokevirtual 111, 3, 97, 1), (677, .iload 5, 2, 0, 0), (679, .if_icmp .eq 5, 3, 684, 0), (682, .iconst 0, 1, 0, 0), (683, .ireturn, 1, 0, 0), (684, .iload 5, 2, 0, 0), (686, .ifCond .ne 15, 3, 701, 0), (689, .aload_n 3, 1, 0, 0), (690, .iconst 0, 1, 0, 0), (691, .laload, 1, 0, 0), (692, .iload 6, 2, 0, 0), (694, .i2l, 1, 0, 0), (695, .lcmp, 1, 0, 0), (696, .ifCond .eq 5, 3, 701, 0), (699, .iconst 0, 1, 0, 0), (700, .ireturn, 1, 0, 0), (701, .goto 3, 3, 704, 0), (704, .iinc 4 4, 3, 0, 0), (707, .goto (-674), 3, 33, 0)]
def kL_law_7 : List (Nat × xI) := [(710, .iconst 1, 1, 0, 0), (711, .ireturn, 1, 0, 0)]
def kL_law : List (Nat × xI) := kL_law_0 ++ (kL_law_1 ++ (kL_law_2 ++ (kL_law_3 ++ (kL_law_4 ++ (kL_law_5 ++ (kL_law_6 ++ (kL_law_7)))))))
def xcodeL : List (List (Nat × xI)) := [kX0_init, kX0_forget, kX0_addCut, kX0_divide, kX0_findRest, kX0_countOctet, kX0_placeOf, kX1_init, kX1_reset, kX1_has, kX1_of, kX1_put, kX1_copyFrom, kX1_prepare, kX1_literalCost, kX1_kindCost, kX1_stepCost, kX1_lengthCost, kX1_distanceCost, kX1_lengthSlot, kX1_distanceSlot, kX1_fitTo, kX1_countSymbols, kX1_countOne, kX1_fitClass, kX2_init, kX2_costOf, kX3_at, kX3_behindCopy, kX3_behindAgain, kX4_init, kX4_findBest, kX4_begin, kX4_goFrom, kX4_copiesWereLed, kX4_leadByCopies, kX4_leadByAgain, kX4_lead, kX4_makeRoom, kX4_insert, kX4_tellSteps, kX5_init, kX5_findBest, kX5_findFirst, kX5_lead, kX5_tellSteps, kX5_costOf, kX5_copyCost, kX5_beyond, kX6_init, kX6_hasStep, kX6_begin, kX6_add, kX6_turnRound, kX6_swap, kX6_finish, kX6_tellBack, kX7_init, kX7_findBest, kX7_lead, kX7_tellSteps, kX8_init, kX8_walk, kX8_longerAhead, kX8_againAsLong, kX9_init, kX9_has, kX9_append, kX9_noteCopies, kX9_longestCopy, kX9_copyDistance, kX9_sameBy, kX9_nearestIndex, kX10_init, kX10_octets, kX10_cost, kX10_price, kX10_keep, kX10_parse, kX10_step, kX10_sum, kX10_again, kX10_least, kX10_told, kX10_rounds, kX10_longest, kX10_distance, kX10_cut, kX10_split, kX10_taken, kX10_many, kX10_clear, kX10_findBest, kX10_takeSpare, kX10_logOf, kX10_highestBit, kX11_init, kX11_thrown, kX11_start, kX11_shortest, kX11_greatest, kX11_symbols, kX11_isCost, kX11_octets, kX11_cost, kX11_price, kX11_keep, kX11_layOut, kX11_longestCopy, kX11_longestAgain, kX11_high, kX11_lengthSlot, kX11_lengthBits, kX11_distanceSlot, kX11_distanceBits, kX11_lengthCost, kX11_distanceCost, kX11_kindCost, kX11_more, kX11_stepCost, kX11_allCost, kX11_clearLatest, kX11_ahead, kX11_longestOf, kX11_addStep, kX11_greedy, kX11_at, kX11_firstRow, kX11_clearTable, kX11_copies, kX11_literals, kX11_backPlain, kX11_turnBack, kX11_bestPlain, kX11_isState, kX11_isBehind, kX11_moveState, kX11_comes, kX11_takeLatest, kX11_expand, kX11_bestWide, kX11_best, kX11_parse, kX11_log, kX11_fit, kX11_rounds, kX11_step, kX11_sum, kX11_again, kX11_least, kX11_told, kX11_longest, kX11_distance, kX11_cut, kX11_border, kX11_fillBlocks, kX11_setCost, kX11_count, kX11_isBefore, kX11_split, kX11_taken, kX11_many, kX11_clear, kX11_trier, kJ7_rangeCheck_23922, kJ7_fill_d0a16, kJ7_fill_53178, kJ7_fill_fda19, kL_cell, kL_law]
def xcode (i : Nat) : List (Nat × xI) := xcodeL.getD i []
def xnl (i : Nat) : Nat := ([2, 1, 4, 4, 12, 3, 2, 2, 2, 3, 3, 4, 2, 3, 2, 2, 6, 2, 2, 2, 2, 4, 5, 3, 6, 3, 4, 3, 3, 8, 3, 6, 3, 6, 3, 5, 6, 12, 2, 7, 8, 4, 5, 5, 4, 5, 5, 1, 2, 1, 2, 1, 5, 3, 4, 7, 5, 3, 6, 5, 4, 3, 9, 5, 6, 2, 2, 5, 6, 2, 3, 5, 2, 2, 5, 5, 3, 3, 2, 3, 1, 1, 1, 2, 7, 2, 4, 2, 2, 2, 2, 1, 2, 2, 2, 2, 2, 1, 2, 1, 1, 1, 3, 5, 5, 3, 3, 6, 3, 4, 2, 2, 1, 2, 1, 3, 2, 2, 2, 6, 5, 2, 4, 5, 5, 6, 3, 4, 3, 7, 6, 6, 3, 2, 4, 4, 4, 10, 3, 8, 7, 1, 2, 2, 5, 12, 3, 1, 1, 1, 5, 2, 4, 4, 2, 7, 6, 3, 4, 8, 2, 2, 1, 2, 3, 5, 4, 5, 2, 7] : List Nat).getD i 0
/-- what a method returns: 0 nothing, 1 an int, 2 a long, 3 a boolean -/
def xrt (i : Nat) : Nat := ([0, 0, 3, 2, 0, 1, 1, 0, 0, 3, 1, 0, 0, 0, 1, 1, 1, 1, 1, 1, 1, 0, 0, 0, 0, 0, 2, 1, 2, 2, 0, 1, 0, 0, 3, 0, 0, 0, 3, 0, 0, 0, 1, 0, 0, 0, 2, 1, 1, 0, 3, 0, 0, 0, 0, 0, 0, 0, 1, 0, 0, 0, 0, 3, 1, 0, 3, 0, 0, 1, 1, 1, 1, 0, 1, 1, 1, 1, 1, 1, 2, 2, 3, 1, 2, 1, 1, 1, 2, 1, 1, 0, 0, 0, 1, 1, 0, 1, 0, 1, 1, 1, 3, 1, 1, 1, 1, 0, 1, 1, 1, 1, 1, 1, 1, 1, 1, 1, 1, 1, 2, 0, 0, 1, 0, 0, 1, 1, 0, 0, 0, 0, 0, 0, 3, 3, 0, 0, 0, 0, 0, 0, 1, 1, 0, 2, 1, 2, 2, 3, 1, 1, 1, 1, 1, 0, 2, 1, 3, 2, 1, 1, 0, 1, 0, 0, 0, 0, 1, 3] : List Nat).getD i 9
/-- the kind of the objects whose method it is -/
def xmk (i : Nat) : Nat := ([1, 1, 1, 1, 1, 1, 1, 2, 2, 2, 2, 2, 2, 2, 2, 2, 2, 2, 2, 2, 2, 2, 2, 2, 2, 11, 11, 0, 0, 0, 3, 3, 3, 3, 3, 3, 3, 3, 3, 3, 3, 4, 4, 4, 4, 4, 4, 4, 4, 5, 5, 5, 5, 5, 5, 5, 5, 6, 6, 6, 6, 7, 7, 7, 7, 8, 8, 8, 8, 8, 8, 8, 8, 9, 9, 9, 9, 9, 9, 9, 9, 9, 9, 9, 9, 9, 9, 9, 9, 9, 9, 9, 9, 9, 9, 9, 10, 10, 10, 10, 10, 10, 10, 10, 10, 10, 10, 10, 10, 10, 10, 10, 10, 10, 10, 10, 10, 10, 10, 10, 10, 10, 10, 10, 10, 10, 10, 10, 10, 10, 10, 10, 10, 10, 10, 10, 10, 10, 10, 10, 10, 10, 10, 10, 10, 10, 10, 10, 10, 10, 10, 10, 10, 10, 10, 10, 10, 10, 10, 10, 10, 10, 10, 10, 0, 0, 0, 0, 0, 0] : List Nat).getD i 0
/-- which method a virtual call comes to: r1 < 1000 names it, 2000 and 2001 are the forms' own two -/
def xtg (r k : Nat) : Option Nat := if r < 1000 then (if xmk r = k then some r else none) else if r = 2000 then (if k = 3 then some 26 else if k = 4 then some 46 else if k = 6 then some 26 else none) else if r = 2001 then (if k = 3 then some 31 else if k = 4 then some 42 else if k = 6 then some 58 else none) else none
abbrev xMT : Type := MethodName × ByteArray × Option FieldType × Bool
def xmt (i : Nat) : Option xMT := ([(yX0_init, cX0_init, none, true), (yX0_forget, cX0_forget, none, false), (yX0_addCut, cX0_addCut, some .boolean, false), (yX0_divide, cX0_divide, some .long, false), (yX0_findRest, cX0_findRest, none, false), (yX0_countOctet, cX0_countOctet, some .int, false), (yX0_placeOf, cX0_placeOf, some .int, false), (yX1_init, cX1_init, none, true), (yX1_reset, cX1_reset, none, false), (yX1_has, cX1_has, some .boolean, false), (yX1_of, cX1_of, some .int, false), (yX1_put, cX1_put, none, false), (yX1_copyFrom, cX1_copyFrom, none, false), (yX1_prepare, cX1_prepare, none, false), (yX1_literalCost, cX1_literalCost, some .int, false), (yX1_kindCost, cX1_kindCost, some .int, false), (yX1_stepCost, cX1_stepCost, some .int, false), (yX1_lengthCost, cX1_lengthCost, some .int, false), (yX1_distanceCost, cX1_distanceCost, some .int, false), (yX1_lengthSlot, cX1_lengthSlot, some .int, false), (yX1_distanceSlot, cX1_distanceSlot, some .int, false), (yX1_fitTo, cX1_fitTo, none, false), (yX1_countSymbols, cX1_countSymbols, none, false), (yX1_countOne, cX1_countOne, none, false), (yX1_fitClass, cX1_fitClass, none, false), (yX2_init, cX2_init, none, true), (yX2_costOf, cX2_costOf, some .long, false), (yX3_at, cX3_at, some .int, false), (yX3_behindCopy, cX3_behindCopy, some .long, false), (yX3_behindAgain, cX3_behindAgain, some .long, false), (yX4_init, cX4_init, none, true), (yX4_findBest, cX4_findBest, some .int, false), (yX4_begin, cX4_begin, none, false), (yX4_goFrom, cX4_goFrom, none, false), (yX4_copiesWereLed, cX4_copiesWereLed, some .boolean, false), (yX4_leadByCopies, cX4_leadByCopies, none, false), (yX4_leadByAgain, cX4_leadByAgain, none, false), (yX4_lead, cX4_lead, none, false), (yX4_makeRoom, cX4_makeRoom, some .boolean, false), (yX4_insert, cX4_insert, none, false), (yX4_tellSteps, cX4_tellSteps, none, false), (yX5_init, cX5_init, none, true), (yX5_findBest, cX5_findBest, some .int, false), (yX5_findFirst, cX5_findFirst, none, false), (yX5_lead, cX5_lead, none, false), (yX5_tellSteps, cX5_tellSteps, none, false), (yX5_costOf, cX5_costOf, some .long, false), (yX5_copyCost, cX5_copyCost, some .int, false), (yX5_beyond, cX5_beyond, some .int, false), (yX6_init, cX6_init, none, true), (yX6_hasStep, cX6_hasStep, some .boolean, false), (yX6_begin, cX6_begin, none, false), (yX6_add, cX6_add, none, false), (yX6_turnRound, cX6_turnRound, none, false), (yX6_swap, cX6_swap, none, false), (yX6_finish, cX6_finish, none, false), (yX6_tellBack, cX6_tellBack, none, false), (yX7_init, cX7_init, none, true), (yX7_findBest, cX7_findBest, some .int, false), (yX7_lead, cX7_lead, none, false), (yX7_tellSteps, cX7_tellSteps, none, false), (yX8_init, cX8_init, none, true), (yX8_walk, cX8_walk, none, false), (yX8_longerAhead, cX8_longerAhead, some .boolean, false), (yX8_againAsLong, cX8_againAsLong, some .int, false), (yX9_init, cX9_init, none, true), (yX9_has, cX9_has, some .boolean, false), (yX9_append, cX9_append, none, false), (yX9_noteCopies, cX9_noteCopies, none, false), (yX9_longestCopy, cX9_longestCopy, some .int, false), (yX9_copyDistance, cX9_copyDistance, some .int, false), (yX9_sameBy, cX9_sameBy, some .int, false), (yX9_nearestIndex, cX9_nearestIndex, some .int, false), (yX10_init, cX10_init, none, true), (yX10_octets, cX10_octets, some .int, false), (yX10_cost, cX10_cost, some .int, false), (yX10_price, cX10_price, some .int, false), (yX10_keep, cX10_keep, some .int, false), (yX10_parse, cX10_parse, some .int, false), (yX10_step, cX10_step, some .int, false), (yX10_sum, cX10_sum, some .long, false), (yX10_again, cX10_again, some .long, false), (yX10_least, cX10_least, some .boolean, false), (yX10_told, cX10_told, some .int, false), (yX10_rounds, cX10_rounds, some .long, false), (yX10_longest, cX10_longest, some .int, false), (yX10_distance, cX10_distance, some .int, false), (yX10_cut, cX10_cut, some .int, false), (yX10_split, cX10_split, some .long, false), (yX10_taken, cX10_taken, some .int, false), (yX10_many, cX10_many, some .int, false), (yX10_clear, cX10_clear, none, false), (yX10_findBest, cX10_findBest, none, false), (yX10_takeSpare, cX10_takeSpare, none, false), (yX10_logOf, cX10_logOf, some .int, false), (yX10_highestBit, cX10_highestBit, some .int, false), (yX11_init, cX11_init, none, true), (yX11_thrown, cX11_thrown, some .int, false), (yX11_start, cX11_start, none, false), (yX11_shortest, cX11_shortest, some .int, false), (yX11_greatest, cX11_greatest, some .int, false), (yX11_symbols, cX11_symbols, some .int, false), (yX11_isCost, cX11_isCost, some .boolean, false), (yX11_octets, cX11_octets, some .int, false), (yX11_cost, cX11_cost, some .int, false), (yX11_price, cX11_price, some .int, false), (yX11_keep, cX11_keep, some .int, false), (yX11_layOut, cX11_layOut, none, false), (yX11_longestCopy, cX11_longestCopy, some .int, false), (yX11_longestAgain, cX11_longestAgain, some .int, false), (yX11_high, cX11_high, some .int, false), (yX11_lengthSlot, cX11_lengthSlot, some .int, false), (yX11_lengthBits, cX11_lengthBits, some .int, false), (yX11_distanceSlot, cX11_distanceSlot, some .int, false), (yX11_distanceBits, cX11_distanceBits, some .int, false), (yX11_lengthCost, cX11_lengthCost, some .int, false), (yX11_distanceCost, cX11_distanceCost, some .int, false), (yX11_kindCost, cX11_kindCost, some .int, false), (yX11_more, cX11_more, some .int, false), (yX11_stepCost, cX11_stepCost, some .int, false), (yX11_allCost, cX11_allCost, some .long, false), (yX11_clearLatest, cX11_clearLatest, none, false), (yX11_ahead, cX11_ahead, none, false), (yX11_longestOf, cX11_longestOf, some .int, false), (yX11_addStep, cX11_addStep, none, false), (yX11_greedy, cX11_greedy, none, false), (yX11_at, cX11_at, some .int, false), (yX11_firstRow, cX11_firstRow, some .int, false), (yX11_clearTable, cX11_clearTable, none, false), (yX11_copies, cX11_copies, none, false), (yX11_literals, cX11_literals, none, false), (yX11_backPlain, cX11_backPlain, none, false), (yX11_turnBack, cX11_turnBack, none, false), (yX11_bestPlain, cX11_bestPlain, none, false), (yX11_isState, cX11_isState, some .boolean, false), (yX11_isBehind, cX11_isBehind, some .boolean, false), (yX11_moveState, cX11_moveState, none, false), (yX11_comes, cX11_comes, none, false), (yX11_takeLatest, cX11_takeLatest, none, false), (yX11_expand, cX11_expand, none, false), (yX11_bestWide, cX11_bestWide, none, false), (yX11_best, cX11_best, none, false), (yX11_parse, cX11_parse, some .int, false), (yX11_log, cX11_log, some .int, false), (yX11_fit, cX11_fit, none, false), (yX11_rounds, cX11_rounds, some .long, false), (yX11_step, cX11_step, some .int, false), (yX11_sum, cX11_sum, some .long, false), (yX11_again, cX11_again, some .long, false), (yX11_least, cX11_least, some .boolean, false), (yX11_told, cX11_told, some .int, false), (yX11_longest, cX11_longest, some .int, false), (yX11_distance, cX11_distance, some .int, false), (yX11_cut, cX11_cut, some .int, false), (yX11_border, cX11_border, some .int, false), (yX11_fillBlocks, cX11_fillBlocks, none, false), (yX11_setCost, cX11_setCost, some .long, false), (yX11_count, cX11_count, some .int, false), (yX11_isBefore, cX11_isBefore, some .boolean, false), (yX11_split, cX11_split, some .long, false), (yX11_taken, cX11_taken, some .int, false), (yX11_many, cX11_many, some .int, false), (yX11_clear, cX11_clear, none, false), (yX11_trier, cX11_trier, some .int, false), (yJ7_rangeCheck_23922, cJ7_rangeCheck_23922, none, false), (yJ7_fill_d0a16, cJ7_fill_d0a16, none, false), (yJ7_fill_53178, cJ7_fill_53178, none, false), (yJ7_fill_fda19, cJ7_fill_fda19, none, false), (yL_cell, cL_cell, some .int, false), (yL_law, cL_law, some .boolean, false)] : List xMT)[i]?
def xsd (k : Nat) : Option (String × String × String) := match k with
  | 1 => some ("BestParses$Costs", "SYMBOLS", "[I")
  | 2 => some ("BestParses$Costs", "BASES", "[I")
  | 3 => some ("BestParses$Costs", "AT_FIRST", "[I")
  | _ => none
def xlaw : Nat := 169
/-- words that are no words of a contract: nest mates' links, the abstract method -/
def xnw : List Jvm.Cond := [(Jvm.Cond.methodLinkNest "BestParses" (76 : Nat) ({ cls := "BestParses$Parse", name := "<init>", desc := "()V" } : Jvm.MethodName) "BestParses"), (Jvm.Cond.methodLinkNest "BestParses$Costs" (105 : Nat) ({ cls := "BestParses", name := "highestBit", desc := "(I)I" } : Jvm.MethodName) "BestParses"), (Jvm.Cond.methodLinkNest "BestParses$Costs" (129 : Nat) ({ cls := "BestParses", name := "logOf", desc := "(I)I" } : Jvm.MethodName) "BestParses"), (Jvm.Cond.methodLinkNest "BestParses$Blocks" (65 : Nat) ({ cls := "BestParses", name := "logOf", desc := "(I)I" } : Jvm.MethodName) "BestParses"), (Jvm.Cond.declares ({ cls := "BestParses$Form", name := "findBest", desc := "(LBestParses$Parse;I)I" } : Jvm.MethodName))]
theorem xnw_in : ∀ w ∈ xnw, w ∈ tables_1 := List.forall_mem_cons.mpr ⟨List.mem_of_getElem? (i := 587) (by decide +kernel), List.forall_mem_cons.mpr ⟨List.mem_of_getElem? (i := 740) (by decide +kernel), List.forall_mem_cons.mpr ⟨List.mem_of_getElem? (i := 981) (by decide +kernel), List.forall_mem_cons.mpr ⟨List.mem_of_getElem? (i := 1035) (by decide +kernel), List.forall_mem_cons.mpr ⟨List.mem_of_getElem? (i := 720) (by decide +kernel), fun _ h => absurd h List.not_mem_nil⟩⟩⟩⟩⟩
theorem xnw_on : ∀ w ∈ xnw, w.onTables = true := List.forall_mem_cons.mpr ⟨rfl, List.forall_mem_cons.mpr ⟨rfl, List.forall_mem_cons.mpr ⟨rfl, List.forall_mem_cons.mpr ⟨rfl, List.forall_mem_cons.mpr ⟨rfl, fun _ h => absurd h List.not_mem_nil⟩⟩⟩⟩⟩
theorem xnw_warm {s U : State} (hW : s.WarmedH U.vm) : ∀ w ∈ xnw, va_Nw w s → va_Nw w U := List.forall_mem_cons.mpr ⟨fun z => va_Nw.warmM hW z, List.forall_mem_cons.mpr ⟨fun z => va_Nw.warmM hW z, List.forall_mem_cons.mpr ⟨fun z => va_Nw.warmM hW z, List.forall_mem_cons.mpr ⟨fun z => va_Nw.warmM hW z, List.forall_mem_cons.mpr ⟨fun z => va_Nw.warmD hW z, fun _ h => absurd h List.not_mem_nil⟩⟩⟩⟩⟩
end
section
/-! A RUN OF THE LIGHT MACHINE: fuel n, depth d, method i -/
def xargs : List Value → xL
  | [] => []
  | v :: vs => if v.category = 2 then some v :: none :: xargs vs else some v :: xargs vs
def xent (n : Nat) (vs : List Value) : xL := xargs vs ++ List.replicate (n - (xargs vs).length) none
/-- calls that are one step: Math.max, Math.min, System.arraycopy over ints, Object's constructor -/
def xbi (r1 : Nat) (st : List Value) (h : xS) : Option (List Value × xS) :=
  if r1 = 1000 then match st with
    | .int y :: .int x :: r => some (.int (if x < y then y else x) :: r, h)
    | _ => none
  else if r1 = 1001 then match st with
    | .int y :: .int x :: r => some (.int (if y < x then y else x) :: r, h)
    | _ => none
  else if r1 = 1002 then match st with
    | .int n :: .int dp :: .ref a :: .int sp :: .ref a0 :: r => if (a ≠ a0 ∧ (h.1 a).1 = 100 ∧ (h.1 a0).1 = 100) ∧ ¬ sp < 0 ∧ ¬ dp < 0 ∧ ¬ n < 0 ∧ sp.toNatClampNeg + n.toNatClampNeg ≤ (h.1 a0).2 ∧ dp.toNatClampNeg + n.toNatClampNeg ≤ (h.1 a).2 then some (r, (h.1, h.2.1, va_up h.2.2.1 a (va_cpy (h.2.2.1 a0) (h.2.2.1 a) sp.toNatClampNeg dp.toNatClampNeg n.toNatClampNeg), h.2.2.2)) else none
    | _ => none
  else if r1 = 1003 then match st with
    | .ref _ :: r => some (r, h)
    | _ => none
  else none
/-- what an exception of trier takes at most: cells, slots -/
def xcT : Nat := 64
def xsT : Nat := 2048
/-- the law's own trier, a call that is one step: 0 and the octet, or 1 -/
def xtr (st : List Value) (h : xS) : Option (List Value × xS) := match st with
  | .ref o :: .int i :: .ref x :: r => match h.2.2.2.2 x 1 with
    | some t => match h.2.2.2.2 t 2 with
      | some w => if (h.1 x).1 = 9 ∧ (h.1 t).1 = 8 ∧ (h.1 w).1 = 100 ∧ h.1 o = (101, 1) ∧ h.2.1.1 = [] then
          if i < 0 ∨ h.2.2.1 t 3 ≤ i then some (.int 1 :: r, (h.1, (h.2.1.1, h.2.1.2.1 + xcT, h.2.1.2.2 + xsT), h.2.2))
          else if i.toNatClampNeg < (h.1 w).2 then some (.int 0 :: r, (h.1, (h.2.1.1, h.2.1.2.1 + xcT, h.2.1.2.2 + xsT), h.2.2.1, xup h.2.2.2.1 o 0 (h.2.2.1 w i.toNatClampNeg).toInt64, h.2.2.2.2)) else none
        else none
      | none => none
    | none => none
  | _ => none
def xbj (ins : Instr) (r1 : Nat) (st : List Value) (h : xS) : Option (List Value × xS) := match ins with
  | .invokestatic _ => if r1 = 1003 then none else xbi r1 st h
  | .invokespecial _ => if r1 = 1003 then xbi r1 st h else none
  | _ => none
def xbt (ins : Instr) (r1 : Nat) (st : List Value) (h : xS) : Option (List Value × xS) := match ins with
  | .invokestatic _ => if r1 = 1004 then xtr st h else none
  | _ => none
def xret (i : Nat) (ins : Instr) (st : List Value) (h : xS) : Option (Option Value × xS) := match ins with
  | .ireturn => match st with
    | [.int v] => if xrt i = 1 ∨ (xrt i = 3 ∧ (v = 0 ∨ v = 1)) then some (some (.int v), h) else none
    | _ => none
  | .lreturn => match st with
    | [.long v] => if xrt i = 2 then some (some (.long v), h) else none
    | _ => none
  | .return_ => match st with
    | [] => if xrt i = 0 then some (none, h) else none
    | _ => none
  | _ => none
def xwho (ins : Instr) (r1 r2 : Nat) (st : List Value) (h : xS) : Option Nat := match ins with
  | .invokestatic _ => if r1 < 1000 then some r1 else none
  | .invokespecial _ => match st[r2 - 1]? with
    | some (.ref _) => if r1 < 1000 then some r1 else none
    | _ => none
  | .invokevirtual _ => match st[r2 - 1]? with
    | some (.ref a) => xtg r1 (h.1 a).1
    | _ => none
  | _ => none
def xsum (st : List Value) : Nat := (st.map fun v => v.category).sum
def xstep (ins : Instr) (r1 r2 pc : Nat) (L : xL) (st : List Value) (h : xS) : Option xF := match xop ins r1 st with
  | some st' => some (pc + xlen ins, L, st', h)
  | none => match xlo ins L st with
    | some q => some (pc + xlen ins, q.1, q.2, h)
    | none => match xbr ins r1 pc st with
      | some q => some (q.1, L, q.2, h)
      | none => match xhp ins r1 r2 st h with
        | some q => some (pc + xlen ins, L, q.1, q.2)
        | none => match xal ins r1 st h with
          | some q => some (pc + xlen ins, L, q.1, q.2.1)
          | none => none
def ex : Nat → Nat → Nat → Nat → xL → List Value → xS → Option (Option Value × xS)
  | 0, _, _, _, _, _, _ => none
  | n + 1, d, i, pc, L, st, h => match xat pc (xcode i) with
    | none => none
    | some x => match xret i x.1 st h with
      | some r => some r
      | none => match xwho x.1 x.2.2.1 x.2.2.2 st h with
        | some j => match d with
          | 0 => none
          | d' + 1 => if x.2.2.2 ≤ st.length ∧ xsum (st.drop x.2.2.2) ≤ 8 ∧ (xargs (st.take x.2.2.2).reverse).length ≤ xnl j then
              match ex n d' j 0 (xent (xnl j) (st.take x.2.2.2).reverse) [] h with
              | some q => ex n (d' + 1) i (pc + 3) L (q.1.toList ++ st.drop x.2.2.2) q.2
              | none => none
            else none
        | none => match xbj x.1 x.2.2.1 st h with
          | some q => if 1 ≤ d ∧ xsum q.1 ≤ 9 then ex n d i (pc + 3) L q.1 q.2 else none
          | none => match xbt x.1 x.2.2.1 st h with
            | some q => if 6 ≤ d ∧ xsum q.1 ≤ 9 then ex n d i (pc + 3) L q.1 q.2 else none
            | none => match xstep x.1 x.2.2.1 x.2.2.2 pc L st h with
              | some f => ex n d i f.1 f.2.1 f.2.2.1 f.2.2.2
              | none => none
/-- one step of a run, read backwards -/
theorem ex_inv {n d i pc : Nat} {L : xL} {st : List Value} {h : xS} {r : Option Value × xS} (H : ex (n + 1) d i pc L st h = some r) :
    ∃ x : xI, (pc, x) ∈ xcode i ∧ (xret i x.1 st h = some r ∨
      (∃ j d' q, d = d' + 1 ∧ xwho x.1 x.2.2.1 x.2.2.2 st h = some j ∧ x.2.2.2 ≤ st.length ∧ xsum (st.drop x.2.2.2) ≤ 8 ∧ (xargs (st.take x.2.2.2).reverse).length ≤ xnl j ∧ ex n d' j 0 (xent (xnl j) (st.take x.2.2.2).reverse) [] h = some q ∧ ex n d i (pc + 3) L (q.1.toList ++ st.drop x.2.2.2) q.2 = some r) ∨
      (∃ q, xbj x.1 x.2.2.1 st h = some q ∧ 1 ≤ d ∧ xsum q.1 ≤ 9 ∧ ex n d i (pc + 3) L q.1 q.2 = some r) ∨
      (∃ q, xbt x.1 x.2.2.1 st h = some q ∧ 6 ≤ d ∧ xsum q.1 ≤ 9 ∧ ex n d i (pc + 3) L q.1 q.2 = some r) ∨
      (∃ f, xstep x.1 x.2.2.1 x.2.2.2 pc L st h = some f ∧ ex n d i f.1 f.2.1 f.2.2.1 f.2.2.2 = some r)) := by
  unfold ex at H
  split at H
  · cases H
  · rename_i x hx
    refine ⟨x, xat_mem hx, ?_⟩
    split at H
    · rename_i r0 hr
      cases H
      exact Or.inl hr
    · split at H
      · rename_i j hj
        split at H
        · cases H
        · split at H
          · rename_i hc
            split at H
            · rename_i q hq
              exact Or.inr (Or.inl ⟨j, _, q, rfl, hj, hc.1, hc.2.1, hc.2.2, hq, H⟩)
            · cases H
          · cases H
      · split at H
        · rename_i q hq
          split at H
          · rename_i hc
            exact Or.inr (Or.inr (Or.inl ⟨q, hq, hc.1, hc.2, H⟩))
          · cases H
        · split at H
          · rename_i q hq
            split at H
            · rename_i hc
              exact Or.inr (Or.inr (Or.inr (Or.inl ⟨q, hq, hc.1, hc.2, H⟩)))
            · cases H
          · split at H
            · rename_i f hf
              exact Or.inr (Or.inr (Or.inr (Or.inr ⟨f, hf, H⟩)))
            · cases H
/-- the cells and slots that a run has taken only grow -/
def xle (h h1 : xS) : Prop := h.2.1.2.1 ≤ h1.2.1.2.1 ∧ h.2.1.2.2 ≤ h1.2.1.2.2
theorem xle.rfl {h : xS} : xle h h := ⟨Nat.le_refl _, Nat.le_refl _⟩
theorem xle.trans {a b c : xS} (h : xle a b) (h2 : xle b c) : xle a c := ⟨Nat.le_trans h.1 h2.1, Nat.le_trans h.2 h2.2⟩
theorem xpf_pl {h h1 : xS} {a k : Nat} {v : Value} (hx : xpf h a k v = some h1) : h1.2.1 = h.2.1 := by
  unfold xpf at hx
  split at hx
  · split at hx <;> cases hx; rfl
  · split at hx <;> cases hx; rfl
  · split at hx <;> cases hx; rfl
  · cases hx
theorem xhp_pl {ins : Instr} {r1 r2 : Nat} {st st' : List Value} {h h1 : xS} (hx : xhp ins r1 r2 st h = some (st', h1)) : h1.2.1 = h.2.1 := by
  unfold xhp at hx
  split at hx
  · split at hx
    · split at hx <;> cases hx; rfl
    · cases hx
  · split at hx
    · split at hx
      · obtain ⟨h2, hp, he⟩ := Option.map_eq_some_iff.mp hx
        cases he
        exact xpf_pl hp
      · cases hx
    · cases hx
  · cases hx; rfl
  all_goals first | (split at hx <;> first | (split at hx <;> cases hx; rfl) | cases hx) | cases hx
theorem xbi_pl {r1 : Nat} {st st' : List Value} {h h1 : xS} (hx : xbi r1 st h = some (st', h1)) : h1.2.1 = h.2.1 := by
  unfold xbi at hx
  repeat' split at hx
  all_goals first | cases hx; rfl | cases hx
theorem xal_pl {ins : Instr} {r1 ds : Nat} {st st' : List Value} {h h1 : xS} (hx : xal ins r1 st h = some (st', h1, ds)) : h1.2.1.2.1 = h.2.1.2.1 + 1 ∧ h1.2.1.2.2 = h.2.1.2.2 + ds := by
  unfold xal at hx
  repeat' split at hx
  all_goals first | cases hx; exact ⟨rfl, rfl⟩ | cases hx
theorem xtr_pl {st st' : List Value} {h h1 : xS} (hx : xtr st h = some (st', h1)) : h1.2.1.2.1 = h.2.1.2.1 + xcT ∧ h1.2.1.2.2 = h.2.1.2.2 + xsT := by
  unfold xtr at hx
  repeat' split at hx
  all_goals first | cases hx; exact ⟨rfl, rfl⟩ | cases hx
theorem xstep_le {ins : Instr} {r1 r2 pc : Nat} {L : xL} {st : List Value} {h : xS} {f : xF} (hx : xstep ins r1 r2 pc L st h = some f) : xle h f.2.2.2 := by
  unfold xstep at hx
  split at hx
  · cases hx; exact xle.rfl
  · split at hx
    · cases hx; exact xle.rfl
    · split at hx
      · cases hx; exact xle.rfl
      · split at hx
        · rename_i q hq
          cases hx
          have := xhp_pl (st' := q.1) (h1 := q.2) hq
          unfold xle
          rw [this]
          exact xle.rfl
        · split at hx
          · rename_i q hq
            cases hx
            have := xal_pl (st' := q.1) (h1 := q.2.1) (ds := q.2.2) hq
            unfold xle
            rw [this.1, this.2]
            exact ⟨by omega, by omega⟩
          · cases hx
theorem ex_le : ∀ {n d i pc : Nat} {L : xL} {st : List Value} {h : xS} {r : Option Value × xS}, ex n d i pc L st h = some r → xle h r.2
  | 0, _, _, _, _, _, _, _, H => by simp [ex] at H
  | n + 1, d, i, pc, L, st, h, r, H => by
    obtain ⟨x, -, hr | ⟨j, d', q, -, -, -, -, -, h1, h2⟩ | ⟨q, hq, -, -, h2⟩ | ⟨q, hq, -, -, h2⟩ | ⟨f, hf, h2⟩⟩ := ex_inv H
    · have : r.2 = h := by
        unfold xret at hr
        repeat' split at hr
        all_goals first | cases hr; rfl | cases hr
      rw [this]
      exact xle.rfl
    · exact (ex_le h1).trans (ex_le h2)
    · have hp : q.2.2.1 = h.2.1 := by
        unfold xbj at hq
        split at hq
        · split at hq
          · cases hq
          · exact xbi_pl (st' := q.1) (h1 := q.2) hq
        · split at hq
          · exact xbi_pl (st' := q.1) (h1 := q.2) hq
          · cases hq
        · cases hq
      have := ex_le h2
      unfold xle at this ⊢
      rw [hp] at this
      exact this
    · have hp : q.2.2.1.2.1 = h.2.1.2.1 + xcT ∧ q.2.2.1.2.2 = h.2.1.2.2 + xsT := by
        unfold xbt at hq
        split at hq
        · split at hq
          · exact xtr_pl (st' := q.1) (h1 := q.2) hq
          · cases hq
        · cases hq
      have := ex_le h2
      unfold xle at this ⊢
      omega
    · exact (xstep_le hf).trans (ex_le h2)
end
section
/-! CALLS: entry, contract, return -/
theorem xargs_len (ad : Nat → Nat) (vs : List Value) : (lg_sl (vs.map (xsh ad))).length = (xargs vs).length := by
  induction vs with
  | nil => rfl
  | cons v t ih =>
    have e : lg_sl ((v :: t).map (xsh ad)) = (if v.category = 2 then [Slot.val (xsh ad v), Slot.second] else [Slot.val (xsh ad v)]) ++ lg_sl (t.map (xsh ad)) := by
      simp [lg_sl, xsh_cat]
    rw [e, List.length_append, ih, show xargs (v :: t) = (if v.category = 2 then some v :: none :: xargs t else some v :: xargs t) from rfl]
    split <;> simp only [List.length_cons, List.length_nil] <;> omega
theorem xargs_at (ad : Nat → Nat) : ∀ (vs : List Value) (i k : Nat) (v : Value), xld (xargs vs) i = some v → (k + i, xsh ad v) ∈ lv_args k (vs.map (xsh ad))
  | [], i, k, v, h => by simp [xargs, xld] at h
  | u :: t, i, k, v, h => by
    simp only [List.map_cons, lv_args, xsh_cat]
    unfold xargs at h
    split at h
    · rename_i hc
      rw [if_pos hc]
      match i, h with
      | 0, h =>
        have h2 : u = v := by simpa [xld] using h
        subst h2
        exact List.mem_cons_self
      | 1, h => simp [xld] at h
      | i + 2, h =>
        have := xargs_at ad t i (k + 2) v (by simpa [xld] using h)
        rw [show k + (i + 2) = k + 2 + i by omega]
        exact List.mem_cons_of_mem _ this
    · rename_i hc
      rw [if_neg hc]
      match i, h with
      | 0, h =>
        have h2 : u = v := by simpa [xld] using h
        subst h2
        exact List.mem_cons_self
      | i + 1, h =>
        have := xargs_at ad t i (k + 1) v (by simpa [xld] using h)
        rw [show k + (i + 1) = k + 1 + i by omega]
        exact List.mem_cons_of_mem _ this
theorem xent_len (n : Nat) (vs : List Value) (h : (xargs vs).length ≤ n) : (xent n vs).length = n := by
  unfold xent
  rw [List.length_append, List.length_replicate]
  omega
theorem xent_ok (ad : Nat → Nat) (vs : List Value) (n : Nat) (h : (xargs vs).length ≤ n) : xLH ad ((lg_sl (vs.map (xsh ad)) ++ List.replicate (n - (lg_sl (vs.map (xsh ad))).length) Slot.unset).toArray) (xent n vs) := by
  obtain ⟨h1, h2, h3⟩ := lv_entry (vs.map (xsh ad)) (n := n) (by rw [xargs_len]; exact h)
  refine ⟨by rw [xent_len n vs h]; exact h1, h2, fun q hq => ?_⟩
  obtain ⟨i, w⟩ := q
  obtain ⟨v, hv, rfl⟩ := xas_mem.mp hq
  refine h3 _ ?_
  have hv2 : xld (xargs vs) i = some v := by
    unfold xent xld at hv
    unfold xld
    by_cases hi : i < (xargs vs).length
    · rw [List.getElem?_append_left hi] at hv
      exact hv
    · rw [List.getElem?_append_right (by omega)] at hv
      split at hv
      · rename_i o ho
        have := List.mem_of_getElem? ho
        rw [(List.mem_replicate.mp this).2] at hv
        cases hv
      · cases hv
  have := xargs_at ad vs i 0 v hv2
  rw [Nat.zero_add] at this
  exact this
/-- what a frame knows -/
def xEnv (D : va_G) (dA : Nat → ClassId) (ad : Nat → Nat) (base : Nat) (xe : Nat → Option (Nat × (Nat → Int32))) (U : State) : Prop := xKK D dA ad base xe xsd U ∧ (∀ w ∈ xnw, va_Nw w U) ∧ base ≤ U.heap.size
theorem xEnv.moved {D : va_G} {dA : Nat → ClassId} {ad : Nat → Nat} {base : Nat} {xe : Nat → Option (Nat × (Nat → Int32))} {s U : State} {locs : List Loc} (h : xEnv D dA ad base xe s) (hS : va_S (fun q => base ≤ q) s.heap U.heap locs) (hW : s.WarmedH U.vm) : xEnv D dA ad base xe U := by
  obtain ⟨⟨h1, h2, h3⟩, h4, h5⟩ := h
  have hk : ∀ a : Nat, a < s.heap.size → ¬ base ≤ a → U.heap[a]? = s.heap[a]? := fun a ha hb => hS.2.1 a ha hb
  exact ⟨⟨va_K.moved hW.alike h1, fun a n f hf => va_T.moved hW.alike ((h2 a n f hf).kept hk), fun k C n d hd => va_Z.moved hW.alike ((h3 k C n d hd).kept hk)⟩, fun w hw => xnw_warm hW w hw (h4 w hw), Nat.le_trans h5 hS.1⟩
def xPc (D : va_G) (dA : Nat → ClassId) (ad : Nat → Nat) (base : Nat) (xe : Nat → Option (Nat × (Nat → Int32))) (vs : List Value) (h : xS) : Array Value → State → Prop := fun v U => v = (vs.map (xsh ad)).toArray ∧ xHO D dA ad base xe h U.heap ∧ xEnv D dA ad base xe U
def xQc (D : va_G) (dA : Nat → ClassId) (ad : Nat → Nat) (base : Nat) (xe : Nat → Option (Nat × (Nat → Int32))) (r : Option Value) (h1 : xS) : Array Value → State → Outcome → State → Prop := fun _ st o t => o = .returned (r.map (xsh ad)) ∧ xHO D dA ad base xe h1 t.heap ∧ va_F (fun q => base ≤ q) st t
theorem xPc_blind {D : va_G} {dA : Nat → ClassId} {ad : Nat → Nat} {base : Nat} {xe : Nat → Option (Nat × (Nat → Int32))} {vs : List Value} {h : xS} : FrameBlind (xPc D dA ad base xe vs h) := by
  intro a U g mk q
  obtain ⟨q1, q2, ⟨⟨h1, h2, h3⟩, h4, h5⟩⟩ := q
  exact ⟨q1, q2, ⟨⟨va_K.moved (u := U) (U := U.calling g mk a) (Vm.Alike.refl U.vm) h1, fun a' n f hf => va_T.moved (u := U) (U := U.calling g mk a) (Vm.Alike.refl U.vm) (h2 a' n f hf), fun k C n d hd => va_Z.moved (u := U) (U := U.calling g mk a) (Vm.Alike.refl U.vm) (h3 k C n d hd)⟩, fun w hw => va_Nw.same (u := U) (U := U.calling g mk a) (xnw_on w hw) rfl (h4 w hw), h5⟩⟩
def xrm (d mc ms : Nat) : Room := { frames := d, cells := mc, slots := ms, locals := 39 * d }
def xri (r : Option Value) : Instr := match r with
  | none => .return_
  | some (.long _) => .lreturn
  | some _ => .ireturn
def xrok (i : Nat) (r : Option Value) : Prop := match r with
  | none => xrt i = 0
  | some (.int v) => xrt i = 1 ∨ (xrt i = 3 ∧ (v = 0 ∨ v = 1))
  | some (.long _) => xrt i = 2
  | _ => False
theorem xret_inv {i : Nat} {ins : Instr} {st : List Value} {h h1 : xS} {r : Option Value} (hx : xret i ins st h = some (r, h1)) : h1 = h ∧ ins = xri r ∧ st = r.toList ∧ xrok i r := by
  unfold xret at hx
  split at hx
  · split at hx
    · split at hx
      · rename_i hc
        cases hx
        exact ⟨rfl, rfl, rfl, hc⟩
      · cases hx
    · cases hx
  · split at hx
    · split at hx
      · rename_i hc
        cases hx
        exact ⟨rfl, rfl, rfl, hc⟩
      · cases hx
    · cases hx
  · split at hx
    · split at hx
      · rename_i hc
        cases hx
        exact ⟨rfl, rfl, rfl, hc⟩
      · cases hx
    · cases hx
  · cases hx
def xgm (w : Jvm.Cond) : Prop := w ∈ xG
theorem xgood {w0 : Jvm.Cond} (h : w0 ∈ xG) : GoodIn xG (w0 :: xG) := by
  intro w hw
  have h1 : w ∈ xG := by
    rcases List.mem_cons.mp hw with rfl | hw
    · exact h
    · exact hw
  exact ⟨h1, good_of_word (List.mem_filter.mp h1).2⟩
section XR
variable {p : Program} {l : Launch} {e : Env} {R : Room} {s : State} {m : MethodId} {args : Array Value} {below : List Frame} {meth : Method} {c : Code} {H : Heap} {locs : List Loc} {cells slots : Nat} {Q : State → Prop}
variable {cc : ByteArray} {pc nL mc ms : Nat} {ls : Array Slot} {ad : Nat → Nat} {D : va_G} {dA : Nat → ClassId} {base : Nat} {xe : Nat → Option (Nat × (Nat → Int32))} {own : String}
/-- behind a call -/
theorem xcall_ok {st0 rest : List Value} {a : Array Value} {r : Option Value} {h1 : xS} (hr : va_Run p l e R s m args below meth c H locs cells slots mc ms (F0 m pc ls st0) rest (xQc D dA ad base xe r h1 a) (fun q => base ≤ q)) (hS : va_S (fun q => base ≤ q) s.heap H locs)
    (kk : ∀ H1 locs1, xHO D dA ad base xe h1 H1 → va_S (fun q => base ≤ q) s.heap H1 locs1 → W p l e R s m args below meth c H1 locs1 (cells + mc) (slots + ms) Q (F0 m (pc + 3) ls ((r.map (xsh ad)).toList ++ rest))) : W p l e R s m args below meth c H locs cells slots Q (F0 m pc ls st0) := by
  intro T hT X
  obtain ⟨v, st₀, t, T', L, h0, X', hL, e1, e2, ⟨hv, hH1, hz, hk⟩, st⟩ := hr T hT X
  cases hv
  rw [h0] at hz hk
  obtain ⟨t2, a1, b1⟩ := kk T'.heap (locs ++ L) (by rw [e1]; exact hH1)
    ⟨Nat.le_trans hS.1 (by rw [e1]; exact hz), fun q h1 h2 => by rw [e1, hk q (Nat.lt_of_lt_of_le h1 hS.1) h2]; exact hS.2.1 q h1 h2, fun q hq => by
      rcases List.mem_append.mp hq with h | h
      · exact hS.2.2 q h
      · exact hL q h⟩ T' rfl X'
  exact ⟨t2, st t2 a1, b1⟩
end XR
end
section
/-! CALLS THAT ARE ONE STEP -/
section XB
variable {p : Program} {l : Launch} {e : Env} {R : Room} {s : State} {m : MethodId} {args : Array Value} {below : List Frame} {meth : Method} {c : Code} {H : Heap} {locs : List Loc} {cells slots : Nat} {Q : State → Prop}
variable {cc : ByteArray} {pc nL : Nat} {ls : Array Slot} {ad : Nat → Nat} {D : va_G} {dA : Nat → ClassId} {base : Nat} {xe : Nat → Option (Nat × (Nat → Int32))} {own : String}
theorem xcopy_ok (S : CallFix p m c cc nL s args xG own) (hsz : ls.size = nL) (hK : va_K D xCl (xtys dA) s) {h : xS} (hH : xHO D dA ad base xe h H) (hS : va_S (fun q => base ≤ q) s.heap H locs) {index : Nat} (hlink : (Jvm.Cond.methodLink own index arraycopyName).before args s = true) (hnat : (Jvm.Cond.native arraycopyName).before args s = true) (hstat : (Jvm.Cond.static arraycopyName).before args s = true) (hini : (Jvm.Cond.initialized "java/lang/System").before args s = true)
    {a a0 : Nat} {rest : List Value} (hne : a ≠ a0) (hk : (h.1 a).1 = 100) (hk0 : (h.1 a0).1 = 100)
    {sp dp n : Int32} (h1 : ¬ sp < 0) (h2 : ¬ dp < 0) (h3 : ¬ n < 0) (h4 : sp.toNatClampNeg + n.toNatClampNeg ≤ (h.1 a0).2) (h5 : dp.toNatClampNeg + n.toNatClampNeg ≤ (h.1 a).2)
    (hframes : 1 ≤ R.frames) (hlocals : (rest.map fun v => v.category).sum + (nativeFrameWords "java/lang/System" "arraycopy" 5 + 11) ≤ R.locals) (hdg : decode cc pc = .ok (.invokestatic index, 3))
    (kk : ∀ (H1 : Heap) (locs1 : List Loc), xHO D dA ad base xe (h.1, h.2.1, va_up h.2.2.1 a (va_cpy (h.2.2.1 a0) (h.2.2.1 a) sp.toNatClampNeg dp.toNatClampNeg n.toNatClampNeg), h.2.2.2) H1 → va_S (fun q => base ≤ q) s.heap H1 locs1 → W p l e R s m args below meth c H1 locs1 cells slots Q (F0 m (pc + 3) ls rest)) : W p l e R s m args below meth c H locs cells slots Q (F0 m pc ls (.int n :: .int dp :: .ref (ad a) :: .int sp :: .ref (ad a0) :: rest)) := by
  obtain ⟨hexec, hb, hml, hown, hts⟩ := S
  have nn : ∀ z : Int32, ¬ z < 0 → z.toInt = (z.toNatClampNeg : Int) := by
    intro z hz
    have hz0 : (0 : Int) ≤ z.toInt := by
      have := Int32.not_lt.mp hz
      simpa using Int32.le_iff_toInt_le.mp this
    show z.toInt = ((z.toInt.toNat : Nat) : Int)
    omega
  have hoa : xown h a := ⟨by omega, by omega⟩
  obtain ⟨⟨c1, -⟩, hba, hla⟩ := hH.1 a hoa
  obtain ⟨⟨c0, -⟩, -, -⟩ := hH.1 a0 ⟨by omega, by omega⟩
  intro T hT X
  have hc0 : H[ad a0]? = some (vp_cell (dA 100) ((h.1 a0).2, .inl (h.2.2.1 a0))) := c0 hk0
  have hc1 : H[ad a]? = some (vp_cell (dA 100) ((h.1 a).2, .inl (h.2.2.1 a))) := c1 hk
  obtain ⟨-, k0, hk0', cm0, hkk0⟩ := (hK.2 0 _ rfl).1 (h.1 a0).2 (fun j => .int (h.2.2.1 a0 j))
  obtain ⟨-, k1, hk1', cm1, hkk1⟩ := (hK.2 0 _ rfl).1 (h.1 a).2 (fun j => .int (h.2.2.1 a j))
  obtain ⟨vm', X', step⟩ := X.arraycopy hexec hown hlink hnat hstat hini (src := ad a0) (dst := ad a) (cs := vp_cell (dA 100) ((h.1 a0).2, .inl (h.2.2.1 a0))) (cd := vp_cell (dA 100) ((h.1 a).2, .inl (h.2.2.1 a))) (srcPos := sp) (destPos := dp) (n := n) (by rw [hT]; exact hc0) (by rw [hT]; exact hc1)
    (fun _ h => by cases h) (fun _ h => by cases h) (fun h => by cases h) (fun h => by cases h) hk0' hk1' hkk0 hkk1 (show (refKind FieldType.int != refKind FieldType.int || !refKind FieldType.int && FieldType.int != FieldType.int) = false by decide) h1 h2 h3
    (by rw [nn sp h1, nn n h3]; show ¬ _ > ((arrV (dA 100) (h.1 a0).2 (fun j => .int (h.2.2.1 a0 j))).slots.size : Int); rw [arrV_size]; omega)
    (by rw [nn dp h2, nn n h3]; show ¬ _ > ((arrV (dA 100) (h.1 a).2 (fun j => .int (h.2.2.1 a j))).slots.size : Int); rw [arrV_size]; omega)
    (fun vm₁ _ i hi => by
      have e : (vp_cell (dA 100) ((h.1 a0).2, .inl (h.2.2.1 a0))).slots.getD (sp.toNatClampNeg + i) .null = .int (h.2.2.1 a0 (sp.toNatClampNeg + i)) := by
        show (arrV (dA 100) (h.1 a0).2 (fun j => .int (h.2.2.1 a0 j))).slots.getD _ _ = _
        rw [Array.getD_eq_getD_getElem?, arrV_read _ _ (by omega)]
        rfl
      refine ⟨?_, ?_⟩
      · rw [e]
        rfl
      · rw [e]
        exact trivial)
    (g := F0 m pc ls (.int n :: .int dp :: .ref (ad a) :: .int sp :: .ref (ad a0) :: rest)) rfl (by rw [hml]; exact hsz) (rest := rest) rfl (by rw [hb]; exact hdg) hframes (by show 2 * 0 + _ + _ ≤ _; omega)
  have e1 : copied (vp_cell (dA 100) ((h.1 a0).2, .inl (h.2.2.1 a0))) (vp_cell (dA 100) ((h.1 a).2, .inl (h.2.2.1 a))) sp dp n = vp_cell (dA 100) ((h.1 a).2, .inl (va_cpy (h.2.2.1 a0) (h.2.2.1 a) sp.toNatClampNeg dp.toNatClampNeg n.toNatClampNeg)) := va_copied (fun z => .int z) (dA 100) (dA 100) (h.2.2.1 a0) (h.2.2.1 a) h4
  rw [e1] at X' step
  have hheap : ((T.setVm vm').setCell (ad a) (vp_cell (dA 100) ((h.1 a).2, .inl (va_cpy (h.2.2.1 a0) (h.2.2.1 a) sp.toNatClampNeg dp.toNatClampNeg n.toNatClampNeg)))).heap = H.setIfInBounds (ad a) (vp_cell (dA 100) ((h.1 a).2, .inl (va_cpy (h.2.2.1 a0) (h.2.2.1 a) sp.toNatClampNeg dp.toNatClampNeg n.toNatClampNeg))) := by rw [← hT]; rfl
  have oq : ∀ q : Nat, q ≠ ad a → (H.setIfInBounds (ad a) (vp_cell (dA 100) ((h.1 a).2, .inl (va_cpy (h.2.2.1 a0) (h.2.2.1 a) sp.toNatClampNeg dp.toNatClampNeg n.toNatClampNeg))))[q]? = H[q]? := fun q hq => by simp [Array.getElem?_setIfInBounds, Ne.symm hq]
  obtain ⟨t, a1, b1⟩ := kk _ _ (hH.put (h1 := (h.1, h.2.1, va_up h.2.2.1 a (va_cpy (h.2.2.1 a0) (h.2.2.1 a) sp.toNatClampNeg dp.toNatClampNeg n.toNatClampNeg), h.2.2.2)) hoa rfl rfl (fun b hb => ⟨va_up_ne _ _ hb, rfl, rfl⟩) (by simp) oq ⟨fun _ => (by
      show (H.setIfInBounds (ad a) _)[ad a]? = _
      rw [Array.getElem?_setIfInBounds, if_pos rfl, if_pos hla]
      simp only [va_up_self]
      rfl), (fun hz => by have : (h.1 a).1 = 101 := hz; omega), (fun hz => by have : (h.1 a).1 = 102 := hz; omega), (fun q h0 hq => by
      have hq : xCl[(h.1 a).1 - 1]? = some q := hq
      rw [hk] at hq; simp [xCl] at hq)⟩) ⟨by simp; exact hS.1, fun q g1 g2 => by
      rw [oq q (fun e => g2 (by rw [e]; exact hba))]
      exact hS.2.1 q g1 g2, fun q hq => by
      rcases List.mem_append.mp hq with h | h
      · exact hS.2.2 q h
      · obtain ⟨z, -, hz⟩ := List.mem_map.mp h
        rw [← hz]
        exact hba⟩ _ hheap X'
  exact ⟨t, step t a1, b1⟩
def xbw (own : String) (ins : Instr) (r1 : Nat) : Prop := match ins with
  | .invokestatic i => (r1 = 1000 → Jvm.Cond.methodLink own i Lib.Math.max.name ∈ xG ∧ Jvm.Cond.static Lib.Math.max.name ∈ xG ∧ Jvm.Cond.initialized "java/lang/Math" ∈ xG ∧ Jvm.Cond.code Lib.Math.max.name Lib.Math.max.code 2 (some .int) ∈ xG) ∧
      (r1 = 1001 → Jvm.Cond.methodLink own i Lib.Math.min.name ∈ xG ∧ Jvm.Cond.static Lib.Math.min.name ∈ xG ∧ Jvm.Cond.initialized "java/lang/Math" ∈ xG ∧ Jvm.Cond.code Lib.Math.min.name Lib.Math.min.code 2 (some .int) ∈ xG) ∧
      (r1 = 1002 → Jvm.Cond.methodLink own i arraycopyName ∈ xG ∧ Jvm.Cond.native arraycopyName ∈ xG ∧ Jvm.Cond.static arraycopyName ∈ xG ∧ Jvm.Cond.initialized "java/lang/System" ∈ xG)
  | .invokespecial i => r1 = 1003 → Jvm.Cond.methodLink own i Lib.objectInit ∈ xG ∧ Jvm.Cond.instanceMethod Lib.objectInit ∈ xG ∧ Jvm.Cond.code Lib.objectInit ⟨#[0xb1]⟩ 1 none ∈ xG
  | _ => True
set_option maxHeartbeats 4000000 in
theorem xbj_ok (S : CallFix p m c cc nL s args xG own) (hsz : ls.size = nL) (hEnv : xEnv D dA ad base xe s) {h h1 : xS} (hH : xHO D dA ad base xe h H) (hS : va_S (fun q => base ≤ q) s.heap H locs) {ins : Instr} {r1 : Nat} (hd : decode cc pc = .ok (ins, xlen ins)) (hw : xbw own ins r1) {st st' : List Value} (hx : xbj ins r1 st h = some (st', h1)) (hsum : xsum st' ≤ 9) (hframes : 1 ≤ R.frames) (hlocals : 39 ≤ R.locals) (hc : cells ≤ R.cells) (hs : slots ≤ R.slots)
    (kk : ∀ (H1 : Heap) (locs1 : List Loc), xHO D dA ad base xe h1 H1 → va_S (fun q => base ≤ q) s.heap H1 locs1 → W p l e R s m args below meth c H1 locs1 cells slots Q (F0 m (pc + 3) ls (st'.map (xsh ad)))) : W p l e R s m args below meth c H locs cells slots Q (F0 m pc ls (st.map (xsh ad))) := by
  have hcat : ∀ r : List Value, ((r.map (xsh ad)).map fun v => v.category).sum = xsum r := by
    intro r
    unfold xsum
    rw [List.map_map]
    congr 1
    apply List.map_congr_left
    intro v _
    exact xsh_cat ad v
  have S0 := S
  obtain ⟨hexec, hb, hml, hown, hts⟩ := S
  unfold xbj at hx
  split at hx
  · rename_i i
    obtain ⟨w1, w2, w3⟩ := hw
    split at hx
    · cases hx
    · unfold xbi at hx
      split at hx
      · rename_i hr
        obtain ⟨v1, v2, v3, v4⟩ := w1 hr
        split at hx
        · rename_i y x r
          cases hx
          refine va_mmax hexec hb (by rw [hml, hsz]) hown (hts _ v1) (hts _ v2) (hts _ v3) (hts _ v4) hframes ?_ hc hs hd (kk _ _ hH hS)
          rw [hcat]
          have : xsum (.int (if x < y then y else x) :: r) = 1 + xsum r := rfl
          omega
        · cases hx
      · split at hx
        · rename_i hr
          obtain ⟨v1, v2, v3, v4⟩ := w2 hr
          split at hx
          · rename_i y x r
            cases hx
            refine va_mmin hexec hb (by rw [hml, hsz]) hown (hts _ v1) (hts _ v2) (hts _ v3) (hts _ v4) hframes ?_ hc hs hd (kk _ _ hH hS)
            rw [hcat]
            have : xsum (.int (if y < x then y else x) :: r) = 1 + xsum r := rfl
            omega
          · cases hx
        · split at hx
          · rename_i hr
            obtain ⟨v1, v2, v3, v4⟩ := w3 hr
            split at hx
            · rename_i n dp a sp a0 r
              split at hx
              · rename_i hcd
                obtain ⟨⟨g1, g2, g3⟩, g4, g5, g6, g7, g8⟩ := hcd
                cases hx
                refine xcopy_ok S0 hsz hEnv.1.1 hH hS (hts _ v1) (hts _ v2) (hts _ v3) (hts _ v4) g1 g2 g3 g4 g5 g6 g7 g8 hframes ?_ hd kk
                rw [hcat]
                have : nativeFrameWords "java/lang/System" "arraycopy" 5 + 11 ≤ 30 := by decide
                omega
              · cases hx
            · cases hx
          · cases hx
  · rename_i i
    split at hx
    · rename_i hr
      subst hr
      obtain ⟨v1, v2, v3⟩ := hw rfl
      unfold xbi at hx
      rw [if_neg (by decide), if_neg (by decide), if_neg (by decide), if_pos rfl] at hx
      split at hx
      · rename_i a r
        cases hx
        refine W.objInit hexec hb hown (hts _ v1) (hts _ v2) (hts _ v3) rfl (by rw [hml]; exact hsz) rfl hd hframes ?_ (kk _ _ hH hS)
        show 2 * 0 + _ + 12 ≤ _
        rw [hcat]
        omega
      · cases hx
    · cases hx
  · cases hx
end XB
end
section
/-! A RUN OF THE LIGHT MACHINE IS A RUN OF THE MACHINE -/
abbrev xnm (c : String) : Prop := c ≠ "java/lang/invoke/MethodHandle" ∧ c ≠ "java/lang/invoke/VarHandle"
def xcw (own : String) (ins : Instr) (r1 r2 : Nat) : Prop := match ins with
  | .invokestatic i => r1 < 1000 → r1 ≠ xlaw ∧ ∃ y cc ret ini, xmt r1 = some (y, cc, ret, ini) ∧ Jvm.Cond.static y ∈ xG ∧ Jvm.Cond.initialized y.cls ∈ xG ∧ (y.cls ≠ "java/lang/invoke/MethodHandle" ∧ y.cls ≠ "java/lang/invoke/VarHandle" ∧ (parseMethodDescriptor y.desc).map (fun d => d.parameters.length) = some r2) ∧ (Jvm.Cond.methodLink own i y ∈ xG ∨ ∃ host, Jvm.Cond.methodLinkNest own i y host ∈ xnw)
  | .invokespecial i => r1 < 1000 → r1 ≠ xlaw ∧ 1 ≤ r2 ∧ ∃ y cc ini, xmt r1 = some (y, cc, none, ini) ∧ y.name = "<init>" ∧ Jvm.Cond.instanceMethod y ∈ xG ∧ Jvm.Cond.initialized y.cls ∈ xG ∧ (y.cls ≠ "java/lang/invoke/MethodHandle" ∧ y.cls ≠ "java/lang/invoke/VarHandle" ∧ (parseMethodDescriptor y.desc).map (fun d => d.parameters.length) = some (r2 - 1)) ∧ (Jvm.Cond.methodLink own i y ∈ xG ∨ ∃ host, Jvm.Cond.methodLinkNest own i y host ∈ xnw)
  | .invokevirtual i => 1 ≤ r2 ∧ ∀ k j, xtg r1 k = some j → j ≠ xlaw ∧ ∃ y cc ret ini q, xmt j = some (y, cc, ret, ini) ∧ k ≠ 0 ∧ k < 100 ∧ xCl[k - 1]? = some q ∧ Jvm.Cond.instanceMethod y ∈ xG ∧ Jvm.Cond.initialized y.cls ∈ xG ∧
      ((Jvm.Cond.methodLink own i y ∈ xG ∧ Jvm.Cond.selects q.1 y y ∈ xG ∧ y.cls ≠ "java/lang/invoke/MethodHandle" ∧ y.cls ≠ "java/lang/invoke/VarHandle" ∧ (parseMethodDescriptor y.desc).map (fun d => d.parameters.length) = some (r2 - 1)) ∨
       ∃ (x : MethodName) (owner : String), Jvm.Cond.methodLink own i x ∈ xG ∧ Jvm.Cond.sameMethod x.cls owner x.name x.desc ∈ xG ∧ Jvm.Cond.selects q.1 x y ∈ xG ∧ (owner ≠ "java/lang/invoke/MethodHandle" ∧ owner ≠ "java/lang/invoke/VarHandle" ∧ (parseMethodDescriptor x.desc).map (fun d => d.parameters.length) = some (r2 - 1)) ∧
         (Jvm.Cond.declares ⟨owner, x.name, x.desc⟩ ∈ xnw ∨ (Jvm.Cond.instanceMethod ⟨owner, x.name, x.desc⟩ ∈ xG ∧ ∃ b m r, Jvm.Cond.code ⟨owner, x.name, x.desc⟩ b m r ∈ xG)))
  | _ => True
def xtw (own : String) (ins : Instr) (r1 : Nat) : Prop := match ins with
  | .invokestatic i => r1 = 1004 → own = "BestParsesLaw" ∧ Jvm.Cond.methodLink own i ⟨"BestParsesLaw", "trier", "(LBestParses;I[J)I"⟩ ∈ xG
  | _ => True
def xE (own : String) (ini : Bool) (cc : ByteArray) (e : Nat × xI) : Prop := decode cc e.1 = .ok (e.2.1, e.2.2.1) ∧ ((∃ a b d o, e.2.1 = .tableswitch a b d o) ∨ e.2.2.1 = xlen e.2.1) ∧ xcon xG own e.2.1 e.2.2.2.1 ∧ xbrk e.2.1 e.2.2.2.1 e.1 ∧ xhw xsd own ini e.2.1 e.2.2.2.1 e.2.2.2.2 ∧ xaw own e.2.1 e.2.2.2.1 ∧ xbw own e.2.1 e.2.2.2.1 ∧ xcw own e.2.1 e.2.2.2.1 e.2.2.2.2 ∧ xtw own e.2.1 e.2.2.2.1
def xMok (i : Nat) (t : xMT) : Prop := plainName t.1.cls = true ∧ (i ≠ xlaw → Jvm.Cond.code t.1 t.2.1 (xnl i) t.2.2.1 ∈ xG) ∧ xnl i ≤ 20 ∧ (xrt i = 0 → t.2.2.1 = none) ∧ (xrt i = 1 → t.2.2.1 = some .int) ∧ (xrt i = 2 → t.2.2.1 = some .long) ∧ (xrt i = 3 → t.2.2.1 = some .boolean) ∧ (t.2.2.2 = true → t.1.name = "<init>") ∧ ∀ e ∈ xcode i, xE t.1.cls t.2.2.2 t.2.1 e
def xVal : Prop := ∀ i t, xmt i = some t → xMok i t
/-- the law's trier, as a step -/
def xHT (l : Launch) (D : va_G) (dA : Nat → ClassId) (ad : Nat → Nat) (base : Nat) (xe : Nat → Option (Nat × (Nat → Int32))) : Prop :=
  ∀ (p : Program) (e : Env) (R : Room) (s : State) (m : MethodId) (args : Array Value) (below : List Frame) (meth : Method) (c : Code) (H : Heap) (locs : List Loc) (cells slots : Nat) (Q : State → Prop) (cc : ByteArray) (nL : Nat) (ls : Array Slot) (pc i : Nat) (st st' : List Value) (h h1 : xS),
    CallFix p m c cc nL s args xG "BestParsesLaw" → ls.size = nL → xEnv D dA ad base xe s → xHO D dA ad base xe h H → va_S (fun q => base ≤ q) s.heap H locs → decode cc pc = .ok (.invokestatic i, 3) → Jvm.Cond.methodLink "BestParsesLaw" i ⟨"BestParsesLaw", "trier", "(LBestParses;I[J)I"⟩ ∈ xG → xtr st h = some (st', h1) → 6 ≤ R.frames → 39 * 6 ≤ R.locals → xsum st' ≤ 9 → cells + xcT ≤ R.cells → slots + xsT ≤ R.slots →
    (∀ (H1 : Heap) (locs1 : List Loc), xHO D dA ad base xe h1 H1 → va_S (fun q => base ≤ q) s.heap H1 locs1 → W p l e R s m args below meth c H1 locs1 (cells + xcT) (slots + xsT) Q (F0 m (pc + 3) ls (st'.map (xsh ad)))) → W p l e R s m args below meth c H locs cells slots Q (F0 m pc ls (st.map (xsh ad)))
theorem xst1_len {L L' : xL} {i : Nat} {v : Value} (hs : xst1 L i v = some L') : L'.length = L.length := by
  unfold xst1 at hs
  split at hs
  · cases hs; simp [xclr_len]
  · cases hs
theorem xst2_len {L L' : xL} {i : Nat} {v : Value} (hs : xst2 L i v = some L') : L'.length = L.length := by
  unfold xst2 at hs
  split at hs
  · cases hs; simp [xclr_len]
  · cases hs
theorem xlo_len {ins : Instr} {L L' : xL} {st st' : List Value} (h : xlo ins L st = some (L', st')) : L'.length = L.length := by
  unfold xlo at h
  split at h
  all_goals first
    | (split at h <;> first | (obtain ⟨L2, hs, he⟩ := Option.map_eq_some_iff.mp h; cases he; first | exact xst1_len hs | exact xst2_len hs) | (cases h; rfl) | cases h)
    | cases h
/-- what a run of the light machine says of a frame -/
def xOK (l : Launch) (D : va_G) (dA : Nat → ClassId) (ad : Nat → Nat) (base : Nat) (xe : Nat → Option (Nat × (Nat → Int32))) (n : Nat) : Prop :=
  ∀ (d i pc : Nat) (L : xL) (st : List Value) (h : xS) (r : Option Value) (h1 : xS), ex n d i pc L st h = some (r, h1) → ∀ (t : xMT), xmt i = some t →
    ∀ (p : Program) (e : Env) (R : Room) (s : State) (m : MethodId) (args : Array Value) (below : List Frame) (meth : Method) (c : Code) (H : Heap) (locs : List Loc) (cells slots : Nat) (Q : State → Prop) (ls : Array Slot),
    CallFix p m c t.2.1 (xnl i) s args xG t.1.cls → (t.2.2.2 = true → meth.name = "<init>") → d ≤ R.frames → 39 * d ≤ R.locals → xEnv D dA ad base xe s → xHO D dA ad base xe h H → va_S (fun q => base ≤ q) s.heap H locs → xLH ad ls L → L.length = xnl i →
    cells + (h1.2.1.2.1 - h.2.1.2.1) ≤ R.cells → slots + (h1.2.1.2.2 - h.2.1.2.2) ≤ R.slots →
    (∀ (H1 : Heap) (locs1 : List Loc) (pc1 : Nat) (ls1 : Array Slot), xHO D dA ad base xe h1 H1 → va_S (fun q => base ≤ q) s.heap H1 locs1 → decode t.2.1 pc1 = .ok (xri r, 1) → xrok i r → W p l e R s m args below meth c H1 locs1 (cells + (h1.2.1.2.1 - h.2.1.2.1)) (slots + (h1.2.1.2.2 - h.2.1.2.2)) Q (F0 m pc1 ls1 (r.toList.map (xsh ad)))) →
    W p l e R s m args below meth c H locs cells slots Q (F0 m pc ls (st.map (xsh ad)))
set_option maxHeartbeats 4000000 in
/-- a called method's contract -/
theorem xmet {l : Launch} {D : va_G} {dA : Nat → ClassId} {ad : Nat → Nat} {base : Nat} {xe : Nat → Option (Nat × (Nat → Int32))} {n : Nat} (ih : xOK l D dA ad base xe n) (hV : xVal) {d j : Nat} {vs : List Value} {h h1 : xS} {r : Option Value} (hx : ex n d j 0 (xent (xnl j) vs) [] h = some (r, h1)) (hlen : (xargs vs).length ≤ xnl j) {t : xMT} (ht : xmt j = some t) (hj : j ≠ xlaw) :
    Met l t.1 (Jvm.Cond.code t.1 t.2.1 (xnl j) t.2.2.1 :: xG) (xrm d (h1.2.1.2.1 - h.2.1.2.1) (h1.2.1.2.2 - h.2.1.2.2)) (xPc D dA ad base xe vs h) (xQc D dA ad base xe r h1) (h1.2.1.2.1 - h.2.1.2.1) (h1.2.1.2.2 - h.2.1.2.2) (fun q => base ≤ q) := by
  obtain ⟨v1, v2, v3, v4, v5, v6, v7, v8, v9⟩ := hV j t ht
  refine Met.ofW (cc := t.2.1) (maxL := xnl j) (ret := t.2.2.1) v1 rfl ?_
  intro p e s m args below meth c s₁ B hml hv
  obtain ⟨rfl, hH, hEnv⟩ := hv
  have hts := atoms_spec (ws := Jvm.Cond.code t.1 t.2.1 (xnl j) t.2.2.1 :: xG) B.pre
  have hlocks := B.notSynchronized
  have hr := B.returns
  rw [lg_entry_eq]
  refine ih d j 0 _ [] h r h1 hx t ht p e _ s m _ below meth c s.heap [] 0 0 _ _ ⟨B.exec, B.bytes, hml, findClass_of_methodNamed B.named, fun w hw => hts w (List.mem_cons_of_mem _ hw)⟩ (fun hi => (name_of_methodNamed B.named B.method).1.trans (v8 hi)) (Nat.le_refl _) (Nat.le_refl _) hEnv hH va_S.rf (xent_ok ad vs (xnl j) hlen) (xent_len _ _ hlen) (by rw [Nat.zero_add]; exact Nat.le_refl _) (by rw [Nat.zero_add]; exact Nat.le_refl _) ?_
  intro H1 locs1 pc1 ls1 hH1 hS1 hdg hrk
  rw [Nat.zero_add, Nat.zero_add]
  cases r with
  | none =>
    exact W.vret B.exec B.bytes (hr.trans (v4 hrk)) (fun t ht _ => ⟨rfl, by rw [ht]; exact hH1, hS1.F ht⟩) hS1.2.2 hdg hlocks
  | some v =>
    cases v with
    | int x =>
      rcases hrk with hrk | ⟨hrk, hx01⟩
      · exact W.iret B.exec B.bytes (hr.trans (v5 hrk)) (fun t ht _ => ⟨rfl, by rw [ht]; exact hH1, hS1.F ht⟩) hS1.2.2 hdg hlocks
      · exact W.zret (ty := .boolean) B.exec B.bytes (hr.trans (v7 hrk)) (by rcases hx01 with rfl | rfl <;> decide) (fun t ht _ => ⟨rfl, by rw [ht]; exact hH1, hS1.F ht⟩) hS1.2.2 hdg hlocks
    | long x => exact W.lret B.exec B.bytes (hr.trans (v6 hrk)) (fun t ht _ => ⟨rfl, by rw [ht]; exact hH1, hS1.F ht⟩) hS1.2.2 hdg hlocks
    | float x => exact absurd hrk id
    | double x => exact absurd hrk id
    | null => exact absurd hrk id
    | ref x => exact absurd hrk id
    | retAddr x => exact absurd hrk id
end
section
/-! A RUN OF THE LIGHT MACHINE IS A RUN OF THE MACHINE: the induction -/
theorem xcat_sh (ad : Nat → Nat) (r : List Value) : ((r.map (xsh ad)).map fun v => v.category).sum = xsum r := by
  unfold xsum
  rw [List.map_map]
  congr 1
  apply List.map_congr_left
  intro v _
  exact xsh_cat ad v
theorem xtake {st : List Value} {k : Nat} {v : Value} (hk : 1 ≤ k) (h : st[k - 1]? = some v) : (st.take k).reverse = v :: (st.take (k - 1)).reverse := by
  obtain ⟨j, rfl⟩ : ∃ j, k = j + 1 := ⟨k - 1, by omega⟩
  rw [Nat.add_sub_cancel] at h ⊢
  rw [List.take_succ, h]
  simp
theorem xstk (ad : Nat → Nat) (st : List Value) (k : Nat) : st.map (xsh ad) = (((st.take k).reverse).map (xsh ad)).reverse ++ (st.drop k).map (xsh ad) := by
  rw [← List.map_reverse, List.reverse_reverse, ← List.map_append, List.take_append_drop]
theorem xrv (ad : Nat → Nat) (r : Option Value) (st : List Value) : (r.map (xsh ad)).toList ++ st.map (xsh ad) = (r.toList ++ st).map (xsh ad) := by cases r <;> simp
set_option maxHeartbeats 8000000 in
theorem xrun {l : Launch} {D : va_G} {dA : Nat → ClassId} {ad : Nat → Nat} {base : Nat} {xe : Nat → Option (Nat × (Nat → Int32))} (hV : xVal) (hT : xHT l D dA ad base xe) : ∀ n, xOK l D dA ad base xe n
  | 0 => by
    intro d i pc L st h r h1 hx
    simp [ex] at hx
  | n + 1 => by
    have ih := xrun hV hT n
    intro d i pc L st h r h1 hx t ht p e R s m args below meth c H locs cells slots Q ls S hini hdR hlR hEnv hH hS hl hlen hc hs hret
    have hsz : ls.size = xnl i := hl.1.trans hlen
    have hmono := ex_le hx
    obtain ⟨x, hmem, hcases⟩ := ex_inv hx
    obtain ⟨ins, len, r1, r2⟩ := x
    have hVt := hV i t ht
    obtain ⟨e1, e2, e3, e4, e5, e6, e7, e8, e9⟩ := hVt.2.2.2.2.2.2.2.2 (pc, ins, len, r1, r2) hmem
    dsimp only at e1 e2 e3 e4 e5 e6 e7 e8 e9 hcases
    have hts := S.2.2.2.2
    have go : ∀ (pc' : Nat) (L' : xL) (st' : List Value) (h2 : xS) (H1 : Heap) (locs1 : List Loc) (ls1 : Array Slot) (cells1 slots1 : Nat), ex n d i pc' L' st' h2 = some (r, h1) → xHO D dA ad base xe h2 H1 → va_S (fun q => base ≤ q) s.heap H1 locs1 → xLH ad ls1 L' → L'.length = xnl i → cells1 + (h1.2.1.2.1 - h2.2.1.2.1) = cells + (h1.2.1.2.1 - h.2.1.2.1) → slots1 + (h1.2.1.2.2 - h2.2.1.2.2) = slots + (h1.2.1.2.2 - h.2.1.2.2) → W p l e R s m args below meth c H1 locs1 cells1 slots1 Q (F0 m pc' ls1 (st'.map (xsh ad))) := by
      intro pc' L' st' h2 H1 locs1 ls1 cells1 slots1 hx' hH1 hS1 hl1 hlen1 ec es
      refine ih d i pc' L' st' h2 r h1 hx' t ht p e R s m args below meth c H1 locs1 cells1 slots1 Q ls1 S hini hdR hlR hEnv hH1 hS1 hl1 hlen1 (by omega) (by omega) ?_
      intro H2 locs2 pc1 ls2 k1 k2 k3 k4
      rw [ec, es]
      exact hret H2 locs2 pc1 ls2 k1 k2 k3 k4
    rcases hcases with hr | ⟨j, d', q, hd, hw, g1, g2, g3, hc1, hc2⟩ | ⟨q, hq, g1, g2, hn⟩ | ⟨q, hq, g1, g2, hn⟩ | ⟨f, hf, hn⟩
    · obtain ⟨rfl, rfl, rfl, hrk⟩ := xret_inv hr
      have hl1 : len = 1 := by
        rcases e2 with ⟨_, _, _, _, hq⟩ | e2
        · exfalso
          unfold xri at hq
          split at hq <;> cases hq
        · rw [e2]
          unfold xri
          split <;> rfl
      subst hl1
      have := hret H locs pc ls hH hS e1 hrk
      rw [Nat.sub_self, Nat.sub_self] at this
      exact this
    · obtain ⟨rv, h2⟩ := q
      subst hd
      have m1 := ex_le hc1
      have m2 := ex_le hc2
      dsimp only at m1 m2 hc1 hc2
      have k1 : ∀ (rest' : List Value), rest' = (st.drop r2).map (xsh ad) → ∀ st0 a, va_Run p l e R s m args below meth c H locs cells slots (h2.2.1.2.1 - h.2.1.2.1) (h2.2.1.2.2 - h.2.1.2.2) (F0 m pc ls st0) rest' (xQc D dA ad base xe rv h2 a) (fun q => base ≤ q) → W p l e R s m args below meth c H locs cells slots Q (F0 m pc ls st0) := by
        intro rest' hrest st0 a hrun
        subst hrest
        refine xcall_ok hrun hS fun H1 locs1 hH1 hS1 => ?_
        rw [xrv]
        unfold xle at m1 m2
        exact go (pc + 3) L _ h2 H1 locs1 ls _ _ hc2 hH1 hS1 hl hlen (by omega) (by omega)
      have hPc : ∀ (U : State), U.heap = H → s.WarmedH U.vm → xPc D dA ad base xe (st.take r2).reverse h (((st.take r2).reverse).map (xsh ad)).toArray U := fun U hU hW => ⟨rfl, by rw [hU]; exact hH, hEnv.moved (by rw [hU]; exact hS) hW⟩
      have hroom : 2 * (F0 m pc ls (st.map (xsh ad))).monitorRoom + (((st.drop r2).map (xsh ad)).map fun v => v.category).sum ≤ 8 := lv_room (by rw [xcat_sh]; exact g2)
      have hcs : cells + (h2.2.1.2.1 - h.2.1.2.1) ≤ R.cells ∧ slots + (h2.2.1.2.2 - h.2.1.2.2) ≤ R.slots := by
        unfold xle at m1 m2
        constructor <;> omega
      unfold xwho at hw
      split at hw
      · rename_i idx
        split at hw
        · rename_i hlt
          cases hw
          obtain ⟨hj, y, cc', ret, ini, hmt, w1, w2, w3, w4⟩ := e8 hlt
          have hM := xmet ih hV hc1 g3 hmt hj
          have hcd := (hV _ _ hmt).2.1 hj
          have hnl := (hV _ _ hmt).2.2.1
          have hR : (xrm d' (h2.2.1.2.1 - h.2.1.2.1) (h2.2.1.2.2 - h.2.1.2.2)).frames + 1 ≤ R.frames ∧ 8 + (xnl r1 + 11) + (xrm d' (h2.2.1.2.1 - h.2.1.2.1) (h2.2.1.2.2 - h.2.1.2.2)).locals ≤ R.locals := by
            refine ⟨hdR, ?_⟩
            show 8 + (xnl r1 + 11) + 39 * d' ≤ R.locals
            omega
          have hln : (((st.take r2).reverse).map (xsh ad)).length = r2 := by simp; omega
          have hd3 : decode t.2.1 pc = .ok (.invokestatic idx, 3) := by
            rcases e2 with ⟨_, _, _, _, hq⟩ | e2
            · cases hq
            · rw [e2] at e1; exact e1
          rcases w4 with w4 | ⟨host, w4⟩
          · exact k1 _ rfl _ _ (va_runS S hM ⟨callB_of r2 hts (xgood hcd) rfl rfl rfl (hts _ w2) (hts _ w4) w3 hR, hts _ w1⟩ ⟨xPc_blind, hPc⟩ rfl hln hsz (xstk ad st r2) hroom hd3 hcs)
          · exact k1 _ rfl _ _ (va_runSN S hM ⟨va_cnB r2 hts (xgood hcd) rfl rfl rfl (hEnv.2.1 _ w4) (hts _ w2) w3 hR, hts _ w1, trivial⟩ ⟨xPc_blind, hPc⟩ rfl hln hsz (xstk ad st r2) hroom hd3 hcs)
        · cases hw
      · rename_i idx
        split at hw
        · rename_i b hb
          split at hw
          · rename_i hlt
            cases hw
            obtain ⟨hj, hr2, y, cc', ini, hmt, w0, w1, w2, w3, w4⟩ := e8 hlt
            have hM := xmet ih hV hc1 g3 hmt hj
            have hcd := (hV _ _ hmt).2.1 hj
            have hnl := (hV _ _ hmt).2.2.1
            have hR : (xrm d' (h2.2.1.2.1 - h.2.1.2.1) (h2.2.1.2.2 - h.2.1.2.2)).frames + 1 ≤ R.frames ∧ 8 + (xnl r1 + 11) + (xrm d' (h2.2.1.2.1 - h.2.1.2.1) (h2.2.1.2.2 - h.2.1.2.2)).locals ≤ R.locals := by
              refine ⟨hdR, ?_⟩
              show 8 + (xnl r1 + 11) + 39 * d' ≤ R.locals
              omega
            have hln : (((st.take (r2 - 1)).reverse).map (xsh ad)).length = r2 - 1 := by simp; omega
            have hvs := xtake hr2 hb
            have hstk := xstk ad st r2
            rw [hvs] at hPc hstk
            rw [hvs] at hM
            have hstk2 : st.map (xsh ad) = (((st.take (r2 - 1)).reverse).map (xsh ad)).reverse ++ .ref (ad b) :: (st.drop r2).map (xsh ad) := by
              rw [hstk]
              simp [xsh]
            have hd3 : decode t.2.1 pc = .ok (.invokespecial idx, 3) := by
              rcases e2 with ⟨_, _, _, _, hq⟩ | e2
              · cases hq
              · rw [e2] at e1; exact e1
            rcases w4 with w4 | ⟨host, w4⟩
            · exact k1 _ rfl _ _ (va_runI S hM ⟨callB_of (r2 - 1) hts (xgood hcd) rfl rfl rfl (hts _ w2) (hts _ w4) w3 hR, w0, hts _ w1⟩ ⟨xPc_blind, hPc⟩ rfl hln hsz hstk2 hroom hd3 hcs)
            · exact k1 _ rfl _ _ (va_runIN S hM ⟨va_cnB (r2 - 1) hts (xgood hcd) rfl rfl rfl (hEnv.2.1 _ w4) (hts _ w2) w3 hR, w0, hts _ w1⟩ ⟨xPc_blind, hPc⟩ rfl hln hsz hstk2 hroom hd3 hcs)
          · cases hw
        · cases hw
      · rename_i idx
        split at hw
        · rename_i b hb
          obtain ⟨hr2, e8⟩ := e8
          obtain ⟨hj, y, cc', ret, ini, q, hmt, hk0, hk1, hq, w1, w2, w3⟩ := e8 _ _ hw
          have hM := xmet ih hV hc1 g3 hmt hj
          have hcd := (hV _ _ hmt).2.1 hj
          have hnl := (hV _ _ hmt).2.2.1
          have hR : (xrm d' (h2.2.1.2.1 - h.2.1.2.1) (h2.2.1.2.2 - h.2.1.2.2)).frames + 1 ≤ R.frames ∧ 8 + (xnl j + 11) + (xrm d' (h2.2.1.2.1 - h.2.1.2.1) (h2.2.1.2.2 - h.2.1.2.2)).locals ≤ R.locals := by
            refine ⟨hdR, ?_⟩
            show 8 + (xnl j + 11) + 39 * d' ≤ R.locals
            omega
          have hln : (((st.take (r2 - 1)).reverse).map (xsh ad)).length = r2 - 1 := by simp; omega
          have hvs := xtake hr2 hb
          have hstk := xstk ad st r2
          rw [hvs] at hPc hstk
          rw [hvs] at hM
          have hstk2 : st.map (xsh ad) = (((st.take (r2 - 1)).reverse).map (xsh ad)).reverse ++ .ref (ad b) :: (st.drop r2).map (xsh ad) := by
            rw [hstk]
            simp [xsh]
          have hd3 : decode t.2.1 pc = .ok (.invokevirtual idx, 3) := by
            rcases e2 with ⟨_, _, _, _, hq⟩ | e2
            · cases hq
            · rw [e2] at e1; exact e1
          have hrecv : ∃ cellB : Cell, H[ad b]? = some cellB ∧ cellB.vm.isStatics = false ∧ s.vm.findClass q.1 = some cellB.cls := by
            obtain ⟨⟨-, -, -, co⟩, -, -⟩ := hH.1 b ⟨hk0, by omega⟩
            obtain ⟨cell, q1, q2, q3, q4⟩ := co q hk0 hq
            exact ⟨cell, q1, by rw [q3]; rfl, by rw [q2]; exact (hEnv.1.1.1 _ q hq).2.1⟩
          rcases w3 with ⟨w4, w5, w6⟩ | ⟨x, owner, w4, w5, w6, w7, w8⟩
          · exact k1 _ rfl _ _ (va_runV S hM ⟨callB_of (r2 - 1) hts (xgood hcd) rfl rfl rfl (hts _ w2) (hts _ w4) w6 hR, hts _ w1, hts _ w5⟩ ⟨xPc_blind, hrecv, hPc⟩ rfl hln hsz hstk2 hroom hd3 hcs)
          · have hdecl : va_Decl s ⟨owner, x.name, x.desc⟩ := by
              rcases w8 with w8 | ⟨w8, b0, m0, r0, w9⟩
              · exact va_Decl.abs (hEnv.2.1 _ w8)
              · exact va_Decl.of (hts _ w8) (hts _ w9)
            have hpar : ∀ sig, parseMethodDescriptor x.desc = some sig → r2 - 1 = sig.parameters.length := by
              intro sig hsg
              have h2 := w7.2.2
              rw [hsg] at h2
              exact (Option.some.inj h2).symm
            exact k1 _ rfl _ _ (va_runU S hM ⟨⟨rfl, rfl, hR.1, hR.2, pay_in hts (xgood hcd), List.mem_cons_self⟩, hts _ hcd, hts _ w2, ⟨w7.1, w7.2.1⟩, hpar, hts _ w4, hts _ w5, hdecl, hts _ w6, hts _ w1⟩ ⟨xPc_blind, hrecv, hPc⟩ rfl hln hsz hstk2 hroom hd3 hcs)
        · cases hw
      · cases hw
    · obtain ⟨st', h2⟩ := q
      dsimp only at hn g2
      have m2 := ex_le hn
      have hpl : h2.2.1 = h.2.1 := by
        unfold xbj at hq
        split at hq
        · split at hq
          · cases hq
          · exact xbi_pl hq
        · split at hq
          · exact xbi_pl hq
          · cases hq
        · cases hq
      have hd3 : decode t.2.1 pc = .ok (ins, xlen ins) := by
        rcases e2 with ⟨_, _, _, _, rfl⟩ | e2
        · simp [xbj] at hq
        · rw [e2] at e1; exact e1
      refine xbj_ok S hsz hEnv hH hS hd3 e7 hq g2 (by omega) (by omega) (by omega) (by omega) fun H1 locs1 hH1 hS1 => ?_
      exact go (pc + 3) L st' h2 H1 locs1 ls cells slots hn hH1 hS1 hl hlen (by rw [hpl]) (by rw [hpl])
    · obtain ⟨st', h2⟩ := q
      dsimp only at hn g2
      have m2 := ex_le hn
      dsimp only at m2
      unfold xbt at hq
      split at hq
      · rename_i idx
        split at hq
        · rename_i hr
          obtain ⟨w1, w2⟩ := e9 hr
          have hpl := xtr_pl hq
          have hd3 : decode t.2.1 pc = .ok (.invokestatic idx, 3) := by
            rcases e2 with ⟨_, _, _, _, hq⟩ | e2
            · cases hq
            · rw [e2] at e1; exact e1
          unfold xle at m2
          rw [w1] at S w2
          refine hT p e R s m args below meth c H locs cells slots Q t.2.1 (xnl i) ls pc idx st st' h h2 S hsz hEnv hH hS hd3 w2 hq (by omega) (by omega) g2 (by omega) (by omega) fun H1 locs1 hH1 hS1 => ?_
          exact go (pc + 3) L st' h2 H1 locs1 ls _ _ hn hH1 hS1 hl hlen (by omega) (by omega)
        · cases hq
      · cases hq
    · have m2 := ex_le hn
      dsimp only at m2
      unfold xle at m2
      unfold xstep at hf
      split at hf
      · rename_i st' ho
        cases hf
        have hd3 : decode t.2.1 pc = .ok (ins, xlen ins) := by
          rcases e2 with ⟨_, _, _, _, rfl⟩ | e2
          · simp [xop] at ho
          · rw [e2] at e1; exact e1
        exact xop_ok S.1 S.2.1 S.2.2.2.1 hts hd3 e3 ho (go _ _ _ _ _ _ _ _ _ hn hH hS hl hlen rfl rfl)
      · split at hf
        · rename_i q ho
          obtain ⟨L', st'⟩ := q
          cases hf
          have hd3 : decode t.2.1 pc = .ok (ins, xlen ins) := by
            rcases e2 with ⟨_, _, _, _, rfl⟩ | e2
            · simp [xlo] at ho
            · rw [e2] at e1; exact e1
          exact xlo_ok S.1 S.2.1 hd3 hl ho (fun ls' hl' => go _ _ _ _ _ _ _ _ _ hn hH hS hl' ((xlo_len ho).trans hlen) rfl rfl)
        · split at hf
          · rename_i q ho
            obtain ⟨pc', st'⟩ := q
            cases hf
            exact xbr_ok S.1 S.2.1 e1 e2 e4 ho (go _ _ _ _ _ _ _ _ _ hn hH hS hl hlen rfl rfl)
          · split at hf
            · rename_i q ho
              obtain ⟨st', h2⟩ := q
              cases hf
              have hd3 : decode t.2.1 pc = .ok (ins, xlen ins) := by
                rcases e2 with ⟨_, _, _, _, rfl⟩ | e2
                · simp [xhp] at ho
                · rw [e2] at e1; exact e1
              have hpl := xhp_pl ho
              exact xhp_ok S hEnv.1 hH hS hini hd3 e5 ho (fun H1 locs1 hH1 hS1 => go _ _ _ _ _ _ _ _ _ hn hH1 hS1 hl hlen (by rw [hpl]) (by rw [hpl]))
            · split at hf
              · rename_i q ho
                obtain ⟨st', h2, ds⟩ := q
                cases hf
                have hd3 : decode t.2.1 pc = .ok (ins, xlen ins) := by
                  rcases e2 with ⟨_, _, _, _, rfl⟩ | e2
                  · simp [xal] at ho
                  · rw [e2] at e1; exact e1
                have hpl := xal_pl ho
                dsimp only at m2 hn
                exact xal_ok S hEnv.1 hH hS hEnv.2.2 hd3 e6 ho (by omega) (by omega) (fun H1 hH1 hS1 => go _ _ _ _ _ _ _ _ _ hn hH1 hS1 hl hlen (by omega) (by omega))
              · cases hf
end
section
/-! THE ROWS SAY WHAT THE WORDS SAY: what is the same for all methods -/
/-- instructions that ask for words -/
def xoth (e : Nat × xI) : Bool := match e.2.1 with
  | .ldc _ | .ldc_w _ | .ldc2_w _ | .getfield _ | .putfield _ | .getstatic _ | .new _ | .newarray _ | .invokestatic _ | .invokespecial _ | .invokevirtual _ => true
  | _ => false
def xchk (e : Nat × xI) : Bool := match e.2.1 with
  | .goto off => e.2.2.1 == 3 && decide ((e.1 : Int) + off = (e.2.2.2.1 : Int))
  | .if_icmp _ off => e.2.2.1 == 3 && decide ((e.1 : Int) + off = (e.2.2.2.1 : Int))
  | .ifCond _ off => e.2.2.1 == 3 && decide ((e.1 : Int) + off = (e.2.2.2.1 : Int))
  | .tableswitch _ _ _ _ => true
  | i => e.2.2.1 == xlen i
def xdec (cc : ByteArray) (e : Nat × xI) : Bool := decide (decode cc e.1 = .ok (e.2.1, e.2.2.1)) && xchk e
def xwc (own : String) (ini : Bool) (e : Nat × xI) : Prop := xcon xG own e.2.1 e.2.2.2.1 ∧ xhw xsd own ini e.2.1 e.2.2.2.1 e.2.2.2.2 ∧ xaw own e.2.1 e.2.2.2.1 ∧ xbw own e.2.1 e.2.2.2.1 ∧ xcw own e.2.1 e.2.2.2.1 e.2.2.2.2 ∧ xtw own e.2.1 e.2.2.2.1
theorem xwc_plain {own : String} {ini : Bool} {e : Nat × xI} (h : xoth e = false) : xwc own ini e := by
  obtain ⟨pc, ins, len, r1, r2⟩ := e
  cases ins <;> first | exact ⟨trivial, trivial, trivial, trivial, trivial, trivial⟩ | cases h
theorem xE_of {own : String} {ini : Bool} {cc : ByteArray} {e : Nat × xI} (h : xdec cc e = true) (hw : xwc own ini e) : xE own ini cc e := by
  obtain ⟨pc, ins, len, r1, r2⟩ := e
  unfold xdec at h
  rw [Bool.and_eq_true, decide_eq_true_eq] at h
  obtain ⟨h1, h2⟩ := h
  obtain ⟨w1, w2, w3, w4, w5, w6⟩ := hw
  have key : ((∃ a b d o, ins = .tableswitch a b d o) ∨ len = xlen ins) ∧ xbrk ins r1 pc := by
    unfold xchk at h2
    split at h2
    · rename_i off hi
      rw [Bool.and_eq_true, beq_iff_eq, decide_eq_true_eq] at h2
      dsimp only at hi h2
      subst hi
      exact ⟨Or.inr h2.1, h2.2⟩
    · rename_i cd off hi
      rw [Bool.and_eq_true, beq_iff_eq, decide_eq_true_eq] at h2
      dsimp only at hi h2
      subst hi
      exact ⟨Or.inr h2.1, h2.2⟩
    · rename_i cd off hi
      rw [Bool.and_eq_true, beq_iff_eq, decide_eq_true_eq] at h2
      dsimp only at hi h2
      subst hi
      exact ⟨Or.inr h2.1, h2.2⟩
    · rename_i a b d o hi
      exact ⟨Or.inl ⟨a, b, d, o, hi⟩, by dsimp only at hi; subst hi; trivial⟩
    · rename_i n1 n2 n3 n4
      rw [beq_iff_eq] at h2
      refine ⟨Or.inr h2, ?_⟩
      unfold xbrk
      split
      · exact absurd rfl (n1 _)
      · exact absurd rfl (n2 _ _)
      · exact absurd rfl (n3 _ _)
      · trivial
  exact ⟨h1, key.1, w1, key.2, w2, w3, w4, w5, w6⟩
theorem xE_all {own : String} {ini : Bool} {cc : ByteArray} {k o : List (Nat × xI)} (hd : k.all (xdec cc) = true) (ho : k.filter xoth = o) (hw : ∀ e ∈ o, xwc own ini e) : ∀ e ∈ k, xE own ini cc e := by
  intro e he
  refine xE_of (List.all_eq_true.mp hd e he) ?_
  cases hx : xoth e with
  | false => exact xwc_plain hx
  | true => exact hw e (by rw [← ho]; exact List.mem_filter.mpr ⟨he, hx⟩)
theorem xG_s {w : Jvm.Cond} (i : Nat) (h : (k2_sels lw_privs)[i]? = some w) (hg : goodWord w = true) : w ∈ xG := List.mem_filter.mpr ⟨List.mem_append_left _ (List.mem_of_getElem? h), hg⟩
/-- one class's field, a sub-class's too -/
theorem xgf1 {own : String} {idx k j : Nat} (hk : k ≠ 11) (h : xGF own idx k j) : ∀ k', xsub k k' = true → xGF own idx k' j := by
  intro k' hs
  unfold xsub at hs
  have : k = k' := by
    simp only [Bool.or_eq_true, beq_iff_eq, Bool.and_eq_true] at hs
    rcases hs with ⟨hs, -⟩ | ⟨hs, -⟩
    · exact hs
    · exact absurd hs hk
  subst this
  exact h
theorem xgp1 {own : String} {ini : Bool} {idx k j : Nat} (hk : k ≠ 11) (h : xGF own idx k j ∧ xPF own ini k j) : ∀ k', xsub k k' = true → xGF own idx k' j ∧ xPF own ini k' j := by
  intro k' hs
  unfold xsub at hs
  have : k = k' := by
    simp only [Bool.or_eq_true, beq_iff_eq, Bool.and_eq_true] at hs
    rcases hs with ⟨hs, -⟩ | ⟨hs, -⟩
    · exact hs
    · exact absurd hs hk
  subst this
  exact h
theorem xpf1 {own : String} {ini : Bool} {k j : Nat} {q : vw_C} (hq : xCl[k - 1]? = some q) (h : (q.2.1 j).2.2.2 = false ∨ ((q.2.1 j).2.2.2 = true ∧ ini = true ∧ (q.2.1 j).1 = own)) : xPF own ini k j := by
  intro q' hq'
  cases hq.symm.trans hq'
  exact h
theorem xsub11 {k : Nat} (h : xsub 11 k = true) : k = 3 ∨ k = 4 ∨ k = 6 := by
  unfold xsub at h
  simp only [Bool.or_eq_true, beq_iff_eq, Bool.and_eq_true] at h
  rcases h with ⟨-, h⟩ | ⟨-, (h | h) | h⟩
  · cases h
  · exact Or.inl h
  · exact Or.inr (Or.inl h)
  · exact Or.inr (Or.inr h)
theorem xws {own : String} {ini : Bool} {pc i r1 r2 : Nat} (h1 : r1 < 1000) (h : xcw own (.invokestatic i) r1 r2) : xwc own ini (pc, .invokestatic i, 3, r1, r2) := ⟨trivial, trivial, trivial, ⟨fun z => absurd (show r1 = 1000 from z) (by omega), fun z => absurd (show r1 = 1001 from z) (by omega), fun z => absurd (show r1 = 1002 from z) (by omega)⟩, h, fun z => absurd (show r1 = 1004 from z) (by omega)⟩
theorem xwi {own : String} {ini : Bool} {pc i r1 r2 : Nat} (h1 : r1 < 1000) (h : xcw own (.invokespecial i) r1 r2) : xwc own ini (pc, .invokespecial i, 3, r1, r2) := ⟨trivial, trivial, trivial, fun z => absurd (show r1 = 1003 from z) (by omega), h, trivial⟩
theorem xwv {own : String} {ini : Bool} {pc i r1 r2 : Nat} (h : xcw own (.invokevirtual i) r1 r2) : xwc own ini (pc, .invokevirtual i, 3, r1, r2) := ⟨trivial, trivial, trivial, trivial, h, trivial⟩
theorem xwb {own : String} {ini : Bool} {pc i r1 r2 : Nat} (h1 : ¬ r1 < 1000) (h2 : r1 ≠ 1004) (h : xbw own (.invokestatic i) r1) : xwc own ini (pc, .invokestatic i, 3, r1, r2) := ⟨trivial, trivial, trivial, h, fun z => absurd z h1, fun z => absurd z h2⟩
theorem xwo {own : String} {ini : Bool} {pc i r2 : Nat} (h : xbw own (.invokespecial i) 1003) : xwc own ini (pc, .invokespecial i, 3, 1003, r2) := ⟨trivial, trivial, trivial, h, fun z => absurd (show 1003 < 1000 from z) (by omega), trivial⟩
theorem xwt {own : String} {ini : Bool} {pc i r2 : Nat} (h : xtw own (.invokestatic i) 1004) : xwc own ini (pc, .invokestatic i, 3, 1004, r2) := ⟨trivial, trivial, trivial, ⟨fun z => absurd (show 1004 = 1000 from z) (by omega), fun z => absurd (show 1004 = 1001 from z) (by omega), fun z => absurd (show 1004 = 1002 from z) (by omega)⟩, fun z => absurd (show 1004 < 1000 from z) (by omega), h⟩
theorem xtg_d {r : Nat} (h : r < 1000) {k j : Nat} (hx : xtg r k = some j) : k = xmk r ∧ j = r := by
  unfold xtg at hx
  rw [if_pos h] at hx
  split at hx
  · rename_i e
    cases hx
    exact ⟨e.symm, rfl⟩
  · cases hx
theorem xwf {own : String} {ini : Bool} {pc i r1 r2 : Nat} (h : ∀ k, xsub r1 k = true → xGF own i k r2) : xwc own ini (pc, .getfield i, 3, r1, r2) := ⟨trivial, h, trivial, trivial, trivial, trivial⟩
theorem xwp {own : String} {ini : Bool} {pc i r1 r2 : Nat} (h : ∀ k, xsub r1 k = true → xGF own i k r2 ∧ xPF own ini k r2) : xwc own ini (pc, .putfield i, 3, r1, r2) := ⟨trivial, h, trivial, trivial, trivial, trivial⟩
theorem xwk {own : String} {ini : Bool} {pc i r1 r2 : Nat} (h : Jvm.Cond.constant own i (Int32.ofNat r1) ∈ xG) : xwc own ini (pc, .ldc i, 2, r1, r2) := ⟨h, trivial, trivial, trivial, trivial, trivial⟩
theorem xwkw {own : String} {ini : Bool} {pc i r1 r2 : Nat} (h : Jvm.Cond.constant own i (Int32.ofNat r1) ∈ xG) : xwc own ini (pc, .ldc_w i, 3, r1, r2) := ⟨h, trivial, trivial, trivial, trivial, trivial⟩
theorem xwkj {own : String} {ini : Bool} {pc i r1 r2 : Nat} (h : Jvm.Cond.constantLong own i (Int64.ofNat r1) ∈ xG) : xwc own ini (pc, .ldc2_w i, 3, r1, r2) := ⟨h, trivial, trivial, trivial, trivial, trivial⟩
theorem xwg {own : String} {ini : Bool} {pc i r1 r2 : Nat} (h : xST own i r1 xsd) : xwc own ini (pc, .getstatic i, 3, r1, r2) := ⟨trivial, h, trivial, trivial, trivial, trivial⟩
theorem xwn {own : String} {ini : Bool} {pc i r1 r2 : Nat} (h : ∀ q, xCl[r1 - 1]? = some q → Jvm.Cond.classLink own i q.1 ∈ xG) : xwc own ini (pc, .new i, 3, r1, r2) := ⟨trivial, trivial, h, trivial, trivial, trivial⟩
theorem xwa {own : String} {ini : Bool} {pc r1 r2 : Nat} {t : ArrayType} (h : Jvm.Cond.arrayClass (newarray.typeOf t) ∈ xG) : xwc own ini (pc, .newarray t, 2, r1, r2) := ⟨trivial, trivial, h, trivial, trivial, trivial⟩
end
section
/-! what each field, call and constant asks of the words, by class and pool number -/
theorem sRX0_invokespecial_1 (ini : Bool) (pc : Nat) : xwc RX0 ini (pc, .invokespecial 1, 3, 1003, 1) := xwo (fun _ => ⟨(xG_of 553 (by decide +kernel) (by decide +kernel)), (xG_of 35 (by decide +kernel) (by decide +kernel)), (xG_of 36 (by decide +kernel) (by decide +kernel))⟩)
theorem sRX0_newarray_int (ini : Bool) (pc : Nat) : xwc RX0 ini (pc, .newarray .int, 2, 0, 0) := xwa (xG_of 89 (by decide +kernel) (by decide +kernel))
theorem sRX0_putfield_9 (pc : Nat) : xwc RX0 true (pc, .putfield 9, 3, 1, 1) := xwp (xgp1 (by decide) ⟨⟨(RX0, TX0, 9), by decide, by decide, rfl, by decide, "BestParses$Blocks", (xG_of 555 (by decide +kernel) (by decide +kernel)), (Or.inl rfl)⟩, (xpf1 (q := (RX0, TX0, 9)) rfl (Or.inr ⟨rfl, rfl, rfl⟩))⟩)
theorem sRX0_putfield_13 (pc : Nat) : xwc RX0 true (pc, .putfield 13, 3, 1, 3) := xwp (xgp1 (by decide) ⟨⟨(RX0, TX0, 9), by decide, by decide, rfl, by decide, "BestParses$Blocks", (xG_of 558 (by decide +kernel) (by decide +kernel)), (Or.inl rfl)⟩, (xpf1 (q := (RX0, TX0, 9)) rfl (Or.inr ⟨rfl, rfl, rfl⟩))⟩)
theorem sRX0_newarray_long (ini : Bool) (pc : Nat) : xwc RX0 ini (pc, .newarray .long, 2, 0, 0) := xwa (xG_of 533 (by decide +kernel) (by decide +kernel))
theorem sRX0_putfield_16 (pc : Nat) : xwc RX0 true (pc, .putfield 16, 3, 1, 5) := xwp (xgp1 (by decide) ⟨⟨(RX0, TX0, 9), by decide, by decide, rfl, by decide, "BestParses$Blocks", (xG_of 562 (by decide +kernel) (by decide +kernel)), (Or.inl rfl)⟩, (xpf1 (q := (RX0, TX0, 9)) rfl (Or.inr ⟨rfl, rfl, rfl⟩))⟩)
theorem sRX0_putfield_20 (pc : Nat) : xwc RX0 true (pc, .putfield 20, 3, 1, 6) := xwp (xgp1 (by decide) ⟨⟨(RX0, TX0, 9), by decide, by decide, rfl, by decide, "BestParses$Blocks", (xG_of 563 (by decide +kernel) (by decide +kernel)), (Or.inl rfl)⟩, (xpf1 (q := (RX0, TX0, 9)) rfl (Or.inr ⟨rfl, rfl, rfl⟩))⟩)
theorem sRX0_putfield_23 (pc : Nat) : xwc RX0 true (pc, .putfield 23, 3, 1, 7) := xwp (xgp1 (by decide) ⟨⟨(RX0, TX0, 9), by decide, by decide, rfl, by decide, "BestParses$Blocks", (xG_of 564 (by decide +kernel) (by decide +kernel)), (Or.inl rfl)⟩, (xpf1 (q := (RX0, TX0, 9)) rfl (Or.inr ⟨rfl, rfl, rfl⟩))⟩)
theorem sRX0_putfield_26 (pc : Nat) : xwc RX0 true (pc, .putfield 26, 3, 1, 8) := xwp (xgp1 (by decide) ⟨⟨(RX0, TX0, 9), by decide, by decide, rfl, by decide, "BestParses$Blocks", (xG_of 565 (by decide +kernel) (by decide +kernel)), (Or.inl rfl)⟩, (xpf1 (q := (RX0, TX0, 9)) rfl (Or.inr ⟨rfl, rfl, rfl⟩))⟩)
theorem sRX0_putfield_29 (pc : Nat) : xwc RX0 true (pc, .putfield 29, 3, 1, 0) := xwp (xgp1 (by decide) ⟨⟨(RX0, TX0, 9), by decide, by decide, rfl, by decide, "BestParses$Blocks", (xG_of 554 (by decide +kernel) (by decide +kernel)), (Or.inl rfl)⟩, (xpf1 (q := (RX0, TX0, 9)) rfl (Or.inr ⟨rfl, rfl, rfl⟩))⟩)
theorem sRX0_putfield_33 (ini : Bool) (pc : Nat) : xwc RX0 ini (pc, .putfield 33, 3, 1, 2) := xwp (xgp1 (by decide) ⟨⟨(RX0, TX0, 9), by decide, by decide, rfl, by decide, "BestParses$Blocks", (xG_of 556 (by decide +kernel) (by decide +kernel)), (Or.inl rfl)⟩, (xpf1 (q := (RX0, TX0, 9)) rfl (Or.inl rfl))⟩)
theorem sRX0_putfield_37 (ini : Bool) (pc : Nat) : xwc RX0 ini (pc, .putfield 37, 3, 1, 4) := xwp (xgp1 (by decide) ⟨⟨(RX0, TX0, 9), by decide, by decide, rfl, by decide, "BestParses$Blocks", (xG_of 560 (by decide +kernel) (by decide +kernel)), (Or.inl rfl)⟩, (xpf1 (q := (RX0, TX0, 9)) rfl (Or.inl rfl))⟩)
theorem sRX0_getfield_29 (ini : Bool) (pc : Nat) : xwc RX0 ini (pc, .getfield 29, 3, 1, 0) := xwf (xgf1 (by decide) ⟨(RX0, TX0, 9), by decide, by decide, rfl, by decide, "BestParses$Blocks", (xG_of 554 (by decide +kernel) (by decide +kernel)), (Or.inl rfl)⟩)
theorem sRX0_getfield_40 (ini : Bool) (pc : Nat) : xwc RX0 ini (pc, .getfield 40, 3, 8, 3) := xwf (xgf1 (by decide) ⟨(RX9, TX9, 7), by decide, by decide, rfl, by decide, "BestParses$Text", (xG_of 69 (by decide +kernel) (by decide +kernel)), (Or.inl rfl)⟩)
theorem sRX0_getfield_33 (ini : Bool) (pc : Nat) : xwc RX0 ini (pc, .getfield 33, 3, 1, 2) := xwf (xgf1 (by decide) ⟨(RX0, TX0, 9), by decide, by decide, rfl, by decide, "BestParses$Blocks", (xG_of 556 (by decide +kernel) (by decide +kernel)), (Or.inl rfl)⟩)
theorem sRX0_getfield_9 (ini : Bool) (pc : Nat) : xwc RX0 ini (pc, .getfield 9, 3, 1, 1) := xwf (xgf1 (by decide) ⟨(RX0, TX0, 9), by decide, by decide, rfl, by decide, "BestParses$Blocks", (xG_of 555 (by decide +kernel) (by decide +kernel)), (Or.inl rfl)⟩)
theorem sRX0_getfield_16 (ini : Bool) (pc : Nat) : xwc RX0 ini (pc, .getfield 16, 3, 1, 5) := xwf (xgf1 (by decide) ⟨(RX0, TX0, 9), by decide, by decide, rfl, by decide, "BestParses$Blocks", (xG_of 562 (by decide +kernel) (by decide +kernel)), (Or.inl rfl)⟩)
theorem sRX0_getfield_20 (ini : Bool) (pc : Nat) : xwc RX0 ini (pc, .getfield 20, 3, 1, 6) := xwf (xgf1 (by decide) ⟨(RX0, TX0, 9), by decide, by decide, rfl, by decide, "BestParses$Blocks", (xG_of 563 (by decide +kernel) (by decide +kernel)), (Or.inl rfl)⟩)
theorem sRX0_invokevirtual_45 (ini : Bool) (pc : Nat) : xwc RX0 ini (pc, .invokevirtual 45, 3, 4, 3) := xwv ⟨by decide, fun k j hx => by obtain ⟨rfl, rfl⟩ := xtg_d (by decide) hx; exact ⟨by decide, yX0_findRest, cX0_findRest, none, false, (RX0, TX0, 9), rfl, by decide, by decide, rfl, (xG_of 1024 (by decide +kernel) (by decide +kernel)), (xG_of 25 (by decide +kernel) (by decide +kernel)), Or.inl ⟨(xG_of 1022 (by decide +kernel) (by decide +kernel)), (xG_s 26 (by decide +kernel) (by decide +kernel)), by decide +kernel, by decide +kernel, by decide +kernel⟩⟩⟩
theorem sRX0_getfield_23 (ini : Bool) (pc : Nat) : xwc RX0 ini (pc, .getfield 23, 3, 1, 7) := xwf (xgf1 (by decide) ⟨(RX0, TX0, 9), by decide, by decide, rfl, by decide, "BestParses$Blocks", (xG_of 564 (by decide +kernel) (by decide +kernel)), (Or.inl rfl)⟩)
theorem sRX0_getfield_37 (ini : Bool) (pc : Nat) : xwc RX0 ini (pc, .getfield 37, 3, 1, 4) := xwf (xgf1 (by decide) ⟨(RX0, TX0, 9), by decide, by decide, rfl, by decide, "BestParses$Blocks", (xG_of 560 (by decide +kernel) (by decide +kernel)), (Or.inl rfl)⟩)
theorem sRX0_getfield_13 (ini : Bool) (pc : Nat) : xwc RX0 ini (pc, .getfield 13, 3, 1, 3) := xwf (xgf1 (by decide) ⟨(RX0, TX0, 9), by decide, by decide, rfl, by decide, "BestParses$Blocks", (xG_of 558 (by decide +kernel) (by decide +kernel)), (Or.inl rfl)⟩)
theorem sRX0_invokevirtual_49 (ini : Bool) (pc : Nat) : xwc RX0 ini (pc, .invokevirtual 49, 3, 6, 2) := xwv ⟨by decide, fun k j hx => by obtain ⟨rfl, rfl⟩ := xtg_d (by decide) hx; exact ⟨by decide, yX0_placeOf, cX0_placeOf, some .int, false, (RX0, TX0, 9), rfl, by decide, by decide, rfl, (xG_of 1029 (by decide +kernel) (by decide +kernel)), (xG_of 25 (by decide +kernel) (by decide +kernel)), Or.inl ⟨(xG_of 1027 (by decide +kernel) (by decide +kernel)), (xG_s 27 (by decide +kernel) (by decide +kernel)), by decide +kernel, by decide +kernel, by decide +kernel⟩⟩⟩
theorem sRX0_getfield_26 (ini : Bool) (pc : Nat) : xwc RX0 ini (pc, .getfield 26, 3, 1, 8) := xwf (xgf1 (by decide) ⟨(RX0, TX0, 9), by decide, by decide, rfl, by decide, "BestParses$Blocks", (xG_of 565 (by decide +kernel) (by decide +kernel)), (Or.inl rfl)⟩)
theorem sRX0_invokestatic_53 (ini : Bool) (pc : Nat) : xwc RX0 ini (pc, .invokestatic 53, 3, 166, 2) := xws (by decide) (fun _ => ⟨by decide, yJ7_fill_53178, cJ7_fill_53178, none, false, rfl, (xG_of 845 (by decide +kernel) (by decide +kernel)), (xG_of 5 (by decide +kernel) (by decide +kernel)), ⟨by decide +kernel, by decide +kernel, by decide +kernel⟩, (Or.inl (xG_of 1026 (by decide +kernel) (by decide +kernel)))⟩)
theorem sRX0_getfield_59 (ini : Bool) (pc : Nat) : xwc RX0 ini (pc, .getfield 59, 3, 8, 2) := xwf (xgf1 (by decide) ⟨(RX9, TX9, 7), by decide, by decide, rfl, by decide, "BestParses$Text", (xG_of 59 (by decide +kernel) (by decide +kernel)), (Or.inl rfl)⟩)
theorem sRX0_invokevirtual_62 (ini : Bool) (pc : Nat) : xwc RX0 ini (pc, .invokevirtual 62, 3, 5, 2) := xwv ⟨by decide, fun k j hx => by obtain ⟨rfl, rfl⟩ := xtg_d (by decide) hx; exact ⟨by decide, yX0_countOctet, cX0_countOctet, some .int, false, (RX0, TX0, 9), rfl, by decide, by decide, rfl, (xG_of 1033 (by decide +kernel) (by decide +kernel)), (xG_of 25 (by decide +kernel) (by decide +kernel)), Or.inl ⟨(xG_of 1031 (by decide +kernel) (by decide +kernel)), (xG_s 28 (by decide +kernel) (by decide +kernel)), by decide +kernel, by decide +kernel, by decide +kernel⟩⟩⟩
theorem sRX0_invokestatic_65 (ini : Bool) (pc : Nat) : xwc RX0 ini (pc, .invokestatic 65, 3, 94, 1) := xws (by decide) (fun _ => ⟨by decide, yX10_logOf, cX10_logOf, some .int, false, rfl, (xG_of 982 (by decide +kernel) (by decide +kernel)), (xG_of 1 (by decide +kernel) (by decide +kernel)), ⟨by decide +kernel, by decide +kernel, by decide +kernel⟩, (Or.inr ⟨"BestParses", by decide +kernel⟩)⟩)
theorem sRX1_invokespecial_3 (ini : Bool) (pc : Nat) : xwc RX1 ini (pc, .invokespecial 3, 3, 1003, 1) := xwo (fun _ => ⟨(xG_of 95 (by decide +kernel) (by decide +kernel)), (xG_of 35 (by decide +kernel) (by decide +kernel)), (xG_of 36 (by decide +kernel) (by decide +kernel))⟩)
theorem sRX1_newarray_int (ini : Bool) (pc : Nat) : xwc RX1 ini (pc, .newarray .int, 2, 0, 0) := xwa (xG_of 89 (by decide +kernel) (by decide +kernel))
theorem sRX1_putfield_11 (pc : Nat) : xwc RX1 true (pc, .putfield 11, 3, 2, 1) := xwp (xgp1 (by decide) ⟨⟨(RX1, TX1, 5), by decide, by decide, rfl, by decide, "BestParses$Costs", (xG_of 416 (by decide +kernel) (by decide +kernel)), (Or.inl rfl)⟩, (xpf1 (q := (RX1, TX1, 5)) rfl (Or.inr ⟨rfl, rfl, rfl⟩))⟩)
theorem sRX1_putfield_15 (pc : Nat) : xwc RX1 true (pc, .putfield 15, 3, 2, 2) := xwp (xgp1 (by decide) ⟨⟨(RX1, TX1, 5), by decide, by decide, rfl, by decide, "BestParses$Costs", (xG_of 417 (by decide +kernel) (by decide +kernel)), (Or.inl rfl)⟩, (xpf1 (q := (RX1, TX1, 5)) rfl (Or.inr ⟨rfl, rfl, rfl⟩))⟩)
theorem sRX1_putfield_18 (pc : Nat) : xwc RX1 true (pc, .putfield 18, 3, 2, 3) := xwp (xgp1 (by decide) ⟨⟨(RX1, TX1, 5), by decide, by decide, rfl, by decide, "BestParses$Costs", (xG_of 418 (by decide +kernel) (by decide +kernel)), (Or.inl rfl)⟩, (xpf1 (q := (RX1, TX1, 5)) rfl (Or.inr ⟨rfl, rfl, rfl⟩))⟩)
theorem sRX1_putfield_21 (pc : Nat) : xwc RX1 true (pc, .putfield 21, 3, 2, 4) := xwp (xgp1 (by decide) ⟨⟨(RX1, TX1, 5), by decide, by decide, rfl, by decide, "BestParses$Costs", (xG_of 421 (by decide +kernel) (by decide +kernel)), (Or.inl rfl)⟩, (xpf1 (q := (RX1, TX1, 5)) rfl (Or.inr ⟨rfl, rfl, rfl⟩))⟩)
theorem sRX1_putfield_24 (pc : Nat) : xwc RX1 true (pc, .putfield 24, 3, 2, 0) := xwp (xgp1 (by decide) ⟨⟨(RX1, TX1, 5), by decide, by decide, rfl, by decide, "BestParses$Costs", (xG_of 415 (by decide +kernel) (by decide +kernel)), (Or.inl rfl)⟩, (xpf1 (q := (RX1, TX1, 5)) rfl (Or.inr ⟨rfl, rfl, rfl⟩))⟩)
theorem sRX1_invokevirtual_28 (ini : Bool) (pc : Nat) : xwc RX1 ini (pc, .invokevirtual 28, 3, 8, 1) := xwv ⟨by decide, fun k j hx => by obtain ⟨rfl, rfl⟩ := xtg_d (by decide) hx; exact ⟨by decide, yX1_reset, cX1_reset, none, false, (RX1, TX1, 5), rfl, by decide, by decide, rfl, (xG_of 97 (by decide +kernel) (by decide +kernel)), (xG_of 4 (by decide +kernel) (by decide +kernel)), Or.inl ⟨(xG_of 96 (by decide +kernel) (by decide +kernel)), (xG_of 98 (by decide +kernel) (by decide +kernel)), by decide +kernel, by decide +kernel, by decide +kernel⟩⟩⟩
theorem sRX1_getfield_11 (ini : Bool) (pc : Nat) : xwc RX1 ini (pc, .getfield 11, 3, 2, 1) := xwf (xgf1 (by decide) ⟨(RX1, TX1, 5), by decide, by decide, rfl, by decide, "BestParses$Costs", (xG_of 416 (by decide +kernel) (by decide +kernel)), (Or.inl rfl)⟩)
theorem sRX1_getstatic_31 (ini : Bool) (pc : Nat) : xwc RX1 ini (pc, .getstatic 31, 3, 2, 0) := xwg ⟨_, _, _, rfl, (xG_of 100 (by decide +kernel) (by decide +kernel))⟩
theorem sRX1_getstatic_34 (ini : Bool) (pc : Nat) : xwc RX1 ini (pc, .getstatic 34, 3, 1, 0) := xwg ⟨_, _, _, rfl, (xG_of 102 (by decide +kernel) (by decide +kernel))⟩
theorem sRX1_getstatic_37 (ini : Bool) (pc : Nat) : xwc RX1 ini (pc, .getstatic 37, 3, 3, 0) := xwg ⟨_, _, _, rfl, (xG_of 104 (by decide +kernel) (by decide +kernel))⟩
theorem sRX1_invokestatic_40 (ini : Bool) (pc : Nat) : xwc RX1 ini (pc, .invokestatic 40, 3, 167, 4) := xws (by decide) (fun _ => ⟨by decide, yJ7_fill_fda19, cJ7_fill_fda19, none, false, rfl, (xG_of 107 (by decide +kernel) (by decide +kernel)), (xG_of 5 (by decide +kernel) (by decide +kernel)), ⟨by decide +kernel, by decide +kernel, by decide +kernel⟩, (Or.inl (xG_of 106 (by decide +kernel) (by decide +kernel)))⟩)
theorem sRX1_getfield_24 (ini : Bool) (pc : Nat) : xwc RX1 ini (pc, .getfield 24, 3, 2, 0) := xwf (xgf1 (by decide) ⟨(RX1, TX1, 5), by decide, by decide, rfl, by decide, "BestParses$Costs", (xG_of 415 (by decide +kernel) (by decide +kernel)), (Or.inl rfl)⟩)
theorem sRX1_invokevirtual_46 (ini : Bool) (pc : Nat) : xwc RX1 ini (pc, .invokevirtual 46, 3, 9, 3) := xwv ⟨by decide, fun k j hx => by obtain ⟨rfl, rfl⟩ := xtg_d (by decide) hx; exact ⟨by decide, yX1_has, cX1_has, some .boolean, false, (RX1, TX1, 5), rfl, by decide, by decide, rfl, (xG_of 691 (by decide +kernel) (by decide +kernel)), (xG_of 4 (by decide +kernel) (by decide +kernel)), Or.inl ⟨(xG_of 698 (by decide +kernel) (by decide +kernel)), (xG_of 692 (by decide +kernel) (by decide +kernel)), by decide +kernel, by decide +kernel, by decide +kernel⟩⟩⟩
theorem sRX1_invokestatic_50 (ini : Bool) (pc : Nat) : xwc RX1 ini (pc, .invokestatic 50, 3, 1002, 5) := xwb (by decide) (by decide) ⟨fun z => absurd z (by decide), fun z => absurd z (by decide), fun _ => ⟨(xG_of 990 (by decide +kernel) (by decide +kernel)), (xG_of 230 (by decide +kernel) (by decide +kernel)), (xG_of 229 (by decide +kernel) (by decide +kernel)), (xG_of 16 (by decide +kernel) (by decide +kernel))⟩⟩
theorem sRX1_getfield_56 (ini : Bool) (pc : Nat) : xwc RX1 ini (pc, .getfield 56, 3, 8, 0) := xwf (xgf1 (by decide) ⟨(RX9, TX9, 7), by decide, by decide, rfl, by decide, "BestParses$Text", (xG_of 54 (by decide +kernel) (by decide +kernel)), (Or.inl rfl)⟩)
theorem sRX1_getfield_61 (ini : Bool) (pc : Nat) : xwc RX1 ini (pc, .getfield 61, 3, 8, 3) := xwf (xgf1 (by decide) ⟨(RX9, TX9, 7), by decide, by decide, rfl, by decide, "BestParses$Text", (xG_of 70 (by decide +kernel) (by decide +kernel)), (Or.inl rfl)⟩)
theorem sRX1_getfield_18 (ini : Bool) (pc : Nat) : xwc RX1 ini (pc, .getfield 18, 3, 2, 3) := xwf (xgf1 (by decide) ⟨(RX1, TX1, 5), by decide, by decide, rfl, by decide, "BestParses$Costs", (xG_of 418 (by decide +kernel) (by decide +kernel)), (Or.inl rfl)⟩)
theorem sRX1_invokevirtual_64 (ini : Bool) (pc : Nat) : xwc RX1 ini (pc, .invokevirtual 64, 3, 17, 2) := xwv ⟨by decide, fun k j hx => by obtain ⟨rfl, rfl⟩ := xtg_d (by decide) hx; exact ⟨by decide, yX1_lengthCost, cX1_lengthCost, some .int, false, (RX1, TX1, 5), rfl, by decide, by decide, rfl, (xG_of 735 (by decide +kernel) (by decide +kernel)), (xG_of 4 (by decide +kernel) (by decide +kernel)), Or.inl ⟨(xG_of 733 (by decide +kernel) (by decide +kernel)), (xG_s 4 (by decide +kernel) (by decide +kernel)), by decide +kernel, by decide +kernel, by decide +kernel⟩⟩⟩
theorem sRX1_getfield_21 (ini : Bool) (pc : Nat) : xwc RX1 ini (pc, .getfield 21, 3, 2, 4) := xwf (xgf1 (by decide) ⟨(RX1, TX1, 5), by decide, by decide, rfl, by decide, "BestParses$Costs", (xG_of 421 (by decide +kernel) (by decide +kernel)), (Or.inl rfl)⟩)
theorem sRX1_invokevirtual_68 (ini : Bool) (pc : Nat) : xwc RX1 ini (pc, .invokevirtual 68, 3, 18, 2) := xwv ⟨by decide, fun k j hx => by obtain ⟨rfl, rfl⟩ := xtg_d (by decide) hx; exact ⟨by decide, yX1_distanceCost, cX1_distanceCost, some .int, false, (RX1, TX1, 5), rfl, by decide, by decide, rfl, (xG_of 746 (by decide +kernel) (by decide +kernel)), (xG_of 4 (by decide +kernel) (by decide +kernel)), Or.inl ⟨(xG_of 744 (by decide +kernel) (by decide +kernel)), (xG_s 5 (by decide +kernel) (by decide +kernel)), by decide +kernel, by decide +kernel, by decide +kernel⟩⟩⟩
theorem sRX1_invokevirtual_71 (ini : Bool) (pc : Nat) : xwc RX1 ini (pc, .invokevirtual 71, 3, 10, 3) := xwv ⟨by decide, fun k j hx => by obtain ⟨rfl, rfl⟩ := xtg_d (by decide) hx; exact ⟨by decide, yX1_of, cX1_of, some .int, false, (RX1, TX1, 5), rfl, by decide, by decide, rfl, (xG_of 695 (by decide +kernel) (by decide +kernel)), (xG_of 4 (by decide +kernel) (by decide +kernel)), Or.inl ⟨(xG_of 743 (by decide +kernel) (by decide +kernel)), (xG_of 696 (by decide +kernel) (by decide +kernel)), by decide +kernel, by decide +kernel, by decide +kernel⟩⟩⟩
theorem sRX1_invokevirtual_75 (ini : Bool) (pc : Nat) : xwc RX1 ini (pc, .invokevirtual 75, 3, 50, 2) := xwv ⟨by decide, fun k j hx => by obtain ⟨rfl, rfl⟩ := xtg_d (by decide) hx; exact ⟨by decide, yX6_hasStep, cX6_hasStep, some .boolean, false, (RX6, TX6, 8), rfl, by decide, by decide, rfl, (xG_of 903 (by decide +kernel) (by decide +kernel)), (xG_of 26 (by decide +kernel) (by decide +kernel)), Or.inl ⟨(xG_of 902 (by decide +kernel) (by decide +kernel)), (xG_of 904 (by decide +kernel) (by decide +kernel)), by decide +kernel, by decide +kernel, by decide +kernel⟩⟩⟩
theorem sRX1_getfield_81 (ini : Bool) (pc : Nat) : xwc RX1 ini (pc, .getfield 81, 3, 5, 3) := xwf (xgf1 (by decide) ⟨(RX6, TX6, 8), by decide, by decide, rfl, by decide, "BestParses$Parse", (xG_of 604 (by decide +kernel) (by decide +kernel)), (Or.inl rfl)⟩)
theorem sRX1_getfield_84 (ini : Bool) (pc : Nat) : xwc RX1 ini (pc, .getfield 84, 3, 8, 2) := xwf (xgf1 (by decide) ⟨(RX9, TX9, 7), by decide, by decide, rfl, by decide, "BestParses$Text", (xG_of 61 (by decide +kernel) (by decide +kernel)), (Or.inl rfl)⟩)
theorem sRX1_getfield_87 (ini : Bool) (pc : Nat) : xwc RX1 ini (pc, .getfield 87, 3, 5, 0) := xwf (xgf1 (by decide) ⟨(RX6, TX6, 8), by decide, by decide, rfl, by decide, "BestParses$Parse", (xG_of 593 (by decide +kernel) (by decide +kernel)), (Or.inl rfl)⟩)
theorem sRX1_invokevirtual_90 (ini : Bool) (pc : Nat) : xwc RX1 ini (pc, .invokevirtual 90, 3, 14, 2) := xwv ⟨by decide, fun k j hx => by obtain ⟨rfl, rfl⟩ := xtg_d (by decide) hx; exact ⟨by decide, yX1_literalCost, cX1_literalCost, some .int, false, (RX1, TX1, 5), rfl, by decide, by decide, rfl, (xG_of 818 (by decide +kernel) (by decide +kernel)), (xG_of 4 (by decide +kernel) (by decide +kernel)), Or.inl ⟨(xG_of 906 (by decide +kernel) (by decide +kernel)), (xG_of 819 (by decide +kernel) (by decide +kernel)), by decide +kernel, by decide +kernel, by decide +kernel⟩⟩⟩
theorem sRX1_invokevirtual_93 (ini : Bool) (pc : Nat) : xwc RX1 ini (pc, .invokevirtual 93, 3, 15, 2) := xwv ⟨by decide, fun k j hx => by obtain ⟨rfl, rfl⟩ := xtg_d (by decide) hx; exact ⟨by decide, yX1_kindCost, cX1_kindCost, some .int, false, (RX1, TX1, 5), rfl, by decide, by decide, rfl, (xG_of 772 (by decide +kernel) (by decide +kernel)), (xG_of 4 (by decide +kernel) (by decide +kernel)), Or.inl ⟨(xG_of 907 (by decide +kernel) (by decide +kernel)), (xG_of 773 (by decide +kernel) (by decide +kernel)), by decide +kernel, by decide +kernel, by decide +kernel⟩⟩⟩
theorem sRX1_getfield_96 (ini : Bool) (pc : Nat) : xwc RX1 ini (pc, .getfield 96, 3, 5, 1) := xwf (xgf1 (by decide) ⟨(RX6, TX6, 8), by decide, by decide, rfl, by decide, "BestParses$Parse", (xG_of 597 (by decide +kernel) (by decide +kernel)), (Or.inl rfl)⟩)
theorem sRX1_getfield_99 (ini : Bool) (pc : Nat) : xwc RX1 ini (pc, .getfield 99, 3, 5, 2) := xwf (xgf1 (by decide) ⟨(RX6, TX6, 8), by decide, by decide, rfl, by decide, "BestParses$Parse", (xG_of 600 (by decide +kernel) (by decide +kernel)), (Or.inl rfl)⟩)
theorem sRX1_invokestatic_102 (ini : Bool) (pc : Nat) : xwc RX1 ini (pc, .invokestatic 102, 3, 19, 1) := xws (by decide) (fun _ => ⟨by decide, yX1_lengthSlot, cX1_lengthSlot, some .int, false, rfl, (xG_of 738 (by decide +kernel) (by decide +kernel)), (xG_of 4 (by decide +kernel) (by decide +kernel)), ⟨by decide +kernel, by decide +kernel, by decide +kernel⟩, (Or.inl (xG_of 737 (by decide +kernel) (by decide +kernel)))⟩)
theorem sRX1_invokestatic_105 (ini : Bool) (pc : Nat) : xwc RX1 ini (pc, .invokestatic 105, 3, 95, 1) := xws (by decide) (fun _ => ⟨by decide, yX10_highestBit, cX10_highestBit, some .int, false, rfl, (xG_of 741 (by decide +kernel) (by decide +kernel)), (xG_of 1 (by decide +kernel) (by decide +kernel)), ⟨by decide +kernel, by decide +kernel, by decide +kernel⟩, (Or.inr ⟨"BestParses", by decide +kernel⟩)⟩)
theorem sRX1_invokestatic_108 (ini : Bool) (pc : Nat) : xwc RX1 ini (pc, .invokestatic 108, 3, 20, 1) := xws (by decide) (fun _ => ⟨by decide, yX1_distanceSlot, cX1_distanceSlot, some .int, false, rfl, (xG_of 749 (by decide +kernel) (by decide +kernel)), (xG_of 4 (by decide +kernel) (by decide +kernel)), ⟨by decide +kernel, by decide +kernel, by decide +kernel⟩, (Or.inl (xG_of 748 (by decide +kernel) (by decide +kernel)))⟩)
theorem sRX1_invokevirtual_111 (ini : Bool) (pc : Nat) : xwc RX1 ini (pc, .invokevirtual 111, 3, 22, 3) := xwv ⟨by decide, fun k j hx => by obtain ⟨rfl, rfl⟩ := xtg_d (by decide) hx; exact ⟨by decide, yX1_countSymbols, cX1_countSymbols, none, false, (RX1, TX1, 5), rfl, by decide, by decide, rfl, (xG_of 970 (by decide +kernel) (by decide +kernel)), (xG_of 4 (by decide +kernel) (by decide +kernel)), Or.inl ⟨(xG_of 968 (by decide +kernel) (by decide +kernel)), (xG_s 22 (by decide +kernel) (by decide +kernel)), by decide +kernel, by decide +kernel, by decide +kernel⟩⟩⟩
theorem sRX1_invokevirtual_115 (ini : Bool) (pc : Nat) : xwc RX1 ini (pc, .invokevirtual 115, 3, 24, 2) := xwv ⟨by decide, fun k j hx => by obtain ⟨rfl, rfl⟩ := xtg_d (by decide) hx; exact ⟨by decide, yX1_fitClass, cX1_fitClass, none, false, (RX1, TX1, 5), rfl, by decide, by decide, rfl, (xG_of 979 (by decide +kernel) (by decide +kernel)), (xG_of 4 (by decide +kernel) (by decide +kernel)), Or.inl ⟨(xG_of 977 (by decide +kernel) (by decide +kernel)), (xG_s 24 (by decide +kernel) (by decide +kernel)), by decide +kernel, by decide +kernel, by decide +kernel⟩⟩⟩
theorem sRX1_getfield_15 (ini : Bool) (pc : Nat) : xwc RX1 ini (pc, .getfield 15, 3, 2, 2) := xwf (xgf1 (by decide) ⟨(RX1, TX1, 5), by decide, by decide, rfl, by decide, "BestParses$Costs", (xG_of 417 (by decide +kernel) (by decide +kernel)), (Or.inl rfl)⟩)
theorem sRX1_invokestatic_119 (ini : Bool) (pc : Nat) : xwc RX1 ini (pc, .invokestatic 119, 3, 166, 2) := xws (by decide) (fun _ => ⟨by decide, yJ7_fill_53178, cJ7_fill_53178, none, false, rfl, (xG_of 845 (by decide +kernel) (by decide +kernel)), (xG_of 5 (by decide +kernel) (by decide +kernel)), ⟨by decide +kernel, by decide +kernel, by decide +kernel⟩, (Or.inl (xG_of 972 (by decide +kernel) (by decide +kernel)))⟩)
theorem sRX1_getfield_122 (ini : Bool) (pc : Nat) : xwc RX1 ini (pc, .getfield 122, 3, 5, 5) := xwf (xgf1 (by decide) ⟨(RX6, TX6, 8), by decide, by decide, rfl, by decide, "BestParses$Parse", (xG_of 611 (by decide +kernel) (by decide +kernel)), (Or.inl rfl)⟩)
theorem sRX1_invokevirtual_125 (ini : Bool) (pc : Nat) : xwc RX1 ini (pc, .invokevirtual 125, 3, 23, 3) := xwv ⟨by decide, fun k j hx => by obtain ⟨rfl, rfl⟩ := xtg_d (by decide) hx; exact ⟨by decide, yX1_countOne, cX1_countOne, none, false, (RX1, TX1, 5), rfl, by decide, by decide, rfl, (xG_of 975 (by decide +kernel) (by decide +kernel)), (xG_of 4 (by decide +kernel) (by decide +kernel)), Or.inl ⟨(xG_of 973 (by decide +kernel) (by decide +kernel)), (xG_s 23 (by decide +kernel) (by decide +kernel)), by decide +kernel, by decide +kernel, by decide +kernel⟩⟩⟩
theorem sRX1_invokestatic_129 (ini : Bool) (pc : Nat) : xwc RX1 ini (pc, .invokestatic 129, 3, 94, 1) := xws (by decide) (fun _ => ⟨by decide, yX10_logOf, cX10_logOf, some .int, false, rfl, (xG_of 982 (by decide +kernel) (by decide +kernel)), (xG_of 1 (by decide +kernel) (by decide +kernel)), ⟨by decide +kernel, by decide +kernel, by decide +kernel⟩, (Or.inr ⟨"BestParses", by decide +kernel⟩)⟩)
theorem sRX1_invokestatic_132 (ini : Bool) (pc : Nat) : xwc RX1 ini (pc, .invokestatic 132, 3, 1000, 2) := xwb (by decide) (by decide) ⟨fun _ => ⟨(xG_of 985 (by decide +kernel) (by decide +kernel)), (xG_of 41 (by decide +kernel) (by decide +kernel)), (xG_of 2 (by decide +kernel) (by decide +kernel)), (xG_of 42 (by decide +kernel) (by decide +kernel))⟩, fun z => absurd z (by decide), fun z => absurd z (by decide)⟩
theorem sRX2_invokespecial_1 (ini : Bool) (pc : Nat) : xwc RX2 ini (pc, .invokespecial 1, 3, 1003, 1) := xwo (fun _ => ⟨(xG_of 443 (by decide +kernel) (by decide +kernel)), (xG_of 35 (by decide +kernel) (by decide +kernel)), (xG_of 36 (by decide +kernel) (by decide +kernel))⟩)
theorem sRX2_putfield_7 (pc : Nat) : xwc RX2 true (pc, .putfield 7, 3, 11, 0) := xwp (fun k hk => by
  rcases xsub11 hk with rfl | rfl | rfl
  · exact ⟨⟨(RX4, TX4, 12), by decide, by decide, rfl, by decide, "BestParses$Form", (xG_of 446 (by decide +kernel) (by decide +kernel)), (Or.inl rfl)⟩, (xpf1 (q := (RX4, TX4, 12)) rfl (Or.inr ⟨rfl, rfl, rfl⟩))⟩
  · exact ⟨⟨(RX5, TX5, 7), by decide, by decide, rfl, by decide, "BestParses$Form", (xG_of 446 (by decide +kernel) (by decide +kernel)), (Or.inl rfl)⟩, (xpf1 (q := (RX5, TX5, 7)) rfl (Or.inr ⟨rfl, rfl, rfl⟩))⟩
  · exact ⟨⟨(RX7, TX7, 4), by decide, by decide, rfl, by decide, "BestParses$Form", (xG_of 446 (by decide +kernel) (by decide +kernel)), (Or.inl rfl)⟩, (xpf1 (q := (RX7, TX7, 4)) rfl (Or.inr ⟨rfl, rfl, rfl⟩))⟩)
theorem sRX2_putfield_13 (pc : Nat) : xwc RX2 true (pc, .putfield 13, 3, 11, 1) := xwp (fun k hk => by
  rcases xsub11 hk with rfl | rfl | rfl
  · exact ⟨⟨(RX4, TX4, 12), by decide, by decide, rfl, by decide, "BestParses$Form", (xG_of 453 (by decide +kernel) (by decide +kernel)), (Or.inl rfl)⟩, (xpf1 (q := (RX4, TX4, 12)) rfl (Or.inr ⟨rfl, rfl, rfl⟩))⟩
  · exact ⟨⟨(RX5, TX5, 7), by decide, by decide, rfl, by decide, "BestParses$Form", (xG_of 453 (by decide +kernel) (by decide +kernel)), (Or.inl rfl)⟩, (xpf1 (q := (RX5, TX5, 7)) rfl (Or.inr ⟨rfl, rfl, rfl⟩))⟩
  · exact ⟨⟨(RX7, TX7, 4), by decide, by decide, rfl, by decide, "BestParses$Form", (xG_of 453 (by decide +kernel) (by decide +kernel)), (Or.inl rfl)⟩, (xpf1 (q := (RX7, TX7, 4)) rfl (Or.inr ⟨rfl, rfl, rfl⟩))⟩)
theorem sRX2_getfield_17 (ini : Bool) (pc : Nat) : xwc RX2 ini (pc, .getfield 17, 3, 5, 5) := xwf (xgf1 (by decide) ⟨(RX6, TX6, 8), by decide, by decide, rfl, by decide, "BestParses$Parse", (xG_of 608 (by decide +kernel) (by decide +kernel)), (Or.inl rfl)⟩)
theorem sRX2_getfield_13 (ini : Bool) (pc : Nat) : xwc RX2 ini (pc, .getfield 13, 3, 11, 1) := xwf (fun k hk => by
  rcases xsub11 hk with rfl | rfl | rfl
  · exact ⟨(RX4, TX4, 12), by decide, by decide, rfl, by decide, "BestParses$Form", (xG_of 453 (by decide +kernel) (by decide +kernel)), (Or.inl rfl)⟩
  · exact ⟨(RX5, TX5, 7), by decide, by decide, rfl, by decide, "BestParses$Form", (xG_of 453 (by decide +kernel) (by decide +kernel)), (Or.inl rfl)⟩
  · exact ⟨(RX7, TX7, 4), by decide, by decide, rfl, by decide, "BestParses$Form", (xG_of 453 (by decide +kernel) (by decide +kernel)), (Or.inl rfl)⟩)
theorem sRX2_getfield_7 (ini : Bool) (pc : Nat) : xwc RX2 ini (pc, .getfield 7, 3, 11, 0) := xwf (fun k hk => by
  rcases xsub11 hk with rfl | rfl | rfl
  · exact ⟨(RX4, TX4, 12), by decide, by decide, rfl, by decide, "BestParses$Form", (xG_of 446 (by decide +kernel) (by decide +kernel)), (Or.inl rfl)⟩
  · exact ⟨(RX5, TX5, 7), by decide, by decide, rfl, by decide, "BestParses$Form", (xG_of 446 (by decide +kernel) (by decide +kernel)), (Or.inl rfl)⟩
  · exact ⟨(RX7, TX7, 4), by decide, by decide, rfl, by decide, "BestParses$Form", (xG_of 446 (by decide +kernel) (by decide +kernel)), (Or.inl rfl)⟩)
theorem sRX2_invokevirtual_23 (ini : Bool) (pc : Nat) : xwc RX2 ini (pc, .invokevirtual 23, 3, 16, 4) := xwv ⟨by decide, fun k j hx => by obtain ⟨rfl, rfl⟩ := xtg_d (by decide) hx; exact ⟨by decide, yX1_stepCost, cX1_stepCost, some .int, false, (RX1, TX1, 5), rfl, by decide, by decide, rfl, (xG_of 899 (by decide +kernel) (by decide +kernel)), (xG_of 4 (by decide +kernel) (by decide +kernel)), Or.inl ⟨(xG_of 898 (by decide +kernel) (by decide +kernel)), (xG_of 900 (by decide +kernel) (by decide +kernel)), by decide +kernel, by decide +kernel, by decide +kernel⟩⟩⟩
theorem sRX3_invokestatic_9 (ini : Bool) (pc : Nat) : xwc RX3 ini (pc, .invokestatic 9, 3, 27, 2) := xws (by decide) (fun _ => ⟨by decide, yX3_at, cX3_at, some .int, false, rfl, (xG_of 807 (by decide +kernel) (by decide +kernel)), (xG_of 28 (by decide +kernel) (by decide +kernel)), ⟨by decide +kernel, by decide +kernel, by decide +kernel⟩, (Or.inl (xG_of 816 (by decide +kernel) (by decide +kernel)))⟩)
theorem sRX4_invokespecial_3 (ini : Bool) (pc : Nat) : xwc RX4 ini (pc, .invokespecial 3, 3, 25, 3) := xwi (by decide) (fun _ => ⟨by decide, by decide, yX2_init, cX2_init, true, rfl, rfl, (xG_of 441 (by decide +kernel) (by decide +kernel)), (xG_of 20 (by decide +kernel) (by decide +kernel)), ⟨by decide +kernel, by decide +kernel, by decide +kernel⟩, (Or.inl (xG_of 499 (by decide +kernel) (by decide +kernel)))⟩)
theorem sRX4_newarray_long (ini : Bool) (pc : Nat) : xwc RX4 ini (pc, .newarray .long, 2, 0, 0) := xwa (xG_of 533 (by decide +kernel) (by decide +kernel))
theorem sRX4_putfield_9 (pc : Nat) : xwc RX4 true (pc, .putfield 9, 3, 3, 2) := xwp (xgp1 (by decide) ⟨⟨(RX4, TX4, 12), by decide, by decide, rfl, by decide, "BestParses$LatestForm", (xG_of 500 (by decide +kernel) (by decide +kernel)), (Or.inl rfl)⟩, (xpf1 (q := (RX4, TX4, 12)) rfl (Or.inr ⟨rfl, rfl, rfl⟩))⟩)
theorem sRX4_newarray_int (ini : Bool) (pc : Nat) : xwc RX4 ini (pc, .newarray .int, 2, 0, 0) := xwa (xG_of 89 (by decide +kernel) (by decide +kernel))
theorem sRX4_putfield_15 (pc : Nat) : xwc RX4 true (pc, .putfield 15, 3, 3, 3) := xwp (xgp1 (by decide) ⟨⟨(RX4, TX4, 12), by decide, by decide, rfl, by decide, "BestParses$LatestForm", (xG_of 501 (by decide +kernel) (by decide +kernel)), (Or.inl rfl)⟩, (xpf1 (q := (RX4, TX4, 12)) rfl (Or.inr ⟨rfl, rfl, rfl⟩))⟩)
theorem sRX4_putfield_19 (pc : Nat) : xwc RX4 true (pc, .putfield 19, 3, 3, 4) := xwp (xgp1 (by decide) ⟨⟨(RX4, TX4, 12), by decide, by decide, rfl, by decide, "BestParses$LatestForm", (xG_of 502 (by decide +kernel) (by decide +kernel)), (Or.inl rfl)⟩, (xpf1 (q := (RX4, TX4, 12)) rfl (Or.inr ⟨rfl, rfl, rfl⟩))⟩)
theorem sRX4_newarray_boolean (ini : Bool) (pc : Nat) : xwc RX4 ini (pc, .newarray .boolean, 2, 0, 0) := xwa (xG_of 534 (by decide +kernel) (by decide +kernel))
theorem sRX4_putfield_22 (pc : Nat) : xwc RX4 true (pc, .putfield 22, 3, 3, 5) := xwp (xgp1 (by decide) ⟨⟨(RX4, TX4, 12), by decide, by decide, rfl, by decide, "BestParses$LatestForm", (xG_of 503 (by decide +kernel) (by decide +kernel)), (Or.inl rfl)⟩, (xpf1 (q := (RX4, TX4, 12)) rfl (Or.inr ⟨rfl, rfl, rfl⟩))⟩)
theorem sRX4_putfield_26 (pc : Nat) : xwc RX4 true (pc, .putfield 26, 3, 3, 6) := xwp (xgp1 (by decide) ⟨⟨(RX4, TX4, 12), by decide, by decide, rfl, by decide, "BestParses$LatestForm", (xG_of 504 (by decide +kernel) (by decide +kernel)), (Or.inl rfl)⟩, (xpf1 (q := (RX4, TX4, 12)) rfl (Or.inr ⟨rfl, rfl, rfl⟩))⟩)
theorem sRX4_invokevirtual_29 (ini : Bool) (pc : Nat) : xwc RX4 ini (pc, .invokevirtual 29, 3, 32, 2) := xwv ⟨by decide, fun k j hx => by obtain ⟨rfl, rfl⟩ := xtg_d (by decide) hx; exact ⟨by decide, yX4_begin, cX4_begin, none, false, (RX4, TX4, 12), rfl, by decide, by decide, rfl, (xG_of 727 (by decide +kernel) (by decide +kernel)), (xG_of 23 (by decide +kernel) (by decide +kernel)), Or.inl ⟨(xG_of 725 (by decide +kernel) (by decide +kernel)), (xG_s 3 (by decide +kernel) (by decide +kernel)), by decide +kernel, by decide +kernel, by decide +kernel⟩⟩⟩
theorem sRX4_getfield_33 (ini : Bool) (pc : Nat) : xwc RX4 ini (pc, .getfield 33, 3, 3, 0) := xwf (xgf1 (by decide) ⟨(RX4, TX4, 12), by decide, by decide, rfl, by decide, "BestParses$LatestForm", (xG_of 449 (by decide +kernel) (by decide +kernel)), (Or.inr (xG_of 450 (by decide +kernel) (by decide +kernel)))⟩)
theorem sRX4_getfield_37 (ini : Bool) (pc : Nat) : xwc RX4 ini (pc, .getfield 37, 3, 8, 3) := xwf (xgf1 (by decide) ⟨(RX9, TX9, 7), by decide, by decide, rfl, by decide, "BestParses$Text", (xG_of 65 (by decide +kernel) (by decide +kernel)), (Or.inl rfl)⟩)
theorem sRX4_getfield_19 (ini : Bool) (pc : Nat) : xwc RX4 ini (pc, .getfield 19, 3, 3, 4) := xwf (xgf1 (by decide) ⟨(RX4, TX4, 12), by decide, by decide, rfl, by decide, "BestParses$LatestForm", (xG_of 502 (by decide +kernel) (by decide +kernel)), (Or.inl rfl)⟩)
theorem sRX4_invokevirtual_43 (ini : Bool) (pc : Nat) : xwc RX4 ini (pc, .invokevirtual 43, 3, 33, 3) := xwv ⟨by decide, fun k j hx => by obtain ⟨rfl, rfl⟩ := xtg_d (by decide) hx; exact ⟨by decide, yX4_goFrom, cX4_goFrom, none, false, (RX4, TX4, 12), rfl, by decide, by decide, rfl, (xG_of 760 (by decide +kernel) (by decide +kernel)), (xG_of 23 (by decide +kernel) (by decide +kernel)), Or.inl ⟨(xG_of 758 (by decide +kernel) (by decide +kernel)), (xG_s 6 (by decide +kernel) (by decide +kernel)), by decide +kernel, by decide +kernel, by decide +kernel⟩⟩⟩
theorem sRX4_getfield_22 (ini : Bool) (pc : Nat) : xwc RX4 ini (pc, .getfield 22, 3, 3, 5) := xwf (xgf1 (by decide) ⟨(RX4, TX4, 12), by decide, by decide, rfl, by decide, "BestParses$LatestForm", (xG_of 503 (by decide +kernel) (by decide +kernel)), (Or.inl rfl)⟩)
theorem sRX4_invokevirtual_47 (ini : Bool) (pc : Nat) : xwc RX4 ini (pc, .invokevirtual 47, 3, 40, 2) := xwv ⟨by decide, fun k j hx => by obtain ⟨rfl, rfl⟩ := xtg_d (by decide) hx; exact ⟨by decide, yX4_tellSteps, cX4_tellSteps, none, false, (RX4, TX4, 12), rfl, by decide, by decide, rfl, (xG_of 823 (by decide +kernel) (by decide +kernel)), (xG_of 23 (by decide +kernel) (by decide +kernel)), Or.inl ⟨(xG_of 821 (by decide +kernel) (by decide +kernel)), (xG_s 13 (by decide +kernel) (by decide +kernel)), by decide +kernel, by decide +kernel, by decide +kernel⟩⟩⟩
theorem sRX4_getfield_51 (ini : Bool) (pc : Nat) : xwc RX4 ini (pc, .getfield 51, 3, 3, 1) := xwf (xgf1 (by decide) ⟨(RX4, TX4, 12), by decide, by decide, rfl, by decide, "BestParses$LatestForm", (xG_of 456 (by decide +kernel) (by decide +kernel)), (Or.inr (xG_of 457 (by decide +kernel) (by decide +kernel)))⟩)
theorem sRX4_invokevirtual_55 (ini : Bool) (pc : Nat) : xwc RX4 ini (pc, .invokevirtual 55, 3, 13, 2) := xwv ⟨by decide, fun k j hx => by obtain ⟨rfl, rfl⟩ := xtg_d (by decide) hx; exact ⟨by decide, yX1_prepare, cX1_prepare, none, false, (RX1, TX1, 5), rfl, by decide, by decide, rfl, (xG_of 730 (by decide +kernel) (by decide +kernel)), (xG_of 4 (by decide +kernel) (by decide +kernel)), Or.inl ⟨(xG_of 729 (by decide +kernel) (by decide +kernel)), (xG_of 731 (by decide +kernel) (by decide +kernel)), by decide +kernel, by decide +kernel, by decide +kernel⟩⟩⟩
theorem sRX4_invokestatic_61 (ini : Bool) (pc : Nat) : xwc RX4 ini (pc, .invokestatic 61, 3, 1001, 2) := xwb (by decide) (by decide) ⟨fun z => absurd z (by decide), fun _ => ⟨(xG_of 751 (by decide +kernel) (by decide +kernel)), (xG_of 38 (by decide +kernel) (by decide +kernel)), (xG_of 2 (by decide +kernel) (by decide +kernel)), (xG_of 39 (by decide +kernel) (by decide +kernel))⟩, fun z => absurd z (by decide)⟩
theorem sRX4_invokestatic_67 (ini : Bool) (pc : Nat) : xwc RX4 ini (pc, .invokestatic 67, 3, 1000, 2) := xwb (by decide) (by decide) ⟨fun _ => ⟨(xG_of 752 (by decide +kernel) (by decide +kernel)), (xG_of 41 (by decide +kernel) (by decide +kernel)), (xG_of 2 (by decide +kernel) (by decide +kernel)), (xG_of 42 (by decide +kernel) (by decide +kernel))⟩, fun z => absurd z (by decide), fun z => absurd z (by decide)⟩
theorem sRX4_putfield_70 (ini : Bool) (pc : Nat) : xwc RX4 ini (pc, .putfield 70, 3, 3, 7) := xwp (xgp1 (by decide) ⟨⟨(RX4, TX4, 12), by decide, by decide, rfl, by decide, "BestParses$LatestForm", (xG_of 505 (by decide +kernel) (by decide +kernel)), (Or.inl rfl)⟩, (xpf1 (q := (RX4, TX4, 12)) rfl (Or.inl rfl))⟩)
theorem sRX4_getfield_26 (ini : Bool) (pc : Nat) : xwc RX4 ini (pc, .getfield 26, 3, 3, 6) := xwf (xgf1 (by decide) ⟨(RX4, TX4, 12), by decide, by decide, rfl, by decide, "BestParses$LatestForm", (xG_of 504 (by decide +kernel) (by decide +kernel)), (Or.inl rfl)⟩)
theorem sRX4_ldc2_w_73 (ini : Bool) (pc : Nat) : xwc RX4 ini (pc, .ldc2_w 73, 3, 4611686018427387904, 0) := xwkj (xG_of 753 (by decide +kernel) (by decide +kernel))
theorem sRX4_invokestatic_75 (ini : Bool) (pc : Nat) : xwc RX4 ini (pc, .invokestatic 75, 3, 165, 2) := xws (by decide) (fun _ => ⟨by decide, yJ7_fill_d0a16, cJ7_fill_d0a16, none, false, rfl, (xG_of 755 (by decide +kernel) (by decide +kernel)), (xG_of 5 (by decide +kernel) (by decide +kernel)), ⟨by decide +kernel, by decide +kernel, by decide +kernel⟩, (Or.inl (xG_of 754 (by decide +kernel) (by decide +kernel)))⟩)
theorem sRX4_getfield_9 (ini : Bool) (pc : Nat) : xwc RX4 ini (pc, .getfield 9, 3, 3, 2) := xwf (xgf1 (by decide) ⟨(RX4, TX4, 12), by decide, by decide, rfl, by decide, "BestParses$LatestForm", (xG_of 500 (by decide +kernel) (by decide +kernel)), (Or.inl rfl)⟩)
theorem sRX4_ldc2_w_83 (ini : Bool) (pc : Nat) : xwc RX4 ini (pc, .ldc2_w 83, 3, 134480385, 0) := xwkj (xG_of 757 (by decide +kernel) (by decide +kernel))
theorem sRX4_putfield_85 (ini : Bool) (pc : Nat) : xwc RX4 ini (pc, .putfield 85, 3, 3, 8) := xwp (xgp1 (by decide) ⟨⟨(RX4, TX4, 12), by decide, by decide, rfl, by decide, "BestParses$LatestForm", (xG_of 506 (by decide +kernel) (by decide +kernel)), (Or.inl rfl)⟩, (xpf1 (q := (RX4, TX4, 12)) rfl (Or.inl rfl))⟩)
theorem sRX4_putfield_88 (ini : Bool) (pc : Nat) : xwc RX4 ini (pc, .putfield 88, 3, 3, 9) := xwp (xgp1 (by decide) ⟨⟨(RX4, TX4, 12), by decide, by decide, rfl, by decide, "BestParses$LatestForm", (xG_of 507 (by decide +kernel) (by decide +kernel)), (Or.inl rfl)⟩, (xpf1 (q := (RX4, TX4, 12)) rfl (Or.inl rfl))⟩)
theorem sRX4_putfield_91 (ini : Bool) (pc : Nat) : xwc RX4 ini (pc, .putfield 91, 3, 3, 10) := xwp (xgp1 (by decide) ⟨⟨(RX4, TX4, 12), by decide, by decide, rfl, by decide, "BestParses$LatestForm", (xG_of 508 (by decide +kernel) (by decide +kernel)), (Or.inl rfl)⟩, (xpf1 (q := (RX4, TX4, 12)) rfl (Or.inl rfl))⟩)
theorem sRX4_ldc2_w_95 (ini : Bool) (pc : Nat) : xwc RX4 ini (pc, .ldc2_w 95, 3, 68719476735, 0) := xwkj (xG_of 762 (by decide +kernel) (by decide +kernel))
theorem sRX4_putfield_97 (ini : Bool) (pc : Nat) : xwc RX4 ini (pc, .putfield 97, 3, 3, 11) := xwp (xgp1 (by decide) ⟨⟨(RX4, TX4, 12), by decide, by decide, rfl, by decide, "BestParses$LatestForm", (xG_of 509 (by decide +kernel) (by decide +kernel)), (Or.inl rfl)⟩, (xpf1 (q := (RX4, TX4, 12)) rfl (Or.inl rfl))⟩)
theorem sRX4_invokevirtual_100 (ini : Bool) (pc : Nat) : xwc RX4 ini (pc, .invokevirtual 100, 3, 34, 1) := xwv ⟨by decide, fun k j hx => by obtain ⟨rfl, rfl⟩ := xtg_d (by decide) hx; exact ⟨by decide, yX4_copiesWereLed, cX4_copiesWereLed, some .boolean, false, (RX4, TX4, 12), rfl, by decide, by decide, rfl, (xG_of 765 (by decide +kernel) (by decide +kernel)), (xG_of 23 (by decide +kernel) (by decide +kernel)), Or.inl ⟨(xG_of 763 (by decide +kernel) (by decide +kernel)), (xG_s 7 (by decide +kernel) (by decide +kernel)), by decide +kernel, by decide +kernel, by decide +kernel⟩⟩⟩
theorem sRX4_invokevirtual_104 (ini : Bool) (pc : Nat) : xwc RX4 ini (pc, .invokevirtual 104, 3, 35, 1) := xwv ⟨by decide, fun k j hx => by obtain ⟨rfl, rfl⟩ := xtg_d (by decide) hx; exact ⟨by decide, yX4_leadByCopies, cX4_leadByCopies, none, false, (RX4, TX4, 12), rfl, by decide, by decide, rfl, (xG_of 769 (by decide +kernel) (by decide +kernel)), (xG_of 23 (by decide +kernel) (by decide +kernel)), Or.inl ⟨(xG_of 767 (by decide +kernel) (by decide +kernel)), (xG_s 8 (by decide +kernel) (by decide +kernel)), by decide +kernel, by decide +kernel, by decide +kernel⟩⟩⟩
theorem sRX4_invokevirtual_108 (ini : Bool) (pc : Nat) : xwc RX4 ini (pc, .invokevirtual 108, 3, 36, 2) := xwv ⟨by decide, fun k j hx => by obtain ⟨rfl, rfl⟩ := xtg_d (by decide) hx; exact ⟨by decide, yX4_leadByAgain, cX4_leadByAgain, none, false, (RX4, TX4, 12), rfl, by decide, by decide, rfl, (xG_of 804 (by decide +kernel) (by decide +kernel)), (xG_of 23 (by decide +kernel) (by decide +kernel)), Or.inl ⟨(xG_of 802 (by decide +kernel) (by decide +kernel)), (xG_s 12 (by decide +kernel) (by decide +kernel)), by decide +kernel, by decide +kernel, by decide +kernel⟩⟩⟩
theorem sRX4_getfield_97 (ini : Bool) (pc : Nat) : xwc RX4 ini (pc, .getfield 97, 3, 3, 11) := xwf (xgf1 (by decide) ⟨(RX4, TX4, 12), by decide, by decide, rfl, by decide, "BestParses$LatestForm", (xG_of 509 (by decide +kernel) (by decide +kernel)), (Or.inl rfl)⟩)
theorem sRX4_invokestatic_111 (ini : Bool) (pc : Nat) : xwc RX4 ini (pc, .invokestatic 111, 3, 27, 2) := xws (by decide) (fun _ => ⟨by decide, yX3_at, cX3_at, some .int, false, rfl, (xG_of 807 (by decide +kernel) (by decide +kernel)), (xG_of 28 (by decide +kernel) (by decide +kernel)), ⟨by decide +kernel, by decide +kernel, by decide +kernel⟩, (Or.inl (xG_of 806 (by decide +kernel) (by decide +kernel)))⟩)
theorem sRX4_getfield_85 (ini : Bool) (pc : Nat) : xwc RX4 ini (pc, .getfield 85, 3, 3, 8) := xwf (xgf1 (by decide) ⟨(RX4, TX4, 12), by decide, by decide, rfl, by decide, "BestParses$LatestForm", (xG_of 506 (by decide +kernel) (by decide +kernel)), (Or.inl rfl)⟩)
theorem sRX4_getfield_115 (ini : Bool) (pc : Nat) : xwc RX4 ini (pc, .getfield 115, 3, 8, 2) := xwf (xgf1 (by decide) ⟨(RX9, TX9, 7), by decide, by decide, rfl, by decide, "BestParses$Text", (xG_of 58 (by decide +kernel) (by decide +kernel)), (Or.inl rfl)⟩)
theorem sRX4_invokevirtual_118 (ini : Bool) (pc : Nat) : xwc RX4 ini (pc, .invokevirtual 118, 3, 15, 2) := xwv ⟨by decide, fun k j hx => by obtain ⟨rfl, rfl⟩ := xtg_d (by decide) hx; exact ⟨by decide, yX1_kindCost, cX1_kindCost, some .int, false, (RX1, TX1, 5), rfl, by decide, by decide, rfl, (xG_of 772 (by decide +kernel) (by decide +kernel)), (xG_of 4 (by decide +kernel) (by decide +kernel)), Or.inl ⟨(xG_of 771 (by decide +kernel) (by decide +kernel)), (xG_of 773 (by decide +kernel) (by decide +kernel)), by decide +kernel, by decide +kernel, by decide +kernel⟩⟩⟩
theorem sRX4_invokevirtual_122 (ini : Bool) (pc : Nat) : xwc RX4 ini (pc, .invokevirtual 122, 3, 37, 5) := xwv ⟨by decide, fun k j hx => by obtain ⟨rfl, rfl⟩ := xtg_d (by decide) hx; exact ⟨by decide, yX4_lead, cX4_lead, none, false, (RX4, TX4, 12), rfl, by decide, by decide, rfl, (xG_of 792 (by decide +kernel) (by decide +kernel)), (xG_of 23 (by decide +kernel) (by decide +kernel)), Or.inl ⟨(xG_of 790 (by decide +kernel) (by decide +kernel)), (xG_s 9 (by decide +kernel) (by decide +kernel)), by decide +kernel, by decide +kernel, by decide +kernel⟩⟩⟩
theorem sRX4_invokevirtual_126 (ini : Bool) (pc : Nat) : xwc RX4 ini (pc, .invokevirtual 126, 3, 14, 2) := xwv ⟨by decide, fun k j hx => by obtain ⟨rfl, rfl⟩ := xtg_d (by decide) hx; exact ⟨by decide, yX1_literalCost, cX1_literalCost, some .int, false, (RX1, TX1, 5), rfl, by decide, by decide, rfl, (xG_of 818 (by decide +kernel) (by decide +kernel)), (xG_of 4 (by decide +kernel) (by decide +kernel)), Or.inl ⟨(xG_of 817 (by decide +kernel) (by decide +kernel)), (xG_of 819 (by decide +kernel) (by decide +kernel)), by decide +kernel, by decide +kernel, by decide +kernel⟩⟩⟩
theorem sRX4_getfield_88 (ini : Bool) (pc : Nat) : xwc RX4 ini (pc, .getfield 88, 3, 3, 9) := xwf (xgf1 (by decide) ⟨(RX4, TX4, 12), by decide, by decide, rfl, by decide, "BestParses$LatestForm", (xG_of 507 (by decide +kernel) (by decide +kernel)), (Or.inl rfl)⟩)
theorem sRX4_invokevirtual_129 (ini : Bool) (pc : Nat) : xwc RX4 ini (pc, .invokevirtual 129, 3, 69, 2) := xwv ⟨by decide, fun k j hx => by obtain ⟨rfl, rfl⟩ := xtg_d (by decide) hx; exact ⟨by decide, yX9_longestCopy, cX9_longestCopy, some .int, false, (RX9, TX9, 7), rfl, by decide, by decide, rfl, (xG_of 776 (by decide +kernel) (by decide +kernel)), (xG_of 3 (by decide +kernel) (by decide +kernel)), Or.inl ⟨(xG_of 775 (by decide +kernel) (by decide +kernel)), (xG_of 777 (by decide +kernel) (by decide +kernel)), by decide +kernel, by decide +kernel, by decide +kernel⟩⟩⟩
theorem sRX4_getfield_132 (ini : Bool) (pc : Nat) : xwc RX4 ini (pc, .getfield 132, 3, 8, 0) := xwf (xgf1 (by decide) ⟨(RX9, TX9, 7), by decide, by decide, rfl, by decide, "BestParses$Text", (xG_of 53 (by decide +kernel) (by decide +kernel)), (Or.inl rfl)⟩)
theorem sRX4_invokevirtual_135 (ini : Bool) (pc : Nat) : xwc RX4 ini (pc, .invokevirtual 135, 3, 70, 3) := xwv ⟨by decide, fun k j hx => by obtain ⟨rfl, rfl⟩ := xtg_d (by decide) hx; exact ⟨by decide, yX9_copyDistance, cX9_copyDistance, some .int, false, (RX9, TX9, 7), rfl, by decide, by decide, rfl, (xG_of 784 (by decide +kernel) (by decide +kernel)), (xG_of 3 (by decide +kernel) (by decide +kernel)), Or.inl ⟨(xG_of 783 (by decide +kernel) (by decide +kernel)), (xG_of 785 (by decide +kernel) (by decide +kernel)), by decide +kernel, by decide +kernel, by decide +kernel⟩⟩⟩
theorem sRX4_getfield_138 (ini : Bool) (pc : Nat) : xwc RX4 ini (pc, .getfield 138, 3, 2, 3) := xwf (xgf1 (by decide) ⟨(RX1, TX1, 5), by decide, by decide, rfl, by decide, "BestParses$Costs", (xG_of 420 (by decide +kernel) (by decide +kernel)), (Or.inl rfl)⟩)
theorem sRX4_getfield_141 (ini : Bool) (pc : Nat) : xwc RX4 ini (pc, .getfield 141, 3, 2, 4) := xwf (xgf1 (by decide) ⟨(RX1, TX1, 5), by decide, by decide, rfl, by decide, "BestParses$Costs", (xG_of 423 (by decide +kernel) (by decide +kernel)), (Or.inl rfl)⟩)
theorem sRX4_invokestatic_144 (ini : Bool) (pc : Nat) : xwc RX4 ini (pc, .invokestatic 144, 3, 28, 2) := xws (by decide) (fun _ => ⟨by decide, yX3_behindCopy, cX3_behindCopy, some .long, false, rfl, (xG_of 788 (by decide +kernel) (by decide +kernel)), (xG_of 28 (by decide +kernel) (by decide +kernel)), ⟨by decide +kernel, by decide +kernel, by decide +kernel⟩, (Or.inl (xG_of 787 (by decide +kernel) (by decide +kernel)))⟩)
theorem sRX4_invokevirtual_148 (ini : Bool) (pc : Nat) : xwc RX4 ini (pc, .invokevirtual 148, 3, 71, 3) := xwv ⟨by decide, fun k j hx => by obtain ⟨rfl, rfl⟩ := xtg_d (by decide) hx; exact ⟨by decide, yX9_sameBy, cX9_sameBy, some .int, false, (RX9, TX9, 7), rfl, by decide, by decide, rfl, (xG_of 810 (by decide +kernel) (by decide +kernel)), (xG_of 3 (by decide +kernel) (by decide +kernel)), Or.inl ⟨(xG_of 809 (by decide +kernel) (by decide +kernel)), (xG_of 811 (by decide +kernel) (by decide +kernel)), by decide +kernel, by decide +kernel, by decide +kernel⟩⟩⟩
theorem sRX4_invokestatic_151 (ini : Bool) (pc : Nat) : xwc RX4 ini (pc, .invokestatic 151, 3, 29, 2) := xws (by decide) (fun _ => ⟨by decide, yX3_behindAgain, cX3_behindAgain, some .long, false, rfl, (xG_of 814 (by decide +kernel) (by decide +kernel)), (xG_of 28 (by decide +kernel) (by decide +kernel)), ⟨by decide +kernel, by decide +kernel, by decide +kernel⟩, (Or.inl (xG_of 813 (by decide +kernel) (by decide +kernel)))⟩)
theorem sRX4_getfield_91 (ini : Bool) (pc : Nat) : xwc RX4 ini (pc, .getfield 91, 3, 3, 10) := xwf (xgf1 (by decide) ⟨(RX4, TX4, 12), by decide, by decide, rfl, by decide, "BestParses$LatestForm", (xG_of 508 (by decide +kernel) (by decide +kernel)), (Or.inl rfl)⟩)
theorem sRX4_invokevirtual_154 (ini : Bool) (pc : Nat) : xwc RX4 ini (pc, .invokevirtual 154, 3, 38, 2) := xwv ⟨by decide, fun k j hx => by obtain ⟨rfl, rfl⟩ := xtg_d (by decide) hx; exact ⟨by decide, yX4_makeRoom, cX4_makeRoom, some .boolean, false, (RX4, TX4, 12), rfl, by decide, by decide, rfl, (xG_of 796 (by decide +kernel) (by decide +kernel)), (xG_of 23 (by decide +kernel) (by decide +kernel)), Or.inl ⟨(xG_of 794 (by decide +kernel) (by decide +kernel)), (xG_s 10 (by decide +kernel) (by decide +kernel)), by decide +kernel, by decide +kernel, by decide +kernel⟩⟩⟩
theorem sRX4_invokevirtual_158 (ini : Bool) (pc : Nat) : xwc RX4 ini (pc, .invokevirtual 158, 3, 39, 5) := xwv ⟨by decide, fun k j hx => by obtain ⟨rfl, rfl⟩ := xtg_d (by decide) hx; exact ⟨by decide, yX4_insert, cX4_insert, none, false, (RX4, TX4, 12), rfl, by decide, by decide, rfl, (xG_of 800 (by decide +kernel) (by decide +kernel)), (xG_of 23 (by decide +kernel) (by decide +kernel)), Or.inl ⟨(xG_of 798 (by decide +kernel) (by decide +kernel)), (xG_s 11 (by decide +kernel) (by decide +kernel)), by decide +kernel, by decide +kernel, by decide +kernel⟩⟩⟩
theorem sRX4_getfield_70 (ini : Bool) (pc : Nat) : xwc RX4 ini (pc, .getfield 70, 3, 3, 7) := xwf (xgf1 (by decide) ⟨(RX4, TX4, 12), by decide, by decide, rfl, by decide, "BestParses$LatestForm", (xG_of 505 (by decide +kernel) (by decide +kernel)), (Or.inl rfl)⟩)
theorem sRX4_getfield_15 (ini : Bool) (pc : Nat) : xwc RX4 ini (pc, .getfield 15, 3, 3, 3) := xwf (xgf1 (by decide) ⟨(RX4, TX4, 12), by decide, by decide, rfl, by decide, "BestParses$LatestForm", (xG_of 501 (by decide +kernel) (by decide +kernel)), (Or.inl rfl)⟩)
theorem sRX4_invokevirtual_162 (ini : Bool) (pc : Nat) : xwc RX4 ini (pc, .invokevirtual 162, 3, 51, 1) := xwv ⟨by decide, fun k j hx => by obtain ⟨rfl, rfl⟩ := xtg_d (by decide) hx; exact ⟨by decide, yX6_begin, cX6_begin, none, false, (RX6, TX6, 8), rfl, by decide, by decide, rfl, (xG_of 826 (by decide +kernel) (by decide +kernel)), (xG_of 26 (by decide +kernel) (by decide +kernel)), Or.inl ⟨(xG_of 825 (by decide +kernel) (by decide +kernel)), (xG_of 827 (by decide +kernel) (by decide +kernel)), by decide +kernel, by decide +kernel, by decide +kernel⟩⟩⟩
theorem sRX4_invokevirtual_166 (ini : Bool) (pc : Nat) : xwc RX4 ini (pc, .invokevirtual 166, 3, 52, 5) := xwv ⟨by decide, fun k j hx => by obtain ⟨rfl, rfl⟩ := xtg_d (by decide) hx; exact ⟨by decide, yX6_add, cX6_add, none, false, (RX6, TX6, 8), rfl, by decide, by decide, rfl, (xG_of 830 (by decide +kernel) (by decide +kernel)), (xG_of 26 (by decide +kernel) (by decide +kernel)), Or.inl ⟨(xG_of 829 (by decide +kernel) (by decide +kernel)), (xG_of 831 (by decide +kernel) (by decide +kernel)), by decide +kernel, by decide +kernel, by decide +kernel⟩⟩⟩
theorem sRX4_invokevirtual_170 (ini : Bool) (pc : Nat) : xwc RX4 ini (pc, .invokevirtual 170, 3, 53, 1) := xwv ⟨by decide, fun k j hx => by obtain ⟨rfl, rfl⟩ := xtg_d (by decide) hx; exact ⟨by decide, yX6_turnRound, cX6_turnRound, none, false, (RX6, TX6, 8), rfl, by decide, by decide, rfl, (xG_of 834 (by decide +kernel) (by decide +kernel)), (xG_of 26 (by decide +kernel) (by decide +kernel)), Or.inl ⟨(xG_of 833 (by decide +kernel) (by decide +kernel)), (xG_of 835 (by decide +kernel) (by decide +kernel)), by decide +kernel, by decide +kernel, by decide +kernel⟩⟩⟩
theorem sRX5_invokespecial_3 (ini : Bool) (pc : Nat) : xwc RX5 ini (pc, .invokespecial 3, 3, 25, 3) := xwi (by decide) (fun _ => ⟨by decide, by decide, yX2_init, cX2_init, true, rfl, rfl, (xG_of 441 (by decide +kernel) (by decide +kernel)), (xG_of 20 (by decide +kernel) (by decide +kernel)), ⟨by decide +kernel, by decide +kernel, by decide +kernel⟩, (Or.inl (xG_of 472 (by decide +kernel) (by decide +kernel)))⟩)
theorem sRX5_newarray_int (ini : Bool) (pc : Nat) : xwc RX5 ini (pc, .newarray .int, 2, 0, 0) := xwa (xG_of 89 (by decide +kernel) (by decide +kernel))
theorem sRX5_putfield_9 (pc : Nat) : xwc RX5 true (pc, .putfield 9, 3, 4, 2) := xwp (xgp1 (by decide) ⟨⟨(RX5, TX5, 7), by decide, by decide, rfl, by decide, "BestParses$OctetForm", (xG_of 476 (by decide +kernel) (by decide +kernel)), (Or.inl rfl)⟩, (xpf1 (q := (RX5, TX5, 7)) rfl (Or.inr ⟨rfl, rfl, rfl⟩))⟩)
theorem sRX5_putfield_15 (pc : Nat) : xwc RX5 true (pc, .putfield 15, 3, 4, 3) := xwp (xgp1 (by decide) ⟨⟨(RX5, TX5, 7), by decide, by decide, rfl, by decide, "BestParses$OctetForm", (xG_of 477 (by decide +kernel) (by decide +kernel)), (Or.inl rfl)⟩, (xpf1 (q := (RX5, TX5, 7)) rfl (Or.inr ⟨rfl, rfl, rfl⟩))⟩)
theorem sRX5_putfield_18 (pc : Nat) : xwc RX5 true (pc, .putfield 18, 3, 4, 4) := xwp (xgp1 (by decide) ⟨⟨(RX5, TX5, 7), by decide, by decide, rfl, by decide, "BestParses$OctetForm", (xG_of 478 (by decide +kernel) (by decide +kernel)), (Or.inl rfl)⟩, (xpf1 (q := (RX5, TX5, 7)) rfl (Or.inr ⟨rfl, rfl, rfl⟩))⟩)
theorem sRX5_putfield_21 (pc : Nat) : xwc RX5 true (pc, .putfield 21, 3, 4, 5) := xwp (xgp1 (by decide) ⟨⟨(RX5, TX5, 7), by decide, by decide, rfl, by decide, "BestParses$OctetForm", (xG_of 479 (by decide +kernel) (by decide +kernel)), (Or.inl rfl)⟩, (xpf1 (q := (RX5, TX5, 7)) rfl (Or.inr ⟨rfl, rfl, rfl⟩))⟩)
theorem sRX5_putfield_24 (pc : Nat) : xwc RX5 true (pc, .putfield 24, 3, 4, 6) := xwp (xgp1 (by decide) ⟨⟨(RX5, TX5, 7), by decide, by decide, rfl, by decide, "BestParses$OctetForm", (xG_of 480 (by decide +kernel) (by decide +kernel)), (Or.inl rfl)⟩, (xpf1 (q := (RX5, TX5, 7)) rfl (Or.inr ⟨rfl, rfl, rfl⟩))⟩)
theorem sRX5_getfield_24 (ini : Bool) (pc : Nat) : xwc RX5 ini (pc, .getfield 24, 3, 4, 6) := xwf (xgf1 (by decide) ⟨(RX5, TX5, 7), by decide, by decide, rfl, by decide, "BestParses$OctetForm", (xG_of 480 (by decide +kernel) (by decide +kernel)), (Or.inl rfl)⟩)
theorem sRX5_invokestatic_27 (ini : Bool) (pc : Nat) : xwc RX5 ini (pc, .invokestatic 27, 3, 48, 2) := xws (by decide) (fun _ => ⟨by decide, yX5_beyond, cX5_beyond, some .int, false, rfl, (xG_of 474 (by decide +kernel) (by decide +kernel)), (xG_of 22 (by decide +kernel) (by decide +kernel)), ⟨by decide +kernel, by decide +kernel, by decide +kernel⟩, (Or.inl (xG_of 473 (by decide +kernel) (by decide +kernel)))⟩)
theorem sRX5_getfield_9 (ini : Bool) (pc : Nat) : xwc RX5 ini (pc, .getfield 9, 3, 4, 2) := xwf (xgf1 (by decide) ⟨(RX5, TX5, 7), by decide, by decide, rfl, by decide, "BestParses$OctetForm", (xG_of 476 (by decide +kernel) (by decide +kernel)), (Or.inl rfl)⟩)
theorem sRX5_ldc_31 (ini : Bool) (pc : Nat) : xwc RX5 ini (pc, .ldc 31, 2, 1073741824, 0) := xwk (xG_of 843 (by decide +kernel) (by decide +kernel))
theorem sRX5_invokestatic_32 (ini : Bool) (pc : Nat) : xwc RX5 ini (pc, .invokestatic 32, 3, 166, 2) := xws (by decide) (fun _ => ⟨by decide, yJ7_fill_53178, cJ7_fill_53178, none, false, rfl, (xG_of 845 (by decide +kernel) (by decide +kernel)), (xG_of 5 (by decide +kernel) (by decide +kernel)), ⟨by decide +kernel, by decide +kernel, by decide +kernel⟩, (Or.inl (xG_of 844 (by decide +kernel) (by decide +kernel)))⟩)
theorem sRX5_getfield_38 (ini : Bool) (pc : Nat) : xwc RX5 ini (pc, .getfield 38, 3, 4, 0) := xwf (xgf1 (by decide) ⟨(RX5, TX5, 7), by decide, by decide, rfl, by decide, "BestParses$OctetForm", (xG_of 451 (by decide +kernel) (by decide +kernel)), (Or.inr (xG_of 452 (by decide +kernel) (by decide +kernel)))⟩)
theorem sRX5_getfield_42 (ini : Bool) (pc : Nat) : xwc RX5 ini (pc, .getfield 42, 3, 8, 3) := xwf (xgf1 (by decide) ⟨(RX9, TX9, 7), by decide, by decide, rfl, by decide, "BestParses$Text", (xG_of 67 (by decide +kernel) (by decide +kernel)), (Or.inl rfl)⟩)
theorem sRX5_invokevirtual_48 (ini : Bool) (pc : Nat) : xwc RX5 ini (pc, .invokevirtual 48, 3, 69, 2) := xwv ⟨by decide, fun k j hx => by obtain ⟨rfl, rfl⟩ := xtg_d (by decide) hx; exact ⟨by decide, yX9_longestCopy, cX9_longestCopy, some .int, false, (RX9, TX9, 7), rfl, by decide, by decide, rfl, (xG_of 776 (by decide +kernel) (by decide +kernel)), (xG_of 3 (by decide +kernel) (by decide +kernel)), Or.inl ⟨(xG_of 847 (by decide +kernel) (by decide +kernel)), (xG_of 777 (by decide +kernel) (by decide +kernel)), by decide +kernel, by decide +kernel, by decide +kernel⟩⟩⟩
theorem sRX5_invokevirtual_52 (ini : Bool) (pc : Nat) : xwc RX5 ini (pc, .invokevirtual 52, 3, 43, 2) := xwv ⟨by decide, fun k j hx => by obtain ⟨rfl, rfl⟩ := xtg_d (by decide) hx; exact ⟨by decide, yX5_findFirst, cX5_findFirst, none, false, (RX5, TX5, 7), rfl, by decide, by decide, rfl, (xG_of 850 (by decide +kernel) (by decide +kernel)), (xG_of 22 (by decide +kernel) (by decide +kernel)), Or.inl ⟨(xG_of 848 (by decide +kernel) (by decide +kernel)), (xG_s 14 (by decide +kernel) (by decide +kernel)), by decide +kernel, by decide +kernel, by decide +kernel⟩⟩⟩
theorem sRX5_getfield_56 (ini : Bool) (pc : Nat) : xwc RX5 ini (pc, .getfield 56, 3, 8, 0) := xwf (xgf1 (by decide) ⟨(RX9, TX9, 7), by decide, by decide, rfl, by decide, "BestParses$Text", (xG_of 51 (by decide +kernel) (by decide +kernel)), (Or.inl rfl)⟩)
theorem sRX5_invokevirtual_59 (ini : Bool) (pc : Nat) : xwc RX5 ini (pc, .invokevirtual 59, 3, 44, 3) := xwv ⟨by decide, fun k j hx => by obtain ⟨rfl, rfl⟩ := xtg_d (by decide) hx; exact ⟨by decide, yX5_lead, cX5_lead, none, false, (RX5, TX5, 7), rfl, by decide, by decide, rfl, (xG_of 854 (by decide +kernel) (by decide +kernel)), (xG_of 22 (by decide +kernel) (by decide +kernel)), Or.inl ⟨(xG_of 852 (by decide +kernel) (by decide +kernel)), (xG_s 15 (by decide +kernel) (by decide +kernel)), by decide +kernel, by decide +kernel, by decide +kernel⟩⟩⟩
theorem sRX5_invokevirtual_63 (ini : Bool) (pc : Nat) : xwc RX5 ini (pc, .invokevirtual 63, 3, 45, 2) := xwv ⟨by decide, fun k j hx => by obtain ⟨rfl, rfl⟩ := xtg_d (by decide) hx; exact ⟨by decide, yX5_tellSteps, cX5_tellSteps, none, false, (RX5, TX5, 7), rfl, by decide, by decide, rfl, (xG_of 861 (by decide +kernel) (by decide +kernel)), (xG_of 22 (by decide +kernel) (by decide +kernel)), Or.inl ⟨(xG_of 859 (by decide +kernel) (by decide +kernel)), (xG_s 16 (by decide +kernel) (by decide +kernel)), by decide +kernel, by decide +kernel, by decide +kernel⟩⟩⟩
theorem sRX5_getfield_18 (ini : Bool) (pc : Nat) : xwc RX5 ini (pc, .getfield 18, 3, 4, 4) := xwf (xgf1 (by decide) ⟨(RX5, TX5, 7), by decide, by decide, rfl, by decide, "BestParses$OctetForm", (xG_of 478 (by decide +kernel) (by decide +kernel)), (Or.inl rfl)⟩)
theorem sRX5_getfield_21 (ini : Bool) (pc : Nat) : xwc RX5 ini (pc, .getfield 21, 3, 4, 5) := xwf (xgf1 (by decide) ⟨(RX5, TX5, 7), by decide, by decide, rfl, by decide, "BestParses$OctetForm", (xG_of 479 (by decide +kernel) (by decide +kernel)), (Or.inl rfl)⟩)
theorem sRX5_invokestatic_67 (ini : Bool) (pc : Nat) : xwc RX5 ini (pc, .invokestatic 67, 3, 47, 1) := xws (by decide) (fun _ => ⟨by decide, yX5_copyCost, cX5_copyCost, some .int, false, rfl, (xG_of 857 (by decide +kernel) (by decide +kernel)), (xG_of 22 (by decide +kernel) (by decide +kernel)), ⟨by decide +kernel, by decide +kernel, by decide +kernel⟩, (Or.inl (xG_of 856 (by decide +kernel) (by decide +kernel)))⟩)
theorem sRX5_getfield_15 (ini : Bool) (pc : Nat) : xwc RX5 ini (pc, .getfield 15, 3, 4, 3) := xwf (xgf1 (by decide) ⟨(RX5, TX5, 7), by decide, by decide, rfl, by decide, "BestParses$OctetForm", (xG_of 477 (by decide +kernel) (by decide +kernel)), (Or.inl rfl)⟩)
theorem sRX5_invokevirtual_70 (ini : Bool) (pc : Nat) : xwc RX5 ini (pc, .invokevirtual 70, 3, 51, 1) := xwv ⟨by decide, fun k j hx => by obtain ⟨rfl, rfl⟩ := xtg_d (by decide) hx; exact ⟨by decide, yX6_begin, cX6_begin, none, false, (RX6, TX6, 8), rfl, by decide, by decide, rfl, (xG_of 826 (by decide +kernel) (by decide +kernel)), (xG_of 26 (by decide +kernel) (by decide +kernel)), Or.inl ⟨(xG_of 863 (by decide +kernel) (by decide +kernel)), (xG_of 827 (by decide +kernel) (by decide +kernel)), by decide +kernel, by decide +kernel, by decide +kernel⟩⟩⟩
theorem sRX5_invokevirtual_76 (ini : Bool) (pc : Nat) : xwc RX5 ini (pc, .invokevirtual 76, 3, 52, 5) := xwv ⟨by decide, fun k j hx => by obtain ⟨rfl, rfl⟩ := xtg_d (by decide) hx; exact ⟨by decide, yX6_add, cX6_add, none, false, (RX6, TX6, 8), rfl, by decide, by decide, rfl, (xG_of 830 (by decide +kernel) (by decide +kernel)), (xG_of 26 (by decide +kernel) (by decide +kernel)), Or.inl ⟨(xG_of 864 (by decide +kernel) (by decide +kernel)), (xG_of 831 (by decide +kernel) (by decide +kernel)), by decide +kernel, by decide +kernel, by decide +kernel⟩⟩⟩
theorem sRX5_invokestatic_80 (ini : Bool) (pc : Nat) : xwc RX5 ini (pc, .invokestatic 80, 3, 1000, 2) := xwb (by decide) (by decide) ⟨fun _ => ⟨(xG_of 865 (by decide +kernel) (by decide +kernel)), (xG_of 41 (by decide +kernel) (by decide +kernel)), (xG_of 2 (by decide +kernel) (by decide +kernel)), (xG_of 42 (by decide +kernel) (by decide +kernel))⟩, fun z => absurd z (by decide), fun z => absurd z (by decide)⟩
theorem sRX5_invokevirtual_85 (ini : Bool) (pc : Nat) : xwc RX5 ini (pc, .invokevirtual 85, 3, 70, 3) := xwv ⟨by decide, fun k j hx => by obtain ⟨rfl, rfl⟩ := xtg_d (by decide) hx; exact ⟨by decide, yX9_copyDistance, cX9_copyDistance, some .int, false, (RX9, TX9, 7), rfl, by decide, by decide, rfl, (xG_of 784 (by decide +kernel) (by decide +kernel)), (xG_of 3 (by decide +kernel) (by decide +kernel)), Or.inl ⟨(xG_of 866 (by decide +kernel) (by decide +kernel)), (xG_of 785 (by decide +kernel) (by decide +kernel)), by decide +kernel, by decide +kernel, by decide +kernel⟩⟩⟩
theorem sRX5_invokevirtual_88 (ini : Bool) (pc : Nat) : xwc RX5 ini (pc, .invokevirtual 88, 3, 53, 1) := xwv ⟨by decide, fun k j hx => by obtain ⟨rfl, rfl⟩ := xtg_d (by decide) hx; exact ⟨by decide, yX6_turnRound, cX6_turnRound, none, false, (RX6, TX6, 8), rfl, by decide, by decide, rfl, (xG_of 834 (by decide +kernel) (by decide +kernel)), (xG_of 26 (by decide +kernel) (by decide +kernel)), Or.inl ⟨(xG_of 867 (by decide +kernel) (by decide +kernel)), (xG_of 835 (by decide +kernel) (by decide +kernel)), by decide +kernel, by decide +kernel, by decide +kernel⟩⟩⟩
theorem sRX5_getfield_91 (ini : Bool) (pc : Nat) : xwc RX5 ini (pc, .getfield 91, 3, 5, 5) := xwf (xgf1 (by decide) ⟨(RX6, TX6, 8), by decide, by decide, rfl, by decide, "BestParses$Parse", (xG_of 609 (by decide +kernel) (by decide +kernel)), (Or.inl rfl)⟩)
theorem sRX5_getfield_94 (ini : Bool) (pc : Nat) : xwc RX5 ini (pc, .getfield 94, 3, 5, 3) := xwf (xgf1 (by decide) ⟨(RX6, TX6, 8), by decide, by decide, rfl, by decide, "BestParses$Parse", (xG_of 602 (by decide +kernel) (by decide +kernel)), (Or.inl rfl)⟩)
theorem sRX5_getfield_97 (ini : Bool) (pc : Nat) : xwc RX5 ini (pc, .getfield 97, 3, 5, 1) := xwf (xgf1 (by decide) ⟨(RX6, TX6, 8), by decide, by decide, rfl, by decide, "BestParses$Parse", (xG_of 595 (by decide +kernel) (by decide +kernel)), (Or.inl rfl)⟩)
theorem sRX6_invokespecial_3 (ini : Bool) (pc : Nat) : xwc RX6 ini (pc, .invokespecial 3, 3, 1003, 1) := xwo (fun _ => ⟨(xG_of 590 (by decide +kernel) (by decide +kernel)), (xG_of 35 (by decide +kernel) (by decide +kernel)), (xG_of 36 (by decide +kernel) (by decide +kernel))⟩)
theorem sRX6_newarray_int (ini : Bool) (pc : Nat) : xwc RX6 ini (pc, .newarray .int, 2, 0, 0) := xwa (xG_of 89 (by decide +kernel) (by decide +kernel))
theorem sRX6_putfield_9 (pc : Nat) : xwc RX6 true (pc, .putfield 9, 3, 5, 0) := xwp (xgp1 (by decide) ⟨⟨(RX6, TX6, 8), by decide, by decide, rfl, by decide, "BestParses$Parse", (xG_of 591 (by decide +kernel) (by decide +kernel)), (Or.inl rfl)⟩, (xpf1 (q := (RX6, TX6, 8)) rfl (Or.inr ⟨rfl, rfl, rfl⟩))⟩)
theorem sRX6_putfield_15 (pc : Nat) : xwc RX6 true (pc, .putfield 15, 3, 5, 1) := xwp (xgp1 (by decide) ⟨⟨(RX6, TX6, 8), by decide, by decide, rfl, by decide, "BestParses$Parse", (xG_of 594 (by decide +kernel) (by decide +kernel)), (Or.inl rfl)⟩, (xpf1 (q := (RX6, TX6, 8)) rfl (Or.inr ⟨rfl, rfl, rfl⟩))⟩)
theorem sRX6_putfield_18 (pc : Nat) : xwc RX6 true (pc, .putfield 18, 3, 5, 2) := xwp (xgp1 (by decide) ⟨⟨(RX6, TX6, 8), by decide, by decide, rfl, by decide, "BestParses$Parse", (xG_of 598 (by decide +kernel) (by decide +kernel)), (Or.inl rfl)⟩, (xpf1 (q := (RX6, TX6, 8)) rfl (Or.inr ⟨rfl, rfl, rfl⟩))⟩)
theorem sRX6_putfield_21 (pc : Nat) : xwc RX6 true (pc, .putfield 21, 3, 5, 3) := xwp (xgp1 (by decide) ⟨⟨(RX6, TX6, 8), by decide, by decide, rfl, by decide, "BestParses$Parse", (xG_of 601 (by decide +kernel) (by decide +kernel)), (Or.inl rfl)⟩, (xpf1 (q := (RX6, TX6, 8)) rfl (Or.inr ⟨rfl, rfl, rfl⟩))⟩)
theorem sRX6_putfield_24 (pc : Nat) : xwc RX6 true (pc, .putfield 24, 3, 5, 4) := xwp (xgp1 (by decide) ⟨⟨(RX6, TX6, 8), by decide, by decide, rfl, by decide, "BestParses$Parse", (xG_of 605 (by decide +kernel) (by decide +kernel)), (Or.inl rfl)⟩, (xpf1 (q := (RX6, TX6, 8)) rfl (Or.inr ⟨rfl, rfl, rfl⟩))⟩)
theorem sRX6_getfield_27 (ini : Bool) (pc : Nat) : xwc RX6 ini (pc, .getfield 27, 3, 5, 5) := xwf (xgf1 (by decide) ⟨(RX6, TX6, 8), by decide, by decide, rfl, by decide, "BestParses$Parse", (xG_of 607 (by decide +kernel) (by decide +kernel)), (Or.inl rfl)⟩)
theorem sRX6_putfield_27 (ini : Bool) (pc : Nat) : xwc RX6 ini (pc, .putfield 27, 3, 5, 5) := xwp (xgp1 (by decide) ⟨⟨(RX6, TX6, 8), by decide, by decide, rfl, by decide, "BestParses$Parse", (xG_of 607 (by decide +kernel) (by decide +kernel)), (Or.inl rfl)⟩, (xpf1 (q := (RX6, TX6, 8)) rfl (Or.inl rfl))⟩)
theorem sRX6_getfield_21 (ini : Bool) (pc : Nat) : xwc RX6 ini (pc, .getfield 21, 3, 5, 3) := xwf (xgf1 (by decide) ⟨(RX6, TX6, 8), by decide, by decide, rfl, by decide, "BestParses$Parse", (xG_of 601 (by decide +kernel) (by decide +kernel)), (Or.inl rfl)⟩)
theorem sRX6_getfield_9 (ini : Bool) (pc : Nat) : xwc RX6 ini (pc, .getfield 9, 3, 5, 0) := xwf (xgf1 (by decide) ⟨(RX6, TX6, 8), by decide, by decide, rfl, by decide, "BestParses$Parse", (xG_of 591 (by decide +kernel) (by decide +kernel)), (Or.inl rfl)⟩)
theorem sRX6_getfield_15 (ini : Bool) (pc : Nat) : xwc RX6 ini (pc, .getfield 15, 3, 5, 1) := xwf (xgf1 (by decide) ⟨(RX6, TX6, 8), by decide, by decide, rfl, by decide, "BestParses$Parse", (xG_of 594 (by decide +kernel) (by decide +kernel)), (Or.inl rfl)⟩)
theorem sRX6_getfield_18 (ini : Bool) (pc : Nat) : xwc RX6 ini (pc, .getfield 18, 3, 5, 2) := xwf (xgf1 (by decide) ⟨(RX6, TX6, 8), by decide, by decide, rfl, by decide, "BestParses$Parse", (xG_of 598 (by decide +kernel) (by decide +kernel)), (Or.inl rfl)⟩)
theorem sRX6_invokestatic_31 (ini : Bool) (pc : Nat) : xwc RX6 ini (pc, .invokestatic 31, 3, 54, 3) := xws (by decide) (fun _ => ⟨by decide, yX6_swap, cX6_swap, none, false, rfl, (xG_of 838 (by decide +kernel) (by decide +kernel)), (xG_of 26 (by decide +kernel) (by decide +kernel)), ⟨by decide +kernel, by decide +kernel, by decide +kernel⟩, (Or.inl (xG_of 837 (by decide +kernel) (by decide +kernel)))⟩)
theorem sRX6_putfield_35 (ini : Bool) (pc : Nat) : xwc RX6 ini (pc, .putfield 35, 3, 5, 6) := xwp (xgp1 (by decide) ⟨⟨(RX6, TX6, 8), by decide, by decide, rfl, by decide, "BestParses$Parse", (xG_of 612 (by decide +kernel) (by decide +kernel)), (Or.inl rfl)⟩, (xpf1 (q := (RX6, TX6, 8)) rfl (Or.inl rfl))⟩)
theorem sRX6_putfield_39 (ini : Bool) (pc : Nat) : xwc RX6 ini (pc, .putfield 39, 3, 5, 7) := xwp (xgp1 (by decide) ⟨⟨(RX6, TX6, 8), by decide, by decide, rfl, by decide, "BestParses$Parse", (xG_of 614 (by decide +kernel) (by decide +kernel)), (Or.inl rfl)⟩, (xpf1 (q := (RX6, TX6, 8)) rfl (Or.inl rfl))⟩)
theorem sRX6_getfield_24 (ini : Bool) (pc : Nat) : xwc RX6 ini (pc, .getfield 24, 3, 5, 4) := xwf (xgf1 (by decide) ⟨(RX6, TX6, 8), by decide, by decide, rfl, by decide, "BestParses$Parse", (xG_of 605 (by decide +kernel) (by decide +kernel)), (Or.inl rfl)⟩)
theorem sRX6_getfield_43 (ini : Bool) (pc : Nat) : xwc RX6 ini (pc, .getfield 43, 3, 8, 2) := xwf (xgf1 (by decide) ⟨(RX9, TX9, 7), by decide, by decide, rfl, by decide, "BestParses$Text", (xG_of 60 (by decide +kernel) (by decide +kernel)), (Or.inl rfl)⟩)
theorem sRX6_invokevirtual_48 (ini : Bool) (pc : Nat) : xwc RX6 ini (pc, .invokevirtual 48, 3, 56, 4) := xwv ⟨by decide, fun k j hx => by obtain ⟨rfl, rfl⟩ := xtg_d (by decide) hx; exact ⟨by decide, yX6_tellBack, cX6_tellBack, none, false, (RX6, TX6, 8), rfl, by decide, by decide, rfl, (xG_of 914 (by decide +kernel) (by decide +kernel)), (xG_of 26 (by decide +kernel) (by decide +kernel)), Or.inl ⟨(xG_of 912 (by decide +kernel) (by decide +kernel)), (xG_s 19 (by decide +kernel) (by decide +kernel)), by decide +kernel, by decide +kernel, by decide +kernel⟩⟩⟩
theorem sRX7_invokespecial_3 (ini : Bool) (pc : Nat) : xwc RX7 ini (pc, .invokespecial 3, 3, 25, 3) := xwi (by decide) (fun _ => ⟨by decide, by decide, yX2_init, cX2_init, true, rfl, rfl, (xG_of 441 (by decide +kernel) (by decide +kernel)), (xG_of 20 (by decide +kernel) (by decide +kernel)), ⟨by decide +kernel, by decide +kernel, by decide +kernel⟩, (Or.inl (xG_of 440 (by decide +kernel) (by decide +kernel)))⟩)
theorem sRX7_newarray_int (ini : Bool) (pc : Nat) : xwc RX7 ini (pc, .newarray .int, 2, 0, 0) := xwa (xG_of 89 (by decide +kernel) (by decide +kernel))
theorem sRX7_putfield_9 (pc : Nat) : xwc RX7 true (pc, .putfield 9, 3, 6, 2) := xwp (xgp1 (by decide) ⟨⟨(RX7, TX7, 4), by decide, by decide, rfl, by decide, "BestParses$SlotForm", (xG_of 444 (by decide +kernel) (by decide +kernel)), (Or.inl rfl)⟩, (xpf1 (q := (RX7, TX7, 4)) rfl (Or.inr ⟨rfl, rfl, rfl⟩))⟩)
theorem sRX7_putfield_15 (pc : Nat) : xwc RX7 true (pc, .putfield 15, 3, 6, 3) := xwp (xgp1 (by decide) ⟨⟨(RX7, TX7, 4), by decide, by decide, rfl, by decide, "BestParses$SlotForm", (xG_of 445 (by decide +kernel) (by decide +kernel)), (Or.inl rfl)⟩, (xpf1 (q := (RX7, TX7, 4)) rfl (Or.inr ⟨rfl, rfl, rfl⟩))⟩)
theorem sRX7_getfield_18 (ini : Bool) (pc : Nat) : xwc RX7 ini (pc, .getfield 18, 3, 6, 1) := xwf (xgf1 (by decide) ⟨(RX7, TX7, 4), by decide, by decide, rfl, by decide, "BestParses$SlotForm", (xG_of 454 (by decide +kernel) (by decide +kernel)), (Or.inr (xG_of 455 (by decide +kernel) (by decide +kernel)))⟩)
theorem sRX7_getfield_22 (ini : Bool) (pc : Nat) : xwc RX7 ini (pc, .getfield 22, 3, 6, 0) := xwf (xgf1 (by decide) ⟨(RX7, TX7, 4), by decide, by decide, rfl, by decide, "BestParses$SlotForm", (xG_of 447 (by decide +kernel) (by decide +kernel)), (Or.inr (xG_of 448 (by decide +kernel) (by decide +kernel)))⟩)
theorem sRX7_invokevirtual_26 (ini : Bool) (pc : Nat) : xwc RX7 ini (pc, .invokevirtual 26, 3, 13, 2) := xwv ⟨by decide, fun k j hx => by obtain ⟨rfl, rfl⟩ := xtg_d (by decide) hx; exact ⟨by decide, yX1_prepare, cX1_prepare, none, false, (RX1, TX1, 5), rfl, by decide, by decide, rfl, (xG_of 730 (by decide +kernel) (by decide +kernel)), (xG_of 4 (by decide +kernel) (by decide +kernel)), Or.inl ⟨(xG_of 871 (by decide +kernel) (by decide +kernel)), (xG_of 731 (by decide +kernel) (by decide +kernel)), by decide +kernel, by decide +kernel, by decide +kernel⟩⟩⟩
theorem sRX7_getfield_9 (ini : Bool) (pc : Nat) : xwc RX7 ini (pc, .getfield 9, 3, 6, 2) := xwf (xgf1 (by decide) ⟨(RX7, TX7, 4), by decide, by decide, rfl, by decide, "BestParses$SlotForm", (xG_of 444 (by decide +kernel) (by decide +kernel)), (Or.inl rfl)⟩)
theorem sRX7_ldc_32 (ini : Bool) (pc : Nat) : xwc RX7 ini (pc, .ldc 32, 2, 1073741824, 0) := xwk (xG_of 872 (by decide +kernel) (by decide +kernel))
theorem sRX7_invokestatic_33 (ini : Bool) (pc : Nat) : xwc RX7 ini (pc, .invokestatic 33, 3, 166, 2) := xws (by decide) (fun _ => ⟨by decide, yJ7_fill_53178, cJ7_fill_53178, none, false, rfl, (xG_of 845 (by decide +kernel) (by decide +kernel)), (xG_of 5 (by decide +kernel) (by decide +kernel)), ⟨by decide +kernel, by decide +kernel, by decide +kernel⟩, (Or.inl (xG_of 873 (by decide +kernel) (by decide +kernel)))⟩)
theorem sRX7_getfield_39 (ini : Bool) (pc : Nat) : xwc RX7 ini (pc, .getfield 39, 3, 8, 3) := xwf (xgf1 (by decide) ⟨(RX9, TX9, 7), by decide, by decide, rfl, by decide, "BestParses$Text", (xG_of 68 (by decide +kernel) (by decide +kernel)), (Or.inl rfl)⟩)
theorem sRX7_invokevirtual_45 (ini : Bool) (pc : Nat) : xwc RX7 ini (pc, .invokevirtual 45, 3, 69, 2) := xwv ⟨by decide, fun k j hx => by obtain ⟨rfl, rfl⟩ := xtg_d (by decide) hx; exact ⟨by decide, yX9_longestCopy, cX9_longestCopy, some .int, false, (RX9, TX9, 7), rfl, by decide, by decide, rfl, (xG_of 776 (by decide +kernel) (by decide +kernel)), (xG_of 3 (by decide +kernel) (by decide +kernel)), Or.inl ⟨(xG_of 874 (by decide +kernel) (by decide +kernel)), (xG_of 777 (by decide +kernel) (by decide +kernel)), by decide +kernel, by decide +kernel, by decide +kernel⟩⟩⟩
theorem sRX7_getfield_49 (ini : Bool) (pc : Nat) : xwc RX7 ini (pc, .getfield 49, 3, 8, 0) := xwf (xgf1 (by decide) ⟨(RX9, TX9, 7), by decide, by decide, rfl, by decide, "BestParses$Text", (xG_of 52 (by decide +kernel) (by decide +kernel)), (Or.inl rfl)⟩)
theorem sRX7_invokevirtual_52 (ini : Bool) (pc : Nat) : xwc RX7 ini (pc, .invokevirtual 52, 3, 70, 3) := xwv ⟨by decide, fun k j hx => by obtain ⟨rfl, rfl⟩ := xtg_d (by decide) hx; exact ⟨by decide, yX9_copyDistance, cX9_copyDistance, some .int, false, (RX9, TX9, 7), rfl, by decide, by decide, rfl, (xG_of 784 (by decide +kernel) (by decide +kernel)), (xG_of 3 (by decide +kernel) (by decide +kernel)), Or.inl ⟨(xG_of 875 (by decide +kernel) (by decide +kernel)), (xG_of 785 (by decide +kernel) (by decide +kernel)), by decide +kernel, by decide +kernel, by decide +kernel⟩⟩⟩
theorem sRX7_getfield_56 (ini : Bool) (pc : Nat) : xwc RX7 ini (pc, .getfield 56, 3, 2, 3) := xwf (xgf1 (by decide) ⟨(RX1, TX1, 5), by decide, by decide, rfl, by decide, "BestParses$Costs", (xG_of 419 (by decide +kernel) (by decide +kernel)), (Or.inl rfl)⟩)
theorem sRX7_getfield_59 (ini : Bool) (pc : Nat) : xwc RX7 ini (pc, .getfield 59, 3, 2, 4) := xwf (xgf1 (by decide) ⟨(RX1, TX1, 5), by decide, by decide, rfl, by decide, "BestParses$Costs", (xG_of 422 (by decide +kernel) (by decide +kernel)), (Or.inl rfl)⟩)
theorem sRX7_invokevirtual_62 (ini : Bool) (pc : Nat) : xwc RX7 ini (pc, .invokevirtual 62, 3, 59, 4) := xwv ⟨by decide, fun k j hx => by obtain ⟨rfl, rfl⟩ := xtg_d (by decide) hx; exact ⟨by decide, yX7_lead, cX7_lead, none, false, (RX7, TX7, 4), rfl, by decide, by decide, rfl, (xG_of 878 (by decide +kernel) (by decide +kernel)), (xG_of 21 (by decide +kernel) (by decide +kernel)), Or.inl ⟨(xG_of 876 (by decide +kernel) (by decide +kernel)), (xG_s 17 (by decide +kernel) (by decide +kernel)), by decide +kernel, by decide +kernel, by decide +kernel⟩⟩⟩
theorem sRX7_getfield_66 (ini : Bool) (pc : Nat) : xwc RX7 ini (pc, .getfield 66, 3, 8, 2) := xwf (xgf1 (by decide) ⟨(RX9, TX9, 7), by decide, by decide, rfl, by decide, "BestParses$Text", (xG_of 57 (by decide +kernel) (by decide +kernel)), (Or.inl rfl)⟩)
theorem sRX7_invokevirtual_69 (ini : Bool) (pc : Nat) : xwc RX7 ini (pc, .invokevirtual 69, 3, 14, 2) := xwv ⟨by decide, fun k j hx => by obtain ⟨rfl, rfl⟩ := xtg_d (by decide) hx; exact ⟨by decide, yX1_literalCost, cX1_literalCost, some .int, false, (RX1, TX1, 5), rfl, by decide, by decide, rfl, (xG_of 818 (by decide +kernel) (by decide +kernel)), (xG_of 4 (by decide +kernel) (by decide +kernel)), Or.inl ⟨(xG_of 880 (by decide +kernel) (by decide +kernel)), (xG_of 819 (by decide +kernel) (by decide +kernel)), by decide +kernel, by decide +kernel, by decide +kernel⟩⟩⟩
theorem sRX7_invokevirtual_72 (ini : Bool) (pc : Nat) : xwc RX7 ini (pc, .invokevirtual 72, 3, 60, 2) := xwv ⟨by decide, fun k j hx => by obtain ⟨rfl, rfl⟩ := xtg_d (by decide) hx; exact ⟨by decide, yX7_tellSteps, cX7_tellSteps, none, false, (RX7, TX7, 4), rfl, by decide, by decide, rfl, (xG_of 883 (by decide +kernel) (by decide +kernel)), (xG_of 21 (by decide +kernel) (by decide +kernel)), Or.inl ⟨(xG_of 881 (by decide +kernel) (by decide +kernel)), (xG_s 18 (by decide +kernel) (by decide +kernel)), by decide +kernel, by decide +kernel, by decide +kernel⟩⟩⟩
theorem sRX7_getfield_15 (ini : Bool) (pc : Nat) : xwc RX7 ini (pc, .getfield 15, 3, 6, 3) := xwf (xgf1 (by decide) ⟨(RX7, TX7, 4), by decide, by decide, rfl, by decide, "BestParses$SlotForm", (xG_of 445 (by decide +kernel) (by decide +kernel)), (Or.inl rfl)⟩)
theorem sRX7_invokevirtual_76 (ini : Bool) (pc : Nat) : xwc RX7 ini (pc, .invokevirtual 76, 3, 51, 1) := xwv ⟨by decide, fun k j hx => by obtain ⟨rfl, rfl⟩ := xtg_d (by decide) hx; exact ⟨by decide, yX6_begin, cX6_begin, none, false, (RX6, TX6, 8), rfl, by decide, by decide, rfl, (xG_of 826 (by decide +kernel) (by decide +kernel)), (xG_of 26 (by decide +kernel) (by decide +kernel)), Or.inl ⟨(xG_of 885 (by decide +kernel) (by decide +kernel)), (xG_of 827 (by decide +kernel) (by decide +kernel)), by decide +kernel, by decide +kernel, by decide +kernel⟩⟩⟩
theorem sRX7_invokestatic_82 (ini : Bool) (pc : Nat) : xwc RX7 ini (pc, .invokestatic 82, 3, 1000, 2) := xwb (by decide) (by decide) ⟨fun _ => ⟨(xG_of 886 (by decide +kernel) (by decide +kernel)), (xG_of 41 (by decide +kernel) (by decide +kernel)), (xG_of 2 (by decide +kernel) (by decide +kernel)), (xG_of 42 (by decide +kernel) (by decide +kernel))⟩, fun z => absurd z (by decide), fun z => absurd z (by decide)⟩
theorem sRX7_invokevirtual_87 (ini : Bool) (pc : Nat) : xwc RX7 ini (pc, .invokevirtual 87, 3, 52, 5) := xwv ⟨by decide, fun k j hx => by obtain ⟨rfl, rfl⟩ := xtg_d (by decide) hx; exact ⟨by decide, yX6_add, cX6_add, none, false, (RX6, TX6, 8), rfl, by decide, by decide, rfl, (xG_of 830 (by decide +kernel) (by decide +kernel)), (xG_of 26 (by decide +kernel) (by decide +kernel)), Or.inl ⟨(xG_of 887 (by decide +kernel) (by decide +kernel)), (xG_of 831 (by decide +kernel) (by decide +kernel)), by decide +kernel, by decide +kernel, by decide +kernel⟩⟩⟩
theorem sRX7_invokevirtual_91 (ini : Bool) (pc : Nat) : xwc RX7 ini (pc, .invokevirtual 91, 3, 53, 1) := xwv ⟨by decide, fun k j hx => by obtain ⟨rfl, rfl⟩ := xtg_d (by decide) hx; exact ⟨by decide, yX6_turnRound, cX6_turnRound, none, false, (RX6, TX6, 8), rfl, by decide, by decide, rfl, (xG_of 834 (by decide +kernel) (by decide +kernel)), (xG_of 26 (by decide +kernel) (by decide +kernel)), Or.inl ⟨(xG_of 888 (by decide +kernel) (by decide +kernel)), (xG_of 835 (by decide +kernel) (by decide +kernel)), by decide +kernel, by decide +kernel, by decide +kernel⟩⟩⟩
theorem sRX8_invokespecial_3 (ini : Bool) (pc : Nat) : xwc RX8 ini (pc, .invokespecial 3, 3, 1003, 1) := xwo (fun _ => ⟨(xG_of 540 (by decide +kernel) (by decide +kernel)), (xG_of 35 (by decide +kernel) (by decide +kernel)), (xG_of 36 (by decide +kernel) (by decide +kernel))⟩)
theorem sRX8_putfield_9 (pc : Nat) : xwc RX8 true (pc, .putfield 9, 3, 7, 0) := xwp (xgp1 (by decide) ⟨⟨(RX8, TX8, 2), by decide, by decide, rfl, by decide, "BestParses$Stepper", (xG_of 541 (by decide +kernel) (by decide +kernel)), (Or.inl rfl)⟩, (xpf1 (q := (RX8, TX8, 2)) rfl (Or.inr ⟨rfl, rfl, rfl⟩))⟩)
theorem sRX8_putfield_15 (pc : Nat) : xwc RX8 true (pc, .putfield 15, 3, 7, 1) := xwp (xgp1 (by decide) ⟨⟨(RX8, TX8, 2), by decide, by decide, rfl, by decide, "BestParses$Stepper", (xG_of 542 (by decide +kernel) (by decide +kernel)), (Or.inl rfl)⟩, (xpf1 (q := (RX8, TX8, 2)) rfl (Or.inr ⟨rfl, rfl, rfl⟩))⟩)
theorem sRX8_invokevirtual_19 (ini : Bool) (pc : Nat) : xwc RX8 ini (pc, .invokevirtual 19, 3, 51, 1) := xwv ⟨by decide, fun k j hx => by obtain ⟨rfl, rfl⟩ := xtg_d (by decide) hx; exact ⟨by decide, yX6_begin, cX6_begin, none, false, (RX6, TX6, 8), rfl, by decide, by decide, rfl, (xG_of 826 (by decide +kernel) (by decide +kernel)), (xG_of 26 (by decide +kernel) (by decide +kernel)), Or.inl ⟨(xG_of 920 (by decide +kernel) (by decide +kernel)), (xG_of 827 (by decide +kernel) (by decide +kernel)), by decide +kernel, by decide +kernel, by decide +kernel⟩⟩⟩
theorem sRX8_ldc2_w_26 (ini : Bool) (pc : Nat) : xwc RX8 ini (pc, .ldc2_w 26, 3, 134480385, 0) := xwkj (xG_of 921 (by decide +kernel) (by decide +kernel))
theorem sRX8_getfield_9 (ini : Bool) (pc : Nat) : xwc RX8 ini (pc, .getfield 9, 3, 7, 0) := xwf (xgf1 (by decide) ⟨(RX8, TX8, 2), by decide, by decide, rfl, by decide, "BestParses$Stepper", (xG_of 541 (by decide +kernel) (by decide +kernel)), (Or.inl rfl)⟩)
theorem sRX8_getfield_28 (ini : Bool) (pc : Nat) : xwc RX8 ini (pc, .getfield 28, 3, 8, 3) := xwf (xgf1 (by decide) ⟨(RX9, TX9, 7), by decide, by decide, rfl, by decide, "BestParses$Text", (xG_of 66 (by decide +kernel) (by decide +kernel)), (Or.inl rfl)⟩)
theorem sRX8_invokevirtual_34 (ini : Bool) (pc : Nat) : xwc RX8 ini (pc, .invokevirtual 34, 3, 69, 2) := xwv ⟨by decide, fun k j hx => by obtain ⟨rfl, rfl⟩ := xtg_d (by decide) hx; exact ⟨by decide, yX9_longestCopy, cX9_longestCopy, some .int, false, (RX9, TX9, 7), rfl, by decide, by decide, rfl, (xG_of 776 (by decide +kernel) (by decide +kernel)), (xG_of 3 (by decide +kernel) (by decide +kernel)), Or.inl ⟨(xG_of 922 (by decide +kernel) (by decide +kernel)), (xG_of 777 (by decide +kernel) (by decide +kernel)), by decide +kernel, by decide +kernel, by decide +kernel⟩⟩⟩
theorem sRX8_invokevirtual_38 (ini : Bool) (pc : Nat) : xwc RX8 ini (pc, .invokevirtual 38, 3, 63, 4) := xwv ⟨by decide, fun k j hx => by obtain ⟨rfl, rfl⟩ := xtg_d (by decide) hx; exact ⟨by decide, yX8_longerAhead, cX8_longerAhead, some .boolean, false, (RX8, TX8, 2), rfl, by decide, by decide, rfl, (xG_of 925 (by decide +kernel) (by decide +kernel)), (xG_of 24 (by decide +kernel) (by decide +kernel)), Or.inl ⟨(xG_of 923 (by decide +kernel) (by decide +kernel)), (xG_s 20 (by decide +kernel) (by decide +kernel)), by decide +kernel, by decide +kernel, by decide +kernel⟩⟩⟩
theorem sRX8_invokevirtual_42 (ini : Bool) (pc : Nat) : xwc RX8 ini (pc, .invokevirtual 42, 3, 52, 5) := xwv ⟨by decide, fun k j hx => by obtain ⟨rfl, rfl⟩ := xtg_d (by decide) hx; exact ⟨by decide, yX6_add, cX6_add, none, false, (RX6, TX6, 8), rfl, by decide, by decide, rfl, (xG_of 830 (by decide +kernel) (by decide +kernel)), (xG_of 26 (by decide +kernel) (by decide +kernel)), Or.inl ⟨(xG_of 927 (by decide +kernel) (by decide +kernel)), (xG_of 831 (by decide +kernel) (by decide +kernel)), by decide +kernel, by decide +kernel, by decide +kernel⟩⟩⟩
theorem sRX8_invokevirtual_46 (ini : Bool) (pc : Nat) : xwc RX8 ini (pc, .invokevirtual 46, 3, 64, 4) := xwv ⟨by decide, fun k j hx => by obtain ⟨rfl, rfl⟩ := xtg_d (by decide) hx; exact ⟨by decide, yX8_againAsLong, cX8_againAsLong, some .int, false, (RX8, TX8, 2), rfl, by decide, by decide, rfl, (xG_of 930 (by decide +kernel) (by decide +kernel)), (xG_of 24 (by decide +kernel) (by decide +kernel)), Or.inl ⟨(xG_of 928 (by decide +kernel) (by decide +kernel)), (xG_s 21 (by decide +kernel) (by decide +kernel)), by decide +kernel, by decide +kernel, by decide +kernel⟩⟩⟩
theorem sRX8_invokestatic_50 (ini : Bool) (pc : Nat) : xwc RX8 ini (pc, .invokestatic 50, 3, 27, 2) := xws (by decide) (fun _ => ⟨by decide, yX3_at, cX3_at, some .int, false, rfl, (xG_of 807 (by decide +kernel) (by decide +kernel)), (xG_of 28 (by decide +kernel) (by decide +kernel)), ⟨by decide +kernel, by decide +kernel, by decide +kernel⟩, (Or.inl (xG_of 932 (by decide +kernel) (by decide +kernel)))⟩)
theorem sRX8_invokestatic_54 (ini : Bool) (pc : Nat) : xwc RX8 ini (pc, .invokestatic 54, 3, 29, 2) := xws (by decide) (fun _ => ⟨by decide, yX3_behindAgain, cX3_behindAgain, some .long, false, rfl, (xG_of 814 (by decide +kernel) (by decide +kernel)), (xG_of 28 (by decide +kernel) (by decide +kernel)), ⟨by decide +kernel, by decide +kernel, by decide +kernel⟩, (Or.inl (xG_of 934 (by decide +kernel) (by decide +kernel)))⟩)
theorem sRX8_invokevirtual_58 (ini : Bool) (pc : Nat) : xwc RX8 ini (pc, .invokevirtual 58, 3, 70, 3) := xwv ⟨by decide, fun k j hx => by obtain ⟨rfl, rfl⟩ := xtg_d (by decide) hx; exact ⟨by decide, yX9_copyDistance, cX9_copyDistance, some .int, false, (RX9, TX9, 7), rfl, by decide, by decide, rfl, (xG_of 784 (by decide +kernel) (by decide +kernel)), (xG_of 3 (by decide +kernel) (by decide +kernel)), Or.inl ⟨(xG_of 935 (by decide +kernel) (by decide +kernel)), (xG_of 785 (by decide +kernel) (by decide +kernel)), by decide +kernel, by decide +kernel, by decide +kernel⟩⟩⟩
theorem sRX8_invokestatic_62 (ini : Bool) (pc : Nat) : xwc RX8 ini (pc, .invokestatic 62, 3, 28, 2) := xws (by decide) (fun _ => ⟨by decide, yX3_behindCopy, cX3_behindCopy, some .long, false, rfl, (xG_of 788 (by decide +kernel) (by decide +kernel)), (xG_of 28 (by decide +kernel) (by decide +kernel)), ⟨by decide +kernel, by decide +kernel, by decide +kernel⟩, (Or.inl (xG_of 936 (by decide +kernel) (by decide +kernel)))⟩)
theorem sRX8_getfield_15 (ini : Bool) (pc : Nat) : xwc RX8 ini (pc, .getfield 15, 3, 7, 1) := xwf (xgf1 (by decide) ⟨(RX8, TX8, 2), by decide, by decide, rfl, by decide, "BestParses$Stepper", (xG_of 542 (by decide +kernel) (by decide +kernel)), (Or.inl rfl)⟩)
theorem sRX8_invokevirtual_65 (ini : Bool) (pc : Nat) : xwc RX8 ini (pc, .invokevirtual 65, 3, 71, 3) := xwv ⟨by decide, fun k j hx => by obtain ⟨rfl, rfl⟩ := xtg_d (by decide) hx; exact ⟨by decide, yX9_sameBy, cX9_sameBy, some .int, false, (RX9, TX9, 7), rfl, by decide, by decide, rfl, (xG_of 810 (by decide +kernel) (by decide +kernel)), (xG_of 3 (by decide +kernel) (by decide +kernel)), Or.inl ⟨(xG_of 933 (by decide +kernel) (by decide +kernel)), (xG_of 811 (by decide +kernel) (by decide +kernel)), by decide +kernel, by decide +kernel, by decide +kernel⟩⟩⟩
theorem sRX9_invokespecial_3 (ini : Bool) (pc : Nat) : xwc RX9 ini (pc, .invokespecial 3, 3, 1003, 1) := xwo (fun _ => ⟨(xG_of 48 (by decide +kernel) (by decide +kernel)), (xG_of 35 (by decide +kernel) (by decide +kernel)), (xG_of 36 (by decide +kernel) (by decide +kernel))⟩)
theorem sRX9_newarray_int (ini : Bool) (pc : Nat) : xwc RX9 ini (pc, .newarray .int, 2, 0, 0) := xwa (xG_of 89 (by decide +kernel) (by decide +kernel))
theorem sRX9_putfield_9 (pc : Nat) : xwc RX9 true (pc, .putfield 9, 3, 8, 2) := xwp (xgp1 (by decide) ⟨⟨(RX9, TX9, 7), by decide, by decide, rfl, by decide, "BestParses$Text", (xG_of 56 (by decide +kernel) (by decide +kernel)), (Or.inl rfl)⟩, (xpf1 (q := (RX9, TX9, 7)) rfl (Or.inr ⟨rfl, rfl, rfl⟩))⟩)
theorem sRX9_putfield_15 (pc : Nat) : xwc RX9 true (pc, .putfield 15, 3, 8, 4) := xwp (xgp1 (by decide) ⟨⟨(RX9, TX9, 7), by decide, by decide, rfl, by decide, "BestParses$Text", (xG_of 71 (by decide +kernel) (by decide +kernel)), (Or.inl rfl)⟩, (xpf1 (q := (RX9, TX9, 7)) rfl (Or.inr ⟨rfl, rfl, rfl⟩))⟩)
theorem sRX9_ldc_18 (ini : Bool) (pc : Nat) : xwc RX9 ini (pc, .ldc 18, 2, 44850, 0) := xwk (xG_of 49 (by decide +kernel) (by decide +kernel))
theorem sRX9_putfield_19 (pc : Nat) : xwc RX9 true (pc, .putfield 19, 3, 8, 5) := xwp (xgp1 (by decide) ⟨⟨(RX9, TX9, 7), by decide, by decide, rfl, by decide, "BestParses$Text", (xG_of 72 (by decide +kernel) (by decide +kernel)), (Or.inl rfl)⟩, (xpf1 (q := (RX9, TX9, 7)) rfl (Or.inr ⟨rfl, rfl, rfl⟩))⟩)
theorem sRX9_putfield_22 (pc : Nat) : xwc RX9 true (pc, .putfield 22, 3, 8, 6) := xwp (xgp1 (by decide) ⟨⟨(RX9, TX9, 7), by decide, by decide, rfl, by decide, "BestParses$Text", (xG_of 73 (by decide +kernel) (by decide +kernel)), (Or.inl rfl)⟩, (xpf1 (q := (RX9, TX9, 7)) rfl (Or.inr ⟨rfl, rfl, rfl⟩))⟩)
theorem sRX9_putfield_25 (pc : Nat) : xwc RX9 true (pc, .putfield 25, 3, 8, 0) := xwp (xgp1 (by decide) ⟨⟨(RX9, TX9, 7), by decide, by decide, rfl, by decide, "BestParses$Text", (xG_of 50 (by decide +kernel) (by decide +kernel)), (Or.inl rfl)⟩, (xpf1 (q := (RX9, TX9, 7)) rfl (Or.inr ⟨rfl, rfl, rfl⟩))⟩)
theorem sRX9_putfield_29 (pc : Nat) : xwc RX9 true (pc, .putfield 29, 3, 8, 1) := xwp (xgp1 (by decide) ⟨⟨(RX9, TX9, 7), by decide, by decide, rfl, by decide, "BestParses$Text", (xG_of 55 (by decide +kernel) (by decide +kernel)), (Or.inl rfl)⟩, (xpf1 (q := (RX9, TX9, 7)) rfl (Or.inr ⟨rfl, rfl, rfl⟩))⟩)
theorem sRX9_getfield_32 (ini : Bool) (pc : Nat) : xwc RX9 ini (pc, .getfield 32, 3, 8, 3) := xwf (xgf1 (by decide) ⟨(RX9, TX9, 7), by decide, by decide, rfl, by decide, "BestParses$Text", (xG_of 63 (by decide +kernel) (by decide +kernel)), (Or.inl rfl)⟩)
theorem sRX9_getfield_9 (ini : Bool) (pc : Nat) : xwc RX9 ini (pc, .getfield 9, 3, 8, 2) := xwf (xgf1 (by decide) ⟨(RX9, TX9, 7), by decide, by decide, rfl, by decide, "BestParses$Text", (xG_of 56 (by decide +kernel) (by decide +kernel)), (Or.inl rfl)⟩)
theorem sRX9_getfield_22 (ini : Bool) (pc : Nat) : xwc RX9 ini (pc, .getfield 22, 3, 8, 6) := xwf (xgf1 (by decide) ⟨(RX9, TX9, 7), by decide, by decide, rfl, by decide, "BestParses$Text", (xG_of 73 (by decide +kernel) (by decide +kernel)), (Or.inl rfl)⟩)
theorem sRX9_getfield_15 (ini : Bool) (pc : Nat) : xwc RX9 ini (pc, .getfield 15, 3, 8, 4) := xwf (xgf1 (by decide) ⟨(RX9, TX9, 7), by decide, by decide, rfl, by decide, "BestParses$Text", (xG_of 71 (by decide +kernel) (by decide +kernel)), (Or.inl rfl)⟩)
theorem sRX9_putfield_32 (ini : Bool) (pc : Nat) : xwc RX9 ini (pc, .putfield 32, 3, 8, 3) := xwp (xgp1 (by decide) ⟨⟨(RX9, TX9, 7), by decide, by decide, rfl, by decide, "BestParses$Text", (xG_of 63 (by decide +kernel) (by decide +kernel)), (Or.inl rfl)⟩, (xpf1 (q := (RX9, TX9, 7)) rfl (Or.inl rfl))⟩)
theorem sRX9_invokevirtual_35 (ini : Bool) (pc : Nat) : xwc RX9 ini (pc, .invokevirtual 35, 3, 68, 4) := xwv ⟨by decide, fun k j hx => by obtain ⟨rfl, rfl⟩ := xtg_d (by decide) hx; exact ⟨by decide, yX9_noteCopies, cX9_noteCopies, none, false, (RX9, TX9, 7), rfl, by decide, by decide, rfl, (xG_of 680 (by decide +kernel) (by decide +kernel)), (xG_of 3 (by decide +kernel) (by decide +kernel)), Or.inl ⟨(xG_of 678 (by decide +kernel) (by decide +kernel)), (xG_s 1 (by decide +kernel) (by decide +kernel)), by decide +kernel, by decide +kernel, by decide +kernel⟩⟩⟩
theorem sRX9_getfield_29 (ini : Bool) (pc : Nat) : xwc RX9 ini (pc, .getfield 29, 3, 8, 1) := xwf (xgf1 (by decide) ⟨(RX9, TX9, 7), by decide, by decide, rfl, by decide, "BestParses$Text", (xG_of 55 (by decide +kernel) (by decide +kernel)), (Or.inl rfl)⟩)
theorem sRX9_invokestatic_39 (ini : Bool) (pc : Nat) : xwc RX9 ini (pc, .invokestatic 39, 3, 1001, 2) := xwb (by decide) (by decide) ⟨fun z => absurd z (by decide), fun _ => ⟨(xG_of 682 (by decide +kernel) (by decide +kernel)), (xG_of 38 (by decide +kernel) (by decide +kernel)), (xG_of 2 (by decide +kernel) (by decide +kernel)), (xG_of 39 (by decide +kernel) (by decide +kernel))⟩, fun z => absurd z (by decide)⟩
theorem sRX9_getfield_19 (ini : Bool) (pc : Nat) : xwc RX9 ini (pc, .getfield 19, 3, 8, 5) := xwf (xgf1 (by decide) ⟨(RX9, TX9, 7), by decide, by decide, rfl, by decide, "BestParses$Text", (xG_of 72 (by decide +kernel) (by decide +kernel)), (Or.inl rfl)⟩)
theorem sRX9_invokestatic_45 (ini : Bool) (pc : Nat) : xwc RX9 ini (pc, .invokestatic 45, 3, 72, 2) := xws (by decide) (fun _ => ⟨by decide, yX9_nearestIndex, cX9_nearestIndex, some .int, false, rfl, (xG_of 684 (by decide +kernel) (by decide +kernel)), (xG_of 3 (by decide +kernel) (by decide +kernel)), ⟨by decide +kernel, by decide +kernel, by decide +kernel⟩, (Or.inl (xG_of 683 (by decide +kernel) (by decide +kernel)))⟩)
theorem sRX9_invokevirtual_48 (ini : Bool) (pc : Nat) : xwc RX9 ini (pc, .invokevirtual 48, 3, 66, 2) := xwv ⟨by decide, fun k j hx => by obtain ⟨rfl, rfl⟩ := xtg_d (by decide) hx; exact ⟨by decide, yX9_has, cX9_has, some .boolean, false, (RX9, TX9, 7), rfl, by decide, by decide, rfl, (xG_of 780 (by decide +kernel) (by decide +kernel)), (xG_of 3 (by decide +kernel) (by decide +kernel)), Or.inl ⟨(xG_of 779 (by decide +kernel) (by decide +kernel)), (xG_of 781 (by decide +kernel) (by decide +kernel)), by decide +kernel, by decide +kernel, by decide +kernel⟩⟩⟩
theorem sRX9_getfield_25 (ini : Bool) (pc : Nat) : xwc RX9 ini (pc, .getfield 25, 3, 8, 0) := xwf (xgf1 (by decide) ⟨(RX9, TX9, 7), by decide, by decide, rfl, by decide, "BestParses$Text", (xG_of 50 (by decide +kernel) (by decide +kernel)), (Or.inl rfl)⟩)
theorem sRX10_invokespecial_1 (ini : Bool) (pc : Nat) : xwc RX10 ini (pc, .invokespecial 1, 3, 1003, 1) := xwo (fun _ => ⟨(xG_of 34 (by decide +kernel) (by decide +kernel)), (xG_of 35 (by decide +kernel) (by decide +kernel)), (xG_of 36 (by decide +kernel) (by decide +kernel))⟩)
end
section
/-! what each field, call and constant asks of the words, by class and pool number -/
theorem sRX10_invokestatic_9 (ini : Bool) (pc : Nat) : xwc RX10 ini (pc, .invokestatic 9, 3, 1001, 2) := xwb (by decide) (by decide) ⟨fun z => absurd z (by decide), fun _ => ⟨(xG_of 37 (by decide +kernel) (by decide +kernel)), (xG_of 38 (by decide +kernel) (by decide +kernel)), (xG_of 2 (by decide +kernel) (by decide +kernel)), (xG_of 39 (by decide +kernel) (by decide +kernel))⟩, fun z => absurd z (by decide)⟩
theorem sRX10_invokestatic_15 (ini : Bool) (pc : Nat) : xwc RX10 ini (pc, .invokestatic 15, 3, 1000, 2) := xwb (by decide) (by decide) ⟨fun _ => ⟨(xG_of 40 (by decide +kernel) (by decide +kernel)), (xG_of 41 (by decide +kernel) (by decide +kernel)), (xG_of 2 (by decide +kernel) (by decide +kernel)), (xG_of 42 (by decide +kernel) (by decide +kernel))⟩, fun z => absurd z (by decide), fun z => absurd z (by decide)⟩
theorem sRX10_putfield_18 (pc : Nat) : xwc RX10 true (pc, .putfield 18, 3, 9, 0) := xwp (xgp1 (by decide) ⟨⟨(RX10, TX10, 12), by decide, by decide, rfl, by decide, "BestParses", (xG_of 633 (by decide +kernel) (by decide +kernel)), (Or.inl rfl)⟩, (xpf1 (q := (RX10, TX10, 12)) rfl (Or.inr ⟨rfl, rfl, rfl⟩))⟩)
theorem sRX10_new_22 (ini : Bool) (pc : Nat) : xwc RX10 ini (pc, .new 22, 3, 8, 0) := xwn (fun q hq => by cases hq; exact (xG_of 43 (by decide +kernel) (by decide +kernel)))
theorem sRX10_getfield_18 (ini : Bool) (pc : Nat) : xwc RX10 ini (pc, .getfield 18, 3, 9, 0) := xwf (xgf1 (by decide) ⟨(RX10, TX10, 12), by decide, by decide, rfl, by decide, "BestParses", (xG_of 633 (by decide +kernel) (by decide +kernel)), (Or.inl rfl)⟩)
theorem sRX10_invokespecial_24 (ini : Bool) (pc : Nat) : xwc RX10 ini (pc, .invokespecial 24, 3, 65, 2) := xwi (by decide) (fun _ => ⟨by decide, by decide, yX9_init, cX9_init, true, rfl, rfl, (xG_of 46 (by decide +kernel) (by decide +kernel)), (xG_of 3 (by decide +kernel) (by decide +kernel)), ⟨by decide +kernel, by decide +kernel, by decide +kernel⟩, (Or.inl (xG_of 45 (by decide +kernel) (by decide +kernel)))⟩)
theorem sRX10_putfield_27 (pc : Nat) : xwc RX10 true (pc, .putfield 27, 3, 9, 1) := xwp (xgp1 (by decide) ⟨⟨(RX10, TX10, 12), by decide, by decide, rfl, by decide, "BestParses", (xG_of 634 (by decide +kernel) (by decide +kernel)), (Or.inl rfl)⟩, (xpf1 (q := (RX10, TX10, 12)) rfl (Or.inr ⟨rfl, rfl, rfl⟩))⟩)
theorem sRX10_new_31 (ini : Bool) (pc : Nat) : xwc RX10 ini (pc, .new 31, 3, 2, 0) := xwn (fun q hq => by cases hq; exact (xG_of 90 (by decide +kernel) (by decide +kernel)))
theorem sRX10_invokespecial_33 (ini : Bool) (pc : Nat) : xwc RX10 ini (pc, .invokespecial 33, 3, 7, 2) := xwi (by decide) (fun _ => ⟨by decide, by decide, yX1_init, cX1_init, true, rfl, rfl, (xG_of 93 (by decide +kernel) (by decide +kernel)), (xG_of 4 (by decide +kernel) (by decide +kernel)), ⟨by decide +kernel, by decide +kernel, by decide +kernel⟩, (Or.inl (xG_of 92 (by decide +kernel) (by decide +kernel)))⟩)
theorem sRX10_putfield_34 (pc : Nat) : xwc RX10 true (pc, .putfield 34, 3, 9, 2) := xwp (xgp1 (by decide) ⟨⟨(RX10, TX10, 12), by decide, by decide, rfl, by decide, "BestParses", (xG_of 635 (by decide +kernel) (by decide +kernel)), (Or.inl rfl)⟩, (xpf1 (q := (RX10, TX10, 12)) rfl (Or.inr ⟨rfl, rfl, rfl⟩))⟩)
theorem sRX10_putfield_38 (pc : Nat) : xwc RX10 true (pc, .putfield 38, 3, 9, 3) := xwp (xgp1 (by decide) ⟨⟨(RX10, TX10, 12), by decide, by decide, rfl, by decide, "BestParses", (xG_of 636 (by decide +kernel) (by decide +kernel)), (Or.inl rfl)⟩, (xpf1 (q := (RX10, TX10, 12)) rfl (Or.inr ⟨rfl, rfl, rfl⟩))⟩)
theorem sRX10_new_41 (ini : Bool) (pc : Nat) : xwc RX10 ini (pc, .new 41, 3, 6, 0) := xwn (fun q hq => by cases hq; exact (xG_of 435 (by decide +kernel) (by decide +kernel)))
theorem sRX10_getfield_27 (ini : Bool) (pc : Nat) : xwc RX10 ini (pc, .getfield 27, 3, 9, 1) := xwf (xgf1 (by decide) ⟨(RX10, TX10, 12), by decide, by decide, rfl, by decide, "BestParses", (xG_of 634 (by decide +kernel) (by decide +kernel)), (Or.inl rfl)⟩)
theorem sRX10_getfield_34 (ini : Bool) (pc : Nat) : xwc RX10 ini (pc, .getfield 34, 3, 9, 2) := xwf (xgf1 (by decide) ⟨(RX10, TX10, 12), by decide, by decide, rfl, by decide, "BestParses", (xG_of 635 (by decide +kernel) (by decide +kernel)), (Or.inl rfl)⟩)
theorem sRX10_invokespecial_43 (ini : Bool) (pc : Nat) : xwc RX10 ini (pc, .invokespecial 43, 3, 57, 3) := xwi (by decide) (fun _ => ⟨by decide, by decide, yX7_init, cX7_init, true, rfl, rfl, (xG_of 438 (by decide +kernel) (by decide +kernel)), (xG_of 21 (by decide +kernel) (by decide +kernel)), ⟨by decide +kernel, by decide +kernel, by decide +kernel⟩, (Or.inl (xG_of 437 (by decide +kernel) (by decide +kernel)))⟩)
theorem sRX10_putfield_46 (pc : Nat) : xwc RX10 true (pc, .putfield 46, 3, 9, 4) := xwp (xgp1 (by decide) ⟨⟨(RX10, TX10, 12), by decide, by decide, rfl, by decide, "BestParses", (xG_of 637 (by decide +kernel) (by decide +kernel)), (Or.inl rfl)⟩, (xpf1 (q := (RX10, TX10, 12)) rfl (Or.inr ⟨rfl, rfl, rfl⟩))⟩)
theorem sRX10_new_50 (ini : Bool) (pc : Nat) : xwc RX10 ini (pc, .new 50, 3, 4, 0) := xwn (fun q hq => by cases hq; exact (xG_of 467 (by decide +kernel) (by decide +kernel)))
theorem sRX10_invokespecial_52 (ini : Bool) (pc : Nat) : xwc RX10 ini (pc, .invokespecial 52, 3, 41, 3) := xwi (by decide) (fun _ => ⟨by decide, by decide, yX5_init, cX5_init, true, rfl, rfl, (xG_of 470 (by decide +kernel) (by decide +kernel)), (xG_of 22 (by decide +kernel) (by decide +kernel)), ⟨by decide +kernel, by decide +kernel, by decide +kernel⟩, (Or.inl (xG_of 469 (by decide +kernel) (by decide +kernel)))⟩)
theorem sRX10_new_53 (ini : Bool) (pc : Nat) : xwc RX10 ini (pc, .new 53, 3, 3, 0) := xwn (fun q hq => by cases hq; exact (xG_of 494 (by decide +kernel) (by decide +kernel)))
theorem sRX10_invokespecial_55 (ini : Bool) (pc : Nat) : xwc RX10 ini (pc, .invokespecial 55, 3, 30, 3) := xwi (by decide) (fun _ => ⟨by decide, by decide, yX4_init, cX4_init, true, rfl, rfl, (xG_of 497 (by decide +kernel) (by decide +kernel)), (xG_of 23 (by decide +kernel) (by decide +kernel)), ⟨by decide +kernel, by decide +kernel, by decide +kernel⟩, (Or.inl (xG_of 496 (by decide +kernel) (by decide +kernel)))⟩)
theorem sRX10_new_56 (ini : Bool) (pc : Nat) : xwc RX10 ini (pc, .new 56, 3, 7, 0) := xwn (fun q hq => by cases hq; exact (xG_of 535 (by decide +kernel) (by decide +kernel)))
theorem sRX10_invokespecial_58 (ini : Bool) (pc : Nat) : xwc RX10 ini (pc, .invokespecial 58, 3, 61, 3) := xwi (by decide) (fun _ => ⟨by decide, by decide, yX8_init, cX8_init, true, rfl, rfl, (xG_of 538 (by decide +kernel) (by decide +kernel)), (xG_of 24 (by decide +kernel) (by decide +kernel)), ⟨by decide +kernel, by decide +kernel, by decide +kernel⟩, (Or.inl (xG_of 537 (by decide +kernel) (by decide +kernel)))⟩)
theorem sRX10_putfield_61 (pc : Nat) : xwc RX10 true (pc, .putfield 61, 3, 9, 5) := xwp (xgp1 (by decide) ⟨⟨(RX10, TX10, 12), by decide, by decide, rfl, by decide, "BestParses", (xG_of 638 (by decide +kernel) (by decide +kernel)), (Or.inl rfl)⟩, (xpf1 (q := (RX10, TX10, 12)) rfl (Or.inr ⟨rfl, rfl, rfl⟩))⟩)
theorem sRX10_new_65 (ini : Bool) (pc : Nat) : xwc RX10 ini (pc, .new 65, 3, 1, 0) := xwn (fun q hq => by cases hq; exact (xG_of 548 (by decide +kernel) (by decide +kernel)))
theorem sRX10_invokespecial_67 (ini : Bool) (pc : Nat) : xwc RX10 ini (pc, .invokespecial 67, 3, 0, 2) := xwi (by decide) (fun _ => ⟨by decide, by decide, yX0_init, cX0_init, true, rfl, rfl, (xG_of 551 (by decide +kernel) (by decide +kernel)), (xG_of 25 (by decide +kernel) (by decide +kernel)), ⟨by decide +kernel, by decide +kernel, by decide +kernel⟩, (Or.inl (xG_of 550 (by decide +kernel) (by decide +kernel)))⟩)
theorem sRX10_putfield_70 (pc : Nat) : xwc RX10 true (pc, .putfield 70, 3, 9, 6) := xwp (xgp1 (by decide) ⟨⟨(RX10, TX10, 12), by decide, by decide, rfl, by decide, "BestParses", (xG_of 639 (by decide +kernel) (by decide +kernel)), (Or.inl rfl)⟩, (xpf1 (q := (RX10, TX10, 12)) rfl (Or.inr ⟨rfl, rfl, rfl⟩))⟩)
theorem sRX10_new_74 (ini : Bool) (pc : Nat) : xwc RX10 ini (pc, .new 74, 3, 5, 0) := xwn (fun q hq => by cases hq; exact (xG_of 585 (by decide +kernel) (by decide +kernel)))
theorem sRX10_invokespecial_76 (ini : Bool) (pc : Nat) : xwc RX10 ini (pc, .invokespecial 76, 3, 49, 1) := xwi (by decide) (fun _ => ⟨by decide, by decide, yX6_init, cX6_init, true, rfl, rfl, (xG_of 588 (by decide +kernel) (by decide +kernel)), (xG_of 26 (by decide +kernel) (by decide +kernel)), ⟨by decide +kernel, by decide +kernel, by decide +kernel⟩, (Or.inr ⟨"BestParses", by decide +kernel⟩)⟩)
theorem sRX10_putfield_77 (ini : Bool) (pc : Nat) : xwc RX10 ini (pc, .putfield 77, 3, 9, 7) := xwp (xgp1 (by decide) ⟨⟨(RX10, TX10, 12), by decide, by decide, rfl, by decide, "BestParses", (xG_of 640 (by decide +kernel) (by decide +kernel)), (Or.inl rfl)⟩, (xpf1 (q := (RX10, TX10, 12)) rfl (Or.inl rfl))⟩)
theorem sRX10_putfield_81 (ini : Bool) (pc : Nat) : xwc RX10 ini (pc, .putfield 81, 3, 9, 8) := xwp (xgp1 (by decide) ⟨⟨(RX10, TX10, 12), by decide, by decide, rfl, by decide, "BestParses", (xG_of 641 (by decide +kernel) (by decide +kernel)), (Or.inl rfl)⟩, (xpf1 (q := (RX10, TX10, 12)) rfl (Or.inl rfl))⟩)
theorem sRX10_putfield_84 (ini : Bool) (pc : Nat) : xwc RX10 ini (pc, .putfield 84, 3, 9, 10) := xwp (xgp1 (by decide) ⟨⟨(RX10, TX10, 12), by decide, by decide, rfl, by decide, "BestParses", (xG_of 643 (by decide +kernel) (by decide +kernel)), (Or.inl rfl)⟩, (xpf1 (q := (RX10, TX10, 12)) rfl (Or.inl rfl))⟩)
theorem sRX10_getfield_87 (ini : Bool) (pc : Nat) : xwc RX10 ini (pc, .getfield 87, 3, 8, 3) := xwf (xgf1 (by decide) ⟨(RX9, TX9, 7), by decide, by decide, rfl, by decide, "BestParses$Text", (xG_of 64 (by decide +kernel) (by decide +kernel)), (Or.inl rfl)⟩)
theorem sRX10_invokevirtual_90 (ini : Bool) (pc : Nat) : xwc RX10 ini (pc, .invokevirtual 90, 3, 67, 2) := xwv ⟨by decide, fun k j hx => by obtain ⟨rfl, rfl⟩ := xtg_d (by decide) hx; exact ⟨by decide, yX9_append, cX9_append, none, false, (RX9, TX9, 7), rfl, by decide, by decide, rfl, (xG_of 675 (by decide +kernel) (by decide +kernel)), (xG_of 3 (by decide +kernel) (by decide +kernel)), Or.inl ⟨(xG_of 674 (by decide +kernel) (by decide +kernel)), (xG_of 676 (by decide +kernel) (by decide +kernel)), by decide +kernel, by decide +kernel, by decide +kernel⟩⟩⟩
theorem sRX10_putfield_93 (ini : Bool) (pc : Nat) : xwc RX10 ini (pc, .putfield 93, 3, 9, 9) := xwp (xgp1 (by decide) ⟨⟨(RX10, TX10, 12), by decide, by decide, rfl, by decide, "BestParses", (xG_of 642 (by decide +kernel) (by decide +kernel)), (Or.inl rfl)⟩, (xpf1 (q := (RX10, TX10, 12)) rfl (Or.inl rfl))⟩)
theorem sRX10_invokevirtual_97 (ini : Bool) (pc : Nat) : xwc RX10 ini (pc, .invokevirtual 97, 3, 9, 3) := xwv ⟨by decide, fun k j hx => by obtain ⟨rfl, rfl⟩ := xtg_d (by decide) hx; exact ⟨by decide, yX1_has, cX1_has, some .boolean, false, (RX1, TX1, 5), rfl, by decide, by decide, rfl, (xG_of 691 (by decide +kernel) (by decide +kernel)), (xG_of 4 (by decide +kernel) (by decide +kernel)), Or.inl ⟨(xG_of 690 (by decide +kernel) (by decide +kernel)), (xG_of 692 (by decide +kernel) (by decide +kernel)), by decide +kernel, by decide +kernel, by decide +kernel⟩⟩⟩
theorem sRX10_invokevirtual_101 (ini : Bool) (pc : Nat) : xwc RX10 ini (pc, .invokevirtual 101, 3, 10, 3) := xwv ⟨by decide, fun k j hx => by obtain ⟨rfl, rfl⟩ := xtg_d (by decide) hx; exact ⟨by decide, yX1_of, cX1_of, some .int, false, (RX1, TX1, 5), rfl, by decide, by decide, rfl, (xG_of 695 (by decide +kernel) (by decide +kernel)), (xG_of 4 (by decide +kernel) (by decide +kernel)), Or.inl ⟨(xG_of 694 (by decide +kernel) (by decide +kernel)), (xG_of 696 (by decide +kernel) (by decide +kernel)), by decide +kernel, by decide +kernel, by decide +kernel⟩⟩⟩
theorem sRX10_invokevirtual_104 (ini : Bool) (pc : Nat) : xwc RX10 ini (pc, .invokevirtual 104, 3, 11, 4) := xwv ⟨by decide, fun k j hx => by obtain ⟨rfl, rfl⟩ := xtg_d (by decide) hx; exact ⟨by decide, yX1_put, cX1_put, none, false, (RX1, TX1, 5), rfl, by decide, by decide, rfl, (xG_of 700 (by decide +kernel) (by decide +kernel)), (xG_of 4 (by decide +kernel) (by decide +kernel)), Or.inl ⟨(xG_of 699 (by decide +kernel) (by decide +kernel)), (xG_of 701 (by decide +kernel) (by decide +kernel)), by decide +kernel, by decide +kernel, by decide +kernel⟩⟩⟩
theorem sRX10_getfield_84 (ini : Bool) (pc : Nat) : xwc RX10 ini (pc, .getfield 84, 3, 9, 10) := xwf (xgf1 (by decide) ⟨(RX10, TX10, 12), by decide, by decide, rfl, by decide, "BestParses", (xG_of 643 (by decide +kernel) (by decide +kernel)), (Or.inl rfl)⟩)
theorem sRX10_getfield_77 (ini : Bool) (pc : Nat) : xwc RX10 ini (pc, .getfield 77, 3, 9, 7) := xwf (xgf1 (by decide) ⟨(RX10, TX10, 12), by decide, by decide, rfl, by decide, "BestParses", (xG_of 640 (by decide +kernel) (by decide +kernel)), (Or.inl rfl)⟩)
theorem sRX10_invokevirtual_108 (ini : Bool) (pc : Nat) : xwc RX10 ini (pc, .invokevirtual 108, 3, 92, 2) := xwv ⟨by decide, fun k j hx => by obtain ⟨rfl, rfl⟩ := xtg_d (by decide) hx; exact ⟨by decide, yX10_findBest, cX10_findBest, none, false, (RX10, TX10, 12), rfl, by decide, by decide, rfl, (xG_of 717 (by decide +kernel) (by decide +kernel)), (xG_of 1 (by decide +kernel) (by decide +kernel)), Or.inl ⟨(xG_of 715 (by decide +kernel) (by decide +kernel)), (xG_s 2 (by decide +kernel) (by decide +kernel)), by decide +kernel, by decide +kernel, by decide +kernel⟩⟩⟩
theorem sRX10_getfield_61 (ini : Bool) (pc : Nat) : xwc RX10 ini (pc, .getfield 61, 3, 9, 5) := xwf (xgf1 (by decide) ⟨(RX10, TX10, 12), by decide, by decide, rfl, by decide, "BestParses", (xG_of 638 (by decide +kernel) (by decide +kernel)), (Or.inl rfl)⟩)
theorem sRX10_invokevirtual_112 (ini : Bool) (pc : Nat) : xwc RX10 ini (pc, .invokevirtual 112, 3, 62, 3) := xwv ⟨by decide, fun k j hx => by obtain ⟨rfl, rfl⟩ := xtg_d (by decide) hx; exact ⟨by decide, yX8_walk, cX8_walk, none, false, (RX8, TX8, 2), rfl, by decide, by decide, rfl, (xG_of 917 (by decide +kernel) (by decide +kernel)), (xG_of 24 (by decide +kernel) (by decide +kernel)), Or.inl ⟨(xG_of 916 (by decide +kernel) (by decide +kernel)), (xG_of 918 (by decide +kernel) (by decide +kernel)), by decide +kernel, by decide +kernel, by decide +kernel⟩⟩⟩
theorem sRX10_getfield_46 (ini : Bool) (pc : Nat) : xwc RX10 ini (pc, .getfield 46, 3, 9, 4) := xwf (xgf1 (by decide) ⟨(RX10, TX10, 12), by decide, by decide, rfl, by decide, "BestParses", (xG_of 637 (by decide +kernel) (by decide +kernel)), (Or.inl rfl)⟩)
theorem sRX10_invokevirtual_116 (ini : Bool) (pc : Nat) : xwc RX10 ini (pc, .invokevirtual 116, 3, 2000, 2) := xwv ⟨by decide, fun k j hx => by
  have h3 : (k = 3 ∧ j = 26) ∨ (k = 4 ∧ j = 46) ∨ (k = 6 ∧ j = 26) := by
    unfold xtg at hx
    rw [if_neg (by decide)] at hx
    repeat' split at hx
    all_goals first | contradiction | (cases hx; simp_all; done) | (rename_i z; exact absurd z (by decide)) | skip
  rcases h3 with ⟨rfl, rfl⟩ | ⟨rfl, rfl⟩ | ⟨rfl, rfl⟩
  · exact ⟨by decide, yX2_costOf, cX2_costOf, some .long, false, (RX4, TX4, 12), rfl, by decide, by decide, rfl, (xG_of 890 (by decide +kernel) (by decide +kernel)), (xG_of 20 (by decide +kernel) (by decide +kernel)), Or.inr ⟨({ cls := "BestParses$Form", name := "costOf", desc := "(LBestParses$Parse;)J" } : MethodName), "BestParses$Form", (xG_of 889 (by decide +kernel) (by decide +kernel)), (xG_of 891 (by decide +kernel) (by decide +kernel)), (xG_of 892 (by decide +kernel) (by decide +kernel)), ⟨by decide +kernel, by decide +kernel, by decide +kernel⟩, (Or.inr ⟨(xG_of 890 (by decide +kernel) (by decide +kernel)), prog_4_method_3_code, 4, some .long, (xG_of 897 (by decide +kernel) (by decide +kernel))⟩)⟩⟩
  · exact ⟨by decide, yX5_costOf, cX5_costOf, some .long, false, (RX5, TX5, 7), rfl, by decide, by decide, rfl, (xG_of 894 (by decide +kernel) (by decide +kernel)), (xG_of 22 (by decide +kernel) (by decide +kernel)), Or.inr ⟨({ cls := "BestParses$Form", name := "costOf", desc := "(LBestParses$Parse;)J" } : MethodName), "BestParses$Form", (xG_of 889 (by decide +kernel) (by decide +kernel)), (xG_of 891 (by decide +kernel) (by decide +kernel)), (xG_of 893 (by decide +kernel) (by decide +kernel)), ⟨by decide +kernel, by decide +kernel, by decide +kernel⟩, (Or.inr ⟨(xG_of 890 (by decide +kernel) (by decide +kernel)), prog_4_method_3_code, 4, some .long, (xG_of 897 (by decide +kernel) (by decide +kernel))⟩)⟩⟩
  · exact ⟨by decide, yX2_costOf, cX2_costOf, some .long, false, (RX7, TX7, 4), rfl, by decide, by decide, rfl, (xG_of 890 (by decide +kernel) (by decide +kernel)), (xG_of 20 (by decide +kernel) (by decide +kernel)), Or.inr ⟨({ cls := "BestParses$Form", name := "costOf", desc := "(LBestParses$Parse;)J" } : MethodName), "BestParses$Form", (xG_of 889 (by decide +kernel) (by decide +kernel)), (xG_of 891 (by decide +kernel) (by decide +kernel)), (xG_of 896 (by decide +kernel) (by decide +kernel)), ⟨by decide +kernel, by decide +kernel, by decide +kernel⟩, (Or.inr ⟨(xG_of 890 (by decide +kernel) (by decide +kernel)), prog_4_method_3_code, 4, some .long, (xG_of 897 (by decide +kernel) (by decide +kernel))⟩)⟩⟩⟩
theorem sRX10_invokevirtual_122 (ini : Bool) (pc : Nat) : xwc RX10 ini (pc, .invokevirtual 122, 3, 55, 4) := xwv ⟨by decide, fun k j hx => by obtain ⟨rfl, rfl⟩ := xtg_d (by decide) hx; exact ⟨by decide, yX6_finish, cX6_finish, none, false, (RX6, TX6, 8), rfl, by decide, by decide, rfl, (xG_of 909 (by decide +kernel) (by decide +kernel)), (xG_of 26 (by decide +kernel) (by decide +kernel)), Or.inl ⟨(xG_of 908 (by decide +kernel) (by decide +kernel)), (xG_of 910 (by decide +kernel) (by decide +kernel)), by decide +kernel, by decide +kernel, by decide +kernel⟩⟩⟩
theorem sRX10_getfield_126 (ini : Bool) (pc : Nat) : xwc RX10 ini (pc, .getfield 126, 3, 5, 5) := xwf (xgf1 (by decide) ⟨(RX6, TX6, 8), by decide, by decide, rfl, by decide, "BestParses$Parse", (xG_of 610 (by decide +kernel) (by decide +kernel)), (Or.inl rfl)⟩)
theorem sRX10_getfield_93 (ini : Bool) (pc : Nat) : xwc RX10 ini (pc, .getfield 93, 3, 9, 9) := xwf (xgf1 (by decide) ⟨(RX10, TX10, 12), by decide, by decide, rfl, by decide, "BestParses", (xG_of 642 (by decide +kernel) (by decide +kernel)), (Or.inl rfl)⟩)
theorem sRX10_invokevirtual_129 (ini : Bool) (pc : Nat) : xwc RX10 ini (pc, .invokevirtual 129, 3, 50, 2) := xwv ⟨by decide, fun k j hx => by obtain ⟨rfl, rfl⟩ := xtg_d (by decide) hx; exact ⟨by decide, yX6_hasStep, cX6_hasStep, some .boolean, false, (RX6, TX6, 8), rfl, by decide, by decide, rfl, (xG_of 903 (by decide +kernel) (by decide +kernel)), (xG_of 26 (by decide +kernel) (by decide +kernel)), Or.inl ⟨(xG_of 941 (by decide +kernel) (by decide +kernel)), (xG_of 904 (by decide +kernel) (by decide +kernel)), by decide +kernel, by decide +kernel, by decide +kernel⟩⟩⟩
theorem sRX10_getfield_133 (ini : Bool) (pc : Nat) : xwc RX10 ini (pc, .getfield 133, 3, 5, 0) := xwf (xgf1 (by decide) ⟨(RX6, TX6, 8), by decide, by decide, rfl, by decide, "BestParses$Parse", (xG_of 592 (by decide +kernel) (by decide +kernel)), (Or.inl rfl)⟩)
theorem sRX10_getfield_137 (ini : Bool) (pc : Nat) : xwc RX10 ini (pc, .getfield 137, 3, 5, 1) := xwf (xgf1 (by decide) ⟨(RX6, TX6, 8), by decide, by decide, rfl, by decide, "BestParses$Parse", (xG_of 596 (by decide +kernel) (by decide +kernel)), (Or.inl rfl)⟩)
theorem sRX10_getfield_140 (ini : Bool) (pc : Nat) : xwc RX10 ini (pc, .getfield 140, 3, 5, 2) := xwf (xgf1 (by decide) ⟨(RX6, TX6, 8), by decide, by decide, rfl, by decide, "BestParses$Parse", (xG_of 599 (by decide +kernel) (by decide +kernel)), (Or.inl rfl)⟩)
theorem sRX10_getfield_143 (ini : Bool) (pc : Nat) : xwc RX10 ini (pc, .getfield 143, 3, 5, 3) := xwf (xgf1 (by decide) ⟨(RX6, TX6, 8), by decide, by decide, rfl, by decide, "BestParses$Parse", (xG_of 603 (by decide +kernel) (by decide +kernel)), (Or.inl rfl)⟩)
theorem sRX10_getfield_146 (ini : Bool) (pc : Nat) : xwc RX10 ini (pc, .getfield 146, 3, 5, 6) := xwf (xgf1 (by decide) ⟨(RX6, TX6, 8), by decide, by decide, rfl, by decide, "BestParses$Parse", (xG_of 613 (by decide +kernel) (by decide +kernel)), (Or.inl rfl)⟩)
theorem sRX10_ldc2_w_150 (ini : Bool) (pc : Nat) : xwc RX10 ini (pc, .ldc2_w 150, 3, 18446744073709551615, 0) := xwkj (xG_of 946 (by decide +kernel) (by decide +kernel))
theorem sRX10_getfield_152 (ini : Bool) (pc : Nat) : xwc RX10 ini (pc, .getfield 152, 3, 5, 7) := xwf (xgf1 (by decide) ⟨(RX6, TX6, 8), by decide, by decide, rfl, by decide, "BestParses$Parse", (xG_of 615 (by decide +kernel) (by decide +kernel)), (Or.inl rfl)⟩)
theorem sRX10_invokevirtual_155 (ini : Bool) (pc : Nat) : xwc RX10 ini (pc, .invokevirtual 155, 3, 66, 2) := xwv ⟨by decide, fun k j hx => by obtain ⟨rfl, rfl⟩ := xtg_d (by decide) hx; exact ⟨by decide, yX9_has, cX9_has, some .boolean, false, (RX9, TX9, 7), rfl, by decide, by decide, rfl, (xG_of 780 (by decide +kernel) (by decide +kernel)), (xG_of 3 (by decide +kernel) (by decide +kernel)), Or.inl ⟨(xG_of 959 (by decide +kernel) (by decide +kernel)), (xG_of 781 (by decide +kernel) (by decide +kernel)), by decide +kernel, by decide +kernel, by decide +kernel⟩⟩⟩
theorem sRX10_getfield_157 (ini : Bool) (pc : Nat) : xwc RX10 ini (pc, .getfield 157, 3, 5, 4) := xwf (xgf1 (by decide) ⟨(RX6, TX6, 8), by decide, by decide, rfl, by decide, "BestParses$Parse", (xG_of 606 (by decide +kernel) (by decide +kernel)), (Or.inl rfl)⟩)
theorem sRX10_getfield_81 (ini : Bool) (pc : Nat) : xwc RX10 ini (pc, .getfield 81, 3, 9, 8) := xwf (xgf1 (by decide) ⟨(RX10, TX10, 12), by decide, by decide, rfl, by decide, "BestParses", (xG_of 641 (by decide +kernel) (by decide +kernel)), (Or.inl rfl)⟩)
theorem sRX10_invokevirtual_160 (ini : Bool) (pc : Nat) : xwc RX10 ini (pc, .invokevirtual 160, 3, 21, 3) := xwv ⟨by decide, fun k j hx => by obtain ⟨rfl, rfl⟩ := xtg_d (by decide) hx; exact ⟨by decide, yX1_fitTo, cX1_fitTo, none, false, (RX1, TX1, 5), rfl, by decide, by decide, rfl, (xG_of 965 (by decide +kernel) (by decide +kernel)), (xG_of 4 (by decide +kernel) (by decide +kernel)), Or.inl ⟨(xG_of 964 (by decide +kernel) (by decide +kernel)), (xG_of 966 (by decide +kernel) (by decide +kernel)), by decide +kernel, by decide +kernel, by decide +kernel⟩⟩⟩
theorem sRX10_getfield_38 (ini : Bool) (pc : Nat) : xwc RX10 ini (pc, .getfield 38, 3, 9, 3) := xwf (xgf1 (by decide) ⟨(RX10, TX10, 12), by decide, by decide, rfl, by decide, "BestParses", (xG_of 636 (by decide +kernel) (by decide +kernel)), (Or.inl rfl)⟩)
theorem sRX10_invokevirtual_164 (ini : Bool) (pc : Nat) : xwc RX10 ini (pc, .invokevirtual 164, 3, 12, 2) := xwv ⟨by decide, fun k j hx => by obtain ⟨rfl, rfl⟩ := xtg_d (by decide) hx; exact ⟨by decide, yX1_copyFrom, cX1_copyFrom, none, false, (RX1, TX1, 5), rfl, by decide, by decide, rfl, (xG_of 987 (by decide +kernel) (by decide +kernel)), (xG_of 4 (by decide +kernel) (by decide +kernel)), Or.inl ⟨(xG_of 986 (by decide +kernel) (by decide +kernel)), (xG_of 988 (by decide +kernel) (by decide +kernel)), by decide +kernel, by decide +kernel, by decide +kernel⟩⟩⟩
theorem sRX10_invokevirtual_168 (ini : Bool) (pc : Nat) : xwc RX10 ini (pc, .invokevirtual 168, 3, 93, 1) := xwv ⟨by decide, fun k j hx => by obtain ⟨rfl, rfl⟩ := xtg_d (by decide) hx; exact ⟨by decide, yX10_takeSpare, cX10_takeSpare, none, false, (RX10, TX10, 12), rfl, by decide, by decide, rfl, (xG_of 993 (by decide +kernel) (by decide +kernel)), (xG_of 1 (by decide +kernel) (by decide +kernel)), Or.inl ⟨(xG_of 991 (by decide +kernel) (by decide +kernel)), (xG_s 25 (by decide +kernel) (by decide +kernel)), by decide +kernel, by decide +kernel, by decide +kernel⟩⟩⟩
theorem sRX10_invokevirtual_171 (ini : Bool) (pc : Nat) : xwc RX10 ini (pc, .invokevirtual 171, 3, 69, 2) := xwv ⟨by decide, fun k j hx => by obtain ⟨rfl, rfl⟩ := xtg_d (by decide) hx; exact ⟨by decide, yX9_longestCopy, cX9_longestCopy, some .int, false, (RX9, TX9, 7), rfl, by decide, by decide, rfl, (xG_of 776 (by decide +kernel) (by decide +kernel)), (xG_of 3 (by decide +kernel) (by decide +kernel)), Or.inl ⟨(xG_of 999 (by decide +kernel) (by decide +kernel)), (xG_of 777 (by decide +kernel) (by decide +kernel)), by decide +kernel, by decide +kernel, by decide +kernel⟩⟩⟩
theorem sRX10_invokevirtual_175 (ini : Bool) (pc : Nat) : xwc RX10 ini (pc, .invokevirtual 175, 3, 70, 3) := xwv ⟨by decide, fun k j hx => by obtain ⟨rfl, rfl⟩ := xtg_d (by decide) hx; exact ⟨by decide, yX9_copyDistance, cX9_copyDistance, some .int, false, (RX9, TX9, 7), rfl, by decide, by decide, rfl, (xG_of 784 (by decide +kernel) (by decide +kernel)), (xG_of 3 (by decide +kernel) (by decide +kernel)), Or.inl ⟨(xG_of 1004 (by decide +kernel) (by decide +kernel)), (xG_of 785 (by decide +kernel) (by decide +kernel)), by decide +kernel, by decide +kernel, by decide +kernel⟩⟩⟩
theorem sRX10_getfield_70 (ini : Bool) (pc : Nat) : xwc RX10 ini (pc, .getfield 70, 3, 9, 6) := xwf (xgf1 (by decide) ⟨(RX10, TX10, 12), by decide, by decide, rfl, by decide, "BestParses", (xG_of 639 (by decide +kernel) (by decide +kernel)), (Or.inl rfl)⟩)
theorem sRX10_invokevirtual_178 (ini : Bool) (pc : Nat) : xwc RX10 ini (pc, .invokevirtual 178, 3, 2, 2) := xwv ⟨by decide, fun k j hx => by obtain ⟨rfl, rfl⟩ := xtg_d (by decide) hx; exact ⟨by decide, yX0_addCut, cX0_addCut, some .boolean, false, (RX0, TX0, 9), rfl, by decide, by decide, rfl, (xG_of 1010 (by decide +kernel) (by decide +kernel)), (xG_of 25 (by decide +kernel) (by decide +kernel)), Or.inl ⟨(xG_of 1009 (by decide +kernel) (by decide +kernel)), (xG_of 1011 (by decide +kernel) (by decide +kernel)), by decide +kernel, by decide +kernel, by decide +kernel⟩⟩⟩
theorem sRX10_getfield_181 (ini : Bool) (pc : Nat) : xwc RX10 ini (pc, .getfield 181, 3, 1, 2) := xwf (xgf1 (by decide) ⟨(RX0, TX0, 9), by decide, by decide, rfl, by decide, "BestParses$Blocks", (xG_of 557 (by decide +kernel) (by decide +kernel)), (Or.inl rfl)⟩)
theorem sRX10_ldc_184 (ini : Bool) (pc : Nat) : xwc RX10 ini (pc, .ldc 184, 2, 100000, 0) := xwk (xG_of 1017 (by decide +kernel) (by decide +kernel))
theorem sRX10_invokevirtual_185 (ini : Bool) (pc : Nat) : xwc RX10 ini (pc, .invokevirtual 185, 3, 3, 2) := xwv ⟨by decide, fun k j hx => by obtain ⟨rfl, rfl⟩ := xtg_d (by decide) hx; exact ⟨by decide, yX0_divide, cX0_divide, some .long, false, (RX0, TX0, 9), rfl, by decide, by decide, rfl, (xG_of 1019 (by decide +kernel) (by decide +kernel)), (xG_of 25 (by decide +kernel) (by decide +kernel)), Or.inl ⟨(xG_of 1018 (by decide +kernel) (by decide +kernel)), (xG_of 1020 (by decide +kernel) (by decide +kernel)), by decide +kernel, by decide +kernel, by decide +kernel⟩⟩⟩
theorem sRX10_getfield_189 (ini : Bool) (pc : Nat) : xwc RX10 ini (pc, .getfield 189, 3, 1, 4) := xwf (xgf1 (by decide) ⟨(RX0, TX0, 9), by decide, by decide, rfl, by decide, "BestParses$Blocks", (xG_of 561 (by decide +kernel) (by decide +kernel)), (Or.inl rfl)⟩)
theorem sRX10_getfield_192 (ini : Bool) (pc : Nat) : xwc RX10 ini (pc, .getfield 192, 3, 1, 3) := xwf (xgf1 (by decide) ⟨(RX0, TX0, 9), by decide, by decide, rfl, by decide, "BestParses$Blocks", (xG_of 559 (by decide +kernel) (by decide +kernel)), (Or.inl rfl)⟩)
theorem sRX10_getfield_195 (ini : Bool) (pc : Nat) : xwc RX10 ini (pc, .getfield 195, 3, 9, 11) := xwf (xgf1 (by decide) ⟨(RX10, TX10, 12), by decide, by decide, rfl, by decide, "BestParses", (xG_of 644 (by decide +kernel) (by decide +kernel)), (Or.inl rfl)⟩)
theorem sRX10_putfield_87 (ini : Bool) (pc : Nat) : xwc RX10 ini (pc, .putfield 87, 3, 8, 3) := xwp (xgp1 (by decide) ⟨⟨(RX9, TX9, 7), by decide, by decide, rfl, by decide, "BestParses$Text", (xG_of 64 (by decide +kernel) (by decide +kernel)), (Or.inl rfl)⟩, (xpf1 (q := (RX9, TX9, 7)) rfl (Or.inl rfl))⟩)
theorem sRX10_invokevirtual_198 (ini : Bool) (pc : Nat) : xwc RX10 ini (pc, .invokevirtual 198, 3, 1, 1) := xwv ⟨by decide, fun k j hx => by obtain ⟨rfl, rfl⟩ := xtg_d (by decide) hx; exact ⟨by decide, yX0_forget, cX0_forget, none, false, (RX0, TX0, 9), rfl, by decide, by decide, rfl, (xG_of 1049 (by decide +kernel) (by decide +kernel)), (xG_of 25 (by decide +kernel) (by decide +kernel)), Or.inl ⟨(xG_of 1048 (by decide +kernel) (by decide +kernel)), (xG_of 1050 (by decide +kernel) (by decide +kernel)), by decide +kernel, by decide +kernel, by decide +kernel⟩⟩⟩
theorem sRX10_invokevirtual_201 (ini : Bool) (pc : Nat) : xwc RX10 ini (pc, .invokevirtual 201, 3, 8, 1) := xwv ⟨by decide, fun k j hx => by obtain ⟨rfl, rfl⟩ := xtg_d (by decide) hx; exact ⟨by decide, yX1_reset, cX1_reset, none, false, (RX1, TX1, 5), rfl, by decide, by decide, rfl, (xG_of 97 (by decide +kernel) (by decide +kernel)), (xG_of 4 (by decide +kernel) (by decide +kernel)), Or.inl ⟨(xG_of 1052 (by decide +kernel) (by decide +kernel)), (xG_of 98 (by decide +kernel) (by decide +kernel)), by decide +kernel, by decide +kernel, by decide +kernel⟩⟩⟩
theorem sRX10_putfield_195 (ini : Bool) (pc : Nat) : xwc RX10 ini (pc, .putfield 195, 3, 9, 11) := xwp (xgp1 (by decide) ⟨⟨(RX10, TX10, 12), by decide, by decide, rfl, by decide, "BestParses", (xG_of 644 (by decide +kernel) (by decide +kernel)), (Or.inl rfl)⟩, (xpf1 (q := (RX10, TX10, 12)) rfl (Or.inl rfl))⟩)
theorem sRX10_invokevirtual_214 (ini : Bool) (pc : Nat) : xwc RX10 ini (pc, .invokevirtual 214, 3, 2001, 3) := xwv ⟨by decide, fun k j hx => by
  have h3 : (k = 3 ∧ j = 31) ∨ (k = 4 ∧ j = 42) ∨ (k = 6 ∧ j = 58) := by
    unfold xtg at hx
    rw [if_neg (by decide)] at hx
    repeat' split at hx
    all_goals first | contradiction | (cases hx; simp_all; done) | (rename_i z; exact absurd z (by decide)) | skip
  rcases h3 with ⟨rfl, rfl⟩ | ⟨rfl, rfl⟩ | ⟨rfl, rfl⟩
  · exact ⟨by decide, yX4_findBest, cX4_findBest, some .int, false, (RX4, TX4, 12), rfl, by decide, by decide, rfl, (xG_of 723 (by decide +kernel) (by decide +kernel)), (xG_of 23 (by decide +kernel) (by decide +kernel)), Or.inr ⟨({ cls := "BestParses$Form", name := "findBest", desc := "(LBestParses$Parse;I)I" } : MethodName), "BestParses$Form", (xG_of 719 (by decide +kernel) (by decide +kernel)), (xG_of 721 (by decide +kernel) (by decide +kernel)), (xG_of 722 (by decide +kernel) (by decide +kernel)), ⟨by decide +kernel, by decide +kernel, by decide +kernel⟩, (Or.inl (by decide +kernel))⟩⟩
  · exact ⟨by decide, yX5_findBest, cX5_findBest, some .int, false, (RX5, TX5, 7), rfl, by decide, by decide, rfl, (xG_of 841 (by decide +kernel) (by decide +kernel)), (xG_of 22 (by decide +kernel) (by decide +kernel)), Or.inr ⟨({ cls := "BestParses$Form", name := "findBest", desc := "(LBestParses$Parse;I)I" } : MethodName), "BestParses$Form", (xG_of 719 (by decide +kernel) (by decide +kernel)), (xG_of 721 (by decide +kernel) (by decide +kernel)), (xG_of 840 (by decide +kernel) (by decide +kernel)), ⟨by decide +kernel, by decide +kernel, by decide +kernel⟩, (Or.inl (by decide +kernel))⟩⟩
  · exact ⟨by decide, yX7_findBest, cX7_findBest, some .int, false, (RX7, TX7, 4), rfl, by decide, by decide, rfl, (xG_of 869 (by decide +kernel) (by decide +kernel)), (xG_of 21 (by decide +kernel) (by decide +kernel)), Or.inr ⟨({ cls := "BestParses$Form", name := "findBest", desc := "(LBestParses$Parse;I)I" } : MethodName), "BestParses$Form", (xG_of 719 (by decide +kernel) (by decide +kernel)), (xG_of 721 (by decide +kernel) (by decide +kernel)), (xG_of 868 (by decide +kernel) (by decide +kernel)), ⟨by decide +kernel, by decide +kernel, by decide +kernel⟩, (Or.inl (by decide +kernel))⟩⟩⟩
theorem sRX10_invokestatic_217 (ini : Bool) (pc : Nat) : xwc RX10 ini (pc, .invokestatic 217, 3, 95, 1) := xws (by decide) (fun _ => ⟨by decide, yX10_highestBit, cX10_highestBit, some .int, false, rfl, (xG_of 741 (by decide +kernel) (by decide +kernel)), (xG_of 1 (by decide +kernel) (by decide +kernel)), ⟨by decide +kernel, by decide +kernel, by decide +kernel⟩, (Or.inl (xG_of 984 (by decide +kernel) (by decide +kernel)))⟩)
theorem sRX11_invokespecial_1 (ini : Bool) (pc : Nat) : xwc RX11 ini (pc, .invokespecial 1, 3, 1003, 1) := xwo (fun _ => ⟨(xG_of 1074 (by decide +kernel) (by decide +kernel)), (xG_of 35 (by decide +kernel) (by decide +kernel)), (xG_of 36 (by decide +kernel) (by decide +kernel))⟩)
theorem sRX11_newarray_int (ini : Bool) (pc : Nat) : xwc RX11 ini (pc, .newarray .int, 2, 0, 0) := xwa (xG_of 89 (by decide +kernel) (by decide +kernel))
theorem sRX11_putfield_7 (pc : Nat) : xwc RX11 true (pc, .putfield 7, 3, 10, 2) := xwp (xgp1 (by decide) ⟨⟨(RX11, TX11, 47), by decide, by decide, rfl, by decide, "BestParsesModel", (xG_of 1083 (by decide +kernel) (by decide +kernel)), (Or.inl rfl)⟩, (xpf1 (q := (RX11, TX11, 47)) rfl (Or.inr ⟨rfl, rfl, rfl⟩))⟩)
theorem sRX11_putfield_13 (pc : Nat) : xwc RX11 true (pc, .putfield 13, 3, 10, 4) := xwp (xgp1 (by decide) ⟨⟨(RX11, TX11, 47), by decide, by decide, rfl, by decide, "BestParsesModel", (xG_of 1085 (by decide +kernel) (by decide +kernel)), (Or.inl rfl)⟩, (xpf1 (q := (RX11, TX11, 47)) rfl (Or.inr ⟨rfl, rfl, rfl⟩))⟩)
theorem sRX11_putfield_16 (ini : Bool) (pc : Nat) : xwc RX11 ini (pc, .putfield 16, 3, 10, 5) := xwp (xgp1 (by decide) ⟨⟨(RX11, TX11, 47), by decide, by decide, rfl, by decide, "BestParsesModel", (xG_of 1086 (by decide +kernel) (by decide +kernel)), (Or.inl rfl)⟩, (xpf1 (q := (RX11, TX11, 47)) rfl (Or.inl rfl))⟩)
theorem sRX11_putfield_20 (pc : Nat) : xwc RX11 true (pc, .putfield 20, 3, 10, 6) := xwp (xgp1 (by decide) ⟨⟨(RX11, TX11, 47), by decide, by decide, rfl, by decide, "BestParsesModel", (xG_of 1087 (by decide +kernel) (by decide +kernel)), (Or.inl rfl)⟩, (xpf1 (q := (RX11, TX11, 47)) rfl (Or.inr ⟨rfl, rfl, rfl⟩))⟩)
theorem sRX11_putfield_23 (pc : Nat) : xwc RX11 true (pc, .putfield 23, 3, 10, 8) := xwp (xgp1 (by decide) ⟨⟨(RX11, TX11, 47), by decide, by decide, rfl, by decide, "BestParsesModel", (xG_of 1089 (by decide +kernel) (by decide +kernel)), (Or.inl rfl)⟩, (xpf1 (q := (RX11, TX11, 47)) rfl (Or.inr ⟨rfl, rfl, rfl⟩))⟩)
theorem sRX11_putfield_26 (pc : Nat) : xwc RX11 true (pc, .putfield 26, 3, 10, 12) := xwp (xgp1 (by decide) ⟨⟨(RX11, TX11, 47), by decide, by decide, rfl, by decide, "BestParsesModel", (xG_of 1093 (by decide +kernel) (by decide +kernel)), (Or.inl rfl)⟩, (xpf1 (q := (RX11, TX11, 47)) rfl (Or.inr ⟨rfl, rfl, rfl⟩))⟩)
theorem sRX11_putfield_29 (pc : Nat) : xwc RX11 true (pc, .putfield 29, 3, 10, 13) := xwp (xgp1 (by decide) ⟨⟨(RX11, TX11, 47), by decide, by decide, rfl, by decide, "BestParsesModel", (xG_of 1094 (by decide +kernel) (by decide +kernel)), (Or.inl rfl)⟩, (xpf1 (q := (RX11, TX11, 47)) rfl (Or.inr ⟨rfl, rfl, rfl⟩))⟩)
theorem sRX11_putfield_32 (pc : Nat) : xwc RX11 true (pc, .putfield 32, 3, 10, 14) := xwp (xgp1 (by decide) ⟨⟨(RX11, TX11, 47), by decide, by decide, rfl, by decide, "BestParsesModel", (xG_of 1095 (by decide +kernel) (by decide +kernel)), (Or.inl rfl)⟩, (xpf1 (q := (RX11, TX11, 47)) rfl (Or.inr ⟨rfl, rfl, rfl⟩))⟩)
theorem sRX11_putfield_35 (pc : Nat) : xwc RX11 true (pc, .putfield 35, 3, 10, 15) := xwp (xgp1 (by decide) ⟨⟨(RX11, TX11, 47), by decide, by decide, rfl, by decide, "BestParsesModel", (xG_of 1096 (by decide +kernel) (by decide +kernel)), (Or.inl rfl)⟩, (xpf1 (q := (RX11, TX11, 47)) rfl (Or.inr ⟨rfl, rfl, rfl⟩))⟩)
theorem sRX11_ldc_38 (ini : Bool) (pc : Nat) : xwc RX11 ini (pc, .ldc 38, 2, 90601, 0) := xwk (xG_of 1075 (by decide +kernel) (by decide +kernel))
theorem sRX11_putfield_39 (pc : Nat) : xwc RX11 true (pc, .putfield 39, 3, 10, 19) := xwp (xgp1 (by decide) ⟨⟨(RX11, TX11, 47), by decide, by decide, rfl, by decide, "BestParsesModel", (xG_of 1100 (by decide +kernel) (by decide +kernel)), (Or.inl rfl)⟩, (xpf1 (q := (RX11, TX11, 47)) rfl (Or.inr ⟨rfl, rfl, rfl⟩))⟩)
theorem sRX11_putfield_42 (pc : Nat) : xwc RX11 true (pc, .putfield 42, 3, 10, 20) := xwp (xgp1 (by decide) ⟨⟨(RX11, TX11, 47), by decide, by decide, rfl, by decide, "BestParsesModel", (xG_of 1101 (by decide +kernel) (by decide +kernel)), (Or.inl rfl)⟩, (xpf1 (q := (RX11, TX11, 47)) rfl (Or.inr ⟨rfl, rfl, rfl⟩))⟩)
theorem sRX11_putfield_45 (pc : Nat) : xwc RX11 true (pc, .putfield 45, 3, 10, 21) := xwp (xgp1 (by decide) ⟨⟨(RX11, TX11, 47), by decide, by decide, rfl, by decide, "BestParsesModel", (xG_of 1102 (by decide +kernel) (by decide +kernel)), (Or.inl rfl)⟩, (xpf1 (q := (RX11, TX11, 47)) rfl (Or.inr ⟨rfl, rfl, rfl⟩))⟩)
theorem sRX11_putfield_48 (pc : Nat) : xwc RX11 true (pc, .putfield 48, 3, 10, 23) := xwp (xgp1 (by decide) ⟨⟨(RX11, TX11, 47), by decide, by decide, rfl, by decide, "BestParsesModel", (xG_of 1104 (by decide +kernel) (by decide +kernel)), (Or.inl rfl)⟩, (xpf1 (q := (RX11, TX11, 47)) rfl (Or.inr ⟨rfl, rfl, rfl⟩))⟩)
theorem sRX11_putfield_51 (pc : Nat) : xwc RX11 true (pc, .putfield 51, 3, 10, 24) := xwp (xgp1 (by decide) ⟨⟨(RX11, TX11, 47), by decide, by decide, rfl, by decide, "BestParsesModel", (xG_of 1105 (by decide +kernel) (by decide +kernel)), (Or.inl rfl)⟩, (xpf1 (q := (RX11, TX11, 47)) rfl (Or.inr ⟨rfl, rfl, rfl⟩))⟩)
theorem sRX11_putfield_54 (pc : Nat) : xwc RX11 true (pc, .putfield 54, 3, 10, 25) := xwp (xgp1 (by decide) ⟨⟨(RX11, TX11, 47), by decide, by decide, rfl, by decide, "BestParsesModel", (xG_of 1106 (by decide +kernel) (by decide +kernel)), (Or.inl rfl)⟩, (xpf1 (q := (RX11, TX11, 47)) rfl (Or.inr ⟨rfl, rfl, rfl⟩))⟩)
theorem sRX11_putfield_57 (pc : Nat) : xwc RX11 true (pc, .putfield 57, 3, 10, 26) := xwp (xgp1 (by decide) ⟨⟨(RX11, TX11, 47), by decide, by decide, rfl, by decide, "BestParsesModel", (xG_of 1107 (by decide +kernel) (by decide +kernel)), (Or.inl rfl)⟩, (xpf1 (q := (RX11, TX11, 47)) rfl (Or.inr ⟨rfl, rfl, rfl⟩))⟩)
theorem sRX11_newarray_boolean (ini : Bool) (pc : Nat) : xwc RX11 ini (pc, .newarray .boolean, 2, 0, 0) := xwa (xG_of 534 (by decide +kernel) (by decide +kernel))
theorem sRX11_putfield_60 (pc : Nat) : xwc RX11 true (pc, .putfield 60, 3, 10, 27) := xwp (xgp1 (by decide) ⟨⟨(RX11, TX11, 47), by decide, by decide, rfl, by decide, "BestParsesModel", (xG_of 1108 (by decide +kernel) (by decide +kernel)), (Or.inl rfl)⟩, (xpf1 (q := (RX11, TX11, 47)) rfl (Or.inr ⟨rfl, rfl, rfl⟩))⟩)
theorem sRX11_putfield_64 (pc : Nat) : xwc RX11 true (pc, .putfield 64, 3, 10, 28) := xwp (xgp1 (by decide) ⟨⟨(RX11, TX11, 47), by decide, by decide, rfl, by decide, "BestParsesModel", (xG_of 1109 (by decide +kernel) (by decide +kernel)), (Or.inl rfl)⟩, (xpf1 (q := (RX11, TX11, 47)) rfl (Or.inr ⟨rfl, rfl, rfl⟩))⟩)
theorem sRX11_putfield_67 (pc : Nat) : xwc RX11 true (pc, .putfield 67, 3, 10, 29) := xwp (xgp1 (by decide) ⟨⟨(RX11, TX11, 47), by decide, by decide, rfl, by decide, "BestParsesModel", (xG_of 1110 (by decide +kernel) (by decide +kernel)), (Or.inl rfl)⟩, (xpf1 (q := (RX11, TX11, 47)) rfl (Or.inr ⟨rfl, rfl, rfl⟩))⟩)
theorem sRX11_putfield_70 (pc : Nat) : xwc RX11 true (pc, .putfield 70, 3, 10, 30) := xwp (xgp1 (by decide) ⟨⟨(RX11, TX11, 47), by decide, by decide, rfl, by decide, "BestParsesModel", (xG_of 1111 (by decide +kernel) (by decide +kernel)), (Or.inl rfl)⟩, (xpf1 (q := (RX11, TX11, 47)) rfl (Or.inr ⟨rfl, rfl, rfl⟩))⟩)
theorem sRX11_putfield_73 (pc : Nat) : xwc RX11 true (pc, .putfield 73, 3, 10, 31) := xwp (xgp1 (by decide) ⟨⟨(RX11, TX11, 47), by decide, by decide, rfl, by decide, "BestParsesModel", (xG_of 1112 (by decide +kernel) (by decide +kernel)), (Or.inl rfl)⟩, (xpf1 (q := (RX11, TX11, 47)) rfl (Or.inr ⟨rfl, rfl, rfl⟩))⟩)
theorem sRX11_putfield_76 (pc : Nat) : xwc RX11 true (pc, .putfield 76, 3, 10, 32) := xwp (xgp1 (by decide) ⟨⟨(RX11, TX11, 47), by decide, by decide, rfl, by decide, "BestParsesModel", (xG_of 1113 (by decide +kernel) (by decide +kernel)), (Or.inl rfl)⟩, (xpf1 (q := (RX11, TX11, 47)) rfl (Or.inr ⟨rfl, rfl, rfl⟩))⟩)
theorem sRX11_putfield_79 (pc : Nat) : xwc RX11 true (pc, .putfield 79, 3, 10, 33) := xwp (xgp1 (by decide) ⟨⟨(RX11, TX11, 47), by decide, by decide, rfl, by decide, "BestParsesModel", (xG_of 1114 (by decide +kernel) (by decide +kernel)), (Or.inl rfl)⟩, (xpf1 (q := (RX11, TX11, 47)) rfl (Or.inr ⟨rfl, rfl, rfl⟩))⟩)
theorem sRX11_putfield_82 (pc : Nat) : xwc RX11 true (pc, .putfield 82, 3, 10, 34) := xwp (xgp1 (by decide) ⟨⟨(RX11, TX11, 47), by decide, by decide, rfl, by decide, "BestParsesModel", (xG_of 1115 (by decide +kernel) (by decide +kernel)), (Or.inl rfl)⟩, (xpf1 (q := (RX11, TX11, 47)) rfl (Or.inr ⟨rfl, rfl, rfl⟩))⟩)
theorem sRX11_ldc_85 (ini : Bool) (pc : Nat) : xwc RX11 ini (pc, .ldc 85, 2, 48160, 0) := xwk (xG_of 1076 (by decide +kernel) (by decide +kernel))
theorem sRX11_putfield_86 (pc : Nat) : xwc RX11 true (pc, .putfield 86, 3, 10, 35) := xwp (xgp1 (by decide) ⟨⟨(RX11, TX11, 47), by decide, by decide, rfl, by decide, "BestParsesModel", (xG_of 1116 (by decide +kernel) (by decide +kernel)), (Or.inl rfl)⟩, (xpf1 (q := (RX11, TX11, 47)) rfl (Or.inr ⟨rfl, rfl, rfl⟩))⟩)
theorem sRX11_putfield_89 (pc : Nat) : xwc RX11 true (pc, .putfield 89, 3, 10, 36) := xwp (xgp1 (by decide) ⟨⟨(RX11, TX11, 47), by decide, by decide, rfl, by decide, "BestParsesModel", (xG_of 1117 (by decide +kernel) (by decide +kernel)), (Or.inl rfl)⟩, (xpf1 (q := (RX11, TX11, 47)) rfl (Or.inr ⟨rfl, rfl, rfl⟩))⟩)
theorem sRX11_putfield_92 (pc : Nat) : xwc RX11 true (pc, .putfield 92, 3, 10, 37) := xwp (xgp1 (by decide) ⟨⟨(RX11, TX11, 47), by decide, by decide, rfl, by decide, "BestParsesModel", (xG_of 1118 (by decide +kernel) (by decide +kernel)), (Or.inl rfl)⟩, (xpf1 (q := (RX11, TX11, 47)) rfl (Or.inr ⟨rfl, rfl, rfl⟩))⟩)
theorem sRX11_putfield_95 (pc : Nat) : xwc RX11 true (pc, .putfield 95, 3, 10, 38) := xwp (xgp1 (by decide) ⟨⟨(RX11, TX11, 47), by decide, by decide, rfl, by decide, "BestParsesModel", (xG_of 1119 (by decide +kernel) (by decide +kernel)), (Or.inl rfl)⟩, (xpf1 (q := (RX11, TX11, 47)) rfl (Or.inr ⟨rfl, rfl, rfl⟩))⟩)
theorem sRX11_putfield_98 (pc : Nat) : xwc RX11 true (pc, .putfield 98, 3, 10, 39) := xwp (xgp1 (by decide) ⟨⟨(RX11, TX11, 47), by decide, by decide, rfl, by decide, "BestParsesModel", (xG_of 1120 (by decide +kernel) (by decide +kernel)), (Or.inl rfl)⟩, (xpf1 (q := (RX11, TX11, 47)) rfl (Or.inr ⟨rfl, rfl, rfl⟩))⟩)
theorem sRX11_putfield_101 (pc : Nat) : xwc RX11 true (pc, .putfield 101, 3, 10, 40) := xwp (xgp1 (by decide) ⟨⟨(RX11, TX11, 47), by decide, by decide, rfl, by decide, "BestParsesModel", (xG_of 1121 (by decide +kernel) (by decide +kernel)), (Or.inl rfl)⟩, (xpf1 (q := (RX11, TX11, 47)) rfl (Or.inr ⟨rfl, rfl, rfl⟩))⟩)
theorem sRX11_putfield_104 (pc : Nat) : xwc RX11 true (pc, .putfield 104, 3, 10, 41) := xwp (xgp1 (by decide) ⟨⟨(RX11, TX11, 47), by decide, by decide, rfl, by decide, "BestParsesModel", (xG_of 1122 (by decide +kernel) (by decide +kernel)), (Or.inl rfl)⟩, (xpf1 (q := (RX11, TX11, 47)) rfl (Or.inr ⟨rfl, rfl, rfl⟩))⟩)
theorem sRX11_putfield_107 (pc : Nat) : xwc RX11 true (pc, .putfield 107, 3, 10, 42) := xwp (xgp1 (by decide) ⟨⟨(RX11, TX11, 47), by decide, by decide, rfl, by decide, "BestParsesModel", (xG_of 1123 (by decide +kernel) (by decide +kernel)), (Or.inl rfl)⟩, (xpf1 (q := (RX11, TX11, 47)) rfl (Or.inr ⟨rfl, rfl, rfl⟩))⟩)
theorem sRX11_putfield_110 (pc : Nat) : xwc RX11 true (pc, .putfield 110, 3, 10, 43) := xwp (xgp1 (by decide) ⟨⟨(RX11, TX11, 47), by decide, by decide, rfl, by decide, "BestParsesModel", (xG_of 1124 (by decide +kernel) (by decide +kernel)), (Or.inl rfl)⟩, (xpf1 (q := (RX11, TX11, 47)) rfl (Or.inr ⟨rfl, rfl, rfl⟩))⟩)
theorem sRX11_putfield_113 (pc : Nat) : xwc RX11 true (pc, .putfield 113, 3, 10, 44) := xwp (xgp1 (by decide) ⟨⟨(RX11, TX11, 47), by decide, by decide, rfl, by decide, "BestParsesModel", (xG_of 1125 (by decide +kernel) (by decide +kernel)), (Or.inl rfl)⟩, (xpf1 (q := (RX11, TX11, 47)) rfl (Or.inr ⟨rfl, rfl, rfl⟩))⟩)
theorem sRX11_putfield_116 (pc : Nat) : xwc RX11 true (pc, .putfield 116, 3, 10, 45) := xwp (xgp1 (by decide) ⟨⟨(RX11, TX11, 47), by decide, by decide, rfl, by decide, "BestParsesModel", (xG_of 1126 (by decide +kernel) (by decide +kernel)), (Or.inl rfl)⟩, (xpf1 (q := (RX11, TX11, 47)) rfl (Or.inr ⟨rfl, rfl, rfl⟩))⟩)
theorem sRX11_newarray_long (ini : Bool) (pc : Nat) : xwc RX11 ini (pc, .newarray .long, 2, 0, 0) := xwa (xG_of 533 (by decide +kernel) (by decide +kernel))
theorem sRX11_putfield_119 (pc : Nat) : xwc RX11 true (pc, .putfield 119, 3, 10, 46) := xwp (xgp1 (by decide) ⟨⟨(RX11, TX11, 47), by decide, by decide, rfl, by decide, "BestParsesModel", (xG_of 1127 (by decide +kernel) (by decide +kernel)), (Or.inl rfl)⟩, (xpf1 (q := (RX11, TX11, 47)) rfl (Or.inr ⟨rfl, rfl, rfl⟩))⟩)
theorem sRX11_putfield_123 (pc : Nat) : xwc RX11 true (pc, .putfield 123, 3, 10, 1) := xwp (xgp1 (by decide) ⟨⟨(RX11, TX11, 47), by decide, by decide, rfl, by decide, "BestParsesModel", (xG_of 1082 (by decide +kernel) (by decide +kernel)), (Or.inl rfl)⟩, (xpf1 (q := (RX11, TX11, 47)) rfl (Or.inr ⟨rfl, rfl, rfl⟩))⟩)
theorem sRX11_invokevirtual_126 (ini : Bool) (pc : Nat) : xwc RX11 ini (pc, .invokevirtual 126, 3, 98, 1) := xwv ⟨by decide, fun k j hx => by obtain ⟨rfl, rfl⟩ := xtg_d (by decide) hx; exact ⟨by decide, yX11_start, cX11_start, none, false, (RX11, TX11, 47), rfl, by decide, by decide, rfl, (xG_of 1079 (by decide +kernel) (by decide +kernel)), (xG_of 27 (by decide +kernel) (by decide +kernel)), Or.inl ⟨(xG_of 1077 (by decide +kernel) (by decide +kernel)), (xG_s 29 (by decide +kernel) (by decide +kernel)), by decide +kernel, by decide +kernel, by decide +kernel⟩⟩⟩
theorem sRX11_getfield_129 (ini : Bool) (pc : Nat) : xwc RX11 ini (pc, .getfield 129, 3, 10, 0) := xwf (xgf1 (by decide) ⟨(RX11, TX11, 47), by decide, by decide, rfl, by decide, "BestParsesModel", (xG_of 1081 (by decide +kernel) (by decide +kernel)), (Or.inl rfl)⟩)
theorem sRX11_getfield_13 (ini : Bool) (pc : Nat) : xwc RX11 ini (pc, .getfield 13, 3, 10, 4) := xwf (xgf1 (by decide) ⟨(RX11, TX11, 47), by decide, by decide, rfl, by decide, "BestParsesModel", (xG_of 1085 (by decide +kernel) (by decide +kernel)), (Or.inl rfl)⟩)
theorem sRX11_getfield_123 (ini : Bool) (pc : Nat) : xwc RX11 ini (pc, .getfield 123, 3, 10, 1) := xwf (xgf1 (by decide) ⟨(RX11, TX11, 47), by decide, by decide, rfl, by decide, "BestParsesModel", (xG_of 1082 (by decide +kernel) (by decide +kernel)), (Or.inl rfl)⟩)
theorem sRX11_invokestatic_132 (ini : Bool) (pc : Nat) : xwc RX11 ini (pc, .invokestatic 132, 3, 101, 1) := xws (by decide) (fun _ => ⟨by decide, yX11_symbols, cX11_symbols, some .int, false, rfl, (xG_of 1241 (by decide +kernel) (by decide +kernel)), (xG_of 27 (by decide +kernel) (by decide +kernel)), ⟨by decide +kernel, by decide +kernel, by decide +kernel⟩, (Or.inl (xG_of 1240 (by decide +kernel) (by decide +kernel)))⟩)
theorem sRX11_putfield_129 (ini : Bool) (pc : Nat) : xwc RX11 ini (pc, .putfield 129, 3, 10, 0) := xwp (xgp1 (by decide) ⟨⟨(RX11, TX11, 47), by decide, by decide, rfl, by decide, "BestParsesModel", (xG_of 1081 (by decide +kernel) (by decide +kernel)), (Or.inl rfl)⟩, (xpf1 (q := (RX11, TX11, 47)) rfl (Or.inl rfl))⟩)
theorem sRX11_getfield_136 (ini : Bool) (pc : Nat) : xwc RX11 ini (pc, .getfield 136, 3, 10, 3) := xwf (xgf1 (by decide) ⟨(RX11, TX11, 47), by decide, by decide, rfl, by decide, "BestParsesModel", (xG_of 1084 (by decide +kernel) (by decide +kernel)), (Or.inl rfl)⟩)
theorem sRX11_getfield_7 (ini : Bool) (pc : Nat) : xwc RX11 ini (pc, .getfield 7, 3, 10, 2) := xwf (xgf1 (by decide) ⟨(RX11, TX11, 47), by decide, by decide, rfl, by decide, "BestParsesModel", (xG_of 1083 (by decide +kernel) (by decide +kernel)), (Or.inl rfl)⟩)
theorem sRX11_ldc2_w_139 (ini : Bool) (pc : Nat) : xwc RX11 ini (pc, .ldc2_w 139, 3, 255, 0) := xwkj (xG_of 1231 (by decide +kernel) (by decide +kernel))
theorem sRX11_putfield_136 (ini : Bool) (pc : Nat) : xwc RX11 ini (pc, .putfield 136, 3, 10, 3) := xwp (xgp1 (by decide) ⟨⟨(RX11, TX11, 47), by decide, by decide, rfl, by decide, "BestParsesModel", (xG_of 1084 (by decide +kernel) (by decide +kernel)), (Or.inl rfl)⟩, (xpf1 (q := (RX11, TX11, 47)) rfl (Or.inl rfl))⟩)
theorem sRX11_putfield_141 (ini : Bool) (pc : Nat) : xwc RX11 ini (pc, .putfield 141, 3, 10, 10) := xwp (xgp1 (by decide) ⟨⟨(RX11, TX11, 47), by decide, by decide, rfl, by decide, "BestParsesModel", (xG_of 1091 (by decide +kernel) (by decide +kernel)), (Or.inl rfl)⟩, (xpf1 (q := (RX11, TX11, 47)) rfl (Or.inl rfl))⟩)
theorem sRX11_invokevirtual_145 (ini : Bool) (pc : Nat) : xwc RX11 ini (pc, .invokevirtual 145, 3, 102, 3) := xwv ⟨by decide, fun k j hx => by obtain ⟨rfl, rfl⟩ := xtg_d (by decide) hx; exact ⟨by decide, yX11_isCost, cX11_isCost, some .boolean, false, (RX11, TX11, 47), rfl, by decide, by decide, rfl, (xG_of 1238 (by decide +kernel) (by decide +kernel)), (xG_of 27 (by decide +kernel) (by decide +kernel)), Or.inl ⟨(xG_of 1236 (by decide +kernel) (by decide +kernel)), (xG_s 30 (by decide +kernel) (by decide +kernel)), by decide +kernel, by decide +kernel, by decide +kernel⟩⟩⟩
theorem sRX11_getfield_16 (ini : Bool) (pc : Nat) : xwc RX11 ini (pc, .getfield 16, 3, 10, 5) := xwf (xgf1 (by decide) ⟨(RX11, TX11, 47), by decide, by decide, rfl, by decide, "BestParsesModel", (xG_of 1086 (by decide +kernel) (by decide +kernel)), (Or.inl rfl)⟩)
theorem sRX11_getfield_39 (ini : Bool) (pc : Nat) : xwc RX11 ini (pc, .getfield 39, 3, 10, 19) := xwf (xgf1 (by decide) ⟨(RX11, TX11, 47), by decide, by decide, rfl, by decide, "BestParsesModel", (xG_of 1100 (by decide +kernel) (by decide +kernel)), (Or.inl rfl)⟩)
theorem sRX11_invokevirtual_149 (ini : Bool) (pc : Nat) : xwc RX11 ini (pc, .invokevirtual 149, 3, 100, 1) := xwv ⟨by decide, fun k j hx => by obtain ⟨rfl, rfl⟩ := xtg_d (by decide) hx; exact ⟨by decide, yX11_greatest, cX11_greatest, some .int, false, (RX11, TX11, 47), rfl, by decide, by decide, rfl, (xG_of 1265 (by decide +kernel) (by decide +kernel)), (xG_of 27 (by decide +kernel) (by decide +kernel)), Or.inl ⟨(xG_of 1263 (by decide +kernel) (by decide +kernel)), (xG_s 33 (by decide +kernel) (by decide +kernel)), by decide +kernel, by decide +kernel, by decide +kernel⟩⟩⟩
theorem sRX11_getfield_42 (ini : Bool) (pc : Nat) : xwc RX11 ini (pc, .getfield 42, 3, 10, 20) := xwf (xgf1 (by decide) ⟨(RX11, TX11, 47), by decide, by decide, rfl, by decide, "BestParsesModel", (xG_of 1101 (by decide +kernel) (by decide +kernel)), (Or.inl rfl)⟩)
theorem sRX11_invokevirtual_153 (ini : Bool) (pc : Nat) : xwc RX11 ini (pc, .invokevirtual 153, 3, 99, 1) := xwv ⟨by decide, fun k j hx => by obtain ⟨rfl, rfl⟩ := xtg_d (by decide) hx; exact ⟨by decide, yX11_shortest, cX11_shortest, some .int, false, (RX11, TX11, 47), rfl, by decide, by decide, rfl, (xG_of 1301 (by decide +kernel) (by decide +kernel)), (xG_of 27 (by decide +kernel) (by decide +kernel)), Or.inl ⟨(xG_of 1299 (by decide +kernel) (by decide +kernel)), (xG_s 42 (by decide +kernel) (by decide +kernel)), by decide +kernel, by decide +kernel, by decide +kernel⟩⟩⟩
theorem sRX11_invokestatic_156 (ini : Bool) (pc : Nat) : xwc RX11 ini (pc, .invokestatic 156, 3, 110, 1) := xws (by decide) (fun _ => ⟨by decide, yX11_high, cX11_high, some .int, false, rfl, (xG_of 1330 (by decide +kernel) (by decide +kernel)), (xG_of 27 (by decide +kernel) (by decide +kernel)), ⟨by decide +kernel, by decide +kernel, by decide +kernel⟩, (Or.inl (xG_of 1329 (by decide +kernel) (by decide +kernel)))⟩)
theorem sRX11_invokestatic_159 (ini : Bool) (pc : Nat) : xwc RX11 ini (pc, .invokestatic 159, 3, 111, 1) := xws (by decide) (fun _ => ⟨by decide, yX11_lengthSlot, cX11_lengthSlot, some .int, false, rfl, (xG_of 1327 (by decide +kernel) (by decide +kernel)), (xG_of 27 (by decide +kernel) (by decide +kernel)), ⟨by decide +kernel, by decide +kernel, by decide +kernel⟩, (Or.inl (xG_of 1326 (by decide +kernel) (by decide +kernel)))⟩)
theorem sRX11_invokestatic_162 (ini : Bool) (pc : Nat) : xwc RX11 ini (pc, .invokestatic 162, 3, 112, 1) := xws (by decide) (fun _ => ⟨by decide, yX11_lengthBits, cX11_lengthBits, some .int, false, rfl, (xG_of 1333 (by decide +kernel) (by decide +kernel)), (xG_of 27 (by decide +kernel) (by decide +kernel)), ⟨by decide +kernel, by decide +kernel, by decide +kernel⟩, (Or.inl (xG_of 1332 (by decide +kernel) (by decide +kernel)))⟩)
theorem sRX11_invokestatic_165 (ini : Bool) (pc : Nat) : xwc RX11 ini (pc, .invokestatic 165, 3, 113, 1) := xws (by decide) (fun _ => ⟨by decide, yX11_distanceSlot, cX11_distanceSlot, some .int, false, rfl, (xG_of 1340 (by decide +kernel) (by decide +kernel)), (xG_of 27 (by decide +kernel) (by decide +kernel)), ⟨by decide +kernel, by decide +kernel, by decide +kernel⟩, (Or.inl (xG_of 1339 (by decide +kernel) (by decide +kernel)))⟩)
theorem sRX11_invokestatic_168 (ini : Bool) (pc : Nat) : xwc RX11 ini (pc, .invokestatic 168, 3, 114, 1) := xws (by decide) (fun _ => ⟨by decide, yX11_distanceBits, cX11_distanceBits, some .int, false, rfl, (xG_of 1343 (by decide +kernel) (by decide +kernel)), (xG_of 27 (by decide +kernel) (by decide +kernel)), ⟨by decide +kernel, by decide +kernel, by decide +kernel⟩, (Or.inl (xG_of 1342 (by decide +kernel) (by decide +kernel)))⟩)
theorem sRX11_invokestatic_171 (ini : Bool) (pc : Nat) : xwc RX11 ini (pc, .invokestatic 171, 3, 118, 2) := xws (by decide) (fun _ => ⟨by decide, yX11_more, cX11_more, some .int, false, rfl, (xG_of 1316 (by decide +kernel) (by decide +kernel)), (xG_of 27 (by decide +kernel) (by decide +kernel)), ⟨by decide +kernel, by decide +kernel, by decide +kernel⟩, (Or.inl (xG_of 1315 (by decide +kernel) (by decide +kernel)))⟩)
theorem sRX11_invokevirtual_175 (ini : Bool) (pc : Nat) : xwc RX11 ini (pc, .invokevirtual 175, 3, 117, 2) := xwv ⟨by decide, fun k j hx => by obtain ⟨rfl, rfl⟩ := xtg_d (by decide) hx; exact ⟨by decide, yX11_kindCost, cX11_kindCost, some .int, false, (RX11, TX11, 47), rfl, by decide, by decide, rfl, (xG_of 1320 (by decide +kernel) (by decide +kernel)), (xG_of 27 (by decide +kernel) (by decide +kernel)), Or.inl ⟨(xG_of 1318 (by decide +kernel) (by decide +kernel)), (xG_s 46 (by decide +kernel) (by decide +kernel)), by decide +kernel, by decide +kernel, by decide +kernel⟩⟩⟩
theorem sRX11_invokevirtual_178 (ini : Bool) (pc : Nat) : xwc RX11 ini (pc, .invokevirtual 178, 3, 115, 2) := xwv ⟨by decide, fun k j hx => by obtain ⟨rfl, rfl⟩ := xtg_d (by decide) hx; exact ⟨by decide, yX11_lengthCost, cX11_lengthCost, some .int, false, (RX11, TX11, 47), rfl, by decide, by decide, rfl, (xG_of 1324 (by decide +kernel) (by decide +kernel)), (xG_of 27 (by decide +kernel) (by decide +kernel)), Or.inl ⟨(xG_of 1322 (by decide +kernel) (by decide +kernel)), (xG_s 47 (by decide +kernel) (by decide +kernel)), by decide +kernel, by decide +kernel, by decide +kernel⟩⟩⟩
theorem sRX11_invokevirtual_181 (ini : Bool) (pc : Nat) : xwc RX11 ini (pc, .invokevirtual 181, 3, 116, 2) := xwv ⟨by decide, fun k j hx => by obtain ⟨rfl, rfl⟩ := xtg_d (by decide) hx; exact ⟨by decide, yX11_distanceCost, cX11_distanceCost, some .int, false, (RX11, TX11, 47), rfl, by decide, by decide, rfl, (xG_of 1337 (by decide +kernel) (by decide +kernel)), (xG_of 27 (by decide +kernel) (by decide +kernel)), Or.inl ⟨(xG_of 1335 (by decide +kernel) (by decide +kernel)), (xG_s 48 (by decide +kernel) (by decide +kernel)), by decide +kernel, by decide +kernel, by decide +kernel⟩⟩⟩
theorem sRX11_ldc2_w_184 (ini : Bool) (pc : Nat) : xwc RX11 ini (pc, .ldc2_w 184, 3, 512, 0) := xwkj (xG_of 1386 (by decide +kernel) (by decide +kernel))
theorem sRX11_getfield_186 (ini : Bool) (pc : Nat) : xwc RX11 ini (pc, .getfield 186, 3, 10, 11) := xwf (xgf1 (by decide) ⟨(RX11, TX11, 47), by decide, by decide, rfl, by decide, "BestParsesModel", (xG_of 1092 (by decide +kernel) (by decide +kernel)), (Or.inl rfl)⟩)
theorem sRX11_getfield_35 (ini : Bool) (pc : Nat) : xwc RX11 ini (pc, .getfield 35, 3, 10, 15) := xwf (xgf1 (by decide) ⟨(RX11, TX11, 47), by decide, by decide, rfl, by decide, "BestParsesModel", (xG_of 1096 (by decide +kernel) (by decide +kernel)), (Or.inl rfl)⟩)
theorem sRX11_getfield_29 (ini : Bool) (pc : Nat) : xwc RX11 ini (pc, .getfield 29, 3, 10, 13) := xwf (xgf1 (by decide) ⟨(RX11, TX11, 47), by decide, by decide, rfl, by decide, "BestParsesModel", (xG_of 1094 (by decide +kernel) (by decide +kernel)), (Or.inl rfl)⟩)
theorem sRX11_getfield_32 (ini : Bool) (pc : Nat) : xwc RX11 ini (pc, .getfield 32, 3, 10, 14) := xwf (xgf1 (by decide) ⟨(RX11, TX11, 47), by decide, by decide, rfl, by decide, "BestParsesModel", (xG_of 1095 (by decide +kernel) (by decide +kernel)), (Or.inl rfl)⟩)
theorem sRX11_getfield_26 (ini : Bool) (pc : Nat) : xwc RX11 ini (pc, .getfield 26, 3, 10, 12) := xwf (xgf1 (by decide) ⟨(RX11, TX11, 47), by decide, by decide, rfl, by decide, "BestParsesModel", (xG_of 1093 (by decide +kernel) (by decide +kernel)), (Or.inl rfl)⟩)
theorem sRX11_invokevirtual_189 (ini : Bool) (pc : Nat) : xwc RX11 ini (pc, .invokevirtual 189, 3, 119, 6) := xwv ⟨by decide, fun k j hx => by obtain ⟨rfl, rfl⟩ := xtg_d (by decide) hx; exact ⟨by decide, yX11_stepCost, cX11_stepCost, some .int, false, (RX11, TX11, 47), rfl, by decide, by decide, rfl, (xG_of 1313 (by decide +kernel) (by decide +kernel)), (xG_of 27 (by decide +kernel) (by decide +kernel)), Or.inl ⟨(xG_of 1311 (by decide +kernel) (by decide +kernel)), (xG_s 45 (by decide +kernel) (by decide +kernel)), by decide +kernel, by decide +kernel, by decide +kernel⟩⟩⟩
theorem sRX11_getfield_45 (ini : Bool) (pc : Nat) : xwc RX11 ini (pc, .getfield 45, 3, 10, 21) := xwf (xgf1 (by decide) ⟨(RX11, TX11, 47), by decide, by decide, rfl, by decide, "BestParsesModel", (xG_of 1102 (by decide +kernel) (by decide +kernel)), (Or.inl rfl)⟩)
theorem sRX11_invokevirtual_193 (ini : Bool) (pc : Nat) : xwc RX11 ini (pc, .invokevirtual 193, 3, 108, 2) := xwv ⟨by decide, fun k j hx => by obtain ⟨rfl, rfl⟩ := xtg_d (by decide) hx; exact ⟨by decide, yX11_longestCopy, cX11_longestCopy, some .int, false, (RX11, TX11, 47), rfl, by decide, by decide, rfl, (xG_of 1297 (by decide +kernel) (by decide +kernel)), (xG_of 27 (by decide +kernel) (by decide +kernel)), Or.inl ⟨(xG_of 1295 (by decide +kernel) (by decide +kernel)), (xG_s 41 (by decide +kernel) (by decide +kernel)), by decide +kernel, by decide +kernel, by decide +kernel⟩⟩⟩
theorem sRX11_putfield_196 (ini : Bool) (pc : Nat) : xwc RX11 ini (pc, .putfield 196, 3, 10, 22) := xwp (xgp1 (by decide) ⟨⟨(RX11, TX11, 47), by decide, by decide, rfl, by decide, "BestParsesModel", (xG_of 1103 (by decide +kernel) (by decide +kernel)), (Or.inl rfl)⟩, (xpf1 (q := (RX11, TX11, 47)) rfl (Or.inl rfl))⟩)
theorem sRX11_invokevirtual_199 (ini : Bool) (pc : Nat) : xwc RX11 ini (pc, .invokevirtual 199, 3, 109, 3) := xwv ⟨by decide, fun k j hx => by obtain ⟨rfl, rfl⟩ := xtg_d (by decide) hx; exact ⟨by decide, yX11_longestAgain, cX11_longestAgain, some .int, false, (RX11, TX11, 47), rfl, by decide, by decide, rfl, (xG_of 1347 (by decide +kernel) (by decide +kernel)), (xG_of 27 (by decide +kernel) (by decide +kernel)), Or.inl ⟨(xG_of 1345 (by decide +kernel) (by decide +kernel)), (xG_s 49 (by decide +kernel) (by decide +kernel)), by decide +kernel, by decide +kernel, by decide +kernel⟩⟩⟩
theorem sRX11_putfield_186 (ini : Bool) (pc : Nat) : xwc RX11 ini (pc, .putfield 186, 3, 10, 11) := xwp (xgp1 (by decide) ⟨⟨(RX11, TX11, 47), by decide, by decide, rfl, by decide, "BestParsesModel", (xG_of 1092 (by decide +kernel) (by decide +kernel)), (Or.inl rfl)⟩, (xpf1 (q := (RX11, TX11, 47)) rfl (Or.inl rfl))⟩)
theorem sRX11_invokevirtual_202 (ini : Bool) (pc : Nat) : xwc RX11 ini (pc, .invokevirtual 202, 3, 121, 1) := xwv ⟨by decide, fun k j hx => by obtain ⟨rfl, rfl⟩ := xtg_d (by decide) hx; exact ⟨by decide, yX11_clearLatest, cX11_clearLatest, none, false, (RX11, TX11, 47), rfl, by decide, by decide, rfl, (xG_of 1273 (by decide +kernel) (by decide +kernel)), (xG_of 27 (by decide +kernel) (by decide +kernel)), Or.inl ⟨(xG_of 1271 (by decide +kernel) (by decide +kernel)), (xG_s 35 (by decide +kernel) (by decide +kernel)), by decide +kernel, by decide +kernel, by decide +kernel⟩⟩⟩
theorem sRX11_invokevirtual_205 (ini : Bool) (pc : Nat) : xwc RX11 ini (pc, .invokevirtual 205, 3, 123, 2) := xwv ⟨by decide, fun k j hx => by obtain ⟨rfl, rfl⟩ := xtg_d (by decide) hx; exact ⟨by decide, yX11_longestOf, cX11_longestOf, some .int, false, (RX11, TX11, 47), rfl, by decide, by decide, rfl, (xG_of 1393 (by decide +kernel) (by decide +kernel)), (xG_of 27 (by decide +kernel) (by decide +kernel)), Or.inl ⟨(xG_of 1391 (by decide +kernel) (by decide +kernel)), (xG_s 60 (by decide +kernel) (by decide +kernel)), by decide +kernel, by decide +kernel, by decide +kernel⟩⟩⟩
theorem sRX11_invokevirtual_208 (ini : Bool) (pc : Nat) : xwc RX11 ini (pc, .invokevirtual 208, 3, 124, 5) := xwv ⟨by decide, fun k j hx => by obtain ⟨rfl, rfl⟩ := xtg_d (by decide) hx; exact ⟨by decide, yX11_addStep, cX11_addStep, none, false, (RX11, TX11, 47), rfl, by decide, by decide, rfl, (xG_of 1355 (by decide +kernel) (by decide +kernel)), (xG_of 27 (by decide +kernel) (by decide +kernel)), Or.inl ⟨(xG_of 1353 (by decide +kernel) (by decide +kernel)), (xG_s 51 (by decide +kernel) (by decide +kernel)), by decide +kernel, by decide +kernel, by decide +kernel⟩⟩⟩
theorem sRX11_getfield_196 (ini : Bool) (pc : Nat) : xwc RX11 ini (pc, .getfield 196, 3, 10, 22) := xwf (xgf1 (by decide) ⟨(RX11, TX11, 47), by decide, by decide, rfl, by decide, "BestParsesModel", (xG_of 1103 (by decide +kernel) (by decide +kernel)), (Or.inl rfl)⟩)
theorem sRX11_invokevirtual_212 (ini : Bool) (pc : Nat) : xwc RX11 ini (pc, .invokevirtual 212, 3, 122, 3) := xwv ⟨by decide, fun k j hx => by obtain ⟨rfl, rfl⟩ := xtg_d (by decide) hx; exact ⟨by decide, yX11_ahead, cX11_ahead, none, false, (RX11, TX11, 47), rfl, by decide, by decide, rfl, (xG_of 1309 (by decide +kernel) (by decide +kernel)), (xG_of 27 (by decide +kernel) (by decide +kernel)), Or.inl ⟨(xG_of 1307 (by decide +kernel) (by decide +kernel)), (xG_s 44 (by decide +kernel) (by decide +kernel)), by decide +kernel, by decide +kernel, by decide +kernel⟩⟩⟩
theorem sRX11_invokevirtual_216 (ini : Bool) (pc : Nat) : xwc RX11 ini (pc, .invokevirtual 216, 3, 120, 1) := xwv ⟨by decide, fun k j hx => by obtain ⟨rfl, rfl⟩ := xtg_d (by decide) hx; exact ⟨by decide, yX11_allCost, cX11_allCost, some .long, false, (RX11, TX11, 47), rfl, by decide, by decide, rfl, (xG_of 1397 (by decide +kernel) (by decide +kernel)), (xG_of 27 (by decide +kernel) (by decide +kernel)), Or.inl ⟨(xG_of 1395 (by decide +kernel) (by decide +kernel)), (xG_s 61 (by decide +kernel) (by decide +kernel)), by decide +kernel, by decide +kernel, by decide +kernel⟩⟩⟩
theorem sRX11_putfield_220 (ini : Bool) (pc : Nat) : xwc RX11 ini (pc, .putfield 220, 3, 10, 16) := xwp (xgp1 (by decide) ⟨⟨(RX11, TX11, 47), by decide, by decide, rfl, by decide, "BestParsesModel", (xG_of 1097 (by decide +kernel) (by decide +kernel)), (Or.inl rfl)⟩, (xpf1 (q := (RX11, TX11, 47)) rfl (Or.inl rfl))⟩)
theorem sRX11_putfield_224 (ini : Bool) (pc : Nat) : xwc RX11 ini (pc, .putfield 224, 3, 10, 17) := xwp (xgp1 (by decide) ⟨⟨(RX11, TX11, 47), by decide, by decide, rfl, by decide, "BestParsesModel", (xG_of 1098 (by decide +kernel) (by decide +kernel)), (Or.inl rfl)⟩, (xpf1 (q := (RX11, TX11, 47)) rfl (Or.inl rfl))⟩)
theorem sRX11_getfield_48 (ini : Bool) (pc : Nat) : xwc RX11 ini (pc, .getfield 48, 3, 10, 23) := xwf (xgf1 (by decide) ⟨(RX11, TX11, 47), by decide, by decide, rfl, by decide, "BestParsesModel", (xG_of 1104 (by decide +kernel) (by decide +kernel)), (Or.inl rfl)⟩)
theorem sRX11_invokevirtual_227 (ini : Bool) (pc : Nat) : xwc RX11 ini (pc, .invokevirtual 227, 3, 126, 3) := xwv ⟨by decide, fun k j hx => by obtain ⟨rfl, rfl⟩ := xtg_d (by decide) hx; exact ⟨by decide, yX11_at, cX11_at, some .int, false, (RX11, TX11, 47), rfl, by decide, by decide, rfl, (xG_of 1367 (by decide +kernel) (by decide +kernel)), (xG_of 27 (by decide +kernel) (by decide +kernel)), Or.inl ⟨(xG_of 1365 (by decide +kernel) (by decide +kernel)), (xG_s 54 (by decide +kernel) (by decide +kernel)), by decide +kernel, by decide +kernel, by decide +kernel⟩⟩⟩
theorem sRX11_ldc_230 (ini : Bool) (pc : Nat) : xwc RX11 ini (pc, .ldc 230, 2, 2000000000, 0) := xwk (xG_of 1369 (by decide +kernel) (by decide +kernel))
theorem sRX11_getfield_60 (ini : Bool) (pc : Nat) : xwc RX11 ini (pc, .getfield 60, 3, 10, 27) := xwf (xgf1 (by decide) ⟨(RX11, TX11, 47), by decide, by decide, rfl, by decide, "BestParsesModel", (xG_of 1108 (by decide +kernel) (by decide +kernel)), (Or.inl rfl)⟩)
theorem sRX11_getfield_51 (ini : Bool) (pc : Nat) : xwc RX11 ini (pc, .getfield 51, 3, 10, 24) := xwf (xgf1 (by decide) ⟨(RX11, TX11, 47), by decide, by decide, rfl, by decide, "BestParsesModel", (xG_of 1105 (by decide +kernel) (by decide +kernel)), (Or.inl rfl)⟩)
theorem sRX11_getfield_54 (ini : Bool) (pc : Nat) : xwc RX11 ini (pc, .getfield 54, 3, 10, 25) := xwf (xgf1 (by decide) ⟨(RX11, TX11, 47), by decide, by decide, rfl, by decide, "BestParsesModel", (xG_of 1106 (by decide +kernel) (by decide +kernel)), (Or.inl rfl)⟩)
theorem sRX11_getfield_57 (ini : Bool) (pc : Nat) : xwc RX11 ini (pc, .getfield 57, 3, 10, 26) := xwf (xgf1 (by decide) ⟨(RX11, TX11, 47), by decide, by decide, rfl, by decide, "BestParsesModel", (xG_of 1107 (by decide +kernel) (by decide +kernel)), (Or.inl rfl)⟩)
theorem sRX11_invokevirtual_231 (ini : Bool) (pc : Nat) : xwc RX11 ini (pc, .invokevirtual 231, 3, 127, 2) := xwv ⟨by decide, fun k j hx => by obtain ⟨rfl, rfl⟩ := xtg_d (by decide) hx; exact ⟨by decide, yX11_firstRow, cX11_firstRow, some .int, false, (RX11, TX11, 47), rfl, by decide, by decide, rfl, (xG_of 1372 (by decide +kernel) (by decide +kernel)), (xG_of 27 (by decide +kernel) (by decide +kernel)), Or.inl ⟨(xG_of 1370 (by decide +kernel) (by decide +kernel)), (xG_s 55 (by decide +kernel) (by decide +kernel)), by decide +kernel, by decide +kernel, by decide +kernel⟩⟩⟩
theorem sRX11_getfield_64 (ini : Bool) (pc : Nat) : xwc RX11 ini (pc, .getfield 64, 3, 10, 28) := xwf (xgf1 (by decide) ⟨(RX11, TX11, 47), by decide, by decide, rfl, by decide, "BestParsesModel", (xG_of 1109 (by decide +kernel) (by decide +kernel)), (Or.inl rfl)⟩)
theorem sRX11_getfield_67 (ini : Bool) (pc : Nat) : xwc RX11 ini (pc, .getfield 67, 3, 10, 29) := xwf (xgf1 (by decide) ⟨(RX11, TX11, 47), by decide, by decide, rfl, by decide, "BestParsesModel", (xG_of 1110 (by decide +kernel) (by decide +kernel)), (Or.inl rfl)⟩)
theorem sRX11_getfield_70 (ini : Bool) (pc : Nat) : xwc RX11 ini (pc, .getfield 70, 3, 10, 30) := xwf (xgf1 (by decide) ⟨(RX11, TX11, 47), by decide, by decide, rfl, by decide, "BestParsesModel", (xG_of 1111 (by decide +kernel) (by decide +kernel)), (Or.inl rfl)⟩)
theorem sRX11_getfield_73 (ini : Bool) (pc : Nat) : xwc RX11 ini (pc, .getfield 73, 3, 10, 31) := xwf (xgf1 (by decide) ⟨(RX11, TX11, 47), by decide, by decide, rfl, by decide, "BestParsesModel", (xG_of 1112 (by decide +kernel) (by decide +kernel)), (Or.inl rfl)⟩)
theorem sRX11_invokevirtual_234 (ini : Bool) (pc : Nat) : xwc RX11 ini (pc, .invokevirtual 234, 3, 132, 2) := xwv ⟨by decide, fun k j hx => by obtain ⟨rfl, rfl⟩ := xtg_d (by decide) hx; exact ⟨by decide, yX11_turnBack, cX11_turnBack, none, false, (RX11, TX11, 47), rfl, by decide, by decide, rfl, (xG_of 1351 (by decide +kernel) (by decide +kernel)), (xG_of 27 (by decide +kernel) (by decide +kernel)), Or.inl ⟨(xG_of 1349 (by decide +kernel) (by decide +kernel)), (xG_s 50 (by decide +kernel) (by decide +kernel)), by decide +kernel, by decide +kernel, by decide +kernel⟩⟩⟩
theorem sRX11_invokevirtual_238 (ini : Bool) (pc : Nat) : xwc RX11 ini (pc, .invokevirtual 238, 3, 128, 1) := xwv ⟨by decide, fun k j hx => by obtain ⟨rfl, rfl⟩ := xtg_d (by decide) hx; exact ⟨by decide, yX11_clearTable, cX11_clearTable, none, false, (RX11, TX11, 47), rfl, by decide, by decide, rfl, (xG_of 1363 (by decide +kernel) (by decide +kernel)), (xG_of 27 (by decide +kernel) (by decide +kernel)), Or.inl ⟨(xG_of 1361 (by decide +kernel) (by decide +kernel)), (xG_s 53 (by decide +kernel) (by decide +kernel)), by decide +kernel, by decide +kernel, by decide +kernel⟩⟩⟩
theorem sRX11_invokevirtual_241 (ini : Bool) (pc : Nat) : xwc RX11 ini (pc, .invokevirtual 241, 3, 129, 3) := xwv ⟨by decide, fun k j hx => by obtain ⟨rfl, rfl⟩ := xtg_d (by decide) hx; exact ⟨by decide, yX11_copies, cX11_copies, none, false, (RX11, TX11, 47), rfl, by decide, by decide, rfl, (xG_of 1376 (by decide +kernel) (by decide +kernel)), (xG_of 27 (by decide +kernel) (by decide +kernel)), Or.inl ⟨(xG_of 1374 (by decide +kernel) (by decide +kernel)), (xG_s 56 (by decide +kernel) (by decide +kernel)), by decide +kernel, by decide +kernel, by decide +kernel⟩⟩⟩
theorem sRX11_invokevirtual_244 (ini : Bool) (pc : Nat) : xwc RX11 ini (pc, .invokevirtual 244, 3, 130, 2) := xwv ⟨by decide, fun k j hx => by obtain ⟨rfl, rfl⟩ := xtg_d (by decide) hx; exact ⟨by decide, yX11_literals, cX11_literals, none, false, (RX11, TX11, 47), rfl, by decide, by decide, rfl, (xG_of 1380 (by decide +kernel) (by decide +kernel)), (xG_of 27 (by decide +kernel) (by decide +kernel)), Or.inl ⟨(xG_of 1378 (by decide +kernel) (by decide +kernel)), (xG_s 57 (by decide +kernel) (by decide +kernel)), by decide +kernel, by decide +kernel, by decide +kernel⟩⟩⟩
theorem sRX11_invokevirtual_247 (ini : Bool) (pc : Nat) : xwc RX11 ini (pc, .invokevirtual 247, 3, 131, 1) := xwv ⟨by decide, fun k j hx => by obtain ⟨rfl, rfl⟩ := xtg_d (by decide) hx; exact ⟨by decide, yX11_backPlain, cX11_backPlain, none, false, (RX11, TX11, 47), rfl, by decide, by decide, rfl, (xG_of 1384 (by decide +kernel) (by decide +kernel)), (xG_of 27 (by decide +kernel) (by decide +kernel)), Or.inl ⟨(xG_of 1382 (by decide +kernel) (by decide +kernel)), (xG_s 58 (by decide +kernel) (by decide +kernel)), by decide +kernel, by decide +kernel, by decide +kernel⟩⟩⟩
theorem sRX11_putfield_250 (ini : Bool) (pc : Nat) : xwc RX11 ini (pc, .putfield 250, 3, 10, 18) := xwp (xgp1 (by decide) ⟨⟨(RX11, TX11, 47), by decide, by decide, rfl, by decide, "BestParsesModel", (xG_of 1099 (by decide +kernel) (by decide +kernel)), (Or.inl rfl)⟩, (xpf1 (q := (RX11, TX11, 47)) rfl (Or.inl rfl))⟩)
theorem sRX11_getfield_86 (ini : Bool) (pc : Nat) : xwc RX11 ini (pc, .getfield 86, 3, 10, 35) := xwf (xgf1 (by decide) ⟨(RX11, TX11, 47), by decide, by decide, rfl, by decide, "BestParsesModel", (xG_of 1116 (by decide +kernel) (by decide +kernel)), (Or.inl rfl)⟩)
theorem sRX11_getfield_82 (ini : Bool) (pc : Nat) : xwc RX11 ini (pc, .getfield 82, 3, 10, 34) := xwf (xgf1 (by decide) ⟨(RX11, TX11, 47), by decide, by decide, rfl, by decide, "BestParsesModel", (xG_of 1115 (by decide +kernel) (by decide +kernel)), (Or.inl rfl)⟩)
theorem sRX11_getfield_89 (ini : Bool) (pc : Nat) : xwc RX11 ini (pc, .getfield 89, 3, 10, 36) := xwf (xgf1 (by decide) ⟨(RX11, TX11, 47), by decide, by decide, rfl, by decide, "BestParsesModel", (xG_of 1117 (by decide +kernel) (by decide +kernel)), (Or.inl rfl)⟩)
theorem sRX11_getfield_92 (ini : Bool) (pc : Nat) : xwc RX11 ini (pc, .getfield 92, 3, 10, 37) := xwf (xgf1 (by decide) ⟨(RX11, TX11, 47), by decide, by decide, rfl, by decide, "BestParsesModel", (xG_of 1118 (by decide +kernel) (by decide +kernel)), (Or.inl rfl)⟩)
theorem sRX11_getfield_95 (ini : Bool) (pc : Nat) : xwc RX11 ini (pc, .getfield 95, 3, 10, 38) := xwf (xgf1 (by decide) ⟨(RX11, TX11, 47), by decide, by decide, rfl, by decide, "BestParsesModel", (xG_of 1119 (by decide +kernel) (by decide +kernel)), (Or.inl rfl)⟩)
theorem sRX11_getfield_76 (ini : Bool) (pc : Nat) : xwc RX11 ini (pc, .getfield 76, 3, 10, 32) := xwf (xgf1 (by decide) ⟨(RX11, TX11, 47), by decide, by decide, rfl, by decide, "BestParsesModel", (xG_of 1113 (by decide +kernel) (by decide +kernel)), (Or.inl rfl)⟩)
theorem sRX11_invokevirtual_253 (ini : Bool) (pc : Nat) : xwc RX11 ini (pc, .invokevirtual 253, 3, 134, 2) := xwv ⟨by decide, fun k j hx => by obtain ⟨rfl, rfl⟩ := xtg_d (by decide) hx; exact ⟨by decide, yX11_isState, cX11_isState, some .boolean, false, (RX11, TX11, 47), rfl, by decide, by decide, rfl, (xG_of 1281 (by decide +kernel) (by decide +kernel)), (xG_of 27 (by decide +kernel) (by decide +kernel)), Or.inl ⟨(xG_of 1279 (by decide +kernel) (by decide +kernel)), (xG_s 37 (by decide +kernel) (by decide +kernel)), by decide +kernel, by decide +kernel, by decide +kernel⟩⟩⟩
theorem sRX11_invokevirtual_257 (ini : Bool) (pc : Nat) : xwc RX11 ini (pc, .invokevirtual 257, 3, 136, 3) := xwv ⟨by decide, fun k j hx => by obtain ⟨rfl, rfl⟩ := xtg_d (by decide) hx; exact ⟨by decide, yX11_moveState, cX11_moveState, none, false, (RX11, TX11, 47), rfl, by decide, by decide, rfl, (xG_of 1285 (by decide +kernel) (by decide +kernel)), (xG_of 27 (by decide +kernel) (by decide +kernel)), Or.inl ⟨(xG_of 1283 (by decide +kernel) (by decide +kernel)), (xG_s 38 (by decide +kernel) (by decide +kernel)), by decide +kernel, by decide +kernel, by decide +kernel⟩⟩⟩
theorem sRX11_getfield_79 (ini : Bool) (pc : Nat) : xwc RX11 ini (pc, .getfield 79, 3, 10, 33) := xwf (xgf1 (by decide) ⟨(RX11, TX11, 47), by decide, by decide, rfl, by decide, "BestParsesModel", (xG_of 1114 (by decide +kernel) (by decide +kernel)), (Or.inl rfl)⟩)
theorem sRX11_invokevirtual_260 (ini : Bool) (pc : Nat) : xwc RX11 ini (pc, .invokevirtual 260, 3, 135, 3) := xwv ⟨by decide, fun k j hx => by obtain ⟨rfl, rfl⟩ := xtg_d (by decide) hx; exact ⟨by decide, yX11_isBehind, cX11_isBehind, some .boolean, false, (RX11, TX11, 47), rfl, by decide, by decide, rfl, (xG_of 1289 (by decide +kernel) (by decide +kernel)), (xG_of 27 (by decide +kernel) (by decide +kernel)), Or.inl ⟨(xG_of 1287 (by decide +kernel) (by decide +kernel)), (xG_s 39 (by decide +kernel) (by decide +kernel)), by decide +kernel, by decide +kernel, by decide +kernel⟩⟩⟩
theorem sRX11_invokevirtual_263 (ini : Bool) (pc : Nat) : xwc RX11 ini (pc, .invokevirtual 263, 3, 138, 2) := xwv ⟨by decide, fun k j hx => by obtain ⟨rfl, rfl⟩ := xtg_d (by decide) hx; exact ⟨by decide, yX11_takeLatest, cX11_takeLatest, none, false, (RX11, TX11, 47), rfl, by decide, by decide, rfl, (xG_of 1305 (by decide +kernel) (by decide +kernel)), (xG_of 27 (by decide +kernel) (by decide +kernel)), Or.inl ⟨(xG_of 1303 (by decide +kernel) (by decide +kernel)), (xG_s 43 (by decide +kernel) (by decide +kernel)), by decide +kernel, by decide +kernel, by decide +kernel⟩⟩⟩
theorem sRX11_invokevirtual_266 (ini : Bool) (pc : Nat) : xwc RX11 ini (pc, .invokevirtual 266, 3, 137, 6) := xwv ⟨by decide, fun k j hx => by obtain ⟨rfl, rfl⟩ := xtg_d (by decide) hx; exact ⟨by decide, yX11_comes, cX11_comes, none, false, (RX11, TX11, 47), rfl, by decide, by decide, rfl, (xG_of 1277 (by decide +kernel) (by decide +kernel)), (xG_of 27 (by decide +kernel) (by decide +kernel)), Or.inl ⟨(xG_of 1275 (by decide +kernel) (by decide +kernel)), (xG_s 36 (by decide +kernel) (by decide +kernel)), by decide +kernel, by decide +kernel, by decide +kernel⟩⟩⟩
theorem sRX11_invokevirtual_270 (ini : Bool) (pc : Nat) : xwc RX11 ini (pc, .invokevirtual 270, 3, 139, 3) := xwv ⟨by decide, fun k j hx => by obtain ⟨rfl, rfl⟩ := xtg_d (by decide) hx; exact ⟨by decide, yX11_expand, cX11_expand, none, false, (RX11, TX11, 47), rfl, by decide, by decide, rfl, (xG_of 1293 (by decide +kernel) (by decide +kernel)), (xG_of 27 (by decide +kernel) (by decide +kernel)), Or.inl ⟨(xG_of 1291 (by decide +kernel) (by decide +kernel)), (xG_s 40 (by decide +kernel) (by decide +kernel)), by decide +kernel, by decide +kernel, by decide +kernel⟩⟩⟩
theorem sRX11_getfield_250 (ini : Bool) (pc : Nat) : xwc RX11 ini (pc, .getfield 250, 3, 10, 18) := xwf (xgf1 (by decide) ⟨(RX11, TX11, 47), by decide, by decide, rfl, by decide, "BestParsesModel", (xG_of 1099 (by decide +kernel) (by decide +kernel)), (Or.inl rfl)⟩)
theorem sRX11_invokevirtual_273 (ini : Bool) (pc : Nat) : xwc RX11 ini (pc, .invokevirtual 273, 3, 107, 1) := xwv ⟨by decide, fun k j hx => by obtain ⟨rfl, rfl⟩ := xtg_d (by decide) hx; exact ⟨by decide, yX11_layOut, cX11_layOut, none, false, (RX11, TX11, 47), rfl, by decide, by decide, rfl, (xG_of 1261 (by decide +kernel) (by decide +kernel)), (xG_of 27 (by decide +kernel) (by decide +kernel)), Or.inl ⟨(xG_of 1259 (by decide +kernel) (by decide +kernel)), (xG_s 32 (by decide +kernel) (by decide +kernel)), by decide +kernel, by decide +kernel, by decide +kernel⟩⟩⟩
theorem sRX11_invokevirtual_276 (ini : Bool) (pc : Nat) : xwc RX11 ini (pc, .invokevirtual 276, 3, 140, 1) := xwv ⟨by decide, fun k j hx => by obtain ⟨rfl, rfl⟩ := xtg_d (by decide) hx; exact ⟨by decide, yX11_bestWide, cX11_bestWide, none, false, (RX11, TX11, 47), rfl, by decide, by decide, rfl, (xG_of 1269 (by decide +kernel) (by decide +kernel)), (xG_of 27 (by decide +kernel) (by decide +kernel)), Or.inl ⟨(xG_of 1267 (by decide +kernel) (by decide +kernel)), (xG_s 34 (by decide +kernel) (by decide +kernel)), by decide +kernel, by decide +kernel, by decide +kernel⟩⟩⟩
theorem sRX11_invokevirtual_279 (ini : Bool) (pc : Nat) : xwc RX11 ini (pc, .invokevirtual 279, 3, 133, 1) := xwv ⟨by decide, fun k j hx => by obtain ⟨rfl, rfl⟩ := xtg_d (by decide) hx; exact ⟨by decide, yX11_bestPlain, cX11_bestPlain, none, false, (RX11, TX11, 47), rfl, by decide, by decide, rfl, (xG_of 1359 (by decide +kernel) (by decide +kernel)), (xG_of 27 (by decide +kernel) (by decide +kernel)), Or.inl ⟨(xG_of 1357 (by decide +kernel) (by decide +kernel)), (xG_s 52 (by decide +kernel) (by decide +kernel)), by decide +kernel, by decide +kernel, by decide +kernel⟩⟩⟩
theorem sRX11_invokevirtual_282 (ini : Bool) (pc : Nat) : xwc RX11 ini (pc, .invokevirtual 282, 3, 141, 1) := xwv ⟨by decide, fun k j hx => by obtain ⟨rfl, rfl⟩ := xtg_d (by decide) hx; exact ⟨by decide, yX11_best, cX11_best, none, false, (RX11, TX11, 47), rfl, by decide, by decide, rfl, (xG_of 1257 (by decide +kernel) (by decide +kernel)), (xG_of 27 (by decide +kernel) (by decide +kernel)), Or.inl ⟨(xG_of 1255 (by decide +kernel) (by decide +kernel)), (xG_s 31 (by decide +kernel) (by decide +kernel)), by decide +kernel, by decide +kernel, by decide +kernel⟩⟩⟩
theorem sRX11_invokevirtual_285 (ini : Bool) (pc : Nat) : xwc RX11 ini (pc, .invokevirtual 285, 3, 125, 2) := xwv ⟨by decide, fun k j hx => by obtain ⟨rfl, rfl⟩ := xtg_d (by decide) hx; exact ⟨by decide, yX11_greedy, cX11_greedy, none, false, (RX11, TX11, 47), rfl, by decide, by decide, rfl, (xG_of 1389 (by decide +kernel) (by decide +kernel)), (xG_of 27 (by decide +kernel) (by decide +kernel)), Or.inl ⟨(xG_of 1387 (by decide +kernel) (by decide +kernel)), (xG_s 59 (by decide +kernel) (by decide +kernel)), by decide +kernel, by decide +kernel, by decide +kernel⟩⟩⟩
theorem sRX11_ldc2_w_288 (ini : Bool) (pc : Nat) : xwc RX11 ini (pc, .ldc2_w 288, 3, 64, 0) := xwkj (xG_of 1411 (by decide +kernel) (by decide +kernel))
theorem sRX11_getfield_98 (ini : Bool) (pc : Nat) : xwc RX11 ini (pc, .getfield 98, 3, 10, 39) := xwf (xgf1 (by decide) ⟨(RX11, TX11, 47), by decide, by decide, rfl, by decide, "BestParsesModel", (xG_of 1120 (by decide +kernel) (by decide +kernel)), (Or.inl rfl)⟩)
theorem sRX11_invokestatic_290 (ini : Bool) (pc : Nat) : xwc RX11 ini (pc, .invokestatic 290, 3, 143, 1) := xws (by decide) (fun _ => ⟨by decide, yX11_log, cX11_log, some .int, false, rfl, (xG_of 1409 (by decide +kernel) (by decide +kernel)), (xG_of 27 (by decide +kernel) (by decide +kernel)), ⟨by decide +kernel, by decide +kernel, by decide +kernel⟩, (Or.inl (xG_of 1408 (by decide +kernel) (by decide +kernel)))⟩)
theorem sRX11_ldc2_w_293 (ini : Bool) (pc : Nat) : xwc RX11 ini (pc, .ldc2_w 293, 3, 18446744073709551615, 0) := xwkj (xG_of 1403 (by decide +kernel) (by decide +kernel))
theorem sRX11_invokevirtual_295 (ini : Bool) (pc : Nat) : xwc RX11 ini (pc, .invokevirtual 295, 3, 144, 1) := xwv ⟨by decide, fun k j hx => by obtain ⟨rfl, rfl⟩ := xtg_d (by decide) hx; exact ⟨by decide, yX11_fit, cX11_fit, none, false, (RX11, TX11, 47), rfl, by decide, by decide, rfl, (xG_of 1406 (by decide +kernel) (by decide +kernel)), (xG_of 27 (by decide +kernel) (by decide +kernel)), Or.inl ⟨(xG_of 1404 (by decide +kernel) (by decide +kernel)), (xG_s 62 (by decide +kernel) (by decide +kernel)), by decide +kernel, by decide +kernel, by decide +kernel⟩⟩⟩
theorem sRX11_getfield_220 (ini : Bool) (pc : Nat) : xwc RX11 ini (pc, .getfield 220, 3, 10, 16) := xwf (xgf1 (by decide) ⟨(RX11, TX11, 47), by decide, by decide, rfl, by decide, "BestParsesModel", (xG_of 1097 (by decide +kernel) (by decide +kernel)), (Or.inl rfl)⟩)
theorem sRX11_getfield_224 (ini : Bool) (pc : Nat) : xwc RX11 ini (pc, .getfield 224, 3, 10, 17) := xwf (xgf1 (by decide) ⟨(RX11, TX11, 47), by decide, by decide, rfl, by decide, "BestParsesModel", (xG_of 1098 (by decide +kernel) (by decide +kernel)), (Or.inl rfl)⟩)
theorem sRX11_getfield_101 (ini : Bool) (pc : Nat) : xwc RX11 ini (pc, .getfield 101, 3, 10, 40) := xwf (xgf1 (by decide) ⟨(RX11, TX11, 47), by decide, by decide, rfl, by decide, "BestParsesModel", (xG_of 1121 (by decide +kernel) (by decide +kernel)), (Or.inl rfl)⟩)
theorem sRX11_getfield_104 (ini : Bool) (pc : Nat) : xwc RX11 ini (pc, .getfield 104, 3, 10, 41) := xwf (xgf1 (by decide) ⟨(RX11, TX11, 47), by decide, by decide, rfl, by decide, "BestParsesModel", (xG_of 1122 (by decide +kernel) (by decide +kernel)), (Or.inl rfl)⟩)
theorem sRX11_getfield_107 (ini : Bool) (pc : Nat) : xwc RX11 ini (pc, .getfield 107, 3, 10, 42) := xwf (xgf1 (by decide) ⟨(RX11, TX11, 47), by decide, by decide, rfl, by decide, "BestParsesModel", (xG_of 1123 (by decide +kernel) (by decide +kernel)), (Or.inl rfl)⟩)
theorem sRX11_getfield_110 (ini : Bool) (pc : Nat) : xwc RX11 ini (pc, .getfield 110, 3, 10, 43) := xwf (xgf1 (by decide) ⟨(RX11, TX11, 47), by decide, by decide, rfl, by decide, "BestParsesModel", (xG_of 1124 (by decide +kernel) (by decide +kernel)), (Or.inl rfl)⟩)
theorem sRX11_getfield_113 (ini : Bool) (pc : Nat) : xwc RX11 ini (pc, .getfield 113, 3, 10, 44) := xwf (xgf1 (by decide) ⟨(RX11, TX11, 47), by decide, by decide, rfl, by decide, "BestParsesModel", (xG_of 1125 (by decide +kernel) (by decide +kernel)), (Or.inl rfl)⟩)
theorem sRX11_getfield_141 (ini : Bool) (pc : Nat) : xwc RX11 ini (pc, .getfield 141, 3, 10, 10) := xwf (xgf1 (by decide) ⟨(RX11, TX11, 47), by decide, by decide, rfl, by decide, "BestParsesModel", (xG_of 1091 (by decide +kernel) (by decide +kernel)), (Or.inl rfl)⟩)
theorem sRX11_getfield_116 (ini : Bool) (pc : Nat) : xwc RX11 ini (pc, .getfield 116, 3, 10, 45) := xwf (xgf1 (by decide) ⟨(RX11, TX11, 47), by decide, by decide, rfl, by decide, "BestParsesModel", (xG_of 1126 (by decide +kernel) (by decide +kernel)), (Or.inl rfl)⟩)
theorem sRX11_getfield_298 (ini : Bool) (pc : Nat) : xwc RX11 ini (pc, .getfield 298, 3, 10, 7) := xwf (xgf1 (by decide) ⟨(RX11, TX11, 47), by decide, by decide, rfl, by decide, "BestParsesModel", (xG_of 1088 (by decide +kernel) (by decide +kernel)), (Or.inl rfl)⟩)
theorem sRX11_getfield_20 (ini : Bool) (pc : Nat) : xwc RX11 ini (pc, .getfield 20, 3, 10, 6) := xwf (xgf1 (by decide) ⟨(RX11, TX11, 47), by decide, by decide, rfl, by decide, "BestParsesModel", (xG_of 1087 (by decide +kernel) (by decide +kernel)), (Or.inl rfl)⟩)
theorem sRX11_putfield_298 (ini : Bool) (pc : Nat) : xwc RX11 ini (pc, .putfield 298, 3, 10, 7) := xwp (xgp1 (by decide) ⟨⟨(RX11, TX11, 47), by decide, by decide, rfl, by decide, "BestParsesModel", (xG_of 1088 (by decide +kernel) (by decide +kernel)), (Or.inl rfl)⟩, (xpf1 (q := (RX11, TX11, 47)) rfl (Or.inl rfl))⟩)
theorem sRX11_invokevirtual_301 (ini : Bool) (pc : Nat) : xwc RX11 ini (pc, .invokevirtual 301, 3, 154, 2) := xwv ⟨by decide, fun k j hx => by obtain ⟨rfl, rfl⟩ := xtg_d (by decide) hx; exact ⟨by decide, yX11_border, cX11_border, some .int, false, (RX11, TX11, 47), rfl, by decide, by decide, rfl, (xG_of 1455 (by decide +kernel) (by decide +kernel)), (xG_of 27 (by decide +kernel) (by decide +kernel)), Or.inl ⟨(xG_of 1453 (by decide +kernel) (by decide +kernel)), (xG_s 64 (by decide +kernel) (by decide +kernel)), by decide +kernel, by decide +kernel, by decide +kernel⟩⟩⟩
theorem sRX11_getfield_119 (ini : Bool) (pc : Nat) : xwc RX11 ini (pc, .getfield 119, 3, 10, 46) := xwf (xgf1 (by decide) ⟨(RX11, TX11, 47), by decide, by decide, rfl, by decide, "BestParsesModel", (xG_of 1127 (by decide +kernel) (by decide +kernel)), (Or.inl rfl)⟩)
theorem sRX11_ldc_w_304 (ini : Bool) (pc : Nat) : xwc RX11 ini (pc, .ldc_w 304, 3, 100000, 0) := xwkw (xG_of 1448 (by decide +kernel) (by decide +kernel))
theorem sRX11_invokevirtual_305 (ini : Bool) (pc : Nat) : xwc RX11 ini (pc, .invokevirtual 305, 3, 155, 2) := xwv ⟨by decide, fun k j hx => by obtain ⟨rfl, rfl⟩ := xtg_d (by decide) hx; exact ⟨by decide, yX11_fillBlocks, cX11_fillBlocks, none, false, (RX11, TX11, 47), rfl, by decide, by decide, rfl, (xG_of 1451 (by decide +kernel) (by decide +kernel)), (xG_of 27 (by decide +kernel) (by decide +kernel)), Or.inl ⟨(xG_of 1449 (by decide +kernel) (by decide +kernel)), (xG_s 63 (by decide +kernel) (by decide +kernel)), by decide +kernel, by decide +kernel, by decide +kernel⟩⟩⟩
theorem sRX11_invokevirtual_308 (ini : Bool) (pc : Nat) : xwc RX11 ini (pc, .invokevirtual 308, 3, 156, 2) := xwv ⟨by decide, fun k j hx => by obtain ⟨rfl, rfl⟩ := xtg_d (by decide) hx; exact ⟨by decide, yX11_setCost, cX11_setCost, some .long, false, (RX11, TX11, 47), rfl, by decide, by decide, rfl, (xG_of 1459 (by decide +kernel) (by decide +kernel)), (xG_of 27 (by decide +kernel) (by decide +kernel)), Or.inl ⟨(xG_of 1457 (by decide +kernel) (by decide +kernel)), (xG_s 65 (by decide +kernel) (by decide +kernel)), by decide +kernel, by decide +kernel, by decide +kernel⟩⟩⟩
theorem sRX11_invokestatic_312 (ini : Bool) (pc : Nat) : xwc RX11 ini (pc, .invokestatic 312, 3, 157, 1) := xws (by decide) (fun _ => ⟨by decide, yX11_count, cX11_count, some .int, false, rfl, (xG_of 1462 (by decide +kernel) (by decide +kernel)), (xG_of 27 (by decide +kernel) (by decide +kernel)), ⟨by decide +kernel, by decide +kernel, by decide +kernel⟩, (Or.inl (xG_of 1461 (by decide +kernel) (by decide +kernel)))⟩)
theorem sRX11_invokestatic_315 (ini : Bool) (pc : Nat) : xwc RX11 ini (pc, .invokestatic 315, 3, 158, 2) := xws (by decide) (fun _ => ⟨by decide, yX11_isBefore, cX11_isBefore, some .boolean, false, rfl, (xG_of 1465 (by decide +kernel) (by decide +kernel)), (xG_of 27 (by decide +kernel) (by decide +kernel)), ⟨by decide +kernel, by decide +kernel, by decide +kernel⟩, (Or.inl (xG_of 1464 (by decide +kernel) (by decide +kernel)))⟩)
theorem sRX11_putfield_318 (ini : Bool) (pc : Nat) : xwc RX11 ini (pc, .putfield 318, 3, 10, 9) := xwp (xgp1 (by decide) ⟨⟨(RX11, TX11, 47), by decide, by decide, rfl, by decide, "BestParsesModel", (xG_of 1090 (by decide +kernel) (by decide +kernel)), (Or.inl rfl)⟩, (xpf1 (q := (RX11, TX11, 47)) rfl (Or.inl rfl))⟩)
theorem sRX11_getfield_23 (ini : Bool) (pc : Nat) : xwc RX11 ini (pc, .getfield 23, 3, 10, 8) := xwf (xgf1 (by decide) ⟨(RX11, TX11, 47), by decide, by decide, rfl, by decide, "BestParsesModel", (xG_of 1089 (by decide +kernel) (by decide +kernel)), (Or.inl rfl)⟩)
theorem sRX11_getfield_318 (ini : Bool) (pc : Nat) : xwc RX11 ini (pc, .getfield 318, 3, 10, 9) := xwf (xgf1 (by decide) ⟨(RX11, TX11, 47), by decide, by decide, rfl, by decide, "BestParsesModel", (xG_of 1090 (by decide +kernel) (by decide +kernel)), (Or.inl rfl)⟩)
theorem sRJ7_invokestatic_13 (ini : Bool) (pc : Nat) : xwc RJ7 ini (pc, .invokestatic 13, 3, 164, 3) := xws (by decide) (fun _ => ⟨by decide, yJ7_rangeCheck_23922, cJ7_rangeCheck_23922, none, false, rfl, (xG_of 110 (by decide +kernel) (by decide +kernel)), (xG_of 5 (by decide +kernel) (by decide +kernel)), ⟨by decide +kernel, by decide +kernel, by decide +kernel⟩, (Or.inl (xG_of 109 (by decide +kernel) (by decide +kernel)))⟩)
theorem sRL_new_8 (ini : Bool) (pc : Nat) : xwc RL ini (pc, .new 8, 3, 9, 0) := xwn (fun q hq => by cases hq; exact (xG_of 29 (by decide +kernel) (by decide +kernel)))
theorem sRL_invokestatic_15 (ini : Bool) (pc : Nat) : xwc RL ini (pc, .invokestatic 15, 3, 168, 2) := xws (by decide) (fun _ => ⟨by decide, yL_cell, cL_cell, some .int, false, rfl, (xG_of 1054 (by decide +kernel) (by decide +kernel)), (xG_of 0 (by decide +kernel) (by decide +kernel)), ⟨by decide +kernel, by decide +kernel, by decide +kernel⟩, (Or.inl (xG_of 1053 (by decide +kernel) (by decide +kernel)))⟩)
theorem sRL_invokespecial_21 (ini : Bool) (pc : Nat) : xwc RL ini (pc, .invokespecial 21, 3, 73, 2) := xwi (by decide) (fun _ => ⟨by decide, by decide, yX10_init, cX10_init, true, rfl, rfl, (xG_of 32 (by decide +kernel) (by decide +kernel)), (xG_of 1 (by decide +kernel) (by decide +kernel)), ⟨by decide +kernel, by decide +kernel, by decide +kernel⟩, (Or.inl (xG_of 31 (by decide +kernel) (by decide +kernel)))⟩)
theorem sRL_new_24 (ini : Bool) (pc : Nat) : xwc RL ini (pc, .new 24, 3, 10, 0) := xwn (fun q hq => by cases hq; exact (xG_of 1069 (by decide +kernel) (by decide +kernel)))
theorem sRL_invokespecial_26 (ini : Bool) (pc : Nat) : xwc RL ini (pc, .invokespecial 26, 3, 96, 2) := xwi (by decide) (fun _ => ⟨by decide, by decide, yX11_init, cX11_init, true, rfl, rfl, (xG_of 1072 (by decide +kernel) (by decide +kernel)), (xG_of 27 (by decide +kernel) (by decide +kernel)), ⟨by decide +kernel, by decide +kernel, by decide +kernel⟩, (Or.inl (xG_of 1071 (by decide +kernel) (by decide +kernel)))⟩)
theorem sRL_newarray_long (ini : Bool) (pc : Nat) : xwc RL ini (pc, .newarray .long, 2, 0, 0) := xwa (xG_of 533 (by decide +kernel) (by decide +kernel))
theorem sRL_ldc2_w_27 (ini : Bool) (pc : Nat) : xwc RL ini (pc, .ldc2_w 27, 3, 4294967295, 0) := xwkj (xG_of 1483 (by decide +kernel) (by decide +kernel))
theorem sRL_invokevirtual_29 (ini : Bool) (pc : Nat) : xwc RL ini (pc, .invokevirtual 29, 3, 74, 3) := xwv ⟨by decide, fun k j hx => by obtain ⟨rfl, rfl⟩ := xtg_d (by decide) hx; exact ⟨by decide, yX10_octets, cX10_octets, some .int, false, (RX10, TX10, 12), rfl, by decide, by decide, rfl, (xG_of 671 (by decide +kernel) (by decide +kernel)), (xG_of 1 (by decide +kernel) (by decide +kernel)), Or.inl ⟨(xG_of 670 (by decide +kernel) (by decide +kernel)), (xG_of 672 (by decide +kernel) (by decide +kernel)), by decide +kernel, by decide +kernel, by decide +kernel⟩⟩⟩
theorem sRL_invokevirtual_33 (ini : Bool) (pc : Nat) : xwc RL ini (pc, .invokevirtual 33, 3, 103, 3) := xwv ⟨by decide, fun k j hx => by obtain ⟨rfl, rfl⟩ := xtg_d (by decide) hx; exact ⟨by decide, yX11_octets, cX11_octets, some .int, false, (RX11, TX11, 47), rfl, by decide, by decide, rfl, (xG_of 1228 (by decide +kernel) (by decide +kernel)), (xG_of 27 (by decide +kernel) (by decide +kernel)), Or.inl ⟨(xG_of 1227 (by decide +kernel) (by decide +kernel)), (xG_of 1229 (by decide +kernel) (by decide +kernel)), by decide +kernel, by decide +kernel, by decide +kernel⟩⟩⟩
theorem sRL_invokevirtual_34 (ini : Bool) (pc : Nat) : xwc RL ini (pc, .invokevirtual 34, 3, 75, 4) := xwv ⟨by decide, fun k j hx => by obtain ⟨rfl, rfl⟩ := xtg_d (by decide) hx; exact ⟨by decide, yX10_cost, cX10_cost, some .int, false, (RX10, TX10, 12), rfl, by decide, by decide, rfl, (xG_of 687 (by decide +kernel) (by decide +kernel)), (xG_of 1 (by decide +kernel) (by decide +kernel)), Or.inl ⟨(xG_of 686 (by decide +kernel) (by decide +kernel)), (xG_of 688 (by decide +kernel) (by decide +kernel)), by decide +kernel, by decide +kernel, by decide +kernel⟩⟩⟩
theorem sRL_invokevirtual_38 (ini : Bool) (pc : Nat) : xwc RL ini (pc, .invokevirtual 38, 3, 104, 4) := xwv ⟨by decide, fun k j hx => by obtain ⟨rfl, rfl⟩ := xtg_d (by decide) hx; exact ⟨by decide, yX11_cost, cX11_cost, some .int, false, (RX11, TX11, 47), rfl, by decide, by decide, rfl, (xG_of 1233 (by decide +kernel) (by decide +kernel)), (xG_of 27 (by decide +kernel) (by decide +kernel)), Or.inl ⟨(xG_of 1232 (by decide +kernel) (by decide +kernel)), (xG_of 1234 (by decide +kernel) (by decide +kernel)), by decide +kernel, by decide +kernel, by decide +kernel⟩⟩⟩
theorem sRL_invokevirtual_39 (ini : Bool) (pc : Nat) : xwc RL ini (pc, .invokevirtual 39, 3, 76, 3) := xwv ⟨by decide, fun k j hx => by obtain ⟨rfl, rfl⟩ := xtg_d (by decide) hx; exact ⟨by decide, yX10_price, cX10_price, some .int, false, (RX10, TX10, 12), rfl, by decide, by decide, rfl, (xG_of 704 (by decide +kernel) (by decide +kernel)), (xG_of 1 (by decide +kernel) (by decide +kernel)), Or.inl ⟨(xG_of 703 (by decide +kernel) (by decide +kernel)), (xG_of 705 (by decide +kernel) (by decide +kernel)), by decide +kernel, by decide +kernel, by decide +kernel⟩⟩⟩
theorem sRL_invokevirtual_43 (ini : Bool) (pc : Nat) : xwc RL ini (pc, .invokevirtual 43, 3, 105, 3) := xwv ⟨by decide, fun k j hx => by obtain ⟨rfl, rfl⟩ := xtg_d (by decide) hx; exact ⟨by decide, yX11_price, cX11_price, some .int, false, (RX11, TX11, 47), rfl, by decide, by decide, rfl, (xG_of 1244 (by decide +kernel) (by decide +kernel)), (xG_of 27 (by decide +kernel) (by decide +kernel)), Or.inl ⟨(xG_of 1243 (by decide +kernel) (by decide +kernel)), (xG_of 1245 (by decide +kernel) (by decide +kernel)), by decide +kernel, by decide +kernel, by decide +kernel⟩⟩⟩
theorem sRL_invokevirtual_44 (ini : Bool) (pc : Nat) : xwc RL ini (pc, .invokevirtual 44, 3, 77, 2) := xwv ⟨by decide, fun k j hx => by obtain ⟨rfl, rfl⟩ := xtg_d (by decide) hx; exact ⟨by decide, yX10_keep, cX10_keep, some .int, false, (RX10, TX10, 12), rfl, by decide, by decide, rfl, (xG_of 708 (by decide +kernel) (by decide +kernel)), (xG_of 1 (by decide +kernel) (by decide +kernel)), Or.inl ⟨(xG_of 707 (by decide +kernel) (by decide +kernel)), (xG_of 709 (by decide +kernel) (by decide +kernel)), by decide +kernel, by decide +kernel, by decide +kernel⟩⟩⟩
theorem sRL_invokevirtual_47 (ini : Bool) (pc : Nat) : xwc RL ini (pc, .invokevirtual 47, 3, 106, 2) := xwv ⟨by decide, fun k j hx => by obtain ⟨rfl, rfl⟩ := xtg_d (by decide) hx; exact ⟨by decide, yX11_keep, cX11_keep, some .int, false, (RX11, TX11, 47), rfl, by decide, by decide, rfl, (xG_of 1248 (by decide +kernel) (by decide +kernel)), (xG_of 27 (by decide +kernel) (by decide +kernel)), Or.inl ⟨(xG_of 1247 (by decide +kernel) (by decide +kernel)), (xG_of 1249 (by decide +kernel) (by decide +kernel)), by decide +kernel, by decide +kernel, by decide +kernel⟩⟩⟩
theorem sRL_invokevirtual_48 (ini : Bool) (pc : Nat) : xwc RL ini (pc, .invokevirtual 48, 3, 78, 2) := xwv ⟨by decide, fun k j hx => by obtain ⟨rfl, rfl⟩ := xtg_d (by decide) hx; exact ⟨by decide, yX10_parse, cX10_parse, some .int, false, (RX10, TX10, 12), rfl, by decide, by decide, rfl, (xG_of 712 (by decide +kernel) (by decide +kernel)), (xG_of 1 (by decide +kernel) (by decide +kernel)), Or.inl ⟨(xG_of 711 (by decide +kernel) (by decide +kernel)), (xG_of 713 (by decide +kernel) (by decide +kernel)), by decide +kernel, by decide +kernel, by decide +kernel⟩⟩⟩
theorem sRL_invokevirtual_51 (ini : Bool) (pc : Nat) : xwc RL ini (pc, .invokevirtual 51, 3, 142, 2) := xwv ⟨by decide, fun k j hx => by obtain ⟨rfl, rfl⟩ := xtg_d (by decide) hx; exact ⟨by decide, yX11_parse, cX11_parse, some .int, false, (RX11, TX11, 47), rfl, by decide, by decide, rfl, (xG_of 1252 (by decide +kernel) (by decide +kernel)), (xG_of 27 (by decide +kernel) (by decide +kernel)), Or.inl ⟨(xG_of 1251 (by decide +kernel) (by decide +kernel)), (xG_of 1253 (by decide +kernel) (by decide +kernel)), by decide +kernel, by decide +kernel, by decide +kernel⟩⟩⟩
theorem sRL_invokevirtual_52 (ini : Bool) (pc : Nat) : xwc RL ini (pc, .invokevirtual 52, 3, 79, 3) := xwv ⟨by decide, fun k j hx => by obtain ⟨rfl, rfl⟩ := xtg_d (by decide) hx; exact ⟨by decide, yX10_step, cX10_step, some .int, false, (RX10, TX10, 12), rfl, by decide, by decide, rfl, (xG_of 938 (by decide +kernel) (by decide +kernel)), (xG_of 1 (by decide +kernel) (by decide +kernel)), Or.inl ⟨(xG_of 937 (by decide +kernel) (by decide +kernel)), (xG_of 939 (by decide +kernel) (by decide +kernel)), by decide +kernel, by decide +kernel, by decide +kernel⟩⟩⟩
end
section
/-! what each field, call and constant asks of the words, by class and pool number -/
theorem sRL_invokevirtual_55 (ini : Bool) (pc : Nat) : xwc RL ini (pc, .invokevirtual 55, 3, 146, 3) := xwv ⟨by decide, fun k j hx => by obtain ⟨rfl, rfl⟩ := xtg_d (by decide) hx; exact ⟨by decide, yX11_step, cX11_step, some .int, false, (RX11, TX11, 47), rfl, by decide, by decide, rfl, (xG_of 1413 (by decide +kernel) (by decide +kernel)), (xG_of 27 (by decide +kernel) (by decide +kernel)), Or.inl ⟨(xG_of 1412 (by decide +kernel) (by decide +kernel)), (xG_of 1414 (by decide +kernel) (by decide +kernel)), by decide +kernel, by decide +kernel, by decide +kernel⟩⟩⟩
theorem sRL_invokevirtual_56 (ini : Bool) (pc : Nat) : xwc RL ini (pc, .invokevirtual 56, 3, 80, 1) := xwv ⟨by decide, fun k j hx => by obtain ⟨rfl, rfl⟩ := xtg_d (by decide) hx; exact ⟨by decide, yX10_sum, cX10_sum, some .long, false, (RX10, TX10, 12), rfl, by decide, by decide, rfl, (xG_of 943 (by decide +kernel) (by decide +kernel)), (xG_of 1 (by decide +kernel) (by decide +kernel)), Or.inl ⟨(xG_of 942 (by decide +kernel) (by decide +kernel)), (xG_of 944 (by decide +kernel) (by decide +kernel)), by decide +kernel, by decide +kernel, by decide +kernel⟩⟩⟩
theorem sRL_invokevirtual_60 (ini : Bool) (pc : Nat) : xwc RL ini (pc, .invokevirtual 60, 3, 147, 1) := xwv ⟨by decide, fun k j hx => by obtain ⟨rfl, rfl⟩ := xtg_d (by decide) hx; exact ⟨by decide, yX11_sum, cX11_sum, some .long, false, (RX11, TX11, 47), rfl, by decide, by decide, rfl, (xG_of 1417 (by decide +kernel) (by decide +kernel)), (xG_of 27 (by decide +kernel) (by decide +kernel)), Or.inl ⟨(xG_of 1416 (by decide +kernel) (by decide +kernel)), (xG_of 1418 (by decide +kernel) (by decide +kernel)), by decide +kernel, by decide +kernel, by decide +kernel⟩⟩⟩
theorem sRL_invokevirtual_61 (ini : Bool) (pc : Nat) : xwc RL ini (pc, .invokevirtual 61, 3, 81, 1) := xwv ⟨by decide, fun k j hx => by obtain ⟨rfl, rfl⟩ := xtg_d (by decide) hx; exact ⟨by decide, yX10_again, cX10_again, some .long, false, (RX10, TX10, 12), rfl, by decide, by decide, rfl, (xG_of 948 (by decide +kernel) (by decide +kernel)), (xG_of 1 (by decide +kernel) (by decide +kernel)), Or.inl ⟨(xG_of 947 (by decide +kernel) (by decide +kernel)), (xG_of 949 (by decide +kernel) (by decide +kernel)), by decide +kernel, by decide +kernel, by decide +kernel⟩⟩⟩
theorem sRL_invokevirtual_64 (ini : Bool) (pc : Nat) : xwc RL ini (pc, .invokevirtual 64, 3, 148, 1) := xwv ⟨by decide, fun k j hx => by obtain ⟨rfl, rfl⟩ := xtg_d (by decide) hx; exact ⟨by decide, yX11_again, cX11_again, some .long, false, (RX11, TX11, 47), rfl, by decide, by decide, rfl, (xG_of 1421 (by decide +kernel) (by decide +kernel)), (xG_of 27 (by decide +kernel) (by decide +kernel)), Or.inl ⟨(xG_of 1420 (by decide +kernel) (by decide +kernel)), (xG_of 1422 (by decide +kernel) (by decide +kernel)), by decide +kernel, by decide +kernel, by decide +kernel⟩⟩⟩
theorem sRL_invokevirtual_65 (ini : Bool) (pc : Nat) : xwc RL ini (pc, .invokevirtual 65, 3, 82, 1) := xwv ⟨by decide, fun k j hx => by obtain ⟨rfl, rfl⟩ := xtg_d (by decide) hx; exact ⟨by decide, yX10_least, cX10_least, some .boolean, false, (RX10, TX10, 12), rfl, by decide, by decide, rfl, (xG_of 952 (by decide +kernel) (by decide +kernel)), (xG_of 1 (by decide +kernel) (by decide +kernel)), Or.inl ⟨(xG_of 951 (by decide +kernel) (by decide +kernel)), (xG_of 953 (by decide +kernel) (by decide +kernel)), by decide +kernel, by decide +kernel, by decide +kernel⟩⟩⟩
theorem sRL_invokevirtual_69 (ini : Bool) (pc : Nat) : xwc RL ini (pc, .invokevirtual 69, 3, 149, 1) := xwv ⟨by decide, fun k j hx => by obtain ⟨rfl, rfl⟩ := xtg_d (by decide) hx; exact ⟨by decide, yX11_least, cX11_least, some .boolean, false, (RX11, TX11, 47), rfl, by decide, by decide, rfl, (xG_of 1425 (by decide +kernel) (by decide +kernel)), (xG_of 27 (by decide +kernel) (by decide +kernel)), Or.inl ⟨(xG_of 1424 (by decide +kernel) (by decide +kernel)), (xG_of 1426 (by decide +kernel) (by decide +kernel)), by decide +kernel, by decide +kernel, by decide +kernel⟩⟩⟩
theorem sRL_invokevirtual_70 (ini : Bool) (pc : Nat) : xwc RL ini (pc, .invokevirtual 70, 3, 83, 2) := xwv ⟨by decide, fun k j hx => by obtain ⟨rfl, rfl⟩ := xtg_d (by decide) hx; exact ⟨by decide, yX10_told, cX10_told, some .int, false, (RX10, TX10, 12), rfl, by decide, by decide, rfl, (xG_of 956 (by decide +kernel) (by decide +kernel)), (xG_of 1 (by decide +kernel) (by decide +kernel)), Or.inl ⟨(xG_of 955 (by decide +kernel) (by decide +kernel)), (xG_of 957 (by decide +kernel) (by decide +kernel)), by decide +kernel, by decide +kernel, by decide +kernel⟩⟩⟩
theorem sRL_invokevirtual_73 (ini : Bool) (pc : Nat) : xwc RL ini (pc, .invokevirtual 73, 3, 150, 2) := xwv ⟨by decide, fun k j hx => by obtain ⟨rfl, rfl⟩ := xtg_d (by decide) hx; exact ⟨by decide, yX11_told, cX11_told, some .int, false, (RX11, TX11, 47), rfl, by decide, by decide, rfl, (xG_of 1429 (by decide +kernel) (by decide +kernel)), (xG_of 27 (by decide +kernel) (by decide +kernel)), Or.inl ⟨(xG_of 1428 (by decide +kernel) (by decide +kernel)), (xG_of 1430 (by decide +kernel) (by decide +kernel)), by decide +kernel, by decide +kernel, by decide +kernel⟩⟩⟩
theorem sRL_invokevirtual_74 (ini : Bool) (pc : Nat) : xwc RL ini (pc, .invokevirtual 74, 3, 84, 2) := xwv ⟨by decide, fun k j hx => by obtain ⟨rfl, rfl⟩ := xtg_d (by decide) hx; exact ⟨by decide, yX10_rounds, cX10_rounds, some .long, false, (RX10, TX10, 12), rfl, by decide, by decide, rfl, (xG_of 961 (by decide +kernel) (by decide +kernel)), (xG_of 1 (by decide +kernel) (by decide +kernel)), Or.inl ⟨(xG_of 960 (by decide +kernel) (by decide +kernel)), (xG_of 962 (by decide +kernel) (by decide +kernel)), by decide +kernel, by decide +kernel, by decide +kernel⟩⟩⟩
theorem sRL_invokevirtual_78 (ini : Bool) (pc : Nat) : xwc RL ini (pc, .invokevirtual 78, 3, 145, 2) := xwv ⟨by decide, fun k j hx => by obtain ⟨rfl, rfl⟩ := xtg_d (by decide) hx; exact ⟨by decide, yX11_rounds, cX11_rounds, some .long, false, (RX11, TX11, 47), rfl, by decide, by decide, rfl, (xG_of 1400 (by decide +kernel) (by decide +kernel)), (xG_of 27 (by decide +kernel) (by decide +kernel)), Or.inl ⟨(xG_of 1399 (by decide +kernel) (by decide +kernel)), (xG_of 1401 (by decide +kernel) (by decide +kernel)), by decide +kernel, by decide +kernel, by decide +kernel⟩⟩⟩
theorem sRL_invokevirtual_79 (ini : Bool) (pc : Nat) : xwc RL ini (pc, .invokevirtual 79, 3, 85, 2) := xwv ⟨by decide, fun k j hx => by obtain ⟨rfl, rfl⟩ := xtg_d (by decide) hx; exact ⟨by decide, yX10_longest, cX10_longest, some .int, false, (RX10, TX10, 12), rfl, by decide, by decide, rfl, (xG_of 996 (by decide +kernel) (by decide +kernel)), (xG_of 1 (by decide +kernel) (by decide +kernel)), Or.inl ⟨(xG_of 995 (by decide +kernel) (by decide +kernel)), (xG_of 997 (by decide +kernel) (by decide +kernel)), by decide +kernel, by decide +kernel, by decide +kernel⟩⟩⟩
theorem sRL_invokevirtual_82 (ini : Bool) (pc : Nat) : xwc RL ini (pc, .invokevirtual 82, 3, 151, 2) := xwv ⟨by decide, fun k j hx => by obtain ⟨rfl, rfl⟩ := xtg_d (by decide) hx; exact ⟨by decide, yX11_longest, cX11_longest, some .int, false, (RX11, TX11, 47), rfl, by decide, by decide, rfl, (xG_of 1433 (by decide +kernel) (by decide +kernel)), (xG_of 27 (by decide +kernel) (by decide +kernel)), Or.inl ⟨(xG_of 1432 (by decide +kernel) (by decide +kernel)), (xG_of 1434 (by decide +kernel) (by decide +kernel)), by decide +kernel, by decide +kernel, by decide +kernel⟩⟩⟩
theorem sRL_invokevirtual_83 (ini : Bool) (pc : Nat) : xwc RL ini (pc, .invokevirtual 83, 3, 86, 3) := xwv ⟨by decide, fun k j hx => by obtain ⟨rfl, rfl⟩ := xtg_d (by decide) hx; exact ⟨by decide, yX10_distance, cX10_distance, some .int, false, (RX10, TX10, 12), rfl, by decide, by decide, rfl, (xG_of 1001 (by decide +kernel) (by decide +kernel)), (xG_of 1 (by decide +kernel) (by decide +kernel)), Or.inl ⟨(xG_of 1000 (by decide +kernel) (by decide +kernel)), (xG_of 1002 (by decide +kernel) (by decide +kernel)), by decide +kernel, by decide +kernel, by decide +kernel⟩⟩⟩
theorem sRL_invokevirtual_86 (ini : Bool) (pc : Nat) : xwc RL ini (pc, .invokevirtual 86, 3, 152, 3) := xwv ⟨by decide, fun k j hx => by obtain ⟨rfl, rfl⟩ := xtg_d (by decide) hx; exact ⟨by decide, yX11_distance, cX11_distance, some .int, false, (RX11, TX11, 47), rfl, by decide, by decide, rfl, (xG_of 1437 (by decide +kernel) (by decide +kernel)), (xG_of 27 (by decide +kernel) (by decide +kernel)), Or.inl ⟨(xG_of 1436 (by decide +kernel) (by decide +kernel)), (xG_of 1438 (by decide +kernel) (by decide +kernel)), by decide +kernel, by decide +kernel, by decide +kernel⟩⟩⟩
theorem sRL_invokevirtual_87 (ini : Bool) (pc : Nat) : xwc RL ini (pc, .invokevirtual 87, 3, 87, 2) := xwv ⟨by decide, fun k j hx => by obtain ⟨rfl, rfl⟩ := xtg_d (by decide) hx; exact ⟨by decide, yX10_cut, cX10_cut, some .int, false, (RX10, TX10, 12), rfl, by decide, by decide, rfl, (xG_of 1006 (by decide +kernel) (by decide +kernel)), (xG_of 1 (by decide +kernel) (by decide +kernel)), Or.inl ⟨(xG_of 1005 (by decide +kernel) (by decide +kernel)), (xG_of 1007 (by decide +kernel) (by decide +kernel)), by decide +kernel, by decide +kernel, by decide +kernel⟩⟩⟩
theorem sRL_invokevirtual_90 (ini : Bool) (pc : Nat) : xwc RL ini (pc, .invokevirtual 90, 3, 153, 2) := xwv ⟨by decide, fun k j hx => by obtain ⟨rfl, rfl⟩ := xtg_d (by decide) hx; exact ⟨by decide, yX11_cut, cX11_cut, some .int, false, (RX11, TX11, 47), rfl, by decide, by decide, rfl, (xG_of 1441 (by decide +kernel) (by decide +kernel)), (xG_of 27 (by decide +kernel) (by decide +kernel)), Or.inl ⟨(xG_of 1440 (by decide +kernel) (by decide +kernel)), (xG_of 1442 (by decide +kernel) (by decide +kernel)), by decide +kernel, by decide +kernel, by decide +kernel⟩⟩⟩
theorem sRL_invokevirtual_91 (ini : Bool) (pc : Nat) : xwc RL ini (pc, .invokevirtual 91, 3, 88, 2) := xwv ⟨by decide, fun k j hx => by obtain ⟨rfl, rfl⟩ := xtg_d (by decide) hx; exact ⟨by decide, yX10_split, cX10_split, some .long, false, (RX10, TX10, 12), rfl, by decide, by decide, rfl, (xG_of 1014 (by decide +kernel) (by decide +kernel)), (xG_of 1 (by decide +kernel) (by decide +kernel)), Or.inl ⟨(xG_of 1013 (by decide +kernel) (by decide +kernel)), (xG_of 1015 (by decide +kernel) (by decide +kernel)), by decide +kernel, by decide +kernel, by decide +kernel⟩⟩⟩
theorem sRL_invokevirtual_94 (ini : Bool) (pc : Nat) : xwc RL ini (pc, .invokevirtual 94, 3, 159, 2) := xwv ⟨by decide, fun k j hx => by obtain ⟨rfl, rfl⟩ := xtg_d (by decide) hx; exact ⟨by decide, yX11_split, cX11_split, some .long, false, (RX11, TX11, 47), rfl, by decide, by decide, rfl, (xG_of 1445 (by decide +kernel) (by decide +kernel)), (xG_of 27 (by decide +kernel) (by decide +kernel)), Or.inl ⟨(xG_of 1444 (by decide +kernel) (by decide +kernel)), (xG_of 1446 (by decide +kernel) (by decide +kernel)), by decide +kernel, by decide +kernel, by decide +kernel⟩⟩⟩
theorem sRL_invokevirtual_95 (ini : Bool) (pc : Nat) : xwc RL ini (pc, .invokevirtual 95, 3, 89, 2) := xwv ⟨by decide, fun k j hx => by obtain ⟨rfl, rfl⟩ := xtg_d (by decide) hx; exact ⟨by decide, yX10_taken, cX10_taken, some .int, false, (RX10, TX10, 12), rfl, by decide, by decide, rfl, (xG_of 1037 (by decide +kernel) (by decide +kernel)), (xG_of 1 (by decide +kernel) (by decide +kernel)), Or.inl ⟨(xG_of 1036 (by decide +kernel) (by decide +kernel)), (xG_of 1038 (by decide +kernel) (by decide +kernel)), by decide +kernel, by decide +kernel, by decide +kernel⟩⟩⟩
theorem sRL_invokevirtual_98 (ini : Bool) (pc : Nat) : xwc RL ini (pc, .invokevirtual 98, 3, 160, 2) := xwv ⟨by decide, fun k j hx => by obtain ⟨rfl, rfl⟩ := xtg_d (by decide) hx; exact ⟨by decide, yX11_taken, cX11_taken, some .int, false, (RX11, TX11, 47), rfl, by decide, by decide, rfl, (xG_of 1468 (by decide +kernel) (by decide +kernel)), (xG_of 27 (by decide +kernel) (by decide +kernel)), Or.inl ⟨(xG_of 1467 (by decide +kernel) (by decide +kernel)), (xG_of 1469 (by decide +kernel) (by decide +kernel)), by decide +kernel, by decide +kernel, by decide +kernel⟩⟩⟩
theorem sRL_invokevirtual_99 (ini : Bool) (pc : Nat) : xwc RL ini (pc, .invokevirtual 99, 3, 90, 2) := xwv ⟨by decide, fun k j hx => by obtain ⟨rfl, rfl⟩ := xtg_d (by decide) hx; exact ⟨by decide, yX10_many, cX10_many, some .int, false, (RX10, TX10, 12), rfl, by decide, by decide, rfl, (xG_of 1041 (by decide +kernel) (by decide +kernel)), (xG_of 1 (by decide +kernel) (by decide +kernel)), Or.inl ⟨(xG_of 1040 (by decide +kernel) (by decide +kernel)), (xG_of 1042 (by decide +kernel) (by decide +kernel)), by decide +kernel, by decide +kernel, by decide +kernel⟩⟩⟩
theorem sRL_invokevirtual_102 (ini : Bool) (pc : Nat) : xwc RL ini (pc, .invokevirtual 102, 3, 161, 2) := xwv ⟨by decide, fun k j hx => by obtain ⟨rfl, rfl⟩ := xtg_d (by decide) hx; exact ⟨by decide, yX11_many, cX11_many, some .int, false, (RX11, TX11, 47), rfl, by decide, by decide, rfl, (xG_of 1472 (by decide +kernel) (by decide +kernel)), (xG_of 27 (by decide +kernel) (by decide +kernel)), Or.inl ⟨(xG_of 1471 (by decide +kernel) (by decide +kernel)), (xG_of 1473 (by decide +kernel) (by decide +kernel)), by decide +kernel, by decide +kernel, by decide +kernel⟩⟩⟩
theorem sRL_invokevirtual_103 (ini : Bool) (pc : Nat) : xwc RL ini (pc, .invokevirtual 103, 3, 91, 1) := xwv ⟨by decide, fun k j hx => by obtain ⟨rfl, rfl⟩ := xtg_d (by decide) hx; exact ⟨by decide, yX10_clear, cX10_clear, none, false, (RX10, TX10, 12), rfl, by decide, by decide, rfl, (xG_of 1045 (by decide +kernel) (by decide +kernel)), (xG_of 1 (by decide +kernel) (by decide +kernel)), Or.inl ⟨(xG_of 1044 (by decide +kernel) (by decide +kernel)), (xG_of 1046 (by decide +kernel) (by decide +kernel)), by decide +kernel, by decide +kernel, by decide +kernel⟩⟩⟩
theorem sRL_invokevirtual_106 (ini : Bool) (pc : Nat) : xwc RL ini (pc, .invokevirtual 106, 3, 162, 1) := xwv ⟨by decide, fun k j hx => by obtain ⟨rfl, rfl⟩ := xtg_d (by decide) hx; exact ⟨by decide, yX11_clear, cX11_clear, none, false, (RX11, TX11, 47), rfl, by decide, by decide, rfl, (xG_of 1476 (by decide +kernel) (by decide +kernel)), (xG_of 27 (by decide +kernel) (by decide +kernel)), Or.inl ⟨(xG_of 1475 (by decide +kernel) (by decide +kernel)), (xG_of 1477 (by decide +kernel) (by decide +kernel)), by decide +kernel, by decide +kernel, by decide +kernel⟩⟩⟩
theorem sRL_invokestatic_107 (ini : Bool) (pc : Nat) : xwc RL ini (pc, .invokestatic 107, 3, 1004, 3) := xwt (fun _ => ⟨rfl, (xG_of 1056 (by decide +kernel) (by decide +kernel))⟩)
theorem sRL_invokevirtual_110 (ini : Bool) (pc : Nat) : xwc RL ini (pc, .invokevirtual 110, 3, 163, 2) := xwv ⟨by decide, fun k j hx => by obtain ⟨rfl, rfl⟩ := xtg_d (by decide) hx; exact ⟨by decide, yX11_trier, cX11_trier, some .int, false, (RX11, TX11, 47), rfl, by decide, by decide, rfl, (xG_of 1480 (by decide +kernel) (by decide +kernel)), (xG_of 27 (by decide +kernel) (by decide +kernel)), Or.inl ⟨(xG_of 1479 (by decide +kernel) (by decide +kernel)), (xG_of 1481 (by decide +kernel) (by decide +kernel)), by decide +kernel, by decide +kernel, by decide +kernel⟩⟩⟩
theorem sRL_invokevirtual_111 (ini : Bool) (pc : Nat) : xwc RL ini (pc, .invokevirtual 111, 3, 97, 1) := xwv ⟨by decide, fun k j hx => by obtain ⟨rfl, rfl⟩ := xtg_d (by decide) hx; exact ⟨by decide, yX11_thrown, cX11_thrown, some .int, false, (RX11, TX11, 47), rfl, by decide, by decide, rfl, (xG_of 1224 (by decide +kernel) (by decide +kernel)), (xG_of 27 (by decide +kernel) (by decide +kernel)), Or.inl ⟨(xG_of 1223 (by decide +kernel) (by decide +kernel)), (xG_of 1225 (by decide +kernel) (by decide +kernel)), by decide +kernel, by decide +kernel, by decide +kernel⟩⟩⟩
end
section
set_option maxRecDepth 100000 in
theorem vkX0_init : ∀ e ∈ kX0_init, xE RX0 true cX0_init e := xE_all (o := [(1, .invokespecial 1, 3, 1003, 1), (7, .newarray .int, 2, 0, 0), (9, .putfield 9, 3, 1, 1), (15, .newarray .int, 2, 0, 0), (17, .putfield 13, 3, 1, 3), (23, .newarray .long, 2, 0, 0), (25, .putfield 16, 3, 1, 5), (31, .newarray .int, 2, 0, 0), (33, .putfield 20, 3, 1, 6), (39, .newarray .int, 2, 0, 0), (41, .putfield 23, 3, 1, 7), (48, .newarray .int, 2, 0, 0), (50, .putfield 26, 3, 1, 8), (55, .putfield 29, 3, 1, 0)]) (by decide +kernel) (by rfl) (List.forall_mem_cons.mpr ⟨sRX0_invokespecial_1 true 1, List.forall_mem_cons.mpr ⟨sRX0_newarray_int true 7, List.forall_mem_cons.mpr ⟨sRX0_putfield_9 9, List.forall_mem_cons.mpr ⟨sRX0_newarray_int true 15, List.forall_mem_cons.mpr ⟨sRX0_putfield_13 17, List.forall_mem_cons.mpr ⟨sRX0_newarray_long true 23, List.forall_mem_cons.mpr ⟨sRX0_putfield_16 25, List.forall_mem_cons.mpr ⟨sRX0_newarray_int true 31, List.forall_mem_cons.mpr ⟨sRX0_putfield_20 33, List.forall_mem_cons.mpr ⟨sRX0_newarray_int true 39, List.forall_mem_cons.mpr ⟨sRX0_putfield_23 41, List.forall_mem_cons.mpr ⟨sRX0_newarray_int true 48, List.forall_mem_cons.mpr ⟨sRX0_putfield_26 50, List.forall_mem_cons.mpr ⟨sRX0_putfield_29 55, fun _ h => absurd h List.not_mem_nil⟩⟩⟩⟩⟩⟩⟩⟩⟩⟩⟩⟩⟩⟩)
set_option maxRecDepth 100000 in
theorem vkX0_forget : ∀ e ∈ kX0_forget, xE RX0 false cX0_forget e := xE_all (o := [(2, .putfield 33, 3, 1, 2), (7, .putfield 37, 3, 1, 4)]) (by decide +kernel) (by rfl) (List.forall_mem_cons.mpr ⟨sRX0_putfield_33 false 2, List.forall_mem_cons.mpr ⟨sRX0_putfield_37 false 7, fun _ h => absurd h List.not_mem_nil⟩⟩)
set_option maxRecDepth 100000 in
theorem vkX0_addCut_0 : ∀ e ∈ kX0_addCut_0, xE RX0 false cX0_addCut e := xE_all (o := [(7, .getfield 29, 3, 1, 0), (10, .getfield 40, 3, 8, 3), (17, .getfield 33, 3, 1, 2), (31, .getfield 33, 3, 1, 2), (38, .getfield 9, 3, 1, 1), (55, .getfield 33, 3, 1, 2), (62, .getfield 9, 3, 1, 1), (74, .getfield 33, 3, 1, 2), (84, .getfield 9, 3, 1, 1), (89, .getfield 9, 3, 1, 1), (104, .getfield 9, 3, 1, 1)]) (by decide +kernel) (by rfl) (List.forall_mem_cons.mpr ⟨sRX0_getfield_29 false 7, List.forall_mem_cons.mpr ⟨sRX0_getfield_40 false 10, List.forall_mem_cons.mpr ⟨sRX0_getfield_33 false 17, List.forall_mem_cons.mpr ⟨sRX0_getfield_33 false 31, List.forall_mem_cons.mpr ⟨sRX0_getfield_9 false 38, List.forall_mem_cons.mpr ⟨sRX0_getfield_33 false 55, List.forall_mem_cons.mpr ⟨sRX0_getfield_9 false 62, List.forall_mem_cons.mpr ⟨sRX0_getfield_33 false 74, List.forall_mem_cons.mpr ⟨sRX0_getfield_9 false 84, List.forall_mem_cons.mpr ⟨sRX0_getfield_9 false 89, List.forall_mem_cons.mpr ⟨sRX0_getfield_9 false 104, fun _ h => absurd h List.not_mem_nil⟩⟩⟩⟩⟩⟩⟩⟩⟩⟩⟩)
set_option maxRecDepth 100000 in
theorem vkX0_addCut_1 : ∀ e ∈ kX0_addCut_1, xE RX0 false cX0_addCut e := xE_all (o := [(112, .getfield 33, 3, 1, 2), (117, .putfield 33, 3, 1, 2)]) (by decide +kernel) (by rfl) (List.forall_mem_cons.mpr ⟨sRX0_getfield_33 false 112, List.forall_mem_cons.mpr ⟨sRX0_putfield_33 false 117, fun _ h => absurd h List.not_mem_nil⟩⟩)
set_option maxRecDepth 100000 in
theorem vkX0_addCut : ∀ e ∈ kX0_addCut, xE RX0 false cX0_addCut e := (fun e h => (List.mem_append.mp h).elim (vkX0_addCut_0 e) (vkX0_addCut_1 e))
set_option maxRecDepth 100000 in
theorem vkX0_divide_0 : ∀ e ∈ kX0_divide_0, xE RX0 false cX0_divide e := xE_all (o := [(1, .getfield 33, 3, 1, 2), (8, .getfield 16, 3, 1, 5), (15, .getfield 20, 3, 1, 6), (22, .getfield 33, 3, 1, 2), (33, .invokevirtual 45, 3, 4, 3), (44, .putfield 37, 3, 1, 4), (48, .getfield 23, 3, 1, 7), (60, .getfield 37, 3, 1, 4), (69, .getfield 13, 3, 1, 3), (73, .getfield 37, 3, 1, 4), (78, .invokevirtual 49, 3, 6, 2), (84, .getfield 37, 3, 1, 4), (89, .putfield 37, 3, 1, 4), (93, .getfield 23, 3, 1, 7)]) (by decide +kernel) (by rfl) (List.forall_mem_cons.mpr ⟨sRX0_getfield_33 false 1, List.forall_mem_cons.mpr ⟨sRX0_getfield_16 false 8, List.forall_mem_cons.mpr ⟨sRX0_getfield_20 false 15, List.forall_mem_cons.mpr ⟨sRX0_getfield_33 false 22, List.forall_mem_cons.mpr ⟨sRX0_invokevirtual_45 false 33, List.forall_mem_cons.mpr ⟨sRX0_putfield_37 false 44, List.forall_mem_cons.mpr ⟨sRX0_getfield_23 false 48, List.forall_mem_cons.mpr ⟨sRX0_getfield_37 false 60, List.forall_mem_cons.mpr ⟨sRX0_getfield_13 false 69, List.forall_mem_cons.mpr ⟨sRX0_getfield_37 false 73, List.forall_mem_cons.mpr ⟨sRX0_invokevirtual_49 false 78, List.forall_mem_cons.mpr ⟨sRX0_getfield_37 false 84, List.forall_mem_cons.mpr ⟨sRX0_putfield_37 false 89, List.forall_mem_cons.mpr ⟨sRX0_getfield_23 false 93, fun _ h => absurd h List.not_mem_nil⟩⟩⟩⟩⟩⟩⟩⟩⟩⟩⟩⟩⟩⟩)
set_option maxRecDepth 100000 in
theorem vkX0_divide_1 : ∀ e ∈ kX0_divide_1, xE RX0 false cX0_divide e := xE_all (o := [(103, .getfield 16, 3, 1, 5)]) (by decide +kernel) (by rfl) (List.forall_mem_cons.mpr ⟨sRX0_getfield_16 false 103, fun _ h => absurd h List.not_mem_nil⟩)
set_option maxRecDepth 100000 in
theorem vkX0_divide : ∀ e ∈ kX0_divide, xE RX0 false cX0_divide e := (fun e h => (List.mem_append.mp h).elim (vkX0_divide_0 e) (vkX0_divide_1 e))
set_option maxRecDepth 100000 in
theorem vkX0_findRest_0 : ∀ e ∈ kX0_findRest_0, xE RX0 false cX0_findRest e := xE_all (o := [(1, .getfield 26, 3, 1, 8), (5, .invokestatic 53, 3, 166, 2), (10, .invokevirtual 49, 3, 6, 2), (28, .getfield 33, 3, 1, 2), (39, .invokevirtual 49, 3, 6, 2), (55, .getfield 29, 3, 1, 0), (58, .getfield 59, 3, 8, 2), (64, .invokevirtual 62, 3, 5, 2), (87, .invokestatic 65, 3, 94, 1), (97, .getfield 16, 3, 1, 5)]) (by decide +kernel) (by rfl) (List.forall_mem_cons.mpr ⟨sRX0_getfield_26 false 1, List.forall_mem_cons.mpr ⟨sRX0_invokestatic_53 false 5, List.forall_mem_cons.mpr ⟨sRX0_invokevirtual_49 false 10, List.forall_mem_cons.mpr ⟨sRX0_getfield_33 false 28, List.forall_mem_cons.mpr ⟨sRX0_invokevirtual_49 false 39, List.forall_mem_cons.mpr ⟨sRX0_getfield_29 false 55, List.forall_mem_cons.mpr ⟨sRX0_getfield_59 false 58, List.forall_mem_cons.mpr ⟨sRX0_invokevirtual_62 false 64, List.forall_mem_cons.mpr ⟨sRX0_invokestatic_65 false 87, List.forall_mem_cons.mpr ⟨sRX0_getfield_16 false 97, fun _ h => absurd h List.not_mem_nil⟩⟩⟩⟩⟩⟩⟩⟩⟩⟩)
set_option maxRecDepth 100000 in
theorem vkX0_findRest_1 : ∀ e ∈ kX0_findRest_1, xE RX0 false cX0_findRest e := xE_all (o := [(108, .getfield 20, 3, 1, 6), (128, .getfield 16, 3, 1, 5), (140, .getfield 16, 3, 1, 5), (152, .getfield 20, 3, 1, 6), (161, .getfield 16, 3, 1, 5), (169, .getfield 20, 3, 1, 6), (177, .getfield 23, 3, 1, 7)]) (by decide +kernel) (by rfl) (List.forall_mem_cons.mpr ⟨sRX0_getfield_20 false 108, List.forall_mem_cons.mpr ⟨sRX0_getfield_16 false 128, List.forall_mem_cons.mpr ⟨sRX0_getfield_16 false 140, List.forall_mem_cons.mpr ⟨sRX0_getfield_20 false 152, List.forall_mem_cons.mpr ⟨sRX0_getfield_16 false 161, List.forall_mem_cons.mpr ⟨sRX0_getfield_20 false 169, List.forall_mem_cons.mpr ⟨sRX0_getfield_23 false 177, fun _ h => absurd h List.not_mem_nil⟩⟩⟩⟩⟩⟩⟩)
set_option maxRecDepth 100000 in
theorem vkX0_findRest : ∀ e ∈ kX0_findRest, xE RX0 false cX0_findRest e := (fun e h => (List.mem_append.mp h).elim (vkX0_findRest_0 e) (vkX0_findRest_1 e))
set_option maxRecDepth 100000 in
theorem vkX0_countOctet : ∀ e ∈ kX0_countOctet, xE RX0 false cX0_countOctet e := xE_all (o := [(1, .getfield 26, 3, 1, 8), (8, .getfield 26, 3, 1, 8), (22, .invokestatic 65, 3, 94, 1), (28, .invokestatic 65, 3, 94, 1)]) (by decide +kernel) (by rfl) (List.forall_mem_cons.mpr ⟨sRX0_getfield_26 false 1, List.forall_mem_cons.mpr ⟨sRX0_getfield_26 false 8, List.forall_mem_cons.mpr ⟨sRX0_invokestatic_65 false 22, List.forall_mem_cons.mpr ⟨sRX0_invokestatic_65 false 28, fun _ h => absurd h List.not_mem_nil⟩⟩⟩⟩)
set_option maxRecDepth 100000 in
theorem vkX0_placeOf : ∀ e ∈ kX0_placeOf, xE RX0 false cX0_placeOf e := xE_all (o := [(8, .getfield 33, 3, 1, 2), (15, .getfield 9, 3, 1, 1), (26, .getfield 29, 3, 1, 0), (29, .getfield 40, 3, 8, 3)]) (by decide +kernel) (by rfl) (List.forall_mem_cons.mpr ⟨sRX0_getfield_33 false 8, List.forall_mem_cons.mpr ⟨sRX0_getfield_9 false 15, List.forall_mem_cons.mpr ⟨sRX0_getfield_29 false 26, List.forall_mem_cons.mpr ⟨sRX0_getfield_40 false 29, fun _ h => absurd h List.not_mem_nil⟩⟩⟩⟩)
set_option maxRecDepth 100000 in
theorem vkX1_init : ∀ e ∈ kX1_init, xE RX1 true cX1_init e := xE_all (o := [(1, .invokespecial 3, 3, 1003, 1), (8, .newarray .int, 2, 0, 0), (10, .putfield 11, 3, 2, 1), (17, .newarray .int, 2, 0, 0), (19, .putfield 15, 3, 2, 2), (26, .newarray .int, 2, 0, 0), (28, .putfield 18, 3, 2, 3), (35, .newarray .int, 2, 0, 0), (37, .putfield 21, 3, 2, 4), (59, .putfield 24, 3, 2, 0), (63, .invokevirtual 28, 3, 8, 1)]) (by decide +kernel) (by rfl) (List.forall_mem_cons.mpr ⟨sRX1_invokespecial_3 true 1, List.forall_mem_cons.mpr ⟨sRX1_newarray_int true 8, List.forall_mem_cons.mpr ⟨sRX1_putfield_11 10, List.forall_mem_cons.mpr ⟨sRX1_newarray_int true 17, List.forall_mem_cons.mpr ⟨sRX1_putfield_15 19, List.forall_mem_cons.mpr ⟨sRX1_newarray_int true 26, List.forall_mem_cons.mpr ⟨sRX1_putfield_18 28, List.forall_mem_cons.mpr ⟨sRX1_newarray_int true 35, List.forall_mem_cons.mpr ⟨sRX1_putfield_21 37, List.forall_mem_cons.mpr ⟨sRX1_putfield_24 59, List.forall_mem_cons.mpr ⟨sRX1_invokevirtual_28 true 63, fun _ h => absurd h List.not_mem_nil⟩⟩⟩⟩⟩⟩⟩⟩⟩⟩⟩)
set_option maxRecDepth 100000 in
theorem vkX1_reset : ∀ e ∈ kX1_reset, xE RX1 false cX1_reset e := xE_all (o := [(8, .getfield 11, 3, 2, 1), (11, .getstatic 31, 3, 2, 0), (16, .getstatic 31, 3, 2, 0), (21, .getstatic 34, 3, 1, 0), (27, .getstatic 37, 3, 3, 0), (32, .invokestatic 40, 3, 167, 4)]) (by decide +kernel) (by rfl) (List.forall_mem_cons.mpr ⟨sRX1_getfield_11 false 8, List.forall_mem_cons.mpr ⟨sRX1_getstatic_31 false 11, List.forall_mem_cons.mpr ⟨sRX1_getstatic_31 false 16, List.forall_mem_cons.mpr ⟨sRX1_getstatic_34 false 21, List.forall_mem_cons.mpr ⟨sRX1_getstatic_37 false 27, List.forall_mem_cons.mpr ⟨sRX1_invokestatic_40 false 32, fun _ h => absurd h List.not_mem_nil⟩⟩⟩⟩⟩⟩)
set_option maxRecDepth 100000 in
theorem vkX1_has : ∀ e ∈ kX1_has, xE RX1 false cX1_has e := xE_all (o := [(6, .getfield 24, 3, 2, 0), (17, .getstatic 34, 3, 1, 0)]) (by decide +kernel) (by rfl) (List.forall_mem_cons.mpr ⟨sRX1_getfield_24 false 6, List.forall_mem_cons.mpr ⟨sRX1_getstatic_34 false 17, fun _ h => absurd h List.not_mem_nil⟩⟩)
set_option maxRecDepth 100000 in
theorem vkX1_of : ∀ e ∈ kX1_of, xE RX1 false cX1_of e := xE_all (o := [(3, .invokevirtual 46, 3, 9, 3), (10, .getfield 11, 3, 2, 1), (13, .getstatic 31, 3, 2, 0)]) (by decide +kernel) (by rfl) (List.forall_mem_cons.mpr ⟨sRX1_invokevirtual_46 false 3, List.forall_mem_cons.mpr ⟨sRX1_getfield_11 false 10, List.forall_mem_cons.mpr ⟨sRX1_getstatic_31 false 13, fun _ h => absurd h List.not_mem_nil⟩⟩⟩)
set_option maxRecDepth 100000 in
theorem vkX1_put : ∀ e ∈ kX1_put, xE RX1 false cX1_put e := xE_all (o := [(3, .invokevirtual 46, 3, 9, 3), (10, .getfield 11, 3, 2, 1), (13, .getstatic 31, 3, 2, 0)]) (by decide +kernel) (by rfl) (List.forall_mem_cons.mpr ⟨sRX1_invokevirtual_46 false 3, List.forall_mem_cons.mpr ⟨sRX1_getfield_11 false 10, List.forall_mem_cons.mpr ⟨sRX1_getstatic_31 false 13, fun _ h => absurd h List.not_mem_nil⟩⟩⟩)
set_option maxRecDepth 100000 in
theorem vkX1_copyFrom : ∀ e ∈ kX1_copyFrom, xE RX1 false cX1_copyFrom e := xE_all (o := [(1, .getfield 11, 3, 2, 1), (6, .getfield 11, 3, 2, 1), (13, .invokestatic 50, 3, 1002, 5)]) (by decide +kernel) (by rfl) (List.forall_mem_cons.mpr ⟨sRX1_getfield_11 false 1, List.forall_mem_cons.mpr ⟨sRX1_getfield_11 false 6, List.forall_mem_cons.mpr ⟨sRX1_invokestatic_50 false 13, fun _ h => absurd h List.not_mem_nil⟩⟩⟩)
set_option maxRecDepth 100000 in
theorem vkX1_prepare : ∀ e ∈ kX1_prepare, xE RX1 false cX1_prepare e := xE_all (o := [(1, .getfield 56, 3, 8, 0), (7, .getfield 61, 3, 8, 3), (14, .getfield 18, 3, 2, 3), (21, .getfield 56, 3, 8, 0), (25, .invokevirtual 64, 3, 17, 2), (39, .getfield 61, 3, 8, 3), (46, .getfield 21, 3, 2, 4), (54, .invokevirtual 68, 3, 18, 2)]) (by decide +kernel) (by rfl) (List.forall_mem_cons.mpr ⟨sRX1_getfield_56 false 1, List.forall_mem_cons.mpr ⟨sRX1_getfield_61 false 7, List.forall_mem_cons.mpr ⟨sRX1_getfield_18 false 14, List.forall_mem_cons.mpr ⟨sRX1_getfield_56 false 21, List.forall_mem_cons.mpr ⟨sRX1_invokevirtual_64 false 25, List.forall_mem_cons.mpr ⟨sRX1_getfield_61 false 39, List.forall_mem_cons.mpr ⟨sRX1_getfield_21 false 46, List.forall_mem_cons.mpr ⟨sRX1_invokevirtual_68 false 54, fun _ h => absurd h List.not_mem_nil⟩⟩⟩⟩⟩⟩⟩⟩)
set_option maxRecDepth 100000 in
theorem vkX1_literalCost : ∀ e ∈ kX1_literalCost, xE RX1 false cX1_literalCost e := xE_all (o := [(3, .invokevirtual 71, 3, 10, 3), (9, .invokevirtual 71, 3, 10, 3)]) (by decide +kernel) (by rfl) (List.forall_mem_cons.mpr ⟨sRX1_invokevirtual_71 false 3, List.forall_mem_cons.mpr ⟨sRX1_invokevirtual_71 false 9, fun _ h => absurd h List.not_mem_nil⟩⟩)
set_option maxRecDepth 100000 in
theorem vkX1_kindCost : ∀ e ∈ kX1_kindCost, xE RX1 false cX1_kindCost e := xE_all (o := [(3, .invokevirtual 71, 3, 10, 3)]) (by decide +kernel) (by rfl) (List.forall_mem_cons.mpr ⟨sRX1_invokevirtual_71 false 3, fun _ h => absurd h List.not_mem_nil⟩)
set_option maxRecDepth 100000 in
theorem vkX1_stepCost : ∀ e ∈ kX1_stepCost, xE RX1 false cX1_stepCost e := xE_all (o := [(2, .invokevirtual 75, 3, 50, 2), (11, .getfield 81, 3, 5, 3), (25, .getfield 84, 3, 8, 2), (29, .getfield 87, 3, 5, 0), (35, .invokevirtual 90, 3, 14, 2), (49, .invokevirtual 93, 3, 15, 2), (56, .invokevirtual 93, 3, 15, 2), (61, .getfield 96, 3, 5, 1), (67, .getfield 56, 3, 8, 0), (71, .invokevirtual 64, 3, 17, 2), (87, .getfield 99, 3, 5, 2), (94, .invokevirtual 68, 3, 18, 2)]) (by decide +kernel) (by rfl) (List.forall_mem_cons.mpr ⟨sRX1_invokevirtual_75 false 2, List.forall_mem_cons.mpr ⟨sRX1_getfield_81 false 11, List.forall_mem_cons.mpr ⟨sRX1_getfield_84 false 25, List.forall_mem_cons.mpr ⟨sRX1_getfield_87 false 29, List.forall_mem_cons.mpr ⟨sRX1_invokevirtual_90 false 35, List.forall_mem_cons.mpr ⟨sRX1_invokevirtual_93 false 49, List.forall_mem_cons.mpr ⟨sRX1_invokevirtual_93 false 56, List.forall_mem_cons.mpr ⟨sRX1_getfield_96 false 61, List.forall_mem_cons.mpr ⟨sRX1_getfield_56 false 67, List.forall_mem_cons.mpr ⟨sRX1_invokevirtual_64 false 71, List.forall_mem_cons.mpr ⟨sRX1_getfield_99 false 87, List.forall_mem_cons.mpr ⟨sRX1_invokevirtual_68 false 94, fun _ h => absurd h List.not_mem_nil⟩⟩⟩⟩⟩⟩⟩⟩⟩⟩⟩⟩)
set_option maxRecDepth 100000 in
theorem vkX1_lengthCost : ∀ e ∈ kX1_lengthCost, xE RX1 false cX1_lengthCost e := xE_all (o := [(3, .invokestatic 102, 3, 19, 1), (6, .invokevirtual 71, 3, 10, 3), (22, .invokestatic 105, 3, 95, 1)]) (by decide +kernel) (by rfl) (List.forall_mem_cons.mpr ⟨sRX1_invokestatic_102 false 3, List.forall_mem_cons.mpr ⟨sRX1_invokevirtual_71 false 6, List.forall_mem_cons.mpr ⟨sRX1_invokestatic_105 false 22, fun _ h => absurd h List.not_mem_nil⟩⟩⟩)
set_option maxRecDepth 100000 in
theorem vkX1_distanceCost : ∀ e ∈ kX1_distanceCost, xE RX1 false cX1_distanceCost e := xE_all (o := [(3, .invokestatic 108, 3, 20, 1), (6, .invokevirtual 71, 3, 10, 3), (21, .invokestatic 105, 3, 95, 1)]) (by decide +kernel) (by rfl) (List.forall_mem_cons.mpr ⟨sRX1_invokestatic_108 false 3, List.forall_mem_cons.mpr ⟨sRX1_invokevirtual_71 false 6, List.forall_mem_cons.mpr ⟨sRX1_invokestatic_105 false 21, fun _ h => absurd h List.not_mem_nil⟩⟩⟩)
set_option maxRecDepth 100000 in
theorem vkX1_lengthSlot : ∀ e ∈ kX1_lengthSlot, xE RX1 false cX1_lengthSlot e := xE_all (o := [(9, .invokestatic 105, 3, 95, 1)]) (by decide +kernel) (by rfl) (List.forall_mem_cons.mpr ⟨sRX1_invokestatic_105 false 9, fun _ h => absurd h List.not_mem_nil⟩)
set_option maxRecDepth 100000 in
theorem vkX1_distanceSlot : ∀ e ∈ kX1_distanceSlot, xE RX1 false cX1_distanceSlot e := xE_all (o := [(8, .invokestatic 105, 3, 95, 1)]) (by decide +kernel) (by rfl) (List.forall_mem_cons.mpr ⟨sRX1_invokestatic_105 false 8, fun _ h => absurd h List.not_mem_nil⟩)
set_option maxRecDepth 100000 in
theorem vkX1_fitTo : ∀ e ∈ kX1_fitTo, xE RX1 false cX1_fitTo e := xE_all (o := [(3, .invokevirtual 111, 3, 22, 3), (10, .getfield 24, 3, 2, 0), (18, .invokevirtual 115, 3, 24, 2)]) (by decide +kernel) (by rfl) (List.forall_mem_cons.mpr ⟨sRX1_invokevirtual_111 false 3, List.forall_mem_cons.mpr ⟨sRX1_getfield_24 false 10, List.forall_mem_cons.mpr ⟨sRX1_invokevirtual_115 false 18, fun _ h => absurd h List.not_mem_nil⟩⟩⟩)
set_option maxRecDepth 100000 in
theorem vkX1_countSymbols_0 : ∀ e ∈ kX1_countSymbols_0, xE RX1 false cX1_countSymbols e := xE_all (o := [(1, .getfield 15, 3, 2, 2), (5, .invokestatic 119, 3, 166, 2), (12, .getfield 122, 3, 5, 5), (19, .getfield 81, 3, 5, 3), (30, .invokevirtual 125, 3, 23, 3), (41, .getfield 84, 3, 8, 2), (45, .getfield 87, 3, 5, 0), (51, .invokevirtual 125, 3, 23, 3), (67, .getfield 96, 3, 5, 1), (73, .getfield 56, 3, 8, 0), (77, .invokestatic 102, 3, 19, 1), (80, .invokevirtual 125, 3, 23, 3), (92, .getfield 99, 3, 5, 2), (99, .invokestatic 108, 3, 20, 1), (102, .invokevirtual 125, 3, 23, 3)]) (by decide +kernel) (by rfl) (List.forall_mem_cons.mpr ⟨sRX1_getfield_15 false 1, List.forall_mem_cons.mpr ⟨sRX1_invokestatic_119 false 5, List.forall_mem_cons.mpr ⟨sRX1_getfield_122 false 12, List.forall_mem_cons.mpr ⟨sRX1_getfield_81 false 19, List.forall_mem_cons.mpr ⟨sRX1_invokevirtual_125 false 30, List.forall_mem_cons.mpr ⟨sRX1_getfield_84 false 41, List.forall_mem_cons.mpr ⟨sRX1_getfield_87 false 45, List.forall_mem_cons.mpr ⟨sRX1_invokevirtual_125 false 51, List.forall_mem_cons.mpr ⟨sRX1_getfield_96 false 67, List.forall_mem_cons.mpr ⟨sRX1_getfield_56 false 73, List.forall_mem_cons.mpr ⟨sRX1_invokestatic_102 false 77, List.forall_mem_cons.mpr ⟨sRX1_invokevirtual_125 false 80, List.forall_mem_cons.mpr ⟨sRX1_getfield_99 false 92, List.forall_mem_cons.mpr ⟨sRX1_invokestatic_108 false 99, List.forall_mem_cons.mpr ⟨sRX1_invokevirtual_125 false 102, fun _ h => absurd h List.not_mem_nil⟩⟩⟩⟩⟩⟩⟩⟩⟩⟩⟩⟩⟩⟩⟩)
set_option maxRecDepth 100000 in
theorem vkX1_countSymbols_1 : ∀ e ∈ kX1_countSymbols_1, xE RX1 false cX1_countSymbols e := xE_all (o := []) (by decide +kernel) (by rfl) (fun _ h => absurd h List.not_mem_nil)
set_option maxRecDepth 100000 in
theorem vkX1_countSymbols : ∀ e ∈ kX1_countSymbols, xE RX1 false cX1_countSymbols e := (fun e h => (List.mem_append.mp h).elim (vkX1_countSymbols_0 e) (vkX1_countSymbols_1 e))
set_option maxRecDepth 100000 in
theorem vkX1_countOne : ∀ e ∈ kX1_countOne, xE RX1 false cX1_countOne e := xE_all (o := [(3, .invokevirtual 46, 3, 9, 3), (10, .getfield 15, 3, 2, 2), (13, .getstatic 31, 3, 2, 0)]) (by decide +kernel) (by rfl) (List.forall_mem_cons.mpr ⟨sRX1_invokevirtual_46 false 3, List.forall_mem_cons.mpr ⟨sRX1_getfield_15 false 10, List.forall_mem_cons.mpr ⟨sRX1_getstatic_31 false 13, fun _ h => absurd h List.not_mem_nil⟩⟩⟩)
set_option maxRecDepth 100000 in
theorem vkX1_fitClass : ∀ e ∈ kX1_fitClass, xE RX1 false cX1_fitClass e := xE_all (o := [(0, .getstatic 31, 3, 2, 0), (5, .getstatic 34, 3, 1, 0), (14, .getstatic 31, 3, 2, 0), (29, .getfield 15, 3, 2, 2), (44, .getstatic 34, 3, 1, 0), (50, .invokestatic 129, 3, 94, 1), (55, .getstatic 31, 3, 2, 0), (69, .getfield 11, 3, 2, 1), (78, .getfield 15, 3, 2, 2), (86, .invokestatic 129, 3, 94, 1), (90, .invokestatic 132, 3, 1000, 2)]) (by decide +kernel) (by rfl) (List.forall_mem_cons.mpr ⟨sRX1_getstatic_31 false 0, List.forall_mem_cons.mpr ⟨sRX1_getstatic_34 false 5, List.forall_mem_cons.mpr ⟨sRX1_getstatic_31 false 14, List.forall_mem_cons.mpr ⟨sRX1_getfield_15 false 29, List.forall_mem_cons.mpr ⟨sRX1_getstatic_34 false 44, List.forall_mem_cons.mpr ⟨sRX1_invokestatic_129 false 50, List.forall_mem_cons.mpr ⟨sRX1_getstatic_31 false 55, List.forall_mem_cons.mpr ⟨sRX1_getfield_11 false 69, List.forall_mem_cons.mpr ⟨sRX1_getfield_15 false 78, List.forall_mem_cons.mpr ⟨sRX1_invokestatic_129 false 86, List.forall_mem_cons.mpr ⟨sRX1_invokestatic_132 false 90, fun _ h => absurd h List.not_mem_nil⟩⟩⟩⟩⟩⟩⟩⟩⟩⟩⟩)
set_option maxRecDepth 100000 in
theorem vkX2_init : ∀ e ∈ kX2_init, xE RX2 true cX2_init e := xE_all (o := [(1, .invokespecial 1, 3, 1003, 1), (6, .putfield 7, 3, 11, 0), (11, .putfield 13, 3, 11, 1)]) (by decide +kernel) (by rfl) (List.forall_mem_cons.mpr ⟨sRX2_invokespecial_1 true 1, List.forall_mem_cons.mpr ⟨sRX2_putfield_7 6, List.forall_mem_cons.mpr ⟨sRX2_putfield_13 11, fun _ h => absurd h List.not_mem_nil⟩⟩⟩)
set_option maxRecDepth 100000 in
theorem vkX2_costOf : ∀ e ∈ kX2_costOf, xE RX2 false cX2_costOf e := xE_all (o := [(6, .getfield 17, 3, 5, 5), (14, .getfield 13, 3, 11, 1), (20, .getfield 7, 3, 11, 0), (23, .invokevirtual 23, 3, 16, 4)]) (by decide +kernel) (by rfl) (List.forall_mem_cons.mpr ⟨sRX2_getfield_17 false 6, List.forall_mem_cons.mpr ⟨sRX2_getfield_13 false 14, List.forall_mem_cons.mpr ⟨sRX2_getfield_7 false 20, List.forall_mem_cons.mpr ⟨sRX2_invokevirtual_23 false 23, fun _ h => absurd h List.not_mem_nil⟩⟩⟩⟩)
set_option maxRecDepth 100000 in
theorem vkX3_at : ∀ e ∈ kX3_at, xE RX3 false cX3_at e := xE_all (o := []) (by decide +kernel) (by rfl) (fun _ h => absurd h List.not_mem_nil)
set_option maxRecDepth 100000 in
theorem vkX3_behindCopy : ∀ e ∈ kX3_behindCopy, xE RX3 false cX3_behindCopy e := xE_all (o := []) (by decide +kernel) (by rfl) (fun _ h => absurd h List.not_mem_nil)
set_option maxRecDepth 100000 in
theorem vkX3_behindAgain : ∀ e ∈ kX3_behindAgain, xE RX3 false cX3_behindAgain e := xE_all (o := [(28, .invokestatic 9, 3, 27, 2)]) (by decide +kernel) (by rfl) (List.forall_mem_cons.mpr ⟨sRX3_invokestatic_9 false 28, fun _ h => absurd h List.not_mem_nil⟩)
set_option maxRecDepth 100000 in
theorem vkX4_init : ∀ e ∈ kX4_init, xE RX4 true cX4_init e := xE_all (o := [(3, .invokespecial 3, 3, 25, 3), (10, .newarray .long, 2, 0, 0), (12, .putfield 9, 3, 3, 2), (19, .newarray .int, 2, 0, 0), (21, .putfield 15, 3, 3, 3), (28, .newarray .int, 2, 0, 0), (30, .putfield 19, 3, 3, 4), (37, .newarray .boolean, 2, 0, 0), (39, .putfield 22, 3, 3, 5), (46, .newarray .long, 2, 0, 0), (48, .putfield 26, 3, 3, 6)]) (by decide +kernel) (by rfl) (List.forall_mem_cons.mpr ⟨sRX4_invokespecial_3 true 3, List.forall_mem_cons.mpr ⟨sRX4_newarray_long true 10, List.forall_mem_cons.mpr ⟨sRX4_putfield_9 12, List.forall_mem_cons.mpr ⟨sRX4_newarray_int true 19, List.forall_mem_cons.mpr ⟨sRX4_putfield_15 21, List.forall_mem_cons.mpr ⟨sRX4_newarray_int true 28, List.forall_mem_cons.mpr ⟨sRX4_putfield_19 30, List.forall_mem_cons.mpr ⟨sRX4_newarray_boolean true 37, List.forall_mem_cons.mpr ⟨sRX4_putfield_22 39, List.forall_mem_cons.mpr ⟨sRX4_newarray_long true 46, List.forall_mem_cons.mpr ⟨sRX4_putfield_26 48, fun _ h => absurd h List.not_mem_nil⟩⟩⟩⟩⟩⟩⟩⟩⟩⟩⟩)
set_option maxRecDepth 100000 in
theorem vkX4_findBest : ∀ e ∈ kX4_findBest, xE RX4 false cX4_findBest e := xE_all (o := [(2, .invokevirtual 29, 3, 32, 2), (13, .getfield 33, 3, 3, 0), (16, .getfield 37, 3, 8, 3), (28, .getfield 19, 3, 3, 4), (42, .invokevirtual 43, 3, 33, 3), (52, .getfield 22, 3, 3, 5), (72, .invokevirtual 47, 3, 40, 2)]) (by decide +kernel) (by rfl) (List.forall_mem_cons.mpr ⟨sRX4_invokevirtual_29 false 2, List.forall_mem_cons.mpr ⟨sRX4_getfield_33 false 13, List.forall_mem_cons.mpr ⟨sRX4_getfield_37 false 16, List.forall_mem_cons.mpr ⟨sRX4_getfield_19 false 28, List.forall_mem_cons.mpr ⟨sRX4_invokevirtual_43 false 42, List.forall_mem_cons.mpr ⟨sRX4_getfield_22 false 52, List.forall_mem_cons.mpr ⟨sRX4_invokevirtual_47 false 72, fun _ h => absurd h List.not_mem_nil⟩⟩⟩⟩⟩⟩⟩)
end
section
set_option maxRecDepth 100000 in
theorem vkX4_begin : ∀ e ∈ kX4_begin, xE RX4 false cX4_begin e := xE_all (o := [(1, .getfield 51, 3, 3, 1), (5, .getfield 33, 3, 3, 0), (8, .invokevirtual 55, 3, 13, 2), (16, .invokestatic 61, 3, 1001, 2), (19, .invokestatic 67, 3, 1000, 2), (22, .putfield 70, 3, 3, 7), (29, .getfield 33, 3, 3, 0), (32, .getfield 37, 3, 8, 3), (39, .getfield 19, 3, 3, 4), (46, .getfield 22, 3, 3, 5), (59, .getfield 19, 3, 3, 4), (63, .getfield 33, 3, 3, 0), (66, .getfield 37, 3, 8, 3), (72, .getfield 19, 3, 3, 4), (79, .getfield 26, 3, 3, 6), (82, .ldc2_w 73, 3, 4611686018427387904, 0), (85, .invokestatic 75, 3, 165, 2), (89, .getfield 9, 3, 3, 2), (93, .ldc2_w 83, 3, 134480385, 0)]) (by decide +kernel) (by rfl) (List.forall_mem_cons.mpr ⟨sRX4_getfield_51 false 1, List.forall_mem_cons.mpr ⟨sRX4_getfield_33 false 5, List.forall_mem_cons.mpr ⟨sRX4_invokevirtual_55 false 8, List.forall_mem_cons.mpr ⟨sRX4_invokestatic_61 false 16, List.forall_mem_cons.mpr ⟨sRX4_invokestatic_67 false 19, List.forall_mem_cons.mpr ⟨sRX4_putfield_70 false 22, List.forall_mem_cons.mpr ⟨sRX4_getfield_33 false 29, List.forall_mem_cons.mpr ⟨sRX4_getfield_37 false 32, List.forall_mem_cons.mpr ⟨sRX4_getfield_19 false 39, List.forall_mem_cons.mpr ⟨sRX4_getfield_22 false 46, List.forall_mem_cons.mpr ⟨sRX4_getfield_19 false 59, List.forall_mem_cons.mpr ⟨sRX4_getfield_33 false 63, List.forall_mem_cons.mpr ⟨sRX4_getfield_37 false 66, List.forall_mem_cons.mpr ⟨sRX4_getfield_19 false 72, List.forall_mem_cons.mpr ⟨sRX4_getfield_26 false 79, List.forall_mem_cons.mpr ⟨sRX4_ldc2_w_73 false 82, List.forall_mem_cons.mpr ⟨sRX4_invokestatic_75 false 85, List.forall_mem_cons.mpr ⟨sRX4_getfield_9 false 89, List.forall_mem_cons.mpr ⟨sRX4_ldc2_w_83 false 93, fun _ h => absurd h List.not_mem_nil⟩⟩⟩⟩⟩⟩⟩⟩⟩⟩⟩⟩⟩⟩⟩⟩⟩⟩⟩)
set_option maxRecDepth 100000 in
theorem vkX4_goFrom_0 : ∀ e ∈ kX4_goFrom_0, xE RX4 false cX4_goFrom e := xE_all (o := [(2, .putfield 85, 3, 3, 8), (7, .putfield 88, 3, 3, 9), (11, .getfield 9, 3, 3, 2), (27, .putfield 91, 3, 3, 10), (32, .ldc2_w 95, 3, 68719476735, 0), (36, .putfield 97, 3, 3, 11), (40, .invokevirtual 100, 3, 34, 1), (47, .invokevirtual 104, 3, 35, 1), (62, .invokevirtual 108, 3, 36, 2), (72, .getfield 97, 3, 3, 11), (76, .invokestatic 111, 3, 27, 2), (84, .getfield 85, 3, 3, 8), (91, .getfield 33, 3, 3, 0), (94, .getfield 115, 3, 8, 2), (98, .getfield 85, 3, 3, 8), (103, .getfield 33, 3, 3, 0), (106, .getfield 115, 3, 8, 2), (110, .getfield 85, 3, 3, 8)]) (by decide +kernel) (by rfl) (List.forall_mem_cons.mpr ⟨sRX4_putfield_85 false 2, List.forall_mem_cons.mpr ⟨sRX4_putfield_88 false 7, List.forall_mem_cons.mpr ⟨sRX4_getfield_9 false 11, List.forall_mem_cons.mpr ⟨sRX4_putfield_91 false 27, List.forall_mem_cons.mpr ⟨sRX4_ldc2_w_95 false 32, List.forall_mem_cons.mpr ⟨sRX4_putfield_97 false 36, List.forall_mem_cons.mpr ⟨sRX4_invokevirtual_100 false 40, List.forall_mem_cons.mpr ⟨sRX4_invokevirtual_104 false 47, List.forall_mem_cons.mpr ⟨sRX4_invokevirtual_108 false 62, List.forall_mem_cons.mpr ⟨sRX4_getfield_97 false 72, List.forall_mem_cons.mpr ⟨sRX4_invokestatic_111 false 76, List.forall_mem_cons.mpr ⟨sRX4_getfield_85 false 84, List.forall_mem_cons.mpr ⟨sRX4_getfield_33 false 91, List.forall_mem_cons.mpr ⟨sRX4_getfield_115 false 94, List.forall_mem_cons.mpr ⟨sRX4_getfield_85 false 98, List.forall_mem_cons.mpr ⟨sRX4_getfield_33 false 103, List.forall_mem_cons.mpr ⟨sRX4_getfield_115 false 106, List.forall_mem_cons.mpr ⟨sRX4_getfield_85 false 110, fun _ h => absurd h List.not_mem_nil⟩⟩⟩⟩⟩⟩⟩⟩⟩⟩⟩⟩⟩⟩⟩⟩⟩⟩)
set_option maxRecDepth 100000 in
theorem vkX4_goFrom_1 : ∀ e ∈ kX4_goFrom_1, xE RX4 false cX4_goFrom e := xE_all (o := [(125, .getfield 51, 3, 3, 1), (130, .invokevirtual 118, 3, 15, 2), (134, .getfield 97, 3, 3, 11), (137, .invokevirtual 122, 3, 37, 5), (144, .getfield 51, 3, 3, 1), (148, .getfield 33, 3, 3, 0), (151, .getfield 115, 3, 8, 2), (155, .getfield 85, 3, 3, 8), (159, .invokevirtual 126, 3, 14, 2), (163, .getfield 97, 3, 3, 11), (166, .invokevirtual 122, 3, 37, 5)]) (by decide +kernel) (by rfl) (List.forall_mem_cons.mpr ⟨sRX4_getfield_51 false 125, List.forall_mem_cons.mpr ⟨sRX4_invokevirtual_118 false 130, List.forall_mem_cons.mpr ⟨sRX4_getfield_97 false 134, List.forall_mem_cons.mpr ⟨sRX4_invokevirtual_122 false 137, List.forall_mem_cons.mpr ⟨sRX4_getfield_51 false 144, List.forall_mem_cons.mpr ⟨sRX4_getfield_33 false 148, List.forall_mem_cons.mpr ⟨sRX4_getfield_115 false 151, List.forall_mem_cons.mpr ⟨sRX4_getfield_85 false 155, List.forall_mem_cons.mpr ⟨sRX4_invokevirtual_126 false 159, List.forall_mem_cons.mpr ⟨sRX4_getfield_97 false 163, List.forall_mem_cons.mpr ⟨sRX4_invokevirtual_122 false 166, fun _ h => absurd h List.not_mem_nil⟩⟩⟩⟩⟩⟩⟩⟩⟩⟩⟩)
set_option maxRecDepth 100000 in
theorem vkX4_goFrom : ∀ e ∈ kX4_goFrom, xE RX4 false cX4_goFrom e := (fun e h => (List.mem_append.mp h).elim (vkX4_goFrom_0 e) (vkX4_goFrom_1 e))
set_option maxRecDepth 100000 in
theorem vkX4_copiesWereLed : ∀ e ∈ kX4_copiesWereLed, xE RX4 false cX4_copiesWereLed e := xE_all (o := [(1, .getfield 85, 3, 3, 8), (13, .getfield 88, 3, 3, 9), (21, .getfield 9, 3, 3, 2), (27, .getfield 97, 3, 3, 11), (31, .ldc2_w 95, 3, 68719476735, 0)]) (by decide +kernel) (by rfl) (List.forall_mem_cons.mpr ⟨sRX4_getfield_85 false 1, List.forall_mem_cons.mpr ⟨sRX4_getfield_88 false 13, List.forall_mem_cons.mpr ⟨sRX4_getfield_9 false 21, List.forall_mem_cons.mpr ⟨sRX4_getfield_97 false 27, List.forall_mem_cons.mpr ⟨sRX4_ldc2_w_95 false 31, fun _ h => absurd h List.not_mem_nil⟩⟩⟩⟩⟩)
set_option maxRecDepth 100000 in
theorem vkX4_leadByCopies : ∀ e ∈ kX4_leadByCopies, xE RX4 false cX4_leadByCopies e := xE_all (o := [(1, .getfield 51, 3, 3, 1), (5, .invokevirtual 118, 3, 15, 2), (10, .getfield 33, 3, 3, 0), (14, .getfield 85, 3, 3, 8), (17, .invokevirtual 129, 3, 69, 2), (23, .getfield 33, 3, 3, 0), (26, .getfield 132, 3, 8, 0), (33, .getfield 33, 3, 3, 0), (37, .getfield 85, 3, 3, 8), (41, .invokevirtual 135, 3, 70, 3), (47, .getfield 51, 3, 3, 1), (50, .getfield 138, 3, 2, 3), (57, .getfield 51, 3, 3, 1), (60, .getfield 141, 3, 2, 4), (74, .getfield 97, 3, 3, 11), (78, .invokestatic 144, 3, 28, 2), (81, .invokevirtual 122, 3, 37, 5)]) (by decide +kernel) (by rfl) (List.forall_mem_cons.mpr ⟨sRX4_getfield_51 false 1, List.forall_mem_cons.mpr ⟨sRX4_invokevirtual_118 false 5, List.forall_mem_cons.mpr ⟨sRX4_getfield_33 false 10, List.forall_mem_cons.mpr ⟨sRX4_getfield_85 false 14, List.forall_mem_cons.mpr ⟨sRX4_invokevirtual_129 false 17, List.forall_mem_cons.mpr ⟨sRX4_getfield_33 false 23, List.forall_mem_cons.mpr ⟨sRX4_getfield_132 false 26, List.forall_mem_cons.mpr ⟨sRX4_getfield_33 false 33, List.forall_mem_cons.mpr ⟨sRX4_getfield_85 false 37, List.forall_mem_cons.mpr ⟨sRX4_invokevirtual_135 false 41, List.forall_mem_cons.mpr ⟨sRX4_getfield_51 false 47, List.forall_mem_cons.mpr ⟨sRX4_getfield_138 false 50, List.forall_mem_cons.mpr ⟨sRX4_getfield_51 false 57, List.forall_mem_cons.mpr ⟨sRX4_getfield_141 false 60, List.forall_mem_cons.mpr ⟨sRX4_getfield_97 false 74, List.forall_mem_cons.mpr ⟨sRX4_invokestatic_144 false 78, List.forall_mem_cons.mpr ⟨sRX4_invokevirtual_122 false 81, fun _ h => absurd h List.not_mem_nil⟩⟩⟩⟩⟩⟩⟩⟩⟩⟩⟩⟩⟩⟩⟩⟩⟩)
set_option maxRecDepth 100000 in
theorem vkX4_leadByAgain : ∀ e ∈ kX4_leadByAgain, xE RX4 false cX4_leadByAgain e := xE_all (o := [(1, .getfield 33, 3, 3, 0), (5, .getfield 85, 3, 3, 8), (9, .getfield 97, 3, 3, 11), (13, .invokestatic 111, 3, 27, 2), (16, .invokevirtual 148, 3, 71, 3), (21, .getfield 51, 3, 3, 1), (27, .invokevirtual 118, 3, 15, 2), (32, .getfield 97, 3, 3, 11), (36, .invokestatic 151, 3, 29, 2), (43, .getfield 33, 3, 3, 0), (46, .getfield 132, 3, 8, 0), (59, .getfield 51, 3, 3, 1), (62, .getfield 138, 3, 2, 3), (70, .invokevirtual 122, 3, 37, 5)]) (by decide +kernel) (by rfl) (List.forall_mem_cons.mpr ⟨sRX4_getfield_33 false 1, List.forall_mem_cons.mpr ⟨sRX4_getfield_85 false 5, List.forall_mem_cons.mpr ⟨sRX4_getfield_97 false 9, List.forall_mem_cons.mpr ⟨sRX4_invokestatic_111 false 13, List.forall_mem_cons.mpr ⟨sRX4_invokevirtual_148 false 16, List.forall_mem_cons.mpr ⟨sRX4_getfield_51 false 21, List.forall_mem_cons.mpr ⟨sRX4_invokevirtual_118 false 27, List.forall_mem_cons.mpr ⟨sRX4_getfield_97 false 32, List.forall_mem_cons.mpr ⟨sRX4_invokestatic_151 false 36, List.forall_mem_cons.mpr ⟨sRX4_getfield_33 false 43, List.forall_mem_cons.mpr ⟨sRX4_getfield_132 false 46, List.forall_mem_cons.mpr ⟨sRX4_getfield_51 false 59, List.forall_mem_cons.mpr ⟨sRX4_getfield_138 false 62, List.forall_mem_cons.mpr ⟨sRX4_invokevirtual_122 false 70, fun _ h => absurd h List.not_mem_nil⟩⟩⟩⟩⟩⟩⟩⟩⟩⟩⟩⟩⟩⟩)
set_option maxRecDepth 100000 in
theorem vkX4_lead_0 : ∀ e ∈ kX4_lead_0, xE RX4 false cX4_lead e := xE_all (o := [(1, .getfield 85, 3, 3, 8), (9, .getfield 91, 3, 3, 10), (26, .getfield 26, 3, 3, 6), (43, .getfield 19, 3, 3, 4), (67, .getfield 9, 3, 3, 2), (80, .getfield 9, 3, 3, 2), (86, .ldc2_w 95, 3, 68719476735, 0)]) (by decide +kernel) (by rfl) (List.forall_mem_cons.mpr ⟨sRX4_getfield_85 false 1, List.forall_mem_cons.mpr ⟨sRX4_getfield_91 false 9, List.forall_mem_cons.mpr ⟨sRX4_getfield_26 false 26, List.forall_mem_cons.mpr ⟨sRX4_getfield_19 false 43, List.forall_mem_cons.mpr ⟨sRX4_getfield_9 false 67, List.forall_mem_cons.mpr ⟨sRX4_getfield_9 false 80, List.forall_mem_cons.mpr ⟨sRX4_ldc2_w_95 false 86, fun _ h => absurd h List.not_mem_nil⟩⟩⟩⟩⟩⟩⟩)
set_option maxRecDepth 100000 in
theorem vkX4_lead_1 : ∀ e ∈ kX4_lead_1, xE RX4 false cX4_lead e := xE_all (o := [(115, .getfield 9, 3, 3, 2), (121, .ldc2_w 95, 3, 68719476735, 0), (147, .invokevirtual 154, 3, 38, 2), (171, .getfield 88, 3, 3, 9), (183, .invokevirtual 158, 3, 39, 5), (189, .getfield 33, 3, 3, 0), (192, .getfield 37, 3, 8, 3), (199, .getfield 22, 3, 3, 5), (209, .getfield 26, 3, 3, 6), (215, .getfield 9, 3, 3, 2), (224, .getfield 19, 3, 3, 4)]) (by decide +kernel) (by rfl) (List.forall_mem_cons.mpr ⟨sRX4_getfield_9 false 115, List.forall_mem_cons.mpr ⟨sRX4_ldc2_w_95 false 121, List.forall_mem_cons.mpr ⟨sRX4_invokevirtual_154 false 147, List.forall_mem_cons.mpr ⟨sRX4_getfield_88 false 171, List.forall_mem_cons.mpr ⟨sRX4_invokevirtual_158 false 183, List.forall_mem_cons.mpr ⟨sRX4_getfield_33 false 189, List.forall_mem_cons.mpr ⟨sRX4_getfield_37 false 192, List.forall_mem_cons.mpr ⟨sRX4_getfield_22 false 199, List.forall_mem_cons.mpr ⟨sRX4_getfield_26 false 209, List.forall_mem_cons.mpr ⟨sRX4_getfield_9 false 215, List.forall_mem_cons.mpr ⟨sRX4_getfield_19 false 224, fun _ h => absurd h List.not_mem_nil⟩⟩⟩⟩⟩⟩⟩⟩⟩⟩⟩)
set_option maxRecDepth 100000 in
theorem vkX4_lead_2 : ∀ e ∈ kX4_lead_2, xE RX4 false cX4_lead e := xE_all (o := []) (by decide +kernel) (by rfl) (fun _ h => absurd h List.not_mem_nil)
set_option maxRecDepth 100000 in
theorem vkX4_lead : ∀ e ∈ kX4_lead, xE RX4 false cX4_lead e := (fun e h => (List.mem_append.mp h).elim (vkX4_lead_0 e) ((fun e h => (List.mem_append.mp h).elim (vkX4_lead_1 e) (vkX4_lead_2 e)) e))
set_option maxRecDepth 100000 in
theorem vkX4_makeRoom : ∀ e ∈ kX4_makeRoom, xE RX4 false cX4_makeRoom e := xE_all (o := [(1, .getfield 19, 3, 3, 4), (8, .getfield 33, 3, 3, 0), (11, .getfield 37, 3, 8, 3), (22, .getfield 70, 3, 3, 7), (29, .getfield 19, 3, 3, 4), (42, .getfield 33, 3, 3, 0), (45, .getfield 37, 3, 8, 3), (52, .getfield 22, 3, 3, 5)]) (by decide +kernel) (by rfl) (List.forall_mem_cons.mpr ⟨sRX4_getfield_19 false 1, List.forall_mem_cons.mpr ⟨sRX4_getfield_33 false 8, List.forall_mem_cons.mpr ⟨sRX4_getfield_37 false 11, List.forall_mem_cons.mpr ⟨sRX4_getfield_70 false 22, List.forall_mem_cons.mpr ⟨sRX4_getfield_19 false 29, List.forall_mem_cons.mpr ⟨sRX4_getfield_33 false 42, List.forall_mem_cons.mpr ⟨sRX4_getfield_37 false 45, List.forall_mem_cons.mpr ⟨sRX4_getfield_22 false 52, fun _ h => absurd h List.not_mem_nil⟩⟩⟩⟩⟩⟩⟩⟩)
set_option maxRecDepth 100000 in
theorem vkX4_insert : ∀ e ∈ kX4_insert, xE RX4 false cX4_insert e := xE_all (o := [(10, .getfield 9, 3, 3, 2), (16, .getfield 9, 3, 3, 2), (26, .getfield 15, 3, 3, 3), (32, .getfield 15, 3, 3, 3), (48, .getfield 9, 3, 3, 2), (55, .getfield 15, 3, 3, 3)]) (by decide +kernel) (by rfl) (List.forall_mem_cons.mpr ⟨sRX4_getfield_9 false 10, List.forall_mem_cons.mpr ⟨sRX4_getfield_9 false 16, List.forall_mem_cons.mpr ⟨sRX4_getfield_15 false 26, List.forall_mem_cons.mpr ⟨sRX4_getfield_15 false 32, List.forall_mem_cons.mpr ⟨sRX4_getfield_9 false 48, List.forall_mem_cons.mpr ⟨sRX4_getfield_15 false 55, fun _ h => absurd h List.not_mem_nil⟩⟩⟩⟩⟩⟩)
set_option maxRecDepth 100000 in
theorem vkX4_tellSteps_0 : ∀ e ∈ kX4_tellSteps_0, xE RX4 false cX4_tellSteps e := xE_all (o := [(1, .invokevirtual 162, 3, 51, 1), (5, .getfield 33, 3, 3, 0), (8, .getfield 37, 3, 8, 3), (22, .getfield 15, 3, 3, 3), (45, .invokestatic 67, 3, 1000, 2), (60, .getfield 9, 3, 3, 2), (65, .ldc2_w 95, 3, 68719476735, 0), (70, .invokestatic 111, 3, 27, 2), (88, .invokevirtual 166, 3, 52, 5)]) (by decide +kernel) (by rfl) (List.forall_mem_cons.mpr ⟨sRX4_invokevirtual_162 false 1, List.forall_mem_cons.mpr ⟨sRX4_getfield_33 false 5, List.forall_mem_cons.mpr ⟨sRX4_getfield_37 false 8, List.forall_mem_cons.mpr ⟨sRX4_getfield_15 false 22, List.forall_mem_cons.mpr ⟨sRX4_invokestatic_67 false 45, List.forall_mem_cons.mpr ⟨sRX4_getfield_9 false 60, List.forall_mem_cons.mpr ⟨sRX4_ldc2_w_95 false 65, List.forall_mem_cons.mpr ⟨sRX4_invokestatic_111 false 70, List.forall_mem_cons.mpr ⟨sRX4_invokevirtual_166 false 88, fun _ h => absurd h List.not_mem_nil⟩⟩⟩⟩⟩⟩⟩⟩⟩)
set_option maxRecDepth 100000 in
theorem vkX4_tellSteps_1 : ∀ e ∈ kX4_tellSteps_1, xE RX4 false cX4_tellSteps e := xE_all (o := [(106, .invokevirtual 170, 3, 53, 1)]) (by decide +kernel) (by rfl) (List.forall_mem_cons.mpr ⟨sRX4_invokevirtual_170 false 106, fun _ h => absurd h List.not_mem_nil⟩)
set_option maxRecDepth 100000 in
theorem vkX4_tellSteps : ∀ e ∈ kX4_tellSteps, xE RX4 false cX4_tellSteps e := (fun e h => (List.mem_append.mp h).elim (vkX4_tellSteps_0 e) (vkX4_tellSteps_1 e))
set_option maxRecDepth 100000 in
theorem vkX5_init : ∀ e ∈ kX5_init, xE RX5 true cX5_init e := xE_all (o := [(3, .invokespecial 3, 3, 25, 3), (10, .newarray .int, 2, 0, 0), (12, .putfield 9, 3, 4, 2), (19, .newarray .int, 2, 0, 0), (21, .putfield 15, 3, 4, 3), (28, .newarray .int, 2, 0, 0), (30, .putfield 18, 3, 4, 4), (37, .newarray .int, 2, 0, 0), (39, .putfield 21, 3, 4, 5), (46, .newarray .int, 2, 0, 0), (48, .putfield 24, 3, 4, 6), (61, .getfield 24, 3, 4, 6), (72, .invokestatic 27, 3, 48, 2)]) (by decide +kernel) (by rfl) (List.forall_mem_cons.mpr ⟨sRX5_invokespecial_3 true 3, List.forall_mem_cons.mpr ⟨sRX5_newarray_int true 10, List.forall_mem_cons.mpr ⟨sRX5_putfield_9 12, List.forall_mem_cons.mpr ⟨sRX5_newarray_int true 19, List.forall_mem_cons.mpr ⟨sRX5_putfield_15 21, List.forall_mem_cons.mpr ⟨sRX5_newarray_int true 28, List.forall_mem_cons.mpr ⟨sRX5_putfield_18 30, List.forall_mem_cons.mpr ⟨sRX5_newarray_int true 37, List.forall_mem_cons.mpr ⟨sRX5_putfield_21 39, List.forall_mem_cons.mpr ⟨sRX5_newarray_int true 46, List.forall_mem_cons.mpr ⟨sRX5_putfield_24 48, List.forall_mem_cons.mpr ⟨sRX5_getfield_24 true 61, List.forall_mem_cons.mpr ⟨sRX5_invokestatic_27 true 72, fun _ h => absurd h List.not_mem_nil⟩⟩⟩⟩⟩⟩⟩⟩⟩⟩⟩⟩⟩)
set_option maxRecDepth 100000 in
theorem vkX5_findBest : ∀ e ∈ kX5_findBest, xE RX5 false cX5_findBest e := xE_all (o := [(1, .getfield 9, 3, 4, 2), (4, .ldc 31, 2, 1073741824, 0), (6, .invokestatic 32, 3, 166, 2), (10, .getfield 9, 3, 4, 2), (20, .getfield 38, 3, 4, 0), (23, .getfield 42, 3, 8, 3), (30, .getfield 38, 3, 4, 0), (34, .invokevirtual 48, 3, 69, 2), (46, .invokevirtual 52, 3, 43, 2), (52, .getfield 38, 3, 4, 0), (55, .getfield 56, 3, 8, 0), (65, .invokevirtual 59, 3, 44, 3), (82, .getfield 38, 3, 4, 0), (85, .getfield 42, 3, 8, 3), (88, .invokevirtual 52, 3, 43, 2), (93, .invokevirtual 63, 3, 45, 2)]) (by decide +kernel) (by rfl) (List.forall_mem_cons.mpr ⟨sRX5_getfield_9 false 1, List.forall_mem_cons.mpr ⟨sRX5_ldc_31 false 4, List.forall_mem_cons.mpr ⟨sRX5_invokestatic_32 false 6, List.forall_mem_cons.mpr ⟨sRX5_getfield_9 false 10, List.forall_mem_cons.mpr ⟨sRX5_getfield_38 false 20, List.forall_mem_cons.mpr ⟨sRX5_getfield_42 false 23, List.forall_mem_cons.mpr ⟨sRX5_getfield_38 false 30, List.forall_mem_cons.mpr ⟨sRX5_invokevirtual_48 false 34, List.forall_mem_cons.mpr ⟨sRX5_invokevirtual_52 false 46, List.forall_mem_cons.mpr ⟨sRX5_getfield_38 false 52, List.forall_mem_cons.mpr ⟨sRX5_getfield_56 false 55, List.forall_mem_cons.mpr ⟨sRX5_invokevirtual_59 false 65, List.forall_mem_cons.mpr ⟨sRX5_getfield_38 false 82, List.forall_mem_cons.mpr ⟨sRX5_getfield_42 false 85, List.forall_mem_cons.mpr ⟨sRX5_invokevirtual_52 false 88, List.forall_mem_cons.mpr ⟨sRX5_invokevirtual_63 false 93, fun _ h => absurd h List.not_mem_nil⟩⟩⟩⟩⟩⟩⟩⟩⟩⟩⟩⟩⟩⟩⟩⟩)
set_option maxRecDepth 100000 in
theorem vkX5_findFirst : ∀ e ∈ kX5_findFirst, xE RX5 false cX5_findFirst e := xE_all (o := [(0, .ldc 31, 2, 1073741824, 0), (11, .getfield 9, 3, 4, 2), (22, .ldc 31, 2, 1073741824, 0), (30, .getfield 24, 3, 4, 6), (43, .getfield 24, 3, 4, 6), (51, .getfield 18, 3, 4, 4), (64, .getfield 21, 3, 4, 5)]) (by decide +kernel) (by rfl) (List.forall_mem_cons.mpr ⟨sRX5_ldc_31 false 0, List.forall_mem_cons.mpr ⟨sRX5_getfield_9 false 11, List.forall_mem_cons.mpr ⟨sRX5_ldc_31 false 22, List.forall_mem_cons.mpr ⟨sRX5_getfield_24 false 30, List.forall_mem_cons.mpr ⟨sRX5_getfield_24 false 43, List.forall_mem_cons.mpr ⟨sRX5_getfield_18 false 51, List.forall_mem_cons.mpr ⟨sRX5_getfield_21 false 64, fun _ h => absurd h List.not_mem_nil⟩⟩⟩⟩⟩⟩⟩)
set_option maxRecDepth 100000 in
theorem vkX5_lead : ∀ e ∈ kX5_lead, xE RX5 false cX5_lead e := xE_all (o := [(1, .getfield 21, 3, 4, 5), (7, .invokestatic 67, 3, 47, 1), (14, .getfield 9, 3, 4, 2), (25, .getfield 9, 3, 4, 2), (34, .getfield 15, 3, 4, 3)]) (by decide +kernel) (by rfl) (List.forall_mem_cons.mpr ⟨sRX5_getfield_21 false 1, List.forall_mem_cons.mpr ⟨sRX5_invokestatic_67 false 7, List.forall_mem_cons.mpr ⟨sRX5_getfield_9 false 14, List.forall_mem_cons.mpr ⟨sRX5_getfield_9 false 25, List.forall_mem_cons.mpr ⟨sRX5_getfield_15 false 34, fun _ h => absurd h List.not_mem_nil⟩⟩⟩⟩⟩)
set_option maxRecDepth 100000 in
theorem vkX5_tellSteps : ∀ e ∈ kX5_tellSteps, xE RX5 false cX5_tellSteps e := xE_all (o := [(1, .invokevirtual 70, 3, 51, 1), (5, .getfield 38, 3, 4, 0), (8, .getfield 42, 3, 8, 3), (18, .getfield 18, 3, 4, 4), (42, .invokevirtual 76, 3, 52, 5), (59, .getfield 15, 3, 4, 3), (64, .invokestatic 80, 3, 1000, 2), (80, .getfield 38, 3, 4, 0), (86, .invokevirtual 85, 3, 70, 3), (89, .invokevirtual 76, 3, 52, 5), (96, .invokevirtual 88, 3, 53, 1)]) (by decide +kernel) (by rfl) (List.forall_mem_cons.mpr ⟨sRX5_invokevirtual_70 false 1, List.forall_mem_cons.mpr ⟨sRX5_getfield_38 false 5, List.forall_mem_cons.mpr ⟨sRX5_getfield_42 false 8, List.forall_mem_cons.mpr ⟨sRX5_getfield_18 false 18, List.forall_mem_cons.mpr ⟨sRX5_invokevirtual_76 false 42, List.forall_mem_cons.mpr ⟨sRX5_getfield_15 false 59, List.forall_mem_cons.mpr ⟨sRX5_invokestatic_80 false 64, List.forall_mem_cons.mpr ⟨sRX5_getfield_38 false 80, List.forall_mem_cons.mpr ⟨sRX5_invokevirtual_85 false 86, List.forall_mem_cons.mpr ⟨sRX5_invokevirtual_76 false 89, List.forall_mem_cons.mpr ⟨sRX5_invokevirtual_88 false 96, fun _ h => absurd h List.not_mem_nil⟩⟩⟩⟩⟩⟩⟩⟩⟩⟩⟩)
set_option maxRecDepth 100000 in
theorem vkX5_costOf : ∀ e ∈ kX5_costOf, xE RX5 false cX5_costOf e := xE_all (o := [(12, .getfield 91, 3, 5, 5), (19, .getfield 94, 3, 5, 3), (36, .getfield 24, 3, 4, 6), (42, .getfield 97, 3, 5, 1), (48, .invokestatic 67, 3, 47, 1), (64, .getfield 24, 3, 4, 6)]) (by decide +kernel) (by rfl) (List.forall_mem_cons.mpr ⟨sRX5_getfield_91 false 12, List.forall_mem_cons.mpr ⟨sRX5_getfield_94 false 19, List.forall_mem_cons.mpr ⟨sRX5_getfield_24 false 36, List.forall_mem_cons.mpr ⟨sRX5_getfield_97 false 42, List.forall_mem_cons.mpr ⟨sRX5_invokestatic_67 false 48, List.forall_mem_cons.mpr ⟨sRX5_getfield_24 false 64, fun _ h => absurd h List.not_mem_nil⟩⟩⟩⟩⟩⟩)
set_option maxRecDepth 100000 in
theorem vkX5_copyCost : ∀ e ∈ kX5_copyCost, xE RX5 false cX5_copyCost e := xE_all (o := [(7, .invokestatic 27, 3, 48, 2)]) (by decide +kernel) (by rfl) (List.forall_mem_cons.mpr ⟨sRX5_invokestatic_27 false 7, fun _ h => absurd h List.not_mem_nil⟩)
set_option maxRecDepth 100000 in
theorem vkX5_beyond : ∀ e ∈ kX5_beyond, xE RX5 false cX5_beyond e := xE_all (o := []) (by decide +kernel) (by rfl) (fun _ h => absurd h List.not_mem_nil)
set_option maxRecDepth 100000 in
theorem vkX6_init : ∀ e ∈ kX6_init, xE RX6 true cX6_init e := xE_all (o := [(1, .invokespecial 3, 3, 1003, 1), (8, .newarray .int, 2, 0, 0), (10, .putfield 9, 3, 5, 0), (17, .newarray .int, 2, 0, 0), (19, .putfield 15, 3, 5, 1), (26, .newarray .int, 2, 0, 0), (28, .putfield 18, 3, 5, 2), (35, .newarray .int, 2, 0, 0), (37, .putfield 21, 3, 5, 3), (44, .newarray .int, 2, 0, 0), (46, .putfield 24, 3, 5, 4)]) (by decide +kernel) (by rfl) (List.forall_mem_cons.mpr ⟨sRX6_invokespecial_3 true 1, List.forall_mem_cons.mpr ⟨sRX6_newarray_int true 8, List.forall_mem_cons.mpr ⟨sRX6_putfield_9 10, List.forall_mem_cons.mpr ⟨sRX6_newarray_int true 17, List.forall_mem_cons.mpr ⟨sRX6_putfield_15 19, List.forall_mem_cons.mpr ⟨sRX6_newarray_int true 26, List.forall_mem_cons.mpr ⟨sRX6_putfield_18 28, List.forall_mem_cons.mpr ⟨sRX6_newarray_int true 35, List.forall_mem_cons.mpr ⟨sRX6_putfield_21 37, List.forall_mem_cons.mpr ⟨sRX6_newarray_int true 44, List.forall_mem_cons.mpr ⟨sRX6_putfield_24 46, fun _ h => absurd h List.not_mem_nil⟩⟩⟩⟩⟩⟩⟩⟩⟩⟩⟩)
set_option maxRecDepth 100000 in
theorem vkX6_hasStep : ∀ e ∈ kX6_hasStep, xE RX6 false cX6_hasStep e := xE_all (o := [(6, .getfield 27, 3, 5, 5)]) (by decide +kernel) (by rfl) (List.forall_mem_cons.mpr ⟨sRX6_getfield_27 false 6, fun _ h => absurd h List.not_mem_nil⟩)
set_option maxRecDepth 100000 in
theorem vkX6_begin : ∀ e ∈ kX6_begin, xE RX6 false cX6_begin e := xE_all (o := [(2, .putfield 27, 3, 5, 5)]) (by decide +kernel) (by rfl) (List.forall_mem_cons.mpr ⟨sRX6_putfield_27 false 2, fun _ h => absurd h List.not_mem_nil⟩)
set_option maxRecDepth 100000 in
theorem vkX6_add : ∀ e ∈ kX6_add, xE RX6 false cX6_add e := xE_all (o := [(1, .getfield 27, 3, 5, 5), (12, .getfield 21, 3, 5, 3), (16, .getfield 27, 3, 5, 5), (22, .getfield 9, 3, 5, 0), (26, .getfield 27, 3, 5, 5), (32, .getfield 15, 3, 5, 1), (36, .getfield 27, 3, 5, 5), (42, .getfield 18, 3, 5, 2), (46, .getfield 27, 3, 5, 5), (54, .getfield 27, 3, 5, 5), (59, .putfield 27, 3, 5, 5)]) (by decide +kernel) (by rfl) (List.forall_mem_cons.mpr ⟨sRX6_getfield_27 false 1, List.forall_mem_cons.mpr ⟨sRX6_getfield_21 false 12, List.forall_mem_cons.mpr ⟨sRX6_getfield_27 false 16, List.forall_mem_cons.mpr ⟨sRX6_getfield_9 false 22, List.forall_mem_cons.mpr ⟨sRX6_getfield_27 false 26, List.forall_mem_cons.mpr ⟨sRX6_getfield_15 false 32, List.forall_mem_cons.mpr ⟨sRX6_getfield_27 false 36, List.forall_mem_cons.mpr ⟨sRX6_getfield_18 false 42, List.forall_mem_cons.mpr ⟨sRX6_getfield_27 false 46, List.forall_mem_cons.mpr ⟨sRX6_getfield_27 false 54, List.forall_mem_cons.mpr ⟨sRX6_putfield_27 false 59, fun _ h => absurd h List.not_mem_nil⟩⟩⟩⟩⟩⟩⟩⟩⟩⟩⟩)
set_option maxRecDepth 100000 in
theorem vkX6_turnRound : ∀ e ∈ kX6_turnRound, xE RX6 false cX6_turnRound e := xE_all (o := [(4, .getfield 27, 3, 5, 5), (13, .getfield 27, 3, 5, 5), (22, .getfield 21, 3, 5, 3), (27, .invokestatic 31, 3, 54, 3), (31, .getfield 9, 3, 5, 0), (36, .invokestatic 31, 3, 54, 3), (40, .getfield 15, 3, 5, 1), (45, .invokestatic 31, 3, 54, 3), (49, .getfield 18, 3, 5, 2), (54, .invokestatic 31, 3, 54, 3)]) (by decide +kernel) (by rfl) (List.forall_mem_cons.mpr ⟨sRX6_getfield_27 false 4, List.forall_mem_cons.mpr ⟨sRX6_getfield_27 false 13, List.forall_mem_cons.mpr ⟨sRX6_getfield_21 false 22, List.forall_mem_cons.mpr ⟨sRX6_invokestatic_31 false 27, List.forall_mem_cons.mpr ⟨sRX6_getfield_9 false 31, List.forall_mem_cons.mpr ⟨sRX6_invokestatic_31 false 36, List.forall_mem_cons.mpr ⟨sRX6_getfield_15 false 40, List.forall_mem_cons.mpr ⟨sRX6_invokestatic_31 false 45, List.forall_mem_cons.mpr ⟨sRX6_getfield_18 false 49, List.forall_mem_cons.mpr ⟨sRX6_invokestatic_31 false 54, fun _ h => absurd h List.not_mem_nil⟩⟩⟩⟩⟩⟩⟩⟩⟩⟩)
set_option maxRecDepth 100000 in
theorem vkX6_swap : ∀ e ∈ kX6_swap, xE RX6 false cX6_swap e := xE_all (o := []) (by decide +kernel) (by rfl) (fun _ h => absurd h List.not_mem_nil)
set_option maxRecDepth 100000 in
theorem vkX6_finish : ∀ e ∈ kX6_finish, xE RX6 false cX6_finish e := xE_all (o := [(2, .putfield 35, 3, 5, 6), (8, .putfield 39, 3, 5, 7), (17, .getfield 27, 3, 5, 5), (24, .getfield 9, 3, 5, 0), (33, .getfield 21, 3, 5, 3), (43, .getfield 24, 3, 5, 4), (49, .getfield 43, 3, 8, 2), (63, .getfield 15, 3, 5, 1), (70, .getfield 18, 3, 5, 2), (76, .invokevirtual 48, 3, 56, 4)]) (by decide +kernel) (by rfl) (List.forall_mem_cons.mpr ⟨sRX6_putfield_35 false 2, List.forall_mem_cons.mpr ⟨sRX6_putfield_39 false 8, List.forall_mem_cons.mpr ⟨sRX6_getfield_27 false 17, List.forall_mem_cons.mpr ⟨sRX6_getfield_9 false 24, List.forall_mem_cons.mpr ⟨sRX6_getfield_21 false 33, List.forall_mem_cons.mpr ⟨sRX6_getfield_24 false 43, List.forall_mem_cons.mpr ⟨sRX6_getfield_43 false 49, List.forall_mem_cons.mpr ⟨sRX6_getfield_15 false 63, List.forall_mem_cons.mpr ⟨sRX6_getfield_18 false 70, List.forall_mem_cons.mpr ⟨sRX6_invokevirtual_48 false 76, fun _ h => absurd h List.not_mem_nil⟩⟩⟩⟩⟩⟩⟩⟩⟩⟩)
set_option maxRecDepth 100000 in
theorem vkX6_tellBack : ∀ e ∈ kX6_tellBack, xE RX6 false cX6_tellBack e := xE_all (o := [(12, .getfield 24, 3, 5, 4), (18, .getfield 24, 3, 5, 4)]) (by decide +kernel) (by rfl) (List.forall_mem_cons.mpr ⟨sRX6_getfield_24 false 12, List.forall_mem_cons.mpr ⟨sRX6_getfield_24 false 18, fun _ h => absurd h List.not_mem_nil⟩⟩)
set_option maxRecDepth 100000 in
theorem vkX7_init : ∀ e ∈ kX7_init, xE RX7 true cX7_init e := xE_all (o := [(3, .invokespecial 3, 3, 25, 3), (10, .newarray .int, 2, 0, 0), (12, .putfield 9, 3, 6, 2), (19, .newarray .int, 2, 0, 0), (21, .putfield 15, 3, 6, 3)]) (by decide +kernel) (by rfl) (List.forall_mem_cons.mpr ⟨sRX7_invokespecial_3 true 3, List.forall_mem_cons.mpr ⟨sRX7_newarray_int true 10, List.forall_mem_cons.mpr ⟨sRX7_putfield_9 12, List.forall_mem_cons.mpr ⟨sRX7_newarray_int true 19, List.forall_mem_cons.mpr ⟨sRX7_putfield_15 21, fun _ h => absurd h List.not_mem_nil⟩⟩⟩⟩⟩)
set_option maxRecDepth 100000 in
theorem vkX7_findBest_0 : ∀ e ∈ kX7_findBest_0, xE RX7 false cX7_findBest e := xE_all (o := [(1, .getfield 18, 3, 6, 1), (5, .getfield 22, 3, 6, 0), (8, .invokevirtual 26, 3, 13, 2), (12, .getfield 9, 3, 6, 2), (15, .ldc 32, 2, 1073741824, 0), (17, .invokestatic 33, 3, 166, 2), (21, .getfield 9, 3, 6, 2), (31, .getfield 22, 3, 6, 0), (34, .getfield 39, 3, 8, 3), (41, .getfield 22, 3, 6, 0), (45, .invokevirtual 45, 3, 69, 2), (53, .getfield 22, 3, 6, 0), (56, .getfield 49, 3, 8, 0), (63, .getfield 22, 3, 6, 0), (69, .invokevirtual 52, 3, 70, 3), (79, .getfield 18, 3, 6, 1), (82, .getfield 56, 3, 2, 3), (89, .getfield 18, 3, 6, 1), (92, .getfield 59, 3, 2, 4), (99, .invokevirtual 62, 3, 59, 4), (112, .getfield 18, 3, 6, 1)]) (by decide +kernel) (by rfl) (List.forall_mem_cons.mpr ⟨sRX7_getfield_18 false 1, List.forall_mem_cons.mpr ⟨sRX7_getfield_22 false 5, List.forall_mem_cons.mpr ⟨sRX7_invokevirtual_26 false 8, List.forall_mem_cons.mpr ⟨sRX7_getfield_9 false 12, List.forall_mem_cons.mpr ⟨sRX7_ldc_32 false 15, List.forall_mem_cons.mpr ⟨sRX7_invokestatic_33 false 17, List.forall_mem_cons.mpr ⟨sRX7_getfield_9 false 21, List.forall_mem_cons.mpr ⟨sRX7_getfield_22 false 31, List.forall_mem_cons.mpr ⟨sRX7_getfield_39 false 34, List.forall_mem_cons.mpr ⟨sRX7_getfield_22 false 41, List.forall_mem_cons.mpr ⟨sRX7_invokevirtual_45 false 45, List.forall_mem_cons.mpr ⟨sRX7_getfield_22 false 53, List.forall_mem_cons.mpr ⟨sRX7_getfield_49 false 56, List.forall_mem_cons.mpr ⟨sRX7_getfield_22 false 63, List.forall_mem_cons.mpr ⟨sRX7_invokevirtual_52 false 69, List.forall_mem_cons.mpr ⟨sRX7_getfield_18 false 79, List.forall_mem_cons.mpr ⟨sRX7_getfield_56 false 82, List.forall_mem_cons.mpr ⟨sRX7_getfield_18 false 89, List.forall_mem_cons.mpr ⟨sRX7_getfield_59 false 92, List.forall_mem_cons.mpr ⟨sRX7_invokevirtual_62 false 99, List.forall_mem_cons.mpr ⟨sRX7_getfield_18 false 112, fun _ h => absurd h List.not_mem_nil⟩⟩⟩⟩⟩⟩⟩⟩⟩⟩⟩⟩⟩⟩⟩⟩⟩⟩⟩⟩⟩)
set_option maxRecDepth 100000 in
theorem vkX7_findBest_1 : ∀ e ∈ kX7_findBest_1, xE RX7 false cX7_findBest e := xE_all (o := [(116, .getfield 22, 3, 6, 0), (119, .getfield 66, 3, 8, 2), (124, .invokevirtual 69, 3, 14, 2), (127, .invokevirtual 62, 3, 59, 4), (138, .invokevirtual 72, 3, 60, 2)]) (by decide +kernel) (by rfl) (List.forall_mem_cons.mpr ⟨sRX7_getfield_22 false 116, List.forall_mem_cons.mpr ⟨sRX7_getfield_66 false 119, List.forall_mem_cons.mpr ⟨sRX7_invokevirtual_69 false 124, List.forall_mem_cons.mpr ⟨sRX7_invokevirtual_62 false 127, List.forall_mem_cons.mpr ⟨sRX7_invokevirtual_72 false 138, fun _ h => absurd h List.not_mem_nil⟩⟩⟩⟩⟩)
set_option maxRecDepth 100000 in
theorem vkX7_findBest : ∀ e ∈ kX7_findBest, xE RX7 false cX7_findBest e := (fun e h => (List.mem_append.mp h).elim (vkX7_findBest_0 e) (vkX7_findBest_1 e))
set_option maxRecDepth 100000 in
theorem vkX7_lead : ∀ e ∈ kX7_lead, xE RX7 false cX7_lead e := xE_all (o := [(1, .getfield 9, 3, 6, 2), (13, .getfield 9, 3, 6, 2), (24, .getfield 9, 3, 6, 2), (34, .getfield 15, 3, 6, 3)]) (by decide +kernel) (by rfl) (List.forall_mem_cons.mpr ⟨sRX7_getfield_9 false 1, List.forall_mem_cons.mpr ⟨sRX7_getfield_9 false 13, List.forall_mem_cons.mpr ⟨sRX7_getfield_9 false 24, List.forall_mem_cons.mpr ⟨sRX7_getfield_15 false 34, fun _ h => absurd h List.not_mem_nil⟩⟩⟩⟩)
set_option maxRecDepth 100000 in
theorem vkX7_tellSteps : ∀ e ∈ kX7_tellSteps, xE RX7 false cX7_tellSteps e := xE_all (o := [(1, .invokevirtual 76, 3, 51, 1), (5, .getfield 22, 3, 6, 0), (8, .getfield 39, 3, 8, 3), (18, .getfield 15, 3, 6, 3), (23, .invokestatic 82, 3, 1000, 2), (41, .invokevirtual 87, 3, 52, 5), (52, .getfield 22, 3, 6, 0), (57, .invokevirtual 52, 3, 70, 3), (60, .invokevirtual 87, 3, 52, 5), (67, .invokevirtual 91, 3, 53, 1)]) (by decide +kernel) (by rfl) (List.forall_mem_cons.mpr ⟨sRX7_invokevirtual_76 false 1, List.forall_mem_cons.mpr ⟨sRX7_getfield_22 false 5, List.forall_mem_cons.mpr ⟨sRX7_getfield_39 false 8, List.forall_mem_cons.mpr ⟨sRX7_getfield_15 false 18, List.forall_mem_cons.mpr ⟨sRX7_invokestatic_82 false 23, List.forall_mem_cons.mpr ⟨sRX7_invokevirtual_87 false 41, List.forall_mem_cons.mpr ⟨sRX7_getfield_22 false 52, List.forall_mem_cons.mpr ⟨sRX7_invokevirtual_52 false 57, List.forall_mem_cons.mpr ⟨sRX7_invokevirtual_87 false 60, List.forall_mem_cons.mpr ⟨sRX7_invokevirtual_91 false 67, fun _ h => absurd h List.not_mem_nil⟩⟩⟩⟩⟩⟩⟩⟩⟩⟩)
set_option maxRecDepth 100000 in
theorem vkX8_init : ∀ e ∈ kX8_init, xE RX8 true cX8_init e := xE_all (o := [(1, .invokespecial 3, 3, 1003, 1), (6, .putfield 9, 3, 7, 0), (11, .putfield 15, 3, 7, 1)]) (by decide +kernel) (by rfl) (List.forall_mem_cons.mpr ⟨sRX8_invokespecial_3 true 1, List.forall_mem_cons.mpr ⟨sRX8_putfield_9 6, List.forall_mem_cons.mpr ⟨sRX8_putfield_15 11, fun _ h => absurd h List.not_mem_nil⟩⟩⟩)
set_option maxRecDepth 100000 in
theorem vkX8_walk_0 : ∀ e ∈ kX8_walk_0, xE RX8 false cX8_walk e := xE_all (o := [(1, .invokevirtual 19, 3, 51, 1), (4, .ldc2_w 26, 3, 134480385, 0), (14, .getfield 9, 3, 7, 0), (17, .getfield 28, 3, 8, 3), (24, .getfield 9, 3, 7, 0), (29, .invokevirtual 34, 3, 69, 2), (45, .invokevirtual 38, 3, 63, 4), (57, .invokevirtual 42, 3, 52, 5), (72, .invokevirtual 46, 3, 64, 4), (95, .invokestatic 50, 3, 27, 2), (98, .invokevirtual 42, 3, 52, 5), (104, .invokestatic 54, 3, 29, 2), (112, .getfield 9, 3, 7, 0)]) (by decide +kernel) (by rfl) (List.forall_mem_cons.mpr ⟨sRX8_invokevirtual_19 false 1, List.forall_mem_cons.mpr ⟨sRX8_ldc2_w_26 false 4, List.forall_mem_cons.mpr ⟨sRX8_getfield_9 false 14, List.forall_mem_cons.mpr ⟨sRX8_getfield_28 false 17, List.forall_mem_cons.mpr ⟨sRX8_getfield_9 false 24, List.forall_mem_cons.mpr ⟨sRX8_invokevirtual_34 false 29, List.forall_mem_cons.mpr ⟨sRX8_invokevirtual_38 false 45, List.forall_mem_cons.mpr ⟨sRX8_invokevirtual_42 false 57, List.forall_mem_cons.mpr ⟨sRX8_invokevirtual_46 false 72, List.forall_mem_cons.mpr ⟨sRX8_invokestatic_50 false 95, List.forall_mem_cons.mpr ⟨sRX8_invokevirtual_42 false 98, List.forall_mem_cons.mpr ⟨sRX8_invokestatic_54 false 104, List.forall_mem_cons.mpr ⟨sRX8_getfield_9 false 112, fun _ h => absurd h List.not_mem_nil⟩⟩⟩⟩⟩⟩⟩⟩⟩⟩⟩⟩⟩)
end
section
set_option maxRecDepth 100000 in
theorem vkX8_walk_1 : ∀ e ∈ kX8_walk_1, xE RX8 false cX8_walk e := xE_all (o := [(119, .invokevirtual 58, 3, 70, 3), (132, .invokevirtual 42, 3, 52, 5), (138, .invokestatic 62, 3, 28, 2)]) (by decide +kernel) (by rfl) (List.forall_mem_cons.mpr ⟨sRX8_invokevirtual_58 false 119, List.forall_mem_cons.mpr ⟨sRX8_invokevirtual_42 false 132, List.forall_mem_cons.mpr ⟨sRX8_invokestatic_62 false 138, fun _ h => absurd h List.not_mem_nil⟩⟩⟩)
set_option maxRecDepth 100000 in
theorem vkX8_walk : ∀ e ∈ kX8_walk, xE RX8 false cX8_walk e := (fun e h => (List.mem_append.mp h).elim (vkX8_walk_0 e) (vkX8_walk_1 e))
set_option maxRecDepth 100000 in
theorem vkX8_longerAhead : ∀ e ∈ kX8_longerAhead, xE RX8 false cX8_longerAhead e := xE_all (o := [(10, .getfield 9, 3, 7, 0), (17, .invokevirtual 34, 3, 69, 2)]) (by decide +kernel) (by rfl) (List.forall_mem_cons.mpr ⟨sRX8_getfield_9 false 10, List.forall_mem_cons.mpr ⟨sRX8_invokevirtual_34 false 17, fun _ h => absurd h List.not_mem_nil⟩⟩)
set_option maxRecDepth 100000 in
theorem vkX8_againAsLong : ∀ e ∈ kX8_againAsLong, xE RX8 false cX8_againAsLong e := xE_all (o := [(1, .getfield 15, 3, 7, 1), (19, .getfield 9, 3, 7, 0), (26, .invokestatic 50, 3, 27, 2), (29, .invokevirtual 65, 3, 71, 3)]) (by decide +kernel) (by rfl) (List.forall_mem_cons.mpr ⟨sRX8_getfield_15 false 1, List.forall_mem_cons.mpr ⟨sRX8_getfield_9 false 19, List.forall_mem_cons.mpr ⟨sRX8_invokestatic_50 false 26, List.forall_mem_cons.mpr ⟨sRX8_invokevirtual_65 false 29, fun _ h => absurd h List.not_mem_nil⟩⟩⟩⟩)
set_option maxRecDepth 100000 in
theorem vkX9_init : ∀ e ∈ kX9_init, xE RX9 true cX9_init e := xE_all (o := [(1, .invokespecial 3, 3, 1003, 1), (8, .newarray .int, 2, 0, 0), (10, .putfield 9, 3, 8, 2), (17, .newarray .int, 2, 0, 0), (19, .putfield 15, 3, 8, 4), (23, .ldc 18, 2, 44850, 0), (25, .newarray .int, 2, 0, 0), (27, .putfield 19, 3, 8, 5), (34, .newarray .int, 2, 0, 0), (36, .putfield 22, 3, 8, 6), (58, .putfield 25, 3, 8, 0), (86, .putfield 29, 3, 8, 1)]) (by decide +kernel) (by rfl) (List.forall_mem_cons.mpr ⟨sRX9_invokespecial_3 true 1, List.forall_mem_cons.mpr ⟨sRX9_newarray_int true 8, List.forall_mem_cons.mpr ⟨sRX9_putfield_9 10, List.forall_mem_cons.mpr ⟨sRX9_newarray_int true 17, List.forall_mem_cons.mpr ⟨sRX9_putfield_15 19, List.forall_mem_cons.mpr ⟨sRX9_ldc_18 true 23, List.forall_mem_cons.mpr ⟨sRX9_newarray_int true 25, List.forall_mem_cons.mpr ⟨sRX9_putfield_19 27, List.forall_mem_cons.mpr ⟨sRX9_newarray_int true 34, List.forall_mem_cons.mpr ⟨sRX9_putfield_22 36, List.forall_mem_cons.mpr ⟨sRX9_putfield_25 58, List.forall_mem_cons.mpr ⟨sRX9_putfield_29 86, fun _ h => absurd h List.not_mem_nil⟩⟩⟩⟩⟩⟩⟩⟩⟩⟩⟩⟩)
set_option maxRecDepth 100000 in
theorem vkX9_has : ∀ e ∈ kX9_has, xE RX9 false cX9_has e := xE_all (o := [(6, .getfield 32, 3, 8, 3)]) (by decide +kernel) (by rfl) (List.forall_mem_cons.mpr ⟨sRX9_getfield_32 false 6, fun _ h => absurd h List.not_mem_nil⟩)
set_option maxRecDepth 100000 in
theorem vkX9_append_0 : ∀ e ∈ kX9_append_0, xE RX9 false cX9_append e := xE_all (o := [(1, .getfield 32, 3, 8, 3), (12, .getfield 32, 3, 8, 3), (17, .getfield 9, 3, 8, 2), (24, .getfield 22, 3, 8, 6), (31, .getfield 15, 3, 8, 4), (39, .getfield 32, 3, 8, 3), (44, .putfield 32, 3, 8, 3), (59, .getfield 15, 3, 8, 4), (65, .getfield 9, 3, 8, 2), (78, .getfield 15, 3, 8, 4), (92, .getfield 15, 3, 8, 4)]) (by decide +kernel) (by rfl) (List.forall_mem_cons.mpr ⟨sRX9_getfield_32 false 1, List.forall_mem_cons.mpr ⟨sRX9_getfield_32 false 12, List.forall_mem_cons.mpr ⟨sRX9_getfield_9 false 17, List.forall_mem_cons.mpr ⟨sRX9_getfield_22 false 24, List.forall_mem_cons.mpr ⟨sRX9_getfield_15 false 31, List.forall_mem_cons.mpr ⟨sRX9_getfield_32 false 39, List.forall_mem_cons.mpr ⟨sRX9_putfield_32 false 44, List.forall_mem_cons.mpr ⟨sRX9_getfield_15 false 59, List.forall_mem_cons.mpr ⟨sRX9_getfield_9 false 65, List.forall_mem_cons.mpr ⟨sRX9_getfield_15 false 78, List.forall_mem_cons.mpr ⟨sRX9_getfield_15 false 92, fun _ h => absurd h List.not_mem_nil⟩⟩⟩⟩⟩⟩⟩⟩⟩⟩⟩)
set_option maxRecDepth 100000 in
theorem vkX9_append_1 : ∀ e ∈ kX9_append_1, xE RX9 false cX9_append e := xE_all (o := [(109, .invokevirtual 35, 3, 68, 4), (113, .getfield 15, 3, 8, 4)]) (by decide +kernel) (by rfl) (List.forall_mem_cons.mpr ⟨sRX9_invokevirtual_35 false 109, List.forall_mem_cons.mpr ⟨sRX9_getfield_15 false 113, fun _ h => absurd h List.not_mem_nil⟩⟩)
set_option maxRecDepth 100000 in
theorem vkX9_append : ∀ e ∈ kX9_append, xE RX9 false cX9_append e := (fun e h => (List.mem_append.mp h).elim (vkX9_append_0 e) (vkX9_append_1 e))
set_option maxRecDepth 100000 in
theorem vkX9_noteCopies : ∀ e ∈ kX9_noteCopies, xE RX9 false cX9_noteCopies e := xE_all (o := [(1, .getfield 15, 3, 8, 4), (7, .getfield 29, 3, 8, 1), (10, .invokestatic 39, 3, 1001, 2), (26, .getfield 19, 3, 8, 5), (32, .invokestatic 45, 3, 72, 2), (38, .getfield 22, 3, 8, 6)]) (by decide +kernel) (by rfl) (List.forall_mem_cons.mpr ⟨sRX9_getfield_15 false 1, List.forall_mem_cons.mpr ⟨sRX9_getfield_29 false 7, List.forall_mem_cons.mpr ⟨sRX9_invokestatic_39 false 10, List.forall_mem_cons.mpr ⟨sRX9_getfield_19 false 26, List.forall_mem_cons.mpr ⟨sRX9_invokestatic_45 false 32, List.forall_mem_cons.mpr ⟨sRX9_getfield_22 false 38, fun _ h => absurd h List.not_mem_nil⟩⟩⟩⟩⟩⟩)
set_option maxRecDepth 100000 in
theorem vkX9_longestCopy : ∀ e ∈ kX9_longestCopy, xE RX9 false cX9_longestCopy e := xE_all (o := [(2, .invokevirtual 48, 3, 66, 2), (9, .getfield 22, 3, 8, 6), (15, .getfield 25, 3, 8, 0), (22, .getfield 22, 3, 8, 6)]) (by decide +kernel) (by rfl) (List.forall_mem_cons.mpr ⟨sRX9_invokevirtual_48 false 2, List.forall_mem_cons.mpr ⟨sRX9_getfield_22 false 9, List.forall_mem_cons.mpr ⟨sRX9_getfield_25 false 15, List.forall_mem_cons.mpr ⟨sRX9_getfield_22 false 22, fun _ h => absurd h List.not_mem_nil⟩⟩⟩⟩)
set_option maxRecDepth 100000 in
theorem vkX9_copyDistance : ∀ e ∈ kX9_copyDistance, xE RX9 false cX9_copyDistance e := xE_all (o := [(2, .invokevirtual 48, 3, 66, 2), (10, .getfield 25, 3, 8, 0), (18, .getfield 22, 3, 8, 6), (29, .getfield 19, 3, 8, 5), (38, .invokestatic 45, 3, 72, 2)]) (by decide +kernel) (by rfl) (List.forall_mem_cons.mpr ⟨sRX9_invokevirtual_48 false 2, List.forall_mem_cons.mpr ⟨sRX9_getfield_25 false 10, List.forall_mem_cons.mpr ⟨sRX9_getfield_22 false 18, List.forall_mem_cons.mpr ⟨sRX9_getfield_19 false 29, List.forall_mem_cons.mpr ⟨sRX9_invokestatic_45 false 38, fun _ h => absurd h List.not_mem_nil⟩⟩⟩⟩⟩)
set_option maxRecDepth 100000 in
theorem vkX9_sameBy : ∀ e ∈ kX9_sameBy, xE RX9 false cX9_sameBy e := xE_all (o := [(13, .getfield 32, 3, 8, 3), (19, .getfield 29, 3, 8, 1), (22, .invokestatic 39, 3, 1001, 2), (36, .getfield 9, 3, 8, 2), (45, .getfield 9, 3, 8, 2)]) (by decide +kernel) (by rfl) (List.forall_mem_cons.mpr ⟨sRX9_getfield_32 false 13, List.forall_mem_cons.mpr ⟨sRX9_getfield_29 false 19, List.forall_mem_cons.mpr ⟨sRX9_invokestatic_39 false 22, List.forall_mem_cons.mpr ⟨sRX9_getfield_9 false 36, List.forall_mem_cons.mpr ⟨sRX9_getfield_9 false 45, fun _ h => absurd h List.not_mem_nil⟩⟩⟩⟩⟩)
set_option maxRecDepth 100000 in
theorem vkX9_nearestIndex : ∀ e ∈ kX9_nearestIndex, xE RX9 false cX9_nearestIndex e := xE_all (o := []) (by decide +kernel) (by rfl) (fun _ h => absurd h List.not_mem_nil)
set_option maxRecDepth 100000 in
theorem vkX10_init_0 : ∀ e ∈ kX10_init_0, xE RX10 true cX10_init e := xE_all (o := [(1, .invokespecial 1, 3, 1003, 1), (8, .invokestatic 9, 3, 1001, 2), (11, .invokestatic 15, 3, 1000, 2), (14, .putfield 18, 3, 9, 0), (18, .new 22, 3, 8, 0), (23, .getfield 18, 3, 9, 0), (26, .invokespecial 24, 3, 65, 2), (29, .putfield 27, 3, 9, 1), (33, .new 31, 3, 2, 0), (38, .getfield 18, 3, 9, 0), (41, .invokespecial 33, 3, 7, 2), (44, .putfield 34, 3, 9, 2), (48, .new 31, 3, 2, 0), (53, .getfield 18, 3, 9, 0), (56, .invokespecial 33, 3, 7, 2), (59, .putfield 38, 3, 9, 3), (63, .getfield 18, 3, 9, 0), (70, .new 41, 3, 6, 0), (75, .getfield 27, 3, 9, 1), (79, .getfield 34, 3, 9, 2), (82, .invokespecial 43, 3, 57, 3), (85, .putfield 46, 3, 9, 4), (92, .getfield 18, 3, 9, 0), (100, .new 50, 3, 4, 0), (105, .getfield 27, 3, 9, 1), (109, .getfield 34, 3, 9, 2), (112, .invokespecial 52, 3, 41, 3), (115, .putfield 46, 3, 9, 4), (122, .new 53, 3, 3, 0)]) (by decide +kernel) (by rfl) (List.forall_mem_cons.mpr ⟨sRX10_invokespecial_1 true 1, List.forall_mem_cons.mpr ⟨sRX10_invokestatic_9 true 8, List.forall_mem_cons.mpr ⟨sRX10_invokestatic_15 true 11, List.forall_mem_cons.mpr ⟨sRX10_putfield_18 14, List.forall_mem_cons.mpr ⟨sRX10_new_22 true 18, List.forall_mem_cons.mpr ⟨sRX10_getfield_18 true 23, List.forall_mem_cons.mpr ⟨sRX10_invokespecial_24 true 26, List.forall_mem_cons.mpr ⟨sRX10_putfield_27 29, List.forall_mem_cons.mpr ⟨sRX10_new_31 true 33, List.forall_mem_cons.mpr ⟨sRX10_getfield_18 true 38, List.forall_mem_cons.mpr ⟨sRX10_invokespecial_33 true 41, List.forall_mem_cons.mpr ⟨sRX10_putfield_34 44, List.forall_mem_cons.mpr ⟨sRX10_new_31 true 48, List.forall_mem_cons.mpr ⟨sRX10_getfield_18 true 53, List.forall_mem_cons.mpr ⟨sRX10_invokespecial_33 true 56, List.forall_mem_cons.mpr ⟨sRX10_putfield_38 59, List.forall_mem_cons.mpr ⟨sRX10_getfield_18 true 63, List.forall_mem_cons.mpr ⟨sRX10_new_41 true 70, List.forall_mem_cons.mpr ⟨sRX10_getfield_27 true 75, List.forall_mem_cons.mpr ⟨sRX10_getfield_34 true 79, List.forall_mem_cons.mpr ⟨sRX10_invokespecial_43 true 82, List.forall_mem_cons.mpr ⟨sRX10_putfield_46 85, List.forall_mem_cons.mpr ⟨sRX10_getfield_18 true 92, List.forall_mem_cons.mpr ⟨sRX10_new_50 true 100, List.forall_mem_cons.mpr ⟨sRX10_getfield_27 true 105, List.forall_mem_cons.mpr ⟨sRX10_getfield_34 true 109, List.forall_mem_cons.mpr ⟨sRX10_invokespecial_52 true 112, List.forall_mem_cons.mpr ⟨sRX10_putfield_46 115, List.forall_mem_cons.mpr ⟨sRX10_new_53 true 122, fun _ h => absurd h List.not_mem_nil⟩⟩⟩⟩⟩⟩⟩⟩⟩⟩⟩⟩⟩⟩⟩⟩⟩⟩⟩⟩⟩⟩⟩⟩⟩⟩⟩⟩⟩)
set_option maxRecDepth 100000 in
theorem vkX10_init_1 : ∀ e ∈ kX10_init_1, xE RX10 true cX10_init e := xE_all (o := [(127, .getfield 27, 3, 9, 1), (131, .getfield 34, 3, 9, 2), (134, .invokespecial 55, 3, 30, 3), (137, .putfield 46, 3, 9, 4), (141, .new 56, 3, 7, 0), (146, .getfield 27, 3, 9, 1), (150, .getfield 18, 3, 9, 0), (162, .invokespecial 58, 3, 61, 3), (165, .putfield 61, 3, 9, 5), (169, .new 65, 3, 1, 0), (174, .getfield 27, 3, 9, 1), (177, .invokespecial 67, 3, 0, 2), (180, .putfield 70, 3, 9, 6), (184, .new 74, 3, 5, 0), (188, .invokespecial 76, 3, 49, 1), (191, .putfield 77, 3, 9, 7), (195, .new 74, 3, 5, 0), (199, .invokespecial 76, 3, 49, 1), (202, .putfield 81, 3, 9, 8), (208, .putfield 84, 3, 9, 10)]) (by decide +kernel) (by rfl) (List.forall_mem_cons.mpr ⟨sRX10_getfield_27 true 127, List.forall_mem_cons.mpr ⟨sRX10_getfield_34 true 131, List.forall_mem_cons.mpr ⟨sRX10_invokespecial_55 true 134, List.forall_mem_cons.mpr ⟨sRX10_putfield_46 137, List.forall_mem_cons.mpr ⟨sRX10_new_56 true 141, List.forall_mem_cons.mpr ⟨sRX10_getfield_27 true 146, List.forall_mem_cons.mpr ⟨sRX10_getfield_18 true 150, List.forall_mem_cons.mpr ⟨sRX10_invokespecial_58 true 162, List.forall_mem_cons.mpr ⟨sRX10_putfield_61 165, List.forall_mem_cons.mpr ⟨sRX10_new_65 true 169, List.forall_mem_cons.mpr ⟨sRX10_getfield_27 true 174, List.forall_mem_cons.mpr ⟨sRX10_invokespecial_67 true 177, List.forall_mem_cons.mpr ⟨sRX10_putfield_70 180, List.forall_mem_cons.mpr ⟨sRX10_new_74 true 184, List.forall_mem_cons.mpr ⟨sRX10_invokespecial_76 true 188, List.forall_mem_cons.mpr ⟨sRX10_putfield_77 true 191, List.forall_mem_cons.mpr ⟨sRX10_new_74 true 195, List.forall_mem_cons.mpr ⟨sRX10_invokespecial_76 true 199, List.forall_mem_cons.mpr ⟨sRX10_putfield_81 true 202, List.forall_mem_cons.mpr ⟨sRX10_putfield_84 true 208, fun _ h => absurd h List.not_mem_nil⟩⟩⟩⟩⟩⟩⟩⟩⟩⟩⟩⟩⟩⟩⟩⟩⟩⟩⟩⟩)
set_option maxRecDepth 100000 in
theorem vkX10_init : ∀ e ∈ kX10_init, xE RX10 true cX10_init e := (fun e h => (List.mem_append.mp h).elim (vkX10_init_0 e) (vkX10_init_1 e))
set_option maxRecDepth 100000 in
theorem vkX10_octets : ∀ e ∈ kX10_octets, xE RX10 false cX10_octets e := xE_all (o := [(12, .getfield 27, 3, 9, 1), (15, .getfield 87, 3, 8, 3), (38, .getfield 27, 3, 9, 1), (53, .invokevirtual 90, 3, 67, 2), (64, .putfield 93, 3, 9, 9), (68, .getfield 27, 3, 9, 1), (71, .getfield 87, 3, 8, 3)]) (by decide +kernel) (by rfl) (List.forall_mem_cons.mpr ⟨sRX10_getfield_27 false 12, List.forall_mem_cons.mpr ⟨sRX10_getfield_87 false 15, List.forall_mem_cons.mpr ⟨sRX10_getfield_27 false 38, List.forall_mem_cons.mpr ⟨sRX10_invokevirtual_90 false 53, List.forall_mem_cons.mpr ⟨sRX10_putfield_93 false 64, List.forall_mem_cons.mpr ⟨sRX10_getfield_27 false 68, List.forall_mem_cons.mpr ⟨sRX10_getfield_87 false 71, fun _ h => absurd h List.not_mem_nil⟩⟩⟩⟩⟩⟩⟩)
set_option maxRecDepth 100000 in
theorem vkX10_cost : ∀ e ∈ kX10_cost, xE RX10 false cX10_cost e := xE_all (o := [(1, .getfield 34, 3, 9, 2), (6, .invokevirtual 97, 3, 9, 3), (27, .getfield 34, 3, 9, 2), (32, .invokevirtual 101, 3, 10, 3), (38, .getfield 34, 3, 9, 2), (44, .invokevirtual 104, 3, 11, 4)]) (by decide +kernel) (by rfl) (List.forall_mem_cons.mpr ⟨sRX10_getfield_34 false 1, List.forall_mem_cons.mpr ⟨sRX10_invokevirtual_97 false 6, List.forall_mem_cons.mpr ⟨sRX10_getfield_34 false 27, List.forall_mem_cons.mpr ⟨sRX10_invokevirtual_101 false 32, List.forall_mem_cons.mpr ⟨sRX10_getfield_34 false 38, List.forall_mem_cons.mpr ⟨sRX10_invokevirtual_104 false 44, fun _ h => absurd h List.not_mem_nil⟩⟩⟩⟩⟩⟩)
set_option maxRecDepth 100000 in
theorem vkX10_price : ∀ e ∈ kX10_price, xE RX10 false cX10_price e := xE_all (o := [(1, .getfield 34, 3, 9, 2), (6, .invokevirtual 97, 3, 9, 3), (13, .getfield 34, 3, 9, 2), (18, .invokevirtual 101, 3, 10, 3)]) (by decide +kernel) (by rfl) (List.forall_mem_cons.mpr ⟨sRX10_getfield_34 false 1, List.forall_mem_cons.mpr ⟨sRX10_invokevirtual_97 false 6, List.forall_mem_cons.mpr ⟨sRX10_getfield_34 false 13, List.forall_mem_cons.mpr ⟨sRX10_invokevirtual_101 false 18, fun _ h => absurd h List.not_mem_nil⟩⟩⟩⟩)
set_option maxRecDepth 100000 in
theorem vkX10_keep : ∀ e ∈ kX10_keep, xE RX10 false cX10_keep e := xE_all (o := [(12, .getfield 18, 3, 9, 0), (22, .getfield 84, 3, 9, 10), (28, .putfield 84, 3, 9, 10)]) (by decide +kernel) (by rfl) (List.forall_mem_cons.mpr ⟨sRX10_getfield_18 false 12, List.forall_mem_cons.mpr ⟨sRX10_getfield_84 false 22, List.forall_mem_cons.mpr ⟨sRX10_putfield_84 false 28, fun _ h => absurd h List.not_mem_nil⟩⟩⟩)
set_option maxRecDepth 100000 in
theorem vkX10_parse : ∀ e ∈ kX10_parse, xE RX10 false cX10_parse e := xE_all (o := [(18, .getfield 77, 3, 9, 7), (21, .invokevirtual 108, 3, 92, 2), (28, .getfield 61, 3, 9, 5), (32, .getfield 77, 3, 9, 7), (36, .invokevirtual 112, 3, 62, 3), (40, .getfield 77, 3, 9, 7), (44, .getfield 27, 3, 9, 1), (48, .getfield 46, 3, 9, 4), (52, .getfield 77, 3, 9, 7), (55, .invokevirtual 116, 3, 2000, 2), (59, .invokevirtual 122, 3, 55, 4), (64, .putfield 93, 3, 9, 9), (68, .getfield 77, 3, 9, 7), (71, .getfield 126, 3, 5, 5)]) (by decide +kernel) (by rfl) (List.forall_mem_cons.mpr ⟨sRX10_getfield_77 false 18, List.forall_mem_cons.mpr ⟨sRX10_invokevirtual_108 false 21, List.forall_mem_cons.mpr ⟨sRX10_getfield_61 false 28, List.forall_mem_cons.mpr ⟨sRX10_getfield_77 false 32, List.forall_mem_cons.mpr ⟨sRX10_invokevirtual_112 false 36, List.forall_mem_cons.mpr ⟨sRX10_getfield_77 false 40, List.forall_mem_cons.mpr ⟨sRX10_getfield_27 false 44, List.forall_mem_cons.mpr ⟨sRX10_getfield_46 false 48, List.forall_mem_cons.mpr ⟨sRX10_getfield_77 false 52, List.forall_mem_cons.mpr ⟨sRX10_invokevirtual_116 false 55, List.forall_mem_cons.mpr ⟨sRX10_invokevirtual_122 false 59, List.forall_mem_cons.mpr ⟨sRX10_putfield_93 false 64, List.forall_mem_cons.mpr ⟨sRX10_getfield_77 false 68, List.forall_mem_cons.mpr ⟨sRX10_getfield_126 false 71, fun _ h => absurd h List.not_mem_nil⟩⟩⟩⟩⟩⟩⟩⟩⟩⟩⟩⟩⟩⟩)
set_option maxRecDepth 100000 in
theorem vkX10_step : ∀ e ∈ kX10_step, xE RX10 false cX10_step e := xE_all (o := [(1, .getfield 93, 3, 9, 9), (8, .getfield 77, 3, 9, 7), (12, .invokevirtual 129, 3, 50, 2), (53, .getfield 77, 3, 9, 7), (56, .getfield 133, 3, 5, 0), (63, .getfield 77, 3, 9, 7), (66, .getfield 137, 3, 5, 1), (73, .getfield 77, 3, 9, 7), (76, .getfield 140, 3, 5, 2), (83, .getfield 77, 3, 9, 7), (86, .getfield 143, 3, 5, 3)]) (by decide +kernel) (by rfl) (List.forall_mem_cons.mpr ⟨sRX10_getfield_93 false 1, List.forall_mem_cons.mpr ⟨sRX10_getfield_77 false 8, List.forall_mem_cons.mpr ⟨sRX10_invokevirtual_129 false 12, List.forall_mem_cons.mpr ⟨sRX10_getfield_77 false 53, List.forall_mem_cons.mpr ⟨sRX10_getfield_133 false 56, List.forall_mem_cons.mpr ⟨sRX10_getfield_77 false 63, List.forall_mem_cons.mpr ⟨sRX10_getfield_137 false 66, List.forall_mem_cons.mpr ⟨sRX10_getfield_77 false 73, List.forall_mem_cons.mpr ⟨sRX10_getfield_140 false 76, List.forall_mem_cons.mpr ⟨sRX10_getfield_77 false 83, List.forall_mem_cons.mpr ⟨sRX10_getfield_143 false 86, fun _ h => absurd h List.not_mem_nil⟩⟩⟩⟩⟩⟩⟩⟩⟩⟩⟩)
set_option maxRecDepth 100000 in
theorem vkX10_sum : ∀ e ∈ kX10_sum, xE RX10 false cX10_sum e := xE_all (o := [(1, .getfield 93, 3, 9, 9), (8, .getfield 77, 3, 9, 7), (11, .getfield 146, 3, 5, 6), (17, .ldc2_w 150, 3, 18446744073709551615, 0)]) (by decide +kernel) (by rfl) (List.forall_mem_cons.mpr ⟨sRX10_getfield_93 false 1, List.forall_mem_cons.mpr ⟨sRX10_getfield_77 false 8, List.forall_mem_cons.mpr ⟨sRX10_getfield_146 false 11, List.forall_mem_cons.mpr ⟨sRX10_ldc2_w_150 false 17, fun _ h => absurd h List.not_mem_nil⟩⟩⟩⟩)
set_option maxRecDepth 100000 in
theorem vkX10_again : ∀ e ∈ kX10_again, xE RX10 false cX10_again e := xE_all (o := [(1, .getfield 93, 3, 9, 9), (8, .getfield 46, 3, 9, 4), (12, .getfield 77, 3, 9, 7), (15, .invokevirtual 116, 3, 2000, 2), (21, .ldc2_w 150, 3, 18446744073709551615, 0)]) (by decide +kernel) (by rfl) (List.forall_mem_cons.mpr ⟨sRX10_getfield_93 false 1, List.forall_mem_cons.mpr ⟨sRX10_getfield_46 false 8, List.forall_mem_cons.mpr ⟨sRX10_getfield_77 false 12, List.forall_mem_cons.mpr ⟨sRX10_invokevirtual_116 false 15, List.forall_mem_cons.mpr ⟨sRX10_ldc2_w_150 false 21, fun _ h => absurd h List.not_mem_nil⟩⟩⟩⟩⟩)
set_option maxRecDepth 100000 in
theorem vkX10_least : ∀ e ∈ kX10_least, xE RX10 false cX10_least e := xE_all (o := [(1, .getfield 93, 3, 9, 9), (8, .getfield 77, 3, 9, 7), (11, .getfield 152, 3, 5, 7)]) (by decide +kernel) (by rfl) (List.forall_mem_cons.mpr ⟨sRX10_getfield_93 false 1, List.forall_mem_cons.mpr ⟨sRX10_getfield_77 false 8, List.forall_mem_cons.mpr ⟨sRX10_getfield_152 false 11, fun _ h => absurd h List.not_mem_nil⟩⟩⟩)
set_option maxRecDepth 100000 in
theorem vkX10_told : ∀ e ∈ kX10_told, xE RX10 false cX10_told e := xE_all (o := [(1, .getfield 93, 3, 9, 9), (8, .getfield 27, 3, 9, 1), (12, .invokevirtual 155, 3, 66, 2), (19, .getfield 77, 3, 9, 7), (22, .getfield 157, 3, 5, 4)]) (by decide +kernel) (by rfl) (List.forall_mem_cons.mpr ⟨sRX10_getfield_93 false 1, List.forall_mem_cons.mpr ⟨sRX10_getfield_27 false 8, List.forall_mem_cons.mpr ⟨sRX10_invokevirtual_155 false 12, List.forall_mem_cons.mpr ⟨sRX10_getfield_77 false 19, List.forall_mem_cons.mpr ⟨sRX10_getfield_157 false 22, fun _ h => absurd h List.not_mem_nil⟩⟩⟩⟩⟩)
set_option maxRecDepth 100000 in
theorem vkX10_rounds_0 : ∀ e ∈ kX10_rounds_0, xE RX10 false cX10_rounds e := xE_all (o := [(12, .getfield 18, 3, 9, 0), (20, .getfield 27, 3, 9, 1), (23, .getfield 87, 3, 8, 3), (29, .ldc2_w 150, 3, 18446744073709551615, 0), (46, .getfield 81, 3, 9, 8), (49, .invokevirtual 108, 3, 92, 2), (53, .getfield 34, 3, 9, 2), (57, .getfield 81, 3, 9, 8), (61, .getfield 27, 3, 9, 1), (64, .invokevirtual 160, 3, 21, 3), (68, .getfield 46, 3, 9, 4), (72, .getfield 81, 3, 9, 8), (75, .invokevirtual 116, 3, 2000, 2), (96, .getfield 38, 3, 9, 3), (100, .getfield 34, 3, 9, 2), (103, .invokevirtual 164, 3, 12, 2), (107, .invokevirtual 168, 3, 93, 1), (117, .getfield 34, 3, 9, 2)]) (by decide +kernel) (by rfl) (List.forall_mem_cons.mpr ⟨sRX10_getfield_18 false 12, List.forall_mem_cons.mpr ⟨sRX10_getfield_27 false 20, List.forall_mem_cons.mpr ⟨sRX10_getfield_87 false 23, List.forall_mem_cons.mpr ⟨sRX10_ldc2_w_150 false 29, List.forall_mem_cons.mpr ⟨sRX10_getfield_81 false 46, List.forall_mem_cons.mpr ⟨sRX10_invokevirtual_108 false 49, List.forall_mem_cons.mpr ⟨sRX10_getfield_34 false 53, List.forall_mem_cons.mpr ⟨sRX10_getfield_81 false 57, List.forall_mem_cons.mpr ⟨sRX10_getfield_27 false 61, List.forall_mem_cons.mpr ⟨sRX10_invokevirtual_160 false 64, List.forall_mem_cons.mpr ⟨sRX10_getfield_46 false 68, List.forall_mem_cons.mpr ⟨sRX10_getfield_81 false 72, List.forall_mem_cons.mpr ⟨sRX10_invokevirtual_116 false 75, List.forall_mem_cons.mpr ⟨sRX10_getfield_38 false 96, List.forall_mem_cons.mpr ⟨sRX10_getfield_34 false 100, List.forall_mem_cons.mpr ⟨sRX10_invokevirtual_164 false 103, List.forall_mem_cons.mpr ⟨sRX10_invokevirtual_168 false 107, List.forall_mem_cons.mpr ⟨sRX10_getfield_34 false 117, fun _ h => absurd h List.not_mem_nil⟩⟩⟩⟩⟩⟩⟩⟩⟩⟩⟩⟩⟩⟩⟩⟩⟩⟩)
set_option maxRecDepth 100000 in
theorem vkX10_rounds_1 : ∀ e ∈ kX10_rounds_1, xE RX10 false cX10_rounds e := xE_all (o := [(121, .getfield 38, 3, 9, 3), (124, .invokevirtual 164, 3, 12, 2), (129, .putfield 93, 3, 9, 9)]) (by decide +kernel) (by rfl) (List.forall_mem_cons.mpr ⟨sRX10_getfield_38 false 121, List.forall_mem_cons.mpr ⟨sRX10_invokevirtual_164 false 124, List.forall_mem_cons.mpr ⟨sRX10_putfield_93 false 129, fun _ h => absurd h List.not_mem_nil⟩⟩⟩)
set_option maxRecDepth 100000 in
theorem vkX10_rounds : ∀ e ∈ kX10_rounds, xE RX10 false cX10_rounds e := (fun e h => (List.mem_append.mp h).elim (vkX10_rounds_0 e) (vkX10_rounds_1 e))
set_option maxRecDepth 100000 in
theorem vkX10_longest : ∀ e ∈ kX10_longest, xE RX10 false cX10_longest e := xE_all (o := [(1, .getfield 27, 3, 9, 1), (5, .invokevirtual 155, 3, 66, 2), (12, .getfield 27, 3, 9, 1), (16, .invokevirtual 171, 3, 69, 2)]) (by decide +kernel) (by rfl) (List.forall_mem_cons.mpr ⟨sRX10_getfield_27 false 1, List.forall_mem_cons.mpr ⟨sRX10_invokevirtual_155 false 5, List.forall_mem_cons.mpr ⟨sRX10_getfield_27 false 12, List.forall_mem_cons.mpr ⟨sRX10_invokevirtual_171 false 16, fun _ h => absurd h List.not_mem_nil⟩⟩⟩⟩)
set_option maxRecDepth 100000 in
theorem vkX10_distance : ∀ e ∈ kX10_distance, xE RX10 false cX10_distance e := xE_all (o := [(1, .getfield 27, 3, 9, 1), (6, .invokevirtual 175, 3, 70, 3)]) (by decide +kernel) (by rfl) (List.forall_mem_cons.mpr ⟨sRX10_getfield_27 false 1, List.forall_mem_cons.mpr ⟨sRX10_invokevirtual_175 false 6, fun _ h => absurd h List.not_mem_nil⟩⟩)
set_option maxRecDepth 100000 in
theorem vkX10_cut : ∀ e ∈ kX10_cut, xE RX10 false cX10_cut e := xE_all (o := [(1, .getfield 70, 3, 9, 6), (5, .invokevirtual 178, 3, 2, 2), (12, .getfield 70, 3, 9, 6), (15, .getfield 181, 3, 1, 2)]) (by decide +kernel) (by rfl) (List.forall_mem_cons.mpr ⟨sRX10_getfield_70 false 1, List.forall_mem_cons.mpr ⟨sRX10_invokevirtual_178 false 5, List.forall_mem_cons.mpr ⟨sRX10_getfield_70 false 12, List.forall_mem_cons.mpr ⟨sRX10_getfield_181 false 15, fun _ h => absurd h List.not_mem_nil⟩⟩⟩⟩)
set_option maxRecDepth 100000 in
theorem vkX10_split : ∀ e ∈ kX10_split, xE RX10 false cX10_split e := xE_all (o := [(5, .ldc 184, 2, 100000, 0), (11, .getfield 27, 3, 9, 1), (14, .getfield 87, 3, 8, 3), (20, .ldc2_w 150, 3, 18446744073709551615, 0), (25, .getfield 70, 3, 9, 6), (29, .invokevirtual 185, 3, 3, 2)]) (by decide +kernel) (by rfl) (List.forall_mem_cons.mpr ⟨sRX10_ldc_184 false 5, List.forall_mem_cons.mpr ⟨sRX10_getfield_27 false 11, List.forall_mem_cons.mpr ⟨sRX10_getfield_87 false 14, List.forall_mem_cons.mpr ⟨sRX10_ldc2_w_150 false 20, List.forall_mem_cons.mpr ⟨sRX10_getfield_70 false 25, List.forall_mem_cons.mpr ⟨sRX10_invokevirtual_185 false 29, fun _ h => absurd h List.not_mem_nil⟩⟩⟩⟩⟩⟩)
set_option maxRecDepth 100000 in
theorem vkX10_taken : ∀ e ∈ kX10_taken, xE RX10 false cX10_taken e := xE_all (o := [(6, .getfield 70, 3, 9, 6), (9, .getfield 189, 3, 1, 4), (16, .getfield 70, 3, 9, 6), (19, .getfield 192, 3, 1, 3)]) (by decide +kernel) (by rfl) (List.forall_mem_cons.mpr ⟨sRX10_getfield_70 false 6, List.forall_mem_cons.mpr ⟨sRX10_getfield_189 false 9, List.forall_mem_cons.mpr ⟨sRX10_getfield_70 false 16, List.forall_mem_cons.mpr ⟨sRX10_getfield_192 false 19, fun _ h => absurd h List.not_mem_nil⟩⟩⟩⟩)
set_option maxRecDepth 100000 in
theorem vkX10_many : ∀ e ∈ kX10_many, xE RX10 false cX10_many e := xE_all (o := [(45, .getfield 27, 3, 9, 1), (48, .getfield 87, 3, 8, 3), (53, .getfield 93, 3, 9, 9), (60, .getfield 77, 3, 9, 7), (63, .getfield 126, 3, 5, 5), (72, .getfield 70, 3, 9, 6), (75, .getfield 181, 3, 1, 2), (80, .getfield 70, 3, 9, 6), (83, .getfield 189, 3, 1, 4), (88, .getfield 195, 3, 9, 11), (93, .getfield 84, 3, 9, 10), (98, .getfield 18, 3, 9, 0)]) (by decide +kernel) (by rfl) (List.forall_mem_cons.mpr ⟨sRX10_getfield_27 false 45, List.forall_mem_cons.mpr ⟨sRX10_getfield_87 false 48, List.forall_mem_cons.mpr ⟨sRX10_getfield_93 false 53, List.forall_mem_cons.mpr ⟨sRX10_getfield_77 false 60, List.forall_mem_cons.mpr ⟨sRX10_getfield_126 false 63, List.forall_mem_cons.mpr ⟨sRX10_getfield_70 false 72, List.forall_mem_cons.mpr ⟨sRX10_getfield_181 false 75, List.forall_mem_cons.mpr ⟨sRX10_getfield_70 false 80, List.forall_mem_cons.mpr ⟨sRX10_getfield_189 false 83, List.forall_mem_cons.mpr ⟨sRX10_getfield_195 false 88, List.forall_mem_cons.mpr ⟨sRX10_getfield_84 false 93, List.forall_mem_cons.mpr ⟨sRX10_getfield_18 false 98, fun _ h => absurd h List.not_mem_nil⟩⟩⟩⟩⟩⟩⟩⟩⟩⟩⟩⟩)
set_option maxRecDepth 100000 in
theorem vkX10_clear : ∀ e ∈ kX10_clear, xE RX10 false cX10_clear e := xE_all (o := [(1, .getfield 27, 3, 9, 1), (5, .putfield 87, 3, 8, 3), (9, .getfield 70, 3, 9, 6), (12, .invokevirtual 198, 3, 1, 1), (16, .getfield 34, 3, 9, 2), (19, .invokevirtual 201, 3, 8, 1), (24, .putfield 93, 3, 9, 9), (30, .putfield 84, 3, 9, 10), (35, .putfield 195, 3, 9, 11)]) (by decide +kernel) (by rfl) (List.forall_mem_cons.mpr ⟨sRX10_getfield_27 false 1, List.forall_mem_cons.mpr ⟨sRX10_putfield_87 false 5, List.forall_mem_cons.mpr ⟨sRX10_getfield_70 false 9, List.forall_mem_cons.mpr ⟨sRX10_invokevirtual_198 false 12, List.forall_mem_cons.mpr ⟨sRX10_getfield_34 false 16, List.forall_mem_cons.mpr ⟨sRX10_invokevirtual_201 false 19, List.forall_mem_cons.mpr ⟨sRX10_putfield_93 false 24, List.forall_mem_cons.mpr ⟨sRX10_putfield_84 false 30, List.forall_mem_cons.mpr ⟨sRX10_putfield_195 false 35, fun _ h => absurd h List.not_mem_nil⟩⟩⟩⟩⟩⟩⟩⟩⟩)
set_option maxRecDepth 100000 in
theorem vkX10_findBest : ∀ e ∈ kX10_findBest, xE RX10 false cX10_findBest e := xE_all (o := [(2, .getfield 46, 3, 9, 4), (7, .getfield 84, 3, 9, 10), (10, .invokevirtual 214, 3, 2001, 3), (13, .putfield 195, 3, 9, 11), (18, .getfield 27, 3, 9, 1), (22, .getfield 46, 3, 9, 4), (26, .invokevirtual 116, 3, 2000, 2), (30, .getfield 195, 3, 9, 11), (41, .invokevirtual 122, 3, 55, 4)]) (by decide +kernel) (by rfl) (List.forall_mem_cons.mpr ⟨sRX10_getfield_46 false 2, List.forall_mem_cons.mpr ⟨sRX10_getfield_84 false 7, List.forall_mem_cons.mpr ⟨sRX10_invokevirtual_214 false 10, List.forall_mem_cons.mpr ⟨sRX10_putfield_195 false 13, List.forall_mem_cons.mpr ⟨sRX10_getfield_27 false 18, List.forall_mem_cons.mpr ⟨sRX10_getfield_46 false 22, List.forall_mem_cons.mpr ⟨sRX10_invokevirtual_116 false 26, List.forall_mem_cons.mpr ⟨sRX10_getfield_195 false 30, List.forall_mem_cons.mpr ⟨sRX10_invokevirtual_122 false 41, fun _ h => absurd h List.not_mem_nil⟩⟩⟩⟩⟩⟩⟩⟩⟩)
set_option maxRecDepth 100000 in
theorem vkX10_takeSpare : ∀ e ∈ kX10_takeSpare, xE RX10 false cX10_takeSpare e := xE_all (o := [(1, .getfield 77, 3, 9, 7), (7, .getfield 81, 3, 9, 8), (10, .putfield 77, 3, 9, 7), (15, .putfield 81, 3, 9, 8)]) (by decide +kernel) (by rfl) (List.forall_mem_cons.mpr ⟨sRX10_getfield_77 false 1, List.forall_mem_cons.mpr ⟨sRX10_getfield_81 false 7, List.forall_mem_cons.mpr ⟨sRX10_putfield_77 false 10, List.forall_mem_cons.mpr ⟨sRX10_putfield_81 false 15, fun _ h => absurd h List.not_mem_nil⟩⟩⟩⟩)
set_option maxRecDepth 100000 in
theorem vkX10_logOf : ∀ e ∈ kX10_logOf, xE RX10 false cX10_logOf e := xE_all (o := [(8, .invokestatic 217, 3, 95, 1)]) (by decide +kernel) (by rfl) (List.forall_mem_cons.mpr ⟨sRX10_invokestatic_217 false 8, fun _ h => absurd h List.not_mem_nil⟩)
end
section
set_option maxRecDepth 100000 in
theorem vkX10_highestBit : ∀ e ∈ kX10_highestBit, xE RX10 false cX10_highestBit e := xE_all (o := []) (by decide +kernel) (by rfl) (fun _ h => absurd h List.not_mem_nil)
set_option maxRecDepth 100000 in
theorem vkX11_init_0 : ∀ e ∈ kX11_init_0, xE RX11 true cX11_init e := xE_all (o := [(1, .invokespecial 1, 3, 1003, 1), (8, .newarray .int, 2, 0, 0), (10, .putfield 7, 3, 10, 2), (17, .newarray .int, 2, 0, 0), (19, .putfield 13, 3, 10, 4), (25, .putfield 16, 3, 10, 5), (31, .newarray .int, 2, 0, 0), (33, .putfield 20, 3, 10, 6), (39, .newarray .int, 2, 0, 0), (41, .putfield 23, 3, 10, 8), (48, .newarray .int, 2, 0, 0), (50, .putfield 26, 3, 10, 12), (57, .newarray .int, 2, 0, 0), (59, .putfield 29, 3, 10, 13), (66, .newarray .int, 2, 0, 0), (68, .putfield 32, 3, 10, 14), (75, .newarray .int, 2, 0, 0), (77, .putfield 35, 3, 10, 15), (81, .ldc 38, 2, 90601, 0), (83, .newarray .int, 2, 0, 0), (85, .putfield 39, 3, 10, 19), (89, .ldc 38, 2, 90601, 0), (91, .newarray .int, 2, 0, 0), (93, .putfield 42, 3, 10, 20), (98, .newarray .int, 2, 0, 0), (100, .putfield 45, 3, 10, 21), (104, .ldc 38, 2, 90601, 0), (106, .newarray .int, 2, 0, 0), (108, .putfield 48, 3, 10, 23), (115, .newarray .int, 2, 0, 0), (117, .putfield 51, 3, 10, 24), (124, .newarray .int, 2, 0, 0)]) (by decide +kernel) (by rfl) (List.forall_mem_cons.mpr ⟨sRX11_invokespecial_1 true 1, List.forall_mem_cons.mpr ⟨sRX11_newarray_int true 8, List.forall_mem_cons.mpr ⟨sRX11_putfield_7 10, List.forall_mem_cons.mpr ⟨sRX11_newarray_int true 17, List.forall_mem_cons.mpr ⟨sRX11_putfield_13 19, List.forall_mem_cons.mpr ⟨sRX11_putfield_16 true 25, List.forall_mem_cons.mpr ⟨sRX11_newarray_int true 31, List.forall_mem_cons.mpr ⟨sRX11_putfield_20 33, List.forall_mem_cons.mpr ⟨sRX11_newarray_int true 39, List.forall_mem_cons.mpr ⟨sRX11_putfield_23 41, List.forall_mem_cons.mpr ⟨sRX11_newarray_int true 48, List.forall_mem_cons.mpr ⟨sRX11_putfield_26 50, List.forall_mem_cons.mpr ⟨sRX11_newarray_int true 57, List.forall_mem_cons.mpr ⟨sRX11_putfield_29 59, List.forall_mem_cons.mpr ⟨sRX11_newarray_int true 66, List.forall_mem_cons.mpr ⟨sRX11_putfield_32 68, List.forall_mem_cons.mpr ⟨sRX11_newarray_int true 75, List.forall_mem_cons.mpr ⟨sRX11_putfield_35 77, List.forall_mem_cons.mpr ⟨sRX11_ldc_38 true 81, List.forall_mem_cons.mpr ⟨sRX11_newarray_int true 83, List.forall_mem_cons.mpr ⟨sRX11_putfield_39 85, List.forall_mem_cons.mpr ⟨sRX11_ldc_38 true 89, List.forall_mem_cons.mpr ⟨sRX11_newarray_int true 91, List.forall_mem_cons.mpr ⟨sRX11_putfield_42 93, List.forall_mem_cons.mpr ⟨sRX11_newarray_int true 98, List.forall_mem_cons.mpr ⟨sRX11_putfield_45 100, List.forall_mem_cons.mpr ⟨sRX11_ldc_38 true 104, List.forall_mem_cons.mpr ⟨sRX11_newarray_int true 106, List.forall_mem_cons.mpr ⟨sRX11_putfield_48 108, List.forall_mem_cons.mpr ⟨sRX11_newarray_int true 115, List.forall_mem_cons.mpr ⟨sRX11_putfield_51 117, List.forall_mem_cons.mpr ⟨sRX11_newarray_int true 124, fun _ h => absurd h List.not_mem_nil⟩⟩⟩⟩⟩⟩⟩⟩⟩⟩⟩⟩⟩⟩⟩⟩⟩⟩⟩⟩⟩⟩⟩⟩⟩⟩⟩⟩⟩⟩⟩⟩)
set_option maxRecDepth 100000 in
theorem vkX11_init_1 : ∀ e ∈ kX11_init_1, xE RX11 true cX11_init e := xE_all (o := [(126, .putfield 54, 3, 10, 25), (133, .newarray .int, 2, 0, 0), (135, .putfield 57, 3, 10, 26), (142, .newarray .boolean, 2, 0, 0), (144, .putfield 60, 3, 10, 27), (151, .newarray .int, 2, 0, 0), (153, .putfield 64, 3, 10, 28), (160, .newarray .int, 2, 0, 0), (162, .putfield 67, 3, 10, 29), (169, .newarray .int, 2, 0, 0), (171, .putfield 70, 3, 10, 30), (178, .newarray .int, 2, 0, 0), (180, .putfield 73, 3, 10, 31), (187, .newarray .int, 2, 0, 0), (189, .putfield 76, 3, 10, 32), (196, .newarray .boolean, 2, 0, 0), (198, .putfield 79, 3, 10, 33), (205, .newarray .int, 2, 0, 0), (207, .putfield 82, 3, 10, 34), (211, .ldc 85, 2, 48160, 0), (213, .newarray .int, 2, 0, 0), (215, .putfield 86, 3, 10, 35), (222, .newarray .int, 2, 0, 0), (224, .putfield 89, 3, 10, 36), (231, .newarray .int, 2, 0, 0), (233, .putfield 92, 3, 10, 37), (240, .newarray .int, 2, 0, 0), (242, .putfield 95, 3, 10, 38), (249, .newarray .int, 2, 0, 0), (251, .putfield 98, 3, 10, 39), (258, .newarray .int, 2, 0, 0)]) (by decide +kernel) (by rfl) (List.forall_mem_cons.mpr ⟨sRX11_putfield_54 126, List.forall_mem_cons.mpr ⟨sRX11_newarray_int true 133, List.forall_mem_cons.mpr ⟨sRX11_putfield_57 135, List.forall_mem_cons.mpr ⟨sRX11_newarray_boolean true 142, List.forall_mem_cons.mpr ⟨sRX11_putfield_60 144, List.forall_mem_cons.mpr ⟨sRX11_newarray_int true 151, List.forall_mem_cons.mpr ⟨sRX11_putfield_64 153, List.forall_mem_cons.mpr ⟨sRX11_newarray_int true 160, List.forall_mem_cons.mpr ⟨sRX11_putfield_67 162, List.forall_mem_cons.mpr ⟨sRX11_newarray_int true 169, List.forall_mem_cons.mpr ⟨sRX11_putfield_70 171, List.forall_mem_cons.mpr ⟨sRX11_newarray_int true 178, List.forall_mem_cons.mpr ⟨sRX11_putfield_73 180, List.forall_mem_cons.mpr ⟨sRX11_newarray_int true 187, List.forall_mem_cons.mpr ⟨sRX11_putfield_76 189, List.forall_mem_cons.mpr ⟨sRX11_newarray_boolean true 196, List.forall_mem_cons.mpr ⟨sRX11_putfield_79 198, List.forall_mem_cons.mpr ⟨sRX11_newarray_int true 205, List.forall_mem_cons.mpr ⟨sRX11_putfield_82 207, List.forall_mem_cons.mpr ⟨sRX11_ldc_85 true 211, List.forall_mem_cons.mpr ⟨sRX11_newarray_int true 213, List.forall_mem_cons.mpr ⟨sRX11_putfield_86 215, List.forall_mem_cons.mpr ⟨sRX11_newarray_int true 222, List.forall_mem_cons.mpr ⟨sRX11_putfield_89 224, List.forall_mem_cons.mpr ⟨sRX11_newarray_int true 231, List.forall_mem_cons.mpr ⟨sRX11_putfield_92 233, List.forall_mem_cons.mpr ⟨sRX11_newarray_int true 240, List.forall_mem_cons.mpr ⟨sRX11_putfield_95 242, List.forall_mem_cons.mpr ⟨sRX11_newarray_int true 249, List.forall_mem_cons.mpr ⟨sRX11_putfield_98 251, List.forall_mem_cons.mpr ⟨sRX11_newarray_int true 258, fun _ h => absurd h List.not_mem_nil⟩⟩⟩⟩⟩⟩⟩⟩⟩⟩⟩⟩⟩⟩⟩⟩⟩⟩⟩⟩⟩⟩⟩⟩⟩⟩⟩⟩⟩⟩⟩)
set_option maxRecDepth 100000 in
theorem vkX11_init_2 : ∀ e ∈ kX11_init_2, xE RX11 true cX11_init e := xE_all (o := [(260, .putfield 101, 3, 10, 40), (267, .newarray .int, 2, 0, 0), (269, .putfield 104, 3, 10, 41), (276, .newarray .int, 2, 0, 0), (278, .putfield 107, 3, 10, 42), (285, .newarray .int, 2, 0, 0), (287, .putfield 110, 3, 10, 43), (294, .newarray .int, 2, 0, 0), (296, .putfield 113, 3, 10, 44), (303, .newarray .int, 2, 0, 0), (305, .putfield 116, 3, 10, 45), (312, .newarray .long, 2, 0, 0), (314, .putfield 119, 3, 10, 46), (336, .putfield 123, 3, 10, 1), (340, .invokevirtual 126, 3, 98, 1)]) (by decide +kernel) (by rfl) (List.forall_mem_cons.mpr ⟨sRX11_putfield_101 260, List.forall_mem_cons.mpr ⟨sRX11_newarray_int true 267, List.forall_mem_cons.mpr ⟨sRX11_putfield_104 269, List.forall_mem_cons.mpr ⟨sRX11_newarray_int true 276, List.forall_mem_cons.mpr ⟨sRX11_putfield_107 278, List.forall_mem_cons.mpr ⟨sRX11_newarray_int true 285, List.forall_mem_cons.mpr ⟨sRX11_putfield_110 287, List.forall_mem_cons.mpr ⟨sRX11_newarray_int true 294, List.forall_mem_cons.mpr ⟨sRX11_putfield_113 296, List.forall_mem_cons.mpr ⟨sRX11_newarray_int true 303, List.forall_mem_cons.mpr ⟨sRX11_putfield_116 305, List.forall_mem_cons.mpr ⟨sRX11_newarray_long true 312, List.forall_mem_cons.mpr ⟨sRX11_putfield_119 314, List.forall_mem_cons.mpr ⟨sRX11_putfield_123 336, List.forall_mem_cons.mpr ⟨sRX11_invokevirtual_126 true 340, fun _ h => absurd h List.not_mem_nil⟩⟩⟩⟩⟩⟩⟩⟩⟩⟩⟩⟩⟩⟩⟩)
set_option maxRecDepth 100000 in
theorem vkX11_init : ∀ e ∈ kX11_init, xE RX11 true cX11_init e := (fun e h => (List.mem_append.mp h).elim (vkX11_init_0 e) ((fun e h => (List.mem_append.mp h).elim (vkX11_init_1 e) (vkX11_init_2 e)) e))
set_option maxRecDepth 100000 in
theorem vkX11_thrown : ∀ e ∈ kX11_thrown, xE RX11 false cX11_thrown e := xE_all (o := [(1, .getfield 129, 3, 10, 0)]) (by decide +kernel) (by rfl) (List.forall_mem_cons.mpr ⟨sRX11_getfield_129 false 1, fun _ h => absurd h List.not_mem_nil⟩)
set_option maxRecDepth 100000 in
theorem vkX11_start : ∀ e ∈ kX11_start, xE RX11 false cX11_start e := xE_all (o := [(10, .getfield 13, 3, 10, 4), (52, .putfield 16, 3, 10, 5)]) (by decide +kernel) (by rfl) (List.forall_mem_cons.mpr ⟨sRX11_getfield_13 false 10, List.forall_mem_cons.mpr ⟨sRX11_putfield_16 false 52, fun _ h => absurd h List.not_mem_nil⟩⟩)
set_option maxRecDepth 100000 in
theorem vkX11_shortest : ∀ e ∈ kX11_shortest, xE RX11 false cX11_shortest e := xE_all (o := [(1, .getfield 123, 3, 10, 1), (12, .getfield 123, 3, 10, 1)]) (by decide +kernel) (by rfl) (List.forall_mem_cons.mpr ⟨sRX11_getfield_123 false 1, List.forall_mem_cons.mpr ⟨sRX11_getfield_123 false 12, fun _ h => absurd h List.not_mem_nil⟩⟩)
set_option maxRecDepth 100000 in
theorem vkX11_greatest : ∀ e ∈ kX11_greatest, xE RX11 false cX11_greatest e := xE_all (o := [(1, .getfield 123, 3, 10, 1), (14, .getfield 123, 3, 10, 1)]) (by decide +kernel) (by rfl) (List.forall_mem_cons.mpr ⟨sRX11_getfield_123 false 1, List.forall_mem_cons.mpr ⟨sRX11_getfield_123 false 14, fun _ h => absurd h List.not_mem_nil⟩⟩)
set_option maxRecDepth 100000 in
theorem vkX11_symbols : ∀ e ∈ kX11_symbols, xE RX11 false cX11_symbols e := xE_all (o := []) (by decide +kernel) (by rfl) (fun _ h => absurd h List.not_mem_nil)
set_option maxRecDepth 100000 in
theorem vkX11_isCost : ∀ e ∈ kX11_isCost, xE RX11 false cX11_isCost e := xE_all (o := [(1, .getfield 123, 3, 10, 1), (14, .getfield 123, 3, 10, 1), (34, .invokestatic 132, 3, 101, 1)]) (by decide +kernel) (by rfl) (List.forall_mem_cons.mpr ⟨sRX11_getfield_123 false 1, List.forall_mem_cons.mpr ⟨sRX11_getfield_123 false 14, List.forall_mem_cons.mpr ⟨sRX11_invokestatic_132 false 34, fun _ h => absurd h List.not_mem_nil⟩⟩⟩)
set_option maxRecDepth 100000 in
theorem vkX11_octets : ∀ e ∈ kX11_octets, xE RX11 false cX11_octets e := xE_all (o := [(2, .putfield 129, 3, 10, 0), (17, .getfield 136, 3, 10, 3), (40, .getfield 7, 3, 10, 2), (44, .getfield 136, 3, 10, 3), (54, .ldc2_w 139, 3, 255, 0), (62, .getfield 136, 3, 10, 3), (67, .putfield 136, 3, 10, 3), (78, .putfield 141, 3, 10, 10), (82, .getfield 136, 3, 10, 3)]) (by decide +kernel) (by rfl) (List.forall_mem_cons.mpr ⟨sRX11_putfield_129 false 2, List.forall_mem_cons.mpr ⟨sRX11_getfield_136 false 17, List.forall_mem_cons.mpr ⟨sRX11_getfield_7 false 40, List.forall_mem_cons.mpr ⟨sRX11_getfield_136 false 44, List.forall_mem_cons.mpr ⟨sRX11_ldc2_w_139 false 54, List.forall_mem_cons.mpr ⟨sRX11_getfield_136 false 62, List.forall_mem_cons.mpr ⟨sRX11_putfield_136 false 67, List.forall_mem_cons.mpr ⟨sRX11_putfield_141 false 78, List.forall_mem_cons.mpr ⟨sRX11_getfield_136 false 82, fun _ h => absurd h List.not_mem_nil⟩⟩⟩⟩⟩⟩⟩⟩⟩)
set_option maxRecDepth 100000 in
theorem vkX11_cost : ∀ e ∈ kX11_cost, xE RX11 false cX11_cost e := xE_all (o := [(2, .putfield 129, 3, 10, 0), (8, .invokevirtual 145, 3, 102, 3), (29, .getfield 13, 3, 10, 4), (43, .getfield 13, 3, 10, 4)]) (by decide +kernel) (by rfl) (List.forall_mem_cons.mpr ⟨sRX11_putfield_129 false 2, List.forall_mem_cons.mpr ⟨sRX11_invokevirtual_145 false 8, List.forall_mem_cons.mpr ⟨sRX11_getfield_13 false 29, List.forall_mem_cons.mpr ⟨sRX11_getfield_13 false 43, fun _ h => absurd h List.not_mem_nil⟩⟩⟩⟩)
set_option maxRecDepth 100000 in
theorem vkX11_price : ∀ e ∈ kX11_price, xE RX11 false cX11_price e := xE_all (o := [(2, .putfield 129, 3, 10, 0), (8, .invokevirtual 145, 3, 102, 3), (15, .getfield 13, 3, 10, 4)]) (by decide +kernel) (by rfl) (List.forall_mem_cons.mpr ⟨sRX11_putfield_129 false 2, List.forall_mem_cons.mpr ⟨sRX11_invokevirtual_145 false 8, List.forall_mem_cons.mpr ⟨sRX11_getfield_13 false 15, fun _ h => absurd h List.not_mem_nil⟩⟩⟩)
set_option maxRecDepth 100000 in
theorem vkX11_keep : ∀ e ∈ kX11_keep, xE RX11 false cX11_keep e := xE_all (o := [(2, .putfield 129, 3, 10, 0), (17, .getfield 123, 3, 10, 1), (27, .getfield 16, 3, 10, 5), (33, .putfield 16, 3, 10, 5)]) (by decide +kernel) (by rfl) (List.forall_mem_cons.mpr ⟨sRX11_putfield_129 false 2, List.forall_mem_cons.mpr ⟨sRX11_getfield_123 false 17, List.forall_mem_cons.mpr ⟨sRX11_getfield_16 false 27, List.forall_mem_cons.mpr ⟨sRX11_putfield_16 false 33, fun _ h => absurd h List.not_mem_nil⟩⟩⟩⟩)
set_option maxRecDepth 100000 in
theorem vkX11_layOut_0 : ∀ e ∈ kX11_layOut_0, xE RX11 false cX11_layOut e := xE_all (o := [(12, .getfield 136, 3, 10, 3), (24, .getfield 7, 3, 10, 2), (30, .getfield 7, 3, 10, 2), (49, .getfield 39, 3, 10, 19), (77, .getfield 136, 3, 10, 3), (93, .getfield 39, 3, 10, 19)]) (by decide +kernel) (by rfl) (List.forall_mem_cons.mpr ⟨sRX11_getfield_136 false 12, List.forall_mem_cons.mpr ⟨sRX11_getfield_7 false 24, List.forall_mem_cons.mpr ⟨sRX11_getfield_7 false 30, List.forall_mem_cons.mpr ⟨sRX11_getfield_39 false 49, List.forall_mem_cons.mpr ⟨sRX11_getfield_136 false 77, List.forall_mem_cons.mpr ⟨sRX11_getfield_39 false 93, fun _ h => absurd h List.not_mem_nil⟩⟩⟩⟩⟩⟩)
set_option maxRecDepth 100000 in
theorem vkX11_layOut_1 : ∀ e ∈ kX11_layOut_1, xE RX11 false cX11_layOut e := xE_all (o := [(109, .invokevirtual 149, 3, 100, 1), (116, .invokevirtual 149, 3, 100, 1), (139, .getfield 42, 3, 10, 20), (189, .getfield 42, 3, 10, 20)]) (by decide +kernel) (by rfl) (List.forall_mem_cons.mpr ⟨sRX11_invokevirtual_149 false 109, List.forall_mem_cons.mpr ⟨sRX11_invokevirtual_149 false 116, List.forall_mem_cons.mpr ⟨sRX11_getfield_42 false 139, List.forall_mem_cons.mpr ⟨sRX11_getfield_42 false 189, fun _ h => absurd h List.not_mem_nil⟩⟩⟩⟩)
set_option maxRecDepth 100000 in
theorem vkX11_layOut_2 : ∀ e ∈ kX11_layOut_2, xE RX11 false cX11_layOut e := xE_all (o := []) (by decide +kernel) (by rfl) (fun _ h => absurd h List.not_mem_nil)
set_option maxRecDepth 100000 in
theorem vkX11_layOut : ∀ e ∈ kX11_layOut, xE RX11 false cX11_layOut e := (fun e h => (List.mem_append.mp h).elim (vkX11_layOut_0 e) ((fun e h => (List.mem_append.mp h).elim (vkX11_layOut_1 e) (vkX11_layOut_2 e)) e))
set_option maxRecDepth 100000 in
theorem vkX11_longestCopy : ∀ e ∈ kX11_longestCopy, xE RX11 false cX11_longestCopy e := xE_all (o := [(1, .invokevirtual 149, 3, 100, 1), (7, .invokevirtual 153, 3, 99, 1), (14, .getfield 42, 3, 10, 20), (36, .invokevirtual 153, 3, 99, 1)]) (by decide +kernel) (by rfl) (List.forall_mem_cons.mpr ⟨sRX11_invokevirtual_149 false 1, List.forall_mem_cons.mpr ⟨sRX11_invokevirtual_153 false 7, List.forall_mem_cons.mpr ⟨sRX11_getfield_42 false 14, List.forall_mem_cons.mpr ⟨sRX11_invokevirtual_153 false 36, fun _ h => absurd h List.not_mem_nil⟩⟩⟩⟩)
set_option maxRecDepth 100000 in
theorem vkX11_longestAgain : ∀ e ∈ kX11_longestAgain, xE RX11 false cX11_longestAgain e := xE_all (o := [(10, .getfield 39, 3, 10, 19), (24, .invokevirtual 149, 3, 100, 1), (31, .invokevirtual 149, 3, 100, 1)]) (by decide +kernel) (by rfl) (List.forall_mem_cons.mpr ⟨sRX11_getfield_39 false 10, List.forall_mem_cons.mpr ⟨sRX11_invokevirtual_149 false 24, List.forall_mem_cons.mpr ⟨sRX11_invokevirtual_149 false 31, fun _ h => absurd h List.not_mem_nil⟩⟩⟩)
set_option maxRecDepth 100000 in
theorem vkX11_high : ∀ e ∈ kX11_high, xE RX11 false cX11_high e := xE_all (o := []) (by decide +kernel) (by rfl) (fun _ h => absurd h List.not_mem_nil)
set_option maxRecDepth 100000 in
theorem vkX11_lengthSlot : ∀ e ∈ kX11_lengthSlot, xE RX11 false cX11_lengthSlot e := xE_all (o := [(1, .invokestatic 156, 3, 110, 1)]) (by decide +kernel) (by rfl) (List.forall_mem_cons.mpr ⟨sRX11_invokestatic_156 false 1, fun _ h => absurd h List.not_mem_nil⟩)
set_option maxRecDepth 100000 in
theorem vkX11_lengthBits : ∀ e ∈ kX11_lengthBits, xE RX11 false cX11_lengthBits e := xE_all (o := [(11, .invokestatic 156, 3, 110, 1)]) (by decide +kernel) (by rfl) (List.forall_mem_cons.mpr ⟨sRX11_invokestatic_156 false 11, fun _ h => absurd h List.not_mem_nil⟩)
set_option maxRecDepth 100000 in
theorem vkX11_distanceSlot : ∀ e ∈ kX11_distanceSlot, xE RX11 false cX11_distanceSlot e := xE_all (o := [(1, .invokestatic 156, 3, 110, 1)]) (by decide +kernel) (by rfl) (List.forall_mem_cons.mpr ⟨sRX11_invokestatic_156 false 1, fun _ h => absurd h List.not_mem_nil⟩)
set_option maxRecDepth 100000 in
theorem vkX11_distanceBits : ∀ e ∈ kX11_distanceBits, xE RX11 false cX11_distanceBits e := xE_all (o := [(10, .invokestatic 156, 3, 110, 1)]) (by decide +kernel) (by rfl) (List.forall_mem_cons.mpr ⟨sRX11_invokestatic_156 false 10, fun _ h => absurd h List.not_mem_nil⟩)
set_option maxRecDepth 100000 in
theorem vkX11_lengthCost : ∀ e ∈ kX11_lengthCost, xE RX11 false cX11_lengthCost e := xE_all (o := [(2, .invokevirtual 153, 3, 99, 1), (8, .getfield 13, 3, 10, 4), (15, .invokestatic 159, 3, 111, 1), (23, .invokestatic 162, 3, 112, 1)]) (by decide +kernel) (by rfl) (List.forall_mem_cons.mpr ⟨sRX11_invokevirtual_153 false 2, List.forall_mem_cons.mpr ⟨sRX11_getfield_13 false 8, List.forall_mem_cons.mpr ⟨sRX11_invokestatic_159 false 15, List.forall_mem_cons.mpr ⟨sRX11_invokestatic_162 false 23, fun _ h => absurd h List.not_mem_nil⟩⟩⟩⟩)
set_option maxRecDepth 100000 in
theorem vkX11_distanceCost : ∀ e ∈ kX11_distanceCost, xE RX11 false cX11_distanceCost e := xE_all (o := [(1, .getfield 13, 3, 10, 4), (10, .invokestatic 165, 3, 113, 1), (20, .invokestatic 168, 3, 114, 1)]) (by decide +kernel) (by rfl) (List.forall_mem_cons.mpr ⟨sRX11_getfield_13 false 1, List.forall_mem_cons.mpr ⟨sRX11_invokestatic_165 false 10, List.forall_mem_cons.mpr ⟨sRX11_invokestatic_168 false 20, fun _ h => absurd h List.not_mem_nil⟩⟩⟩)
set_option maxRecDepth 100000 in
theorem vkX11_kindCost : ∀ e ∈ kX11_kindCost, xE RX11 false cX11_kindCost e := xE_all (o := [(1, .getfield 123, 3, 10, 1), (9, .getfield 13, 3, 10, 4)]) (by decide +kernel) (by rfl) (List.forall_mem_cons.mpr ⟨sRX11_getfield_123 false 1, List.forall_mem_cons.mpr ⟨sRX11_getfield_13 false 9, fun _ h => absurd h List.not_mem_nil⟩⟩)
set_option maxRecDepth 100000 in
theorem vkX11_more : ∀ e ∈ kX11_more, xE RX11 false cX11_more e := xE_all (o := []) (by decide +kernel) (by rfl) (fun _ h => absurd h List.not_mem_nil)
set_option maxRecDepth 100000 in
theorem vkX11_stepCost_0 : ∀ e ∈ kX11_stepCost_0, xE RX11 false cX11_stepCost e := xE_all (o := [(1, .getfield 123, 3, 10, 1), (22, .invokestatic 171, 3, 118, 2), (30, .invokestatic 171, 3, 118, 2), (45, .invokestatic 171, 3, 118, 2), (56, .getfield 13, 3, 10, 4), (64, .invokevirtual 175, 3, 117, 2), (76, .invokevirtual 175, 3, 117, 2), (81, .invokevirtual 178, 3, 115, 2), (87, .invokevirtual 181, 3, 116, 2), (101, .invokevirtual 175, 3, 117, 2)]) (by decide +kernel) (by rfl) (List.forall_mem_cons.mpr ⟨sRX11_getfield_123 false 1, List.forall_mem_cons.mpr ⟨sRX11_invokestatic_171 false 22, List.forall_mem_cons.mpr ⟨sRX11_invokestatic_171 false 30, List.forall_mem_cons.mpr ⟨sRX11_invokestatic_171 false 45, List.forall_mem_cons.mpr ⟨sRX11_getfield_13 false 56, List.forall_mem_cons.mpr ⟨sRX11_invokevirtual_175 false 64, List.forall_mem_cons.mpr ⟨sRX11_invokevirtual_175 false 76, List.forall_mem_cons.mpr ⟨sRX11_invokevirtual_178 false 81, List.forall_mem_cons.mpr ⟨sRX11_invokevirtual_181 false 87, List.forall_mem_cons.mpr ⟨sRX11_invokevirtual_175 false 101, fun _ h => absurd h List.not_mem_nil⟩⟩⟩⟩⟩⟩⟩⟩⟩⟩)
set_option maxRecDepth 100000 in
theorem vkX11_stepCost_1 : ∀ e ∈ kX11_stepCost_1, xE RX11 false cX11_stepCost e := xE_all (o := [(109, .invokevirtual 175, 3, 117, 2), (114, .invokevirtual 178, 3, 115, 2)]) (by decide +kernel) (by rfl) (List.forall_mem_cons.mpr ⟨sRX11_invokevirtual_175 false 109, List.forall_mem_cons.mpr ⟨sRX11_invokevirtual_178 false 114, fun _ h => absurd h List.not_mem_nil⟩⟩)
set_option maxRecDepth 100000 in
theorem vkX11_stepCost : ∀ e ∈ kX11_stepCost, xE RX11 false cX11_stepCost e := (fun e h => (List.mem_append.mp h).elim (vkX11_stepCost_0 e) (vkX11_stepCost_1 e))
set_option maxRecDepth 100000 in
theorem vkX11_allCost : ∀ e ∈ kX11_allCost, xE RX11 false cX11_allCost e := xE_all (o := [(1, .getfield 123, 3, 10, 1), (8, .ldc2_w 184, 3, 512, 0), (24, .getfield 186, 3, 10, 11), (33, .getfield 35, 3, 10, 15), (40, .getfield 29, 3, 10, 13), (47, .getfield 32, 3, 10, 14), (54, .getfield 7, 3, 10, 2), (58, .getfield 26, 3, 10, 12), (66, .invokevirtual 189, 3, 119, 6), (73, .getfield 35, 3, 10, 15)]) (by decide +kernel) (by rfl) (List.forall_mem_cons.mpr ⟨sRX11_getfield_123 false 1, List.forall_mem_cons.mpr ⟨sRX11_ldc2_w_184 false 8, List.forall_mem_cons.mpr ⟨sRX11_getfield_186 false 24, List.forall_mem_cons.mpr ⟨sRX11_getfield_35 false 33, List.forall_mem_cons.mpr ⟨sRX11_getfield_29 false 40, List.forall_mem_cons.mpr ⟨sRX11_getfield_32 false 47, List.forall_mem_cons.mpr ⟨sRX11_getfield_7 false 54, List.forall_mem_cons.mpr ⟨sRX11_getfield_26 false 58, List.forall_mem_cons.mpr ⟨sRX11_invokevirtual_189 false 66, List.forall_mem_cons.mpr ⟨sRX11_getfield_35 false 73, fun _ h => absurd h List.not_mem_nil⟩⟩⟩⟩⟩⟩⟩⟩⟩⟩)
set_option maxRecDepth 100000 in
theorem vkX11_clearLatest : ∀ e ∈ kX11_clearLatest, xE RX11 false cX11_clearLatest e := xE_all (o := [(8, .getfield 45, 3, 10, 21)]) (by decide +kernel) (by rfl) (List.forall_mem_cons.mpr ⟨sRX11_getfield_45 false 8, fun _ h => absurd h List.not_mem_nil⟩)
set_option maxRecDepth 100000 in
theorem vkX11_ahead : ∀ e ∈ kX11_ahead, xE RX11 false cX11_ahead e := xE_all (o := [(7, .getfield 45, 3, 10, 21), (12, .getfield 45, 3, 10, 21), (27, .getfield 45, 3, 10, 21)]) (by decide +kernel) (by rfl) (List.forall_mem_cons.mpr ⟨sRX11_getfield_45 false 7, List.forall_mem_cons.mpr ⟨sRX11_getfield_45 false 12, List.forall_mem_cons.mpr ⟨sRX11_getfield_45 false 27, fun _ h => absurd h List.not_mem_nil⟩⟩⟩)
set_option maxRecDepth 100000 in
theorem vkX11_longestOf : ∀ e ∈ kX11_longestOf, xE RX11 false cX11_longestOf e := xE_all (o := [(2, .getfield 136, 3, 10, 3), (10, .invokevirtual 193, 3, 108, 2), (20, .putfield 196, 3, 10, 22), (24, .getfield 123, 3, 10, 1), (33, .getfield 136, 3, 10, 3), (48, .getfield 45, 3, 10, 21), (53, .invokevirtual 199, 3, 109, 3), (82, .putfield 196, 3, 10, 22)]) (by decide +kernel) (by rfl) (List.forall_mem_cons.mpr ⟨sRX11_getfield_136 false 2, List.forall_mem_cons.mpr ⟨sRX11_invokevirtual_193 false 10, List.forall_mem_cons.mpr ⟨sRX11_putfield_196 false 20, List.forall_mem_cons.mpr ⟨sRX11_getfield_123 false 24, List.forall_mem_cons.mpr ⟨sRX11_getfield_136 false 33, List.forall_mem_cons.mpr ⟨sRX11_getfield_45 false 48, List.forall_mem_cons.mpr ⟨sRX11_invokevirtual_199 false 53, List.forall_mem_cons.mpr ⟨sRX11_putfield_196 false 82, fun _ h => absurd h List.not_mem_nil⟩⟩⟩⟩⟩⟩⟩⟩)
set_option maxRecDepth 100000 in
theorem vkX11_addStep : ∀ e ∈ kX11_addStep, xE RX11 false cX11_addStep e := xE_all (o := [(1, .getfield 26, 3, 10, 12), (5, .getfield 186, 3, 10, 11), (11, .getfield 35, 3, 10, 15), (15, .getfield 186, 3, 10, 11), (21, .getfield 29, 3, 10, 13), (25, .getfield 186, 3, 10, 11), (31, .getfield 32, 3, 10, 14), (35, .getfield 186, 3, 10, 11), (43, .getfield 186, 3, 10, 11), (48, .putfield 186, 3, 10, 11)]) (by decide +kernel) (by rfl) (List.forall_mem_cons.mpr ⟨sRX11_getfield_26 false 1, List.forall_mem_cons.mpr ⟨sRX11_getfield_186 false 5, List.forall_mem_cons.mpr ⟨sRX11_getfield_35 false 11, List.forall_mem_cons.mpr ⟨sRX11_getfield_186 false 15, List.forall_mem_cons.mpr ⟨sRX11_getfield_29 false 21, List.forall_mem_cons.mpr ⟨sRX11_getfield_186 false 25, List.forall_mem_cons.mpr ⟨sRX11_getfield_32 false 31, List.forall_mem_cons.mpr ⟨sRX11_getfield_186 false 35, List.forall_mem_cons.mpr ⟨sRX11_getfield_186 false 43, List.forall_mem_cons.mpr ⟨sRX11_putfield_186 false 48, fun _ h => absurd h List.not_mem_nil⟩⟩⟩⟩⟩⟩⟩⟩⟩⟩)
set_option maxRecDepth 100000 in
theorem vkX11_greedy_0 : ∀ e ∈ kX11_greedy_0, xE RX11 false cX11_greedy e := xE_all (o := [(2, .putfield 186, 3, 10, 11), (6, .invokevirtual 202, 3, 121, 1), (13, .getfield 136, 3, 10, 3), (21, .invokevirtual 205, 3, 123, 2), (44, .getfield 136, 3, 10, 3), (55, .invokevirtual 205, 3, 123, 2), (78, .invokevirtual 205, 3, 123, 2), (96, .invokevirtual 208, 3, 124, 5)]) (by decide +kernel) (by rfl) (List.forall_mem_cons.mpr ⟨sRX11_putfield_186 false 2, List.forall_mem_cons.mpr ⟨sRX11_invokevirtual_202 false 6, List.forall_mem_cons.mpr ⟨sRX11_getfield_136 false 13, List.forall_mem_cons.mpr ⟨sRX11_invokevirtual_205 false 21, List.forall_mem_cons.mpr ⟨sRX11_getfield_136 false 44, List.forall_mem_cons.mpr ⟨sRX11_invokevirtual_205 false 55, List.forall_mem_cons.mpr ⟨sRX11_invokevirtual_205 false 78, List.forall_mem_cons.mpr ⟨sRX11_invokevirtual_208 false 96, fun _ h => absurd h List.not_mem_nil⟩⟩⟩⟩⟩⟩⟩⟩)
set_option maxRecDepth 100000 in
theorem vkX11_greedy_1 : ∀ e ∈ kX11_greedy_1, xE RX11 false cX11_greedy e := xE_all (o := [(106, .getfield 196, 3, 10, 22), (114, .getfield 42, 3, 10, 20), (133, .invokevirtual 208, 3, 124, 5), (140, .invokevirtual 212, 3, 122, 3), (151, .getfield 45, 3, 10, 21), (155, .getfield 196, 3, 10, 22), (166, .getfield 196, 3, 10, 22), (172, .invokevirtual 208, 3, 124, 5), (179, .getfield 196, 3, 10, 22), (184, .invokevirtual 212, 3, 122, 3), (196, .invokevirtual 216, 3, 120, 1), (199, .putfield 220, 3, 10, 16)]) (by decide +kernel) (by rfl) (List.forall_mem_cons.mpr ⟨sRX11_getfield_196 false 106, List.forall_mem_cons.mpr ⟨sRX11_getfield_42 false 114, List.forall_mem_cons.mpr ⟨sRX11_invokevirtual_208 false 133, List.forall_mem_cons.mpr ⟨sRX11_invokevirtual_212 false 140, List.forall_mem_cons.mpr ⟨sRX11_getfield_45 false 151, List.forall_mem_cons.mpr ⟨sRX11_getfield_196 false 155, List.forall_mem_cons.mpr ⟨sRX11_getfield_196 false 166, List.forall_mem_cons.mpr ⟨sRX11_invokevirtual_208 false 172, List.forall_mem_cons.mpr ⟨sRX11_getfield_196 false 179, List.forall_mem_cons.mpr ⟨sRX11_invokevirtual_212 false 184, List.forall_mem_cons.mpr ⟨sRX11_invokevirtual_216 false 196, List.forall_mem_cons.mpr ⟨sRX11_putfield_220 false 199, fun _ h => absurd h List.not_mem_nil⟩⟩⟩⟩⟩⟩⟩⟩⟩⟩⟩⟩)
end
section
set_option maxRecDepth 100000 in
theorem vkX11_greedy_2 : ∀ e ∈ kX11_greedy_2, xE RX11 false cX11_greedy e := xE_all (o := [(204, .putfield 224, 3, 10, 17)]) (by decide +kernel) (by rfl) (List.forall_mem_cons.mpr ⟨sRX11_putfield_224 false 204, fun _ h => absurd h List.not_mem_nil⟩)
set_option maxRecDepth 100000 in
theorem vkX11_greedy : ∀ e ∈ kX11_greedy, xE RX11 false cX11_greedy e := (fun e h => (List.mem_append.mp h).elim (vkX11_greedy_0 e) ((fun e h => (List.mem_append.mp h).elim (vkX11_greedy_1 e) (vkX11_greedy_2 e)) e))
set_option maxRecDepth 100000 in
theorem vkX11_at : ∀ e ∈ kX11_at, xE RX11 false cX11_at e := xE_all (o := []) (by decide +kernel) (by rfl) (fun _ h => absurd h List.not_mem_nil)
set_option maxRecDepth 100000 in
theorem vkX11_firstRow : ∀ e ∈ kX11_firstRow, xE RX11 false cX11_firstRow e := xE_all (o := [(10, .getfield 123, 3, 10, 1), (18, .getfield 48, 3, 10, 23), (24, .invokevirtual 227, 3, 126, 3), (29, .getfield 48, 3, 10, 23), (35, .invokevirtual 227, 3, 126, 3)]) (by decide +kernel) (by rfl) (List.forall_mem_cons.mpr ⟨sRX11_getfield_123 false 10, List.forall_mem_cons.mpr ⟨sRX11_getfield_48 false 18, List.forall_mem_cons.mpr ⟨sRX11_invokevirtual_227 false 24, List.forall_mem_cons.mpr ⟨sRX11_getfield_48 false 29, List.forall_mem_cons.mpr ⟨sRX11_invokevirtual_227 false 35, fun _ h => absurd h List.not_mem_nil⟩⟩⟩⟩⟩)
set_option maxRecDepth 100000 in
theorem vkX11_clearTable : ∀ e ∈ kX11_clearTable, xE RX11 false cX11_clearTable e := xE_all (o := [(4, .getfield 136, 3, 10, 3), (14, .getfield 123, 3, 10, 1), (30, .getfield 48, 3, 10, 23), (36, .invokevirtual 227, 3, 126, 3), (39, .ldc 230, 2, 2000000000, 0), (49, .getfield 60, 3, 10, 27), (62, .getfield 48, 3, 10, 23)]) (by decide +kernel) (by rfl) (List.forall_mem_cons.mpr ⟨sRX11_getfield_136 false 4, List.forall_mem_cons.mpr ⟨sRX11_getfield_123 false 14, List.forall_mem_cons.mpr ⟨sRX11_getfield_48 false 30, List.forall_mem_cons.mpr ⟨sRX11_invokevirtual_227 false 36, List.forall_mem_cons.mpr ⟨sRX11_ldc_230 false 39, List.forall_mem_cons.mpr ⟨sRX11_getfield_60 false 49, List.forall_mem_cons.mpr ⟨sRX11_getfield_48 false 62, fun _ h => absurd h List.not_mem_nil⟩⟩⟩⟩⟩⟩⟩)
set_option maxRecDepth 100000 in
theorem vkX11_copies_0 : ∀ e ∈ kX11_copies_0, xE RX11 false cX11_copies e := xE_all (o := [(1, .getfield 48, 3, 10, 23), (7, .invokevirtual 227, 3, 126, 3), (14, .invokevirtual 193, 3, 108, 2), (22, .invokevirtual 153, 3, 99, 1), (29, .getfield 42, 3, 10, 20), (52, .invokevirtual 189, 3, 119, 6), (61, .getfield 48, 3, 10, 23), (70, .invokevirtual 227, 3, 126, 3), (78, .getfield 48, 3, 10, 23), (87, .invokevirtual 227, 3, 126, 3), (94, .getfield 51, 3, 10, 24)]) (by decide +kernel) (by rfl) (List.forall_mem_cons.mpr ⟨sRX11_getfield_48 false 1, List.forall_mem_cons.mpr ⟨sRX11_invokevirtual_227 false 7, List.forall_mem_cons.mpr ⟨sRX11_invokevirtual_193 false 14, List.forall_mem_cons.mpr ⟨sRX11_invokevirtual_153 false 22, List.forall_mem_cons.mpr ⟨sRX11_getfield_42 false 29, List.forall_mem_cons.mpr ⟨sRX11_invokevirtual_189 false 52, List.forall_mem_cons.mpr ⟨sRX11_getfield_48 false 61, List.forall_mem_cons.mpr ⟨sRX11_invokevirtual_227 false 70, List.forall_mem_cons.mpr ⟨sRX11_getfield_48 false 78, List.forall_mem_cons.mpr ⟨sRX11_invokevirtual_227 false 87, List.forall_mem_cons.mpr ⟨sRX11_getfield_51 false 94, fun _ h => absurd h List.not_mem_nil⟩⟩⟩⟩⟩⟩⟩⟩⟩⟩⟩)
set_option maxRecDepth 100000 in
theorem vkX11_copies_1 : ∀ e ∈ kX11_copies_1, xE RX11 false cX11_copies e := xE_all (o := [(104, .getfield 54, 3, 10, 25), (114, .getfield 57, 3, 10, 26), (125, .getfield 60, 3, 10, 27)]) (by decide +kernel) (by rfl) (List.forall_mem_cons.mpr ⟨sRX11_getfield_54 false 104, List.forall_mem_cons.mpr ⟨sRX11_getfield_57 false 114, List.forall_mem_cons.mpr ⟨sRX11_getfield_60 false 125, fun _ h => absurd h List.not_mem_nil⟩⟩⟩)
set_option maxRecDepth 100000 in
theorem vkX11_copies : ∀ e ∈ kX11_copies, xE RX11 false cX11_copies e := (fun e h => (List.mem_append.mp h).elim (vkX11_copies_0 e) (vkX11_copies_1 e))
set_option maxRecDepth 100000 in
theorem vkX11_literals_0 : ∀ e ∈ kX11_literals_0, xE RX11 false cX11_literals e := xE_all (o := [(4, .getfield 123, 3, 10, 1), (20, .getfield 48, 3, 10, 23), (26, .invokevirtual 227, 3, 126, 3), (32, .ldc 230, 2, 2000000000, 0), (43, .getfield 7, 3, 10, 2), (49, .invokevirtual 189, 3, 119, 6), (60, .getfield 123, 3, 10, 1), (74, .invokevirtual 227, 3, 126, 3), (82, .getfield 48, 3, 10, 23), (92, .getfield 48, 3, 10, 23)]) (by decide +kernel) (by rfl) (List.forall_mem_cons.mpr ⟨sRX11_getfield_123 false 4, List.forall_mem_cons.mpr ⟨sRX11_getfield_48 false 20, List.forall_mem_cons.mpr ⟨sRX11_invokevirtual_227 false 26, List.forall_mem_cons.mpr ⟨sRX11_ldc_230 false 32, List.forall_mem_cons.mpr ⟨sRX11_getfield_7 false 43, List.forall_mem_cons.mpr ⟨sRX11_invokevirtual_189 false 49, List.forall_mem_cons.mpr ⟨sRX11_getfield_123 false 60, List.forall_mem_cons.mpr ⟨sRX11_invokevirtual_227 false 74, List.forall_mem_cons.mpr ⟨sRX11_getfield_48 false 82, List.forall_mem_cons.mpr ⟨sRX11_getfield_48 false 92, fun _ h => absurd h List.not_mem_nil⟩⟩⟩⟩⟩⟩⟩⟩⟩⟩)
set_option maxRecDepth 100000 in
theorem vkX11_literals_1 : ∀ e ∈ kX11_literals_1, xE RX11 false cX11_literals e := xE_all (o := [(101, .getfield 123, 3, 10, 1), (108, .getfield 60, 3, 10, 27)]) (by decide +kernel) (by rfl) (List.forall_mem_cons.mpr ⟨sRX11_getfield_123 false 101, List.forall_mem_cons.mpr ⟨sRX11_getfield_60 false 108, fun _ h => absurd h List.not_mem_nil⟩⟩)
set_option maxRecDepth 100000 in
theorem vkX11_literals : ∀ e ∈ kX11_literals, xE RX11 false cX11_literals e := (fun e h => (List.mem_append.mp h).elim (vkX11_literals_0 e) (vkX11_literals_1 e))
set_option maxRecDepth 100000 in
theorem vkX11_backPlain_0 : ∀ e ∈ kX11_backPlain_0, xE RX11 false cX11_backPlain e := xE_all (o := [(1, .getfield 136, 3, 10, 3), (7, .getfield 136, 3, 10, 3), (10, .invokevirtual 231, 3, 127, 2), (16, .getfield 48, 3, 10, 23), (21, .getfield 136, 3, 10, 3), (25, .invokevirtual 227, 3, 126, 3), (31, .getfield 123, 3, 10, 1), (38, .ldc2_w 184, 3, 512, 0), (46, .putfield 220, 3, 10, 16), (56, .getfield 123, 3, 10, 1), (76, .getfield 60, 3, 10, 27), (95, .getfield 51, 3, 10, 24), (103, .getfield 64, 3, 10, 28)]) (by decide +kernel) (by rfl) (List.forall_mem_cons.mpr ⟨sRX11_getfield_136 false 1, List.forall_mem_cons.mpr ⟨sRX11_getfield_136 false 7, List.forall_mem_cons.mpr ⟨sRX11_invokevirtual_231 false 10, List.forall_mem_cons.mpr ⟨sRX11_getfield_48 false 16, List.forall_mem_cons.mpr ⟨sRX11_getfield_136 false 21, List.forall_mem_cons.mpr ⟨sRX11_invokevirtual_227 false 25, List.forall_mem_cons.mpr ⟨sRX11_getfield_123 false 31, List.forall_mem_cons.mpr ⟨sRX11_ldc2_w_184 false 38, List.forall_mem_cons.mpr ⟨sRX11_putfield_220 false 46, List.forall_mem_cons.mpr ⟨sRX11_getfield_123 false 56, List.forall_mem_cons.mpr ⟨sRX11_getfield_60 false 76, List.forall_mem_cons.mpr ⟨sRX11_getfield_51 false 95, List.forall_mem_cons.mpr ⟨sRX11_getfield_64 false 103, fun _ h => absurd h List.not_mem_nil⟩⟩⟩⟩⟩⟩⟩⟩⟩⟩⟩⟩⟩)
set_option maxRecDepth 100000 in
theorem vkX11_backPlain_1 : ∀ e ∈ kX11_backPlain_1, xE RX11 false cX11_backPlain e := xE_all (o := [(111, .getfield 67, 3, 10, 29), (127, .getfield 70, 3, 10, 30), (141, .getfield 57, 3, 10, 26), (148, .getfield 73, 3, 10, 31), (166, .getfield 123, 3, 10, 1), (184, .getfield 54, 3, 10, 25), (198, .invokevirtual 234, 3, 132, 2)]) (by decide +kernel) (by rfl) (List.forall_mem_cons.mpr ⟨sRX11_getfield_67 false 111, List.forall_mem_cons.mpr ⟨sRX11_getfield_70 false 127, List.forall_mem_cons.mpr ⟨sRX11_getfield_57 false 141, List.forall_mem_cons.mpr ⟨sRX11_getfield_73 false 148, List.forall_mem_cons.mpr ⟨sRX11_getfield_123 false 166, List.forall_mem_cons.mpr ⟨sRX11_getfield_54 false 184, List.forall_mem_cons.mpr ⟨sRX11_invokevirtual_234 false 198, fun _ h => absurd h List.not_mem_nil⟩⟩⟩⟩⟩⟩⟩)
set_option maxRecDepth 100000 in
theorem vkX11_backPlain : ∀ e ∈ kX11_backPlain, xE RX11 false cX11_backPlain e := (fun e h => (List.mem_append.mp h).elim (vkX11_backPlain_0 e) (vkX11_backPlain_1 e))
set_option maxRecDepth 100000 in
theorem vkX11_turnBack : ∀ e ∈ kX11_turnBack, xE RX11 false cX11_turnBack e := xE_all (o := [(2, .putfield 186, 3, 10, 11), (15, .getfield 64, 3, 10, 28), (21, .getfield 67, 3, 10, 29), (27, .getfield 73, 3, 10, 31), (33, .getfield 70, 3, 10, 30), (38, .invokevirtual 208, 3, 124, 5)]) (by decide +kernel) (by rfl) (List.forall_mem_cons.mpr ⟨sRX11_putfield_186 false 2, List.forall_mem_cons.mpr ⟨sRX11_getfield_64 false 15, List.forall_mem_cons.mpr ⟨sRX11_getfield_67 false 21, List.forall_mem_cons.mpr ⟨sRX11_getfield_73 false 27, List.forall_mem_cons.mpr ⟨sRX11_getfield_70 false 33, List.forall_mem_cons.mpr ⟨sRX11_invokevirtual_208 false 38, fun _ h => absurd h List.not_mem_nil⟩⟩⟩⟩⟩⟩)
set_option maxRecDepth 100000 in
theorem vkX11_bestPlain : ∀ e ∈ kX11_bestPlain, xE RX11 false cX11_bestPlain e := xE_all (o := [(1, .invokevirtual 238, 3, 128, 1), (8, .getfield 136, 3, 10, 3), (18, .invokevirtual 231, 3, 127, 2), (21, .invokevirtual 241, 3, 129, 3), (26, .invokevirtual 244, 3, 130, 2), (36, .invokevirtual 247, 3, 131, 1), (41, .putfield 224, 3, 10, 17), (46, .putfield 250, 3, 10, 18)]) (by decide +kernel) (by rfl) (List.forall_mem_cons.mpr ⟨sRX11_invokevirtual_238 false 1, List.forall_mem_cons.mpr ⟨sRX11_getfield_136 false 8, List.forall_mem_cons.mpr ⟨sRX11_invokevirtual_231 false 18, List.forall_mem_cons.mpr ⟨sRX11_invokevirtual_241 false 21, List.forall_mem_cons.mpr ⟨sRX11_invokevirtual_244 false 26, List.forall_mem_cons.mpr ⟨sRX11_invokevirtual_247 false 36, List.forall_mem_cons.mpr ⟨sRX11_putfield_224 false 41, List.forall_mem_cons.mpr ⟨sRX11_putfield_250 false 46, fun _ h => absurd h List.not_mem_nil⟩⟩⟩⟩⟩⟩⟩⟩)
set_option maxRecDepth 100000 in
theorem vkX11_isState : ∀ e ∈ kX11_isState, xE RX11 false cX11_isState e := xE_all (o := [(11, .getfield 86, 3, 10, 35), (21, .getfield 45, 3, 10, 21)]) (by decide +kernel) (by rfl) (List.forall_mem_cons.mpr ⟨sRX11_getfield_86 false 11, List.forall_mem_cons.mpr ⟨sRX11_getfield_45 false 21, fun _ h => absurd h List.not_mem_nil⟩⟩)
set_option maxRecDepth 100000 in
theorem vkX11_isBehind : ∀ e ∈ kX11_isBehind, xE RX11 false cX11_isBehind e := xE_all (o := [(1, .getfield 82, 3, 10, 34), (11, .getfield 82, 3, 10, 34), (34, .getfield 86, 3, 10, 35), (44, .getfield 45, 3, 10, 21), (53, .getfield 86, 3, 10, 35), (63, .getfield 45, 3, 10, 21)]) (by decide +kernel) (by rfl) (List.forall_mem_cons.mpr ⟨sRX11_getfield_82 false 1, List.forall_mem_cons.mpr ⟨sRX11_getfield_82 false 11, List.forall_mem_cons.mpr ⟨sRX11_getfield_86 false 34, List.forall_mem_cons.mpr ⟨sRX11_getfield_45 false 44, List.forall_mem_cons.mpr ⟨sRX11_getfield_86 false 53, List.forall_mem_cons.mpr ⟨sRX11_getfield_45 false 63, fun _ h => absurd h List.not_mem_nil⟩⟩⟩⟩⟩⟩)
set_option maxRecDepth 100000 in
theorem vkX11_moveState : ∀ e ∈ kX11_moveState, xE RX11 false cX11_moveState e := xE_all (o := [(1, .getfield 82, 3, 10, 34), (6, .getfield 82, 3, 10, 34), (13, .getfield 89, 3, 10, 36), (18, .getfield 89, 3, 10, 36), (25, .getfield 92, 3, 10, 37), (30, .getfield 92, 3, 10, 37), (37, .getfield 95, 3, 10, 38), (42, .getfield 95, 3, 10, 38), (56, .getfield 86, 3, 10, 35), (65, .getfield 86, 3, 10, 35)]) (by decide +kernel) (by rfl) (List.forall_mem_cons.mpr ⟨sRX11_getfield_82 false 1, List.forall_mem_cons.mpr ⟨sRX11_getfield_82 false 6, List.forall_mem_cons.mpr ⟨sRX11_getfield_89 false 13, List.forall_mem_cons.mpr ⟨sRX11_getfield_89 false 18, List.forall_mem_cons.mpr ⟨sRX11_getfield_92 false 25, List.forall_mem_cons.mpr ⟨sRX11_getfield_92 false 30, List.forall_mem_cons.mpr ⟨sRX11_getfield_95 false 37, List.forall_mem_cons.mpr ⟨sRX11_getfield_95 false 42, List.forall_mem_cons.mpr ⟨sRX11_getfield_86 false 56, List.forall_mem_cons.mpr ⟨sRX11_getfield_86 false 65, fun _ h => absurd h List.not_mem_nil⟩⟩⟩⟩⟩⟩⟩⟩⟩⟩)
set_option maxRecDepth 100000 in
theorem vkX11_comes_0 : ∀ e ∈ kX11_comes_0, xE RX11 false cX11_comes e := xE_all (o := [(7, .getfield 76, 3, 10, 32), (30, .invokevirtual 253, 3, 134, 2), (37, .getfield 82, 3, 10, 34), (77, .invokevirtual 257, 3, 136, 3), (102, .getfield 16, 3, 10, 5), (109, .getfield 79, 3, 10, 33)]) (by decide +kernel) (by rfl) (List.forall_mem_cons.mpr ⟨sRX11_getfield_76 false 7, List.forall_mem_cons.mpr ⟨sRX11_invokevirtual_253 false 30, List.forall_mem_cons.mpr ⟨sRX11_getfield_82 false 37, List.forall_mem_cons.mpr ⟨sRX11_invokevirtual_257 false 77, List.forall_mem_cons.mpr ⟨sRX11_getfield_16 false 102, List.forall_mem_cons.mpr ⟨sRX11_getfield_79 false 109, fun _ h => absurd h List.not_mem_nil⟩⟩⟩⟩⟩⟩)
set_option maxRecDepth 100000 in
theorem vkX11_comes_1 : ∀ e ∈ kX11_comes_1, xE RX11 false cX11_comes e := xE_all (o := [(124, .invokevirtual 260, 3, 135, 3), (131, .getfield 76, 3, 10, 32), (160, .invokevirtual 260, 3, 135, 3), (179, .invokevirtual 257, 3, 136, 3), (189, .getfield 82, 3, 10, 34), (200, .getfield 89, 3, 10, 36), (211, .getfield 95, 3, 10, 38)]) (by decide +kernel) (by rfl) (List.forall_mem_cons.mpr ⟨sRX11_invokevirtual_260 false 124, List.forall_mem_cons.mpr ⟨sRX11_getfield_76 false 131, List.forall_mem_cons.mpr ⟨sRX11_invokevirtual_260 false 160, List.forall_mem_cons.mpr ⟨sRX11_invokevirtual_257 false 179, List.forall_mem_cons.mpr ⟨sRX11_getfield_82 false 189, List.forall_mem_cons.mpr ⟨sRX11_getfield_89 false 200, List.forall_mem_cons.mpr ⟨sRX11_getfield_95 false 211, fun _ h => absurd h List.not_mem_nil⟩⟩⟩⟩⟩⟩⟩)
set_option maxRecDepth 100000 in
theorem vkX11_comes_2 : ∀ e ∈ kX11_comes_2, xE RX11 false cX11_comes e := xE_all (o := [(223, .getfield 92, 3, 10, 37), (244, .getfield 86, 3, 10, 35), (258, .getfield 45, 3, 10, 21), (272, .getfield 76, 3, 10, 32)]) (by decide +kernel) (by rfl) (List.forall_mem_cons.mpr ⟨sRX11_getfield_92 false 223, List.forall_mem_cons.mpr ⟨sRX11_getfield_86 false 244, List.forall_mem_cons.mpr ⟨sRX11_getfield_45 false 258, List.forall_mem_cons.mpr ⟨sRX11_getfield_76 false 272, fun _ h => absurd h List.not_mem_nil⟩⟩⟩⟩)
set_option maxRecDepth 100000 in
theorem vkX11_comes : ∀ e ∈ kX11_comes, xE RX11 false cX11_comes e := (fun e h => (List.mem_append.mp h).elim (vkX11_comes_0 e) ((fun e h => (List.mem_append.mp h).elim (vkX11_comes_1 e) (vkX11_comes_2 e)) e))
set_option maxRecDepth 100000 in
theorem vkX11_takeLatest : ∀ e ∈ kX11_takeLatest, xE RX11 false cX11_takeLatest e := xE_all (o := [(8, .getfield 45, 3, 10, 21), (13, .getfield 86, 3, 10, 35)]) (by decide +kernel) (by rfl) (List.forall_mem_cons.mpr ⟨sRX11_getfield_45 false 8, List.forall_mem_cons.mpr ⟨sRX11_getfield_86 false 13, fun _ h => absurd h List.not_mem_nil⟩⟩)
set_option maxRecDepth 100000 in
theorem vkX11_expand_0 : ∀ e ∈ kX11_expand_0, xE RX11 false cX11_expand e := xE_all (o := [(8, .getfield 82, 3, 10, 34), (17, .invokevirtual 193, 3, 108, 2), (25, .invokevirtual 153, 3, 99, 1), (33, .invokevirtual 263, 3, 138, 2), (37, .getfield 42, 3, 10, 20), (55, .invokevirtual 212, 3, 122, 3), (73, .invokevirtual 189, 3, 119, 6), (80, .invokevirtual 266, 3, 137, 6)]) (by decide +kernel) (by rfl) (List.forall_mem_cons.mpr ⟨sRX11_getfield_82 false 8, List.forall_mem_cons.mpr ⟨sRX11_invokevirtual_193 false 17, List.forall_mem_cons.mpr ⟨sRX11_invokevirtual_153 false 25, List.forall_mem_cons.mpr ⟨sRX11_invokevirtual_263 false 33, List.forall_mem_cons.mpr ⟨sRX11_getfield_42 false 37, List.forall_mem_cons.mpr ⟨sRX11_invokevirtual_212 false 55, List.forall_mem_cons.mpr ⟨sRX11_invokevirtual_189 false 73, List.forall_mem_cons.mpr ⟨sRX11_invokevirtual_266 false 80, fun _ h => absurd h List.not_mem_nil⟩⟩⟩⟩⟩⟩⟩⟩)
set_option maxRecDepth 100000 in
theorem vkX11_expand_1 : ∀ e ∈ kX11_expand_1, xE RX11 false cX11_expand e := xE_all (o := [(100, .invokevirtual 263, 3, 138, 2), (104, .getfield 45, 3, 10, 21), (117, .invokevirtual 212, 3, 122, 3), (124, .invokevirtual 199, 3, 109, 3), (153, .invokevirtual 189, 3, 119, 6), (163, .invokevirtual 266, 3, 137, 6), (180, .invokevirtual 263, 3, 138, 2), (184, .getfield 45, 3, 10, 21), (194, .getfield 7, 3, 10, 2), (200, .getfield 7, 3, 10, 2)]) (by decide +kernel) (by rfl) (List.forall_mem_cons.mpr ⟨sRX11_invokevirtual_263 false 100, List.forall_mem_cons.mpr ⟨sRX11_getfield_45 false 104, List.forall_mem_cons.mpr ⟨sRX11_invokevirtual_212 false 117, List.forall_mem_cons.mpr ⟨sRX11_invokevirtual_199 false 124, List.forall_mem_cons.mpr ⟨sRX11_invokevirtual_189 false 153, List.forall_mem_cons.mpr ⟨sRX11_invokevirtual_266 false 163, List.forall_mem_cons.mpr ⟨sRX11_invokevirtual_263 false 180, List.forall_mem_cons.mpr ⟨sRX11_getfield_45 false 184, List.forall_mem_cons.mpr ⟨sRX11_getfield_7 false 194, List.forall_mem_cons.mpr ⟨sRX11_getfield_7 false 200, fun _ h => absurd h List.not_mem_nil⟩⟩⟩⟩⟩⟩⟩⟩⟩⟩)
set_option maxRecDepth 100000 in
theorem vkX11_expand_2 : ∀ e ∈ kX11_expand_2, xE RX11 false cX11_expand e := xE_all (o := [(205, .getfield 45, 3, 10, 21), (226, .getfield 45, 3, 10, 21), (233, .invokevirtual 189, 3, 119, 6), (241, .invokevirtual 266, 3, 137, 6), (255, .getfield 7, 3, 10, 2), (261, .invokevirtual 189, 3, 119, 6), (268, .invokevirtual 266, 3, 137, 6)]) (by decide +kernel) (by rfl) (List.forall_mem_cons.mpr ⟨sRX11_getfield_45 false 205, List.forall_mem_cons.mpr ⟨sRX11_getfield_45 false 226, List.forall_mem_cons.mpr ⟨sRX11_invokevirtual_189 false 233, List.forall_mem_cons.mpr ⟨sRX11_invokevirtual_266 false 241, List.forall_mem_cons.mpr ⟨sRX11_getfield_7 false 255, List.forall_mem_cons.mpr ⟨sRX11_invokevirtual_189 false 261, List.forall_mem_cons.mpr ⟨sRX11_invokevirtual_266 false 268, fun _ h => absurd h List.not_mem_nil⟩⟩⟩⟩⟩⟩⟩)
set_option maxRecDepth 100000 in
theorem vkX11_expand : ∀ e ∈ kX11_expand, xE RX11 false cX11_expand e := (fun e h => (List.mem_append.mp h).elim (vkX11_expand_0 e) ((fun e h => (List.mem_append.mp h).elim (vkX11_expand_1 e) (vkX11_expand_2 e)) e))
set_option maxRecDepth 100000 in
theorem vkX11_bestWide_0 : ∀ e ∈ kX11_bestWide_0, xE RX11 false cX11_bestWide e := xE_all (o := [(4, .getfield 136, 3, 10, 3), (11, .getfield 76, 3, 10, 32), (18, .getfield 79, 3, 10, 33), (31, .invokevirtual 202, 3, 121, 1), (40, .invokevirtual 266, 3, 137, 6), (47, .getfield 136, 3, 10, 3), (57, .getfield 76, 3, 10, 32), (68, .invokevirtual 270, 3, 139, 3), (85, .putfield 250, 3, 10, 18), (92, .getfield 136, 3, 10, 3)]) (by decide +kernel) (by rfl) (List.forall_mem_cons.mpr ⟨sRX11_getfield_136 false 4, List.forall_mem_cons.mpr ⟨sRX11_getfield_76 false 11, List.forall_mem_cons.mpr ⟨sRX11_getfield_79 false 18, List.forall_mem_cons.mpr ⟨sRX11_invokevirtual_202 false 31, List.forall_mem_cons.mpr ⟨sRX11_invokevirtual_266 false 40, List.forall_mem_cons.mpr ⟨sRX11_getfield_136 false 47, List.forall_mem_cons.mpr ⟨sRX11_getfield_76 false 57, List.forall_mem_cons.mpr ⟨sRX11_invokevirtual_270 false 68, List.forall_mem_cons.mpr ⟨sRX11_putfield_250 false 85, List.forall_mem_cons.mpr ⟨sRX11_getfield_136 false 92, fun _ h => absurd h List.not_mem_nil⟩⟩⟩⟩⟩⟩⟩⟩⟩⟩)
set_option maxRecDepth 100000 in
theorem vkX11_bestWide_1 : ∀ e ∈ kX11_bestWide_1, xE RX11 false cX11_bestWide e := xE_all (o := [(100, .getfield 250, 3, 10, 18), (104, .getfield 79, 3, 10, 33), (118, .putfield 250, 3, 10, 18), (129, .getfield 250, 3, 10, 18), (140, .putfield 224, 3, 10, 17), (145, .getfield 82, 3, 10, 34), (151, .getfield 136, 3, 10, 3), (157, .putfield 220, 3, 10, 16), (163, .getfield 136, 3, 10, 3), (182, .getfield 89, 3, 10, 36), (191, .getfield 92, 3, 10, 37), (200, .getfield 64, 3, 10, 28)]) (by decide +kernel) (by rfl) (List.forall_mem_cons.mpr ⟨sRX11_getfield_250 false 100, List.forall_mem_cons.mpr ⟨sRX11_getfield_79 false 104, List.forall_mem_cons.mpr ⟨sRX11_putfield_250 false 118, List.forall_mem_cons.mpr ⟨sRX11_getfield_250 false 129, List.forall_mem_cons.mpr ⟨sRX11_putfield_224 false 140, List.forall_mem_cons.mpr ⟨sRX11_getfield_82 false 145, List.forall_mem_cons.mpr ⟨sRX11_getfield_136 false 151, List.forall_mem_cons.mpr ⟨sRX11_putfield_220 false 157, List.forall_mem_cons.mpr ⟨sRX11_getfield_136 false 163, List.forall_mem_cons.mpr ⟨sRX11_getfield_89 false 182, List.forall_mem_cons.mpr ⟨sRX11_getfield_92 false 191, List.forall_mem_cons.mpr ⟨sRX11_getfield_64 false 200, fun _ h => absurd h List.not_mem_nil⟩⟩⟩⟩⟩⟩⟩⟩⟩⟩⟩⟩)
set_option maxRecDepth 100000 in
theorem vkX11_bestWide_2 : ∀ e ∈ kX11_bestWide_2, xE RX11 false cX11_bestWide e := xE_all (o := [(208, .getfield 67, 3, 10, 29), (216, .getfield 73, 3, 10, 31), (226, .getfield 70, 3, 10, 30), (240, .getfield 86, 3, 10, 35), (253, .getfield 95, 3, 10, 38), (268, .invokevirtual 234, 3, 132, 2)]) (by decide +kernel) (by rfl) (List.forall_mem_cons.mpr ⟨sRX11_getfield_67 false 208, List.forall_mem_cons.mpr ⟨sRX11_getfield_73 false 216, List.forall_mem_cons.mpr ⟨sRX11_getfield_70 false 226, List.forall_mem_cons.mpr ⟨sRX11_getfield_86 false 240, List.forall_mem_cons.mpr ⟨sRX11_getfield_95 false 253, List.forall_mem_cons.mpr ⟨sRX11_invokevirtual_234 false 268, fun _ h => absurd h List.not_mem_nil⟩⟩⟩⟩⟩⟩)
set_option maxRecDepth 100000 in
theorem vkX11_bestWide : ∀ e ∈ kX11_bestWide, xE RX11 false cX11_bestWide e := (fun e h => (List.mem_append.mp h).elim (vkX11_bestWide_0 e) ((fun e h => (List.mem_append.mp h).elim (vkX11_bestWide_1 e) (vkX11_bestWide_2 e)) e))
set_option maxRecDepth 100000 in
theorem vkX11_best : ∀ e ∈ kX11_best, xE RX11 false cX11_best e := xE_all (o := [(1, .invokevirtual 273, 3, 107, 1), (5, .getfield 123, 3, 10, 1), (13, .invokevirtual 276, 3, 140, 1), (20, .invokevirtual 279, 3, 133, 1)]) (by decide +kernel) (by rfl) (List.forall_mem_cons.mpr ⟨sRX11_invokevirtual_273 false 1, List.forall_mem_cons.mpr ⟨sRX11_getfield_123 false 5, List.forall_mem_cons.mpr ⟨sRX11_invokevirtual_276 false 13, List.forall_mem_cons.mpr ⟨sRX11_invokevirtual_279 false 20, fun _ h => absurd h List.not_mem_nil⟩⟩⟩⟩)
set_option maxRecDepth 100000 in
theorem vkX11_parse : ∀ e ∈ kX11_parse, xE RX11 false cX11_parse e := xE_all (o := [(2, .putfield 129, 3, 10, 0), (18, .putfield 141, 3, 10, 10), (27, .invokevirtual 282, 3, 141, 1), (34, .invokevirtual 273, 3, 107, 1), (39, .invokevirtual 285, 3, 125, 2), (43, .getfield 186, 3, 10, 11)]) (by decide +kernel) (by rfl) (List.forall_mem_cons.mpr ⟨sRX11_putfield_129 false 2, List.forall_mem_cons.mpr ⟨sRX11_putfield_141 false 18, List.forall_mem_cons.mpr ⟨sRX11_invokevirtual_282 false 27, List.forall_mem_cons.mpr ⟨sRX11_invokevirtual_273 false 34, List.forall_mem_cons.mpr ⟨sRX11_invokevirtual_285 false 39, List.forall_mem_cons.mpr ⟨sRX11_getfield_186 false 43, fun _ h => absurd h List.not_mem_nil⟩⟩⟩⟩⟩⟩)
set_option maxRecDepth 100000 in
theorem vkX11_log : ∀ e ∈ kX11_log, xE RX11 false cX11_log e := xE_all (o := [(1, .invokestatic 156, 3, 110, 1), (9, .ldc2_w 288, 3, 64, 0)]) (by decide +kernel) (by rfl) (List.forall_mem_cons.mpr ⟨sRX11_invokestatic_156 false 1, List.forall_mem_cons.mpr ⟨sRX11_ldc2_w_288 false 9, fun _ h => absurd h List.not_mem_nil⟩⟩)
set_option maxRecDepth 100000 in
theorem vkX11_fit_0 : ∀ e ∈ kX11_fit_0, xE RX11 false cX11_fit e := xE_all (o := [(10, .getfield 98, 3, 10, 39), (26, .getfield 186, 3, 10, 11), (33, .getfield 35, 3, 10, 15), (44, .getfield 98, 3, 10, 39), (48, .getfield 7, 3, 10, 2), (52, .getfield 26, 3, 10, 12), (73, .getfield 98, 3, 10, 39), (80, .getfield 29, 3, 10, 13), (86, .invokevirtual 153, 3, 99, 1), (90, .invokestatic 159, 3, 111, 1)]) (by decide +kernel) (by rfl) (List.forall_mem_cons.mpr ⟨sRX11_getfield_98 false 10, List.forall_mem_cons.mpr ⟨sRX11_getfield_186 false 26, List.forall_mem_cons.mpr ⟨sRX11_getfield_35 false 33, List.forall_mem_cons.mpr ⟨sRX11_getfield_98 false 44, List.forall_mem_cons.mpr ⟨sRX11_getfield_7 false 48, List.forall_mem_cons.mpr ⟨sRX11_getfield_26 false 52, List.forall_mem_cons.mpr ⟨sRX11_getfield_98 false 73, List.forall_mem_cons.mpr ⟨sRX11_getfield_29 false 80, List.forall_mem_cons.mpr ⟨sRX11_invokevirtual_153 false 86, List.forall_mem_cons.mpr ⟨sRX11_invokestatic_159 false 90, fun _ h => absurd h List.not_mem_nil⟩⟩⟩⟩⟩⟩⟩⟩⟩⟩)
set_option maxRecDepth 100000 in
theorem vkX11_fit_1 : ∀ e ∈ kX11_fit_1, xE RX11 false cX11_fit e := xE_all (o := [(105, .getfield 98, 3, 10, 39), (112, .getfield 32, 3, 10, 14), (119, .invokestatic 165, 3, 113, 1), (129, .getfield 98, 3, 10, 39), (152, .getfield 123, 3, 10, 1), (172, .invokestatic 132, 3, 101, 1), (180, .getfield 98, 3, 10, 39)]) (by decide +kernel) (by rfl) (List.forall_mem_cons.mpr ⟨sRX11_getfield_98 false 105, List.forall_mem_cons.mpr ⟨sRX11_getfield_32 false 112, List.forall_mem_cons.mpr ⟨sRX11_invokestatic_165 false 119, List.forall_mem_cons.mpr ⟨sRX11_getfield_98 false 129, List.forall_mem_cons.mpr ⟨sRX11_getfield_123 false 152, List.forall_mem_cons.mpr ⟨sRX11_invokestatic_132 false 172, List.forall_mem_cons.mpr ⟨sRX11_getfield_98 false 180, fun _ h => absurd h List.not_mem_nil⟩⟩⟩⟩⟩⟩⟩)
set_option maxRecDepth 100000 in
theorem vkX11_fit_2 : ∀ e ∈ kX11_fit_2, xE RX11 false cX11_fit e := xE_all (o := [(203, .invokestatic 132, 3, 101, 1), (211, .invokestatic 132, 3, 101, 1), (215, .invokestatic 290, 3, 143, 1), (219, .getfield 98, 3, 10, 39), (232, .invokestatic 290, 3, 143, 1), (239, .getfield 13, 3, 10, 4)]) (by decide +kernel) (by rfl) (List.forall_mem_cons.mpr ⟨sRX11_invokestatic_132 false 203, List.forall_mem_cons.mpr ⟨sRX11_invokestatic_132 false 211, List.forall_mem_cons.mpr ⟨sRX11_invokestatic_290 false 215, List.forall_mem_cons.mpr ⟨sRX11_getfield_98 false 219, List.forall_mem_cons.mpr ⟨sRX11_invokestatic_290 false 232, List.forall_mem_cons.mpr ⟨sRX11_getfield_13 false 239, fun _ h => absurd h List.not_mem_nil⟩⟩⟩⟩⟩⟩)
set_option maxRecDepth 100000 in
theorem vkX11_fit : ∀ e ∈ kX11_fit, xE RX11 false cX11_fit e := (fun e h => (List.mem_append.mp h).elim (vkX11_fit_0 e) ((fun e h => (List.mem_append.mp h).elim (vkX11_fit_1 e) (vkX11_fit_2 e)) e))
set_option maxRecDepth 100000 in
theorem vkX11_rounds_0 : ∀ e ∈ kX11_rounds_0, xE RX11 false cX11_rounds e := xE_all (o := [(2, .putfield 129, 3, 10, 0), (17, .getfield 123, 3, 10, 1), (25, .getfield 136, 3, 10, 3), (31, .ldc2_w 293, 3, 18446744073709551615, 0), (35, .ldc2_w 293, 3, 18446744073709551615, 0), (58, .invokevirtual 282, 3, 141, 1), (62, .invokevirtual 295, 3, 144, 1), (66, .invokevirtual 216, 3, 120, 1), (88, .getfield 186, 3, 10, 11), (94, .getfield 220, 3, 10, 16), (100, .getfield 224, 3, 10, 17)]) (by decide +kernel) (by rfl) (List.forall_mem_cons.mpr ⟨sRX11_putfield_129 false 2, List.forall_mem_cons.mpr ⟨sRX11_getfield_123 false 17, List.forall_mem_cons.mpr ⟨sRX11_getfield_136 false 25, List.forall_mem_cons.mpr ⟨sRX11_ldc2_w_293 false 31, List.forall_mem_cons.mpr ⟨sRX11_ldc2_w_293 false 35, List.forall_mem_cons.mpr ⟨sRX11_invokevirtual_282 false 58, List.forall_mem_cons.mpr ⟨sRX11_invokevirtual_295 false 62, List.forall_mem_cons.mpr ⟨sRX11_invokevirtual_216 false 66, List.forall_mem_cons.mpr ⟨sRX11_getfield_186 false 88, List.forall_mem_cons.mpr ⟨sRX11_getfield_220 false 94, List.forall_mem_cons.mpr ⟨sRX11_getfield_224 false 100, fun _ h => absurd h List.not_mem_nil⟩⟩⟩⟩⟩⟩⟩⟩⟩⟩⟩)
end
section
set_option maxRecDepth 100000 in
theorem vkX11_rounds_1 : ∀ e ∈ kX11_rounds_1, xE RX11 false cX11_rounds e := xE_all (o := [(117, .getfield 101, 3, 10, 40), (123, .getfield 13, 3, 10, 4), (142, .getfield 186, 3, 10, 11), (149, .getfield 104, 3, 10, 41), (155, .getfield 26, 3, 10, 12), (163, .getfield 107, 3, 10, 42), (169, .getfield 29, 3, 10, 13), (177, .getfield 110, 3, 10, 43), (183, .getfield 32, 3, 10, 14), (191, .getfield 113, 3, 10, 44), (197, .getfield 35, 3, 10, 15)]) (by decide +kernel) (by rfl) (List.forall_mem_cons.mpr ⟨sRX11_getfield_101 false 117, List.forall_mem_cons.mpr ⟨sRX11_getfield_13 false 123, List.forall_mem_cons.mpr ⟨sRX11_getfield_186 false 142, List.forall_mem_cons.mpr ⟨sRX11_getfield_104 false 149, List.forall_mem_cons.mpr ⟨sRX11_getfield_26 false 155, List.forall_mem_cons.mpr ⟨sRX11_getfield_107 false 163, List.forall_mem_cons.mpr ⟨sRX11_getfield_29 false 169, List.forall_mem_cons.mpr ⟨sRX11_getfield_110 false 177, List.forall_mem_cons.mpr ⟨sRX11_getfield_32 false 183, List.forall_mem_cons.mpr ⟨sRX11_getfield_113 false 191, List.forall_mem_cons.mpr ⟨sRX11_getfield_35 false 197, fun _ h => absurd h List.not_mem_nil⟩⟩⟩⟩⟩⟩⟩⟩⟩⟩⟩)
set_option maxRecDepth 100000 in
theorem vkX11_rounds_2 : ∀ e ∈ kX11_rounds_2, xE RX11 false cX11_rounds e := xE_all (o := [(228, .getfield 13, 3, 10, 4), (234, .getfield 101, 3, 10, 40), (249, .putfield 186, 3, 10, 11), (264, .getfield 104, 3, 10, 41), (271, .getfield 113, 3, 10, 44), (278, .getfield 107, 3, 10, 42), (285, .getfield 110, 3, 10, 43), (291, .invokevirtual 208, 3, 124, 5), (303, .putfield 220, 3, 10, 16), (309, .putfield 224, 3, 10, 17), (314, .putfield 141, 3, 10, 10)]) (by decide +kernel) (by rfl) (List.forall_mem_cons.mpr ⟨sRX11_getfield_13 false 228, List.forall_mem_cons.mpr ⟨sRX11_getfield_101 false 234, List.forall_mem_cons.mpr ⟨sRX11_putfield_186 false 249, List.forall_mem_cons.mpr ⟨sRX11_getfield_104 false 264, List.forall_mem_cons.mpr ⟨sRX11_getfield_113 false 271, List.forall_mem_cons.mpr ⟨sRX11_getfield_107 false 278, List.forall_mem_cons.mpr ⟨sRX11_getfield_110 false 285, List.forall_mem_cons.mpr ⟨sRX11_invokevirtual_208 false 291, List.forall_mem_cons.mpr ⟨sRX11_putfield_220 false 303, List.forall_mem_cons.mpr ⟨sRX11_putfield_224 false 309, List.forall_mem_cons.mpr ⟨sRX11_putfield_141 false 314, fun _ h => absurd h List.not_mem_nil⟩⟩⟩⟩⟩⟩⟩⟩⟩⟩⟩)
set_option maxRecDepth 100000 in
theorem vkX11_rounds : ∀ e ∈ kX11_rounds, xE RX11 false cX11_rounds e := (fun e h => (List.mem_append.mp h).elim (vkX11_rounds_0 e) ((fun e h => (List.mem_append.mp h).elim (vkX11_rounds_1 e) (vkX11_rounds_2 e)) e))
set_option maxRecDepth 100000 in
theorem vkX11_step : ∀ e ∈ kX11_step, xE RX11 false cX11_step e := xE_all (o := [(2, .putfield 129, 3, 10, 0), (6, .getfield 141, 3, 10, 10), (18, .getfield 186, 3, 10, 11), (40, .getfield 26, 3, 10, 12), (54, .getfield 29, 3, 10, 13), (68, .getfield 32, 3, 10, 14), (77, .getfield 35, 3, 10, 15)]) (by decide +kernel) (by rfl) (List.forall_mem_cons.mpr ⟨sRX11_putfield_129 false 2, List.forall_mem_cons.mpr ⟨sRX11_getfield_141 false 6, List.forall_mem_cons.mpr ⟨sRX11_getfield_186 false 18, List.forall_mem_cons.mpr ⟨sRX11_getfield_26 false 40, List.forall_mem_cons.mpr ⟨sRX11_getfield_29 false 54, List.forall_mem_cons.mpr ⟨sRX11_getfield_32 false 68, List.forall_mem_cons.mpr ⟨sRX11_getfield_35 false 77, fun _ h => absurd h List.not_mem_nil⟩⟩⟩⟩⟩⟩⟩)
set_option maxRecDepth 100000 in
theorem vkX11_sum : ∀ e ∈ kX11_sum, xE RX11 false cX11_sum e := xE_all (o := [(2, .putfield 129, 3, 10, 0), (6, .getfield 141, 3, 10, 10), (13, .getfield 220, 3, 10, 16), (19, .ldc2_w 293, 3, 18446744073709551615, 0)]) (by decide +kernel) (by rfl) (List.forall_mem_cons.mpr ⟨sRX11_putfield_129 false 2, List.forall_mem_cons.mpr ⟨sRX11_getfield_141 false 6, List.forall_mem_cons.mpr ⟨sRX11_getfield_220 false 13, List.forall_mem_cons.mpr ⟨sRX11_ldc2_w_293 false 19, fun _ h => absurd h List.not_mem_nil⟩⟩⟩⟩)
set_option maxRecDepth 100000 in
theorem vkX11_again : ∀ e ∈ kX11_again, xE RX11 false cX11_again e := xE_all (o := [(2, .putfield 129, 3, 10, 0), (6, .getfield 141, 3, 10, 10), (13, .invokevirtual 216, 3, 120, 1), (19, .ldc2_w 293, 3, 18446744073709551615, 0)]) (by decide +kernel) (by rfl) (List.forall_mem_cons.mpr ⟨sRX11_putfield_129 false 2, List.forall_mem_cons.mpr ⟨sRX11_getfield_141 false 6, List.forall_mem_cons.mpr ⟨sRX11_invokevirtual_216 false 13, List.forall_mem_cons.mpr ⟨sRX11_ldc2_w_293 false 19, fun _ h => absurd h List.not_mem_nil⟩⟩⟩⟩)
set_option maxRecDepth 100000 in
theorem vkX11_least : ∀ e ∈ kX11_least, xE RX11 false cX11_least e := xE_all (o := [(2, .putfield 129, 3, 10, 0), (6, .getfield 141, 3, 10, 10), (13, .getfield 224, 3, 10, 17)]) (by decide +kernel) (by rfl) (List.forall_mem_cons.mpr ⟨sRX11_putfield_129 false 2, List.forall_mem_cons.mpr ⟨sRX11_getfield_141 false 6, List.forall_mem_cons.mpr ⟨sRX11_getfield_224 false 13, fun _ h => absurd h List.not_mem_nil⟩⟩⟩)
set_option maxRecDepth 100000 in
theorem vkX11_told_0 : ∀ e ∈ kX11_told_0, xE RX11 false cX11_told e := xE_all (o := [(2, .putfield 129, 3, 10, 0), (6, .getfield 141, 3, 10, 10), (18, .getfield 136, 3, 10, 3), (30, .getfield 186, 3, 10, 11), (40, .getfield 29, 3, 10, 13), (49, .getfield 26, 3, 10, 12), (59, .getfield 116, 3, 10, 45), (65, .getfield 35, 3, 10, 15), (74, .getfield 7, 3, 10, 2), (84, .getfield 116, 3, 10, 45), (90, .getfield 32, 3, 10, 14)]) (by decide +kernel) (by rfl) (List.forall_mem_cons.mpr ⟨sRX11_putfield_129 false 2, List.forall_mem_cons.mpr ⟨sRX11_getfield_141 false 6, List.forall_mem_cons.mpr ⟨sRX11_getfield_136 false 18, List.forall_mem_cons.mpr ⟨sRX11_getfield_186 false 30, List.forall_mem_cons.mpr ⟨sRX11_getfield_29 false 40, List.forall_mem_cons.mpr ⟨sRX11_getfield_26 false 49, List.forall_mem_cons.mpr ⟨sRX11_getfield_116 false 59, List.forall_mem_cons.mpr ⟨sRX11_getfield_35 false 65, List.forall_mem_cons.mpr ⟨sRX11_getfield_7 false 74, List.forall_mem_cons.mpr ⟨sRX11_getfield_116 false 84, List.forall_mem_cons.mpr ⟨sRX11_getfield_32 false 90, fun _ h => absurd h List.not_mem_nil⟩⟩⟩⟩⟩⟩⟩⟩⟩⟩⟩)
set_option maxRecDepth 100000 in
theorem vkX11_told_1 : ∀ e ∈ kX11_told_1, xE RX11 false cX11_told e := xE_all (o := [(111, .getfield 116, 3, 10, 45)]) (by decide +kernel) (by rfl) (List.forall_mem_cons.mpr ⟨sRX11_getfield_116 false 111, fun _ h => absurd h List.not_mem_nil⟩)
set_option maxRecDepth 100000 in
theorem vkX11_told : ∀ e ∈ kX11_told, xE RX11 false cX11_told e := (fun e h => (List.mem_append.mp h).elim (vkX11_told_0 e) (vkX11_told_1 e))
set_option maxRecDepth 100000 in
theorem vkX11_longest : ∀ e ∈ kX11_longest, xE RX11 false cX11_longest e := xE_all (o := [(2, .putfield 129, 3, 10, 0), (11, .getfield 136, 3, 10, 3), (20, .invokevirtual 273, 3, 107, 1), (25, .invokevirtual 193, 3, 108, 2)]) (by decide +kernel) (by rfl) (List.forall_mem_cons.mpr ⟨sRX11_putfield_129 false 2, List.forall_mem_cons.mpr ⟨sRX11_getfield_136 false 11, List.forall_mem_cons.mpr ⟨sRX11_invokevirtual_273 false 20, List.forall_mem_cons.mpr ⟨sRX11_invokevirtual_193 false 25, fun _ h => absurd h List.not_mem_nil⟩⟩⟩⟩)
set_option maxRecDepth 100000 in
theorem vkX11_distance : ∀ e ∈ kX11_distance, xE RX11 false cX11_distance e := xE_all (o := [(2, .putfield 129, 3, 10, 0), (11, .getfield 136, 3, 10, 3), (19, .invokevirtual 153, 3, 99, 1), (27, .invokevirtual 149, 3, 100, 1), (36, .invokevirtual 273, 3, 107, 1), (40, .getfield 42, 3, 10, 20)]) (by decide +kernel) (by rfl) (List.forall_mem_cons.mpr ⟨sRX11_putfield_129 false 2, List.forall_mem_cons.mpr ⟨sRX11_getfield_136 false 11, List.forall_mem_cons.mpr ⟨sRX11_invokevirtual_153 false 19, List.forall_mem_cons.mpr ⟨sRX11_invokevirtual_149 false 27, List.forall_mem_cons.mpr ⟨sRX11_invokevirtual_273 false 36, List.forall_mem_cons.mpr ⟨sRX11_getfield_42 false 40, fun _ h => absurd h List.not_mem_nil⟩⟩⟩⟩⟩⟩)
set_option maxRecDepth 100000 in
theorem vkX11_cut_0 : ∀ e ∈ kX11_cut_0, xE RX11 false cX11_cut e := xE_all (o := [(2, .putfield 129, 3, 10, 0), (11, .getfield 136, 3, 10, 3), (18, .getfield 298, 3, 10, 7), (32, .getfield 298, 3, 10, 7), (39, .getfield 20, 3, 10, 6), (56, .getfield 298, 3, 10, 7), (63, .getfield 20, 3, 10, 6), (75, .getfield 298, 3, 10, 7), (85, .getfield 20, 3, 10, 6), (90, .getfield 20, 3, 10, 6)]) (by decide +kernel) (by rfl) (List.forall_mem_cons.mpr ⟨sRX11_putfield_129 false 2, List.forall_mem_cons.mpr ⟨sRX11_getfield_136 false 11, List.forall_mem_cons.mpr ⟨sRX11_getfield_298 false 18, List.forall_mem_cons.mpr ⟨sRX11_getfield_298 false 32, List.forall_mem_cons.mpr ⟨sRX11_getfield_20 false 39, List.forall_mem_cons.mpr ⟨sRX11_getfield_298 false 56, List.forall_mem_cons.mpr ⟨sRX11_getfield_20 false 63, List.forall_mem_cons.mpr ⟨sRX11_getfield_298 false 75, List.forall_mem_cons.mpr ⟨sRX11_getfield_20 false 85, List.forall_mem_cons.mpr ⟨sRX11_getfield_20 false 90, fun _ h => absurd h List.not_mem_nil⟩⟩⟩⟩⟩⟩⟩⟩⟩⟩)
set_option maxRecDepth 100000 in
theorem vkX11_cut_1 : ∀ e ∈ kX11_cut_1, xE RX11 false cX11_cut e := xE_all (o := [(105, .getfield 20, 3, 10, 6), (113, .getfield 298, 3, 10, 7), (118, .putfield 298, 3, 10, 7), (122, .getfield 298, 3, 10, 7)]) (by decide +kernel) (by rfl) (List.forall_mem_cons.mpr ⟨sRX11_getfield_20 false 105, List.forall_mem_cons.mpr ⟨sRX11_getfield_298 false 113, List.forall_mem_cons.mpr ⟨sRX11_putfield_298 false 118, List.forall_mem_cons.mpr ⟨sRX11_getfield_298 false 122, fun _ h => absurd h List.not_mem_nil⟩⟩⟩⟩)
set_option maxRecDepth 100000 in
theorem vkX11_cut : ∀ e ∈ kX11_cut, xE RX11 false cX11_cut e := (fun e h => (List.mem_append.mp h).elim (vkX11_cut_0 e) (vkX11_cut_1 e))
set_option maxRecDepth 100000 in
theorem vkX11_border : ∀ e ∈ kX11_border, xE RX11 false cX11_border e := xE_all (o := [(10, .getfield 298, 3, 10, 7), (17, .getfield 136, 3, 10, 3), (24, .getfield 20, 3, 10, 6)]) (by decide +kernel) (by rfl) (List.forall_mem_cons.mpr ⟨sRX11_getfield_298 false 10, List.forall_mem_cons.mpr ⟨sRX11_getfield_136 false 17, List.forall_mem_cons.mpr ⟨sRX11_getfield_20 false 24, fun _ h => absurd h List.not_mem_nil⟩⟩⟩)
set_option maxRecDepth 100000 in
theorem vkX11_fillBlocks_0 : ∀ e ∈ kX11_fillBlocks_0, xE RX11 false cX11_fillBlocks e := xE_all (o := [(4, .getfield 298, 3, 10, 7), (16, .getfield 298, 3, 10, 7), (36, .getfield 98, 3, 10, 39), (51, .invokevirtual 301, 3, 154, 2), (60, .invokevirtual 301, 3, 154, 2), (67, .getfield 98, 3, 10, 39), (71, .getfield 7, 3, 10, 2), (104, .getfield 98, 3, 10, 39)]) (by decide +kernel) (by rfl) (List.forall_mem_cons.mpr ⟨sRX11_getfield_298 false 4, List.forall_mem_cons.mpr ⟨sRX11_getfield_298 false 16, List.forall_mem_cons.mpr ⟨sRX11_getfield_98 false 36, List.forall_mem_cons.mpr ⟨sRX11_invokevirtual_301 false 51, List.forall_mem_cons.mpr ⟨sRX11_invokevirtual_301 false 60, List.forall_mem_cons.mpr ⟨sRX11_getfield_98 false 67, List.forall_mem_cons.mpr ⟨sRX11_getfield_7 false 71, List.forall_mem_cons.mpr ⟨sRX11_getfield_98 false 104, fun _ h => absurd h List.not_mem_nil⟩⟩⟩⟩⟩⟩⟩⟩)
set_option maxRecDepth 100000 in
theorem vkX11_fillBlocks_1 : ∀ e ∈ kX11_fillBlocks_1, xE RX11 false cX11_fillBlocks e := xE_all (o := [(116, .getfield 98, 3, 10, 39), (125, .invokevirtual 301, 3, 154, 2), (130, .invokevirtual 301, 3, 154, 2), (134, .invokestatic 290, 3, 143, 1), (138, .getfield 98, 3, 10, 39), (144, .invokestatic 290, 3, 143, 1), (160, .getfield 119, 3, 10, 46)]) (by decide +kernel) (by rfl) (List.forall_mem_cons.mpr ⟨sRX11_getfield_98 false 116, List.forall_mem_cons.mpr ⟨sRX11_invokevirtual_301 false 125, List.forall_mem_cons.mpr ⟨sRX11_invokevirtual_301 false 130, List.forall_mem_cons.mpr ⟨sRX11_invokestatic_290 false 134, List.forall_mem_cons.mpr ⟨sRX11_getfield_98 false 138, List.forall_mem_cons.mpr ⟨sRX11_invokestatic_290 false 144, List.forall_mem_cons.mpr ⟨sRX11_getfield_119 false 160, fun _ h => absurd h List.not_mem_nil⟩⟩⟩⟩⟩⟩⟩)
set_option maxRecDepth 100000 in
theorem vkX11_fillBlocks : ∀ e ∈ kX11_fillBlocks, xE RX11 false cX11_fillBlocks e := (fun e h => (List.mem_append.mp h).elim (vkX11_fillBlocks_0 e) (vkX11_fillBlocks_1 e))
set_option maxRecDepth 100000 in
theorem vkX11_setCost : ∀ e ∈ kX11_setCost, xE RX11 false cX11_setCost e := xE_all (o := [(11, .getfield 298, 3, 10, 7), (22, .getfield 298, 3, 10, 7), (42, .getfield 119, 3, 10, 46)]) (by decide +kernel) (by rfl) (List.forall_mem_cons.mpr ⟨sRX11_getfield_298 false 11, List.forall_mem_cons.mpr ⟨sRX11_getfield_298 false 22, List.forall_mem_cons.mpr ⟨sRX11_getfield_119 false 42, fun _ h => absurd h List.not_mem_nil⟩⟩⟩)
set_option maxRecDepth 100000 in
theorem vkX11_count : ∀ e ∈ kX11_count, xE RX11 false cX11_count e := xE_all (o := []) (by decide +kernel) (by rfl) (fun _ h => absurd h List.not_mem_nil)
set_option maxRecDepth 100000 in
theorem vkX11_isBefore : ∀ e ∈ kX11_isBefore, xE RX11 false cX11_isBefore e := xE_all (o := []) (by decide +kernel) (by rfl) (fun _ h => absurd h List.not_mem_nil)
set_option maxRecDepth 100000 in
theorem vkX11_split_0 : ∀ e ∈ kX11_split_0, xE RX11 false cX11_split e := xE_all (o := [(2, .putfield 129, 3, 10, 0), (10, .ldc_w 304, 3, 100000, 0), (17, .getfield 136, 3, 10, 3), (23, .ldc2_w 293, 3, 18446744073709551615, 0), (29, .invokevirtual 305, 3, 155, 2), (36, .invokevirtual 308, 3, 156, 2), (47, .getfield 298, 3, 10, 7), (57, .invokevirtual 308, 3, 156, 2), (78, .invokestatic 312, 3, 157, 1), (82, .invokestatic 312, 3, 157, 1), (90, .invokestatic 312, 3, 157, 1), (94, .invokestatic 312, 3, 157, 1), (103, .invokestatic 315, 3, 158, 2)]) (by decide +kernel) (by rfl) (List.forall_mem_cons.mpr ⟨sRX11_putfield_129 false 2, List.forall_mem_cons.mpr ⟨sRX11_ldc_w_304 false 10, List.forall_mem_cons.mpr ⟨sRX11_getfield_136 false 17, List.forall_mem_cons.mpr ⟨sRX11_ldc2_w_293 false 23, List.forall_mem_cons.mpr ⟨sRX11_invokevirtual_305 false 29, List.forall_mem_cons.mpr ⟨sRX11_invokevirtual_308 false 36, List.forall_mem_cons.mpr ⟨sRX11_getfield_298 false 47, List.forall_mem_cons.mpr ⟨sRX11_invokevirtual_308 false 57, List.forall_mem_cons.mpr ⟨sRX11_invokestatic_312 false 78, List.forall_mem_cons.mpr ⟨sRX11_invokestatic_312 false 82, List.forall_mem_cons.mpr ⟨sRX11_invokestatic_312 false 90, List.forall_mem_cons.mpr ⟨sRX11_invokestatic_312 false 94, List.forall_mem_cons.mpr ⟨sRX11_invokestatic_315 false 103, fun _ h => absurd h List.not_mem_nil⟩⟩⟩⟩⟩⟩⟩⟩⟩⟩⟩⟩⟩)
set_option maxRecDepth 100000 in
theorem vkX11_split_1 : ∀ e ∈ kX11_split_1, xE RX11 false cX11_split e := xE_all (o := [(123, .putfield 318, 3, 10, 9), (132, .getfield 298, 3, 10, 7), (149, .getfield 23, 3, 10, 8), (153, .getfield 318, 3, 10, 9), (157, .getfield 20, 3, 10, 6), (166, .getfield 318, 3, 10, 9), (171, .putfield 318, 3, 10, 9)]) (by decide +kernel) (by rfl) (List.forall_mem_cons.mpr ⟨sRX11_putfield_318 false 123, List.forall_mem_cons.mpr ⟨sRX11_getfield_298 false 132, List.forall_mem_cons.mpr ⟨sRX11_getfield_23 false 149, List.forall_mem_cons.mpr ⟨sRX11_getfield_318 false 153, List.forall_mem_cons.mpr ⟨sRX11_getfield_20 false 157, List.forall_mem_cons.mpr ⟨sRX11_getfield_318 false 166, List.forall_mem_cons.mpr ⟨sRX11_putfield_318 false 171, fun _ h => absurd h List.not_mem_nil⟩⟩⟩⟩⟩⟩⟩)
set_option maxRecDepth 100000 in
theorem vkX11_split : ∀ e ∈ kX11_split, xE RX11 false cX11_split e := (fun e h => (List.mem_append.mp h).elim (vkX11_split_0 e) (vkX11_split_1 e))
set_option maxRecDepth 100000 in
theorem vkX11_taken : ∀ e ∈ kX11_taken, xE RX11 false cX11_taken e := xE_all (o := [(2, .putfield 129, 3, 10, 0), (11, .getfield 318, 3, 10, 9), (22, .getfield 23, 3, 10, 8)]) (by decide +kernel) (by rfl) (List.forall_mem_cons.mpr ⟨sRX11_putfield_129 false 2, List.forall_mem_cons.mpr ⟨sRX11_getfield_318 false 11, List.forall_mem_cons.mpr ⟨sRX11_getfield_23 false 22, fun _ h => absurd h List.not_mem_nil⟩⟩⟩)
set_option maxRecDepth 100000 in
theorem vkX11_many : ∀ e ∈ kX11_many, xE RX11 false cX11_many e := xE_all (o := [(2, .putfield 129, 3, 10, 0), (49, .getfield 136, 3, 10, 3), (54, .getfield 141, 3, 10, 10), (61, .getfield 186, 3, 10, 11), (70, .getfield 298, 3, 10, 7), (75, .getfield 318, 3, 10, 9), (80, .getfield 250, 3, 10, 18), (85, .getfield 16, 3, 10, 5), (90, .getfield 123, 3, 10, 1)]) (by decide +kernel) (by rfl) (List.forall_mem_cons.mpr ⟨sRX11_putfield_129 false 2, List.forall_mem_cons.mpr ⟨sRX11_getfield_136 false 49, List.forall_mem_cons.mpr ⟨sRX11_getfield_141 false 54, List.forall_mem_cons.mpr ⟨sRX11_getfield_186 false 61, List.forall_mem_cons.mpr ⟨sRX11_getfield_298 false 70, List.forall_mem_cons.mpr ⟨sRX11_getfield_318 false 75, List.forall_mem_cons.mpr ⟨sRX11_getfield_250 false 80, List.forall_mem_cons.mpr ⟨sRX11_getfield_16 false 85, List.forall_mem_cons.mpr ⟨sRX11_getfield_123 false 90, fun _ h => absurd h List.not_mem_nil⟩⟩⟩⟩⟩⟩⟩⟩⟩)
set_option maxRecDepth 100000 in
theorem vkX11_clear : ∀ e ∈ kX11_clear, xE RX11 false cX11_clear e := xE_all (o := [(2, .putfield 129, 3, 10, 0), (7, .putfield 136, 3, 10, 3), (12, .putfield 298, 3, 10, 7), (17, .putfield 318, 3, 10, 9), (22, .putfield 141, 3, 10, 10), (27, .putfield 250, 3, 10, 18), (31, .invokevirtual 126, 3, 98, 1)]) (by decide +kernel) (by rfl) (List.forall_mem_cons.mpr ⟨sRX11_putfield_129 false 2, List.forall_mem_cons.mpr ⟨sRX11_putfield_136 false 7, List.forall_mem_cons.mpr ⟨sRX11_putfield_298 false 12, List.forall_mem_cons.mpr ⟨sRX11_putfield_318 false 17, List.forall_mem_cons.mpr ⟨sRX11_putfield_141 false 22, List.forall_mem_cons.mpr ⟨sRX11_putfield_250 false 27, List.forall_mem_cons.mpr ⟨sRX11_invokevirtual_126 false 31, fun _ h => absurd h List.not_mem_nil⟩⟩⟩⟩⟩⟩⟩)
set_option maxRecDepth 100000 in
theorem vkX11_trier : ∀ e ∈ kX11_trier, xE RX11 false cX11_trier e := xE_all (o := [(7, .getfield 136, 3, 10, 3), (18, .putfield 129, 3, 10, 0), (22, .getfield 129, 3, 10, 0), (33, .getfield 7, 3, 10, 2)]) (by decide +kernel) (by rfl) (List.forall_mem_cons.mpr ⟨sRX11_getfield_136 false 7, List.forall_mem_cons.mpr ⟨sRX11_putfield_129 false 18, List.forall_mem_cons.mpr ⟨sRX11_getfield_129 false 22, List.forall_mem_cons.mpr ⟨sRX11_getfield_7 false 33, fun _ h => absurd h List.not_mem_nil⟩⟩⟩⟩)
set_option maxRecDepth 100000 in
theorem vkJ7_rangeCheck_23922 : ∀ e ∈ kJ7_rangeCheck_23922, xE RJ7 false cJ7_rangeCheck_23922 e := xE_all (o := []) (by decide +kernel) (by rfl) (fun _ h => absurd h List.not_mem_nil)
set_option maxRecDepth 100000 in
theorem vkJ7_fill_d0a16 : ∀ e ∈ kJ7_fill_d0a16, xE RJ7 false cJ7_fill_d0a16 e := xE_all (o := []) (by decide +kernel) (by rfl) (fun _ h => absurd h List.not_mem_nil)
set_option maxRecDepth 100000 in
theorem vkJ7_fill_53178 : ∀ e ∈ kJ7_fill_53178, xE RJ7 false cJ7_fill_53178 e := xE_all (o := []) (by decide +kernel) (by rfl) (fun _ h => absurd h List.not_mem_nil)
set_option maxRecDepth 100000 in
theorem vkJ7_fill_fda19 : ∀ e ∈ kJ7_fill_fda19, xE RJ7 false cJ7_fill_fda19 e := xE_all (o := [(4, .invokestatic 13, 3, 164, 3)]) (by decide +kernel) (by rfl) (List.forall_mem_cons.mpr ⟨sRJ7_invokestatic_13 false 4, fun _ h => absurd h List.not_mem_nil⟩)
set_option maxRecDepth 100000 in
theorem vkL_cell : ∀ e ∈ kL_cell, xE RL false cL_cell e := xE_all (o := []) (by decide +kernel) (by rfl) (fun _ h => absurd h List.not_mem_nil)
set_option maxRecDepth 100000 in
theorem vkL_law_0 : ∀ e ∈ kL_law_0, xE RL false cL_law e := xE_all (o := [(0, .new 8, 3, 9, 0), (6, .invokestatic 15, 3, 168, 2), (9, .invokespecial 21, 3, 73, 2), (13, .new 24, 3, 10, 0), (19, .invokestatic 15, 3, 168, 2), (22, .invokespecial 26, 3, 96, 2), (27, .newarray .long, 2, 0, 0), (164, .ldc2_w 27, 3, 4294967295, 0), (169, .invokevirtual 29, 3, 74, 3)]) (by decide +kernel) (by rfl) (List.forall_mem_cons.mpr ⟨sRL_new_8 false 0, List.forall_mem_cons.mpr ⟨sRL_invokestatic_15 false 6, List.forall_mem_cons.mpr ⟨sRL_invokespecial_21 false 9, List.forall_mem_cons.mpr ⟨sRL_new_24 false 13, List.forall_mem_cons.mpr ⟨sRL_invokestatic_15 false 19, List.forall_mem_cons.mpr ⟨sRL_invokespecial_26 false 22, List.forall_mem_cons.mpr ⟨sRL_newarray_long false 27, List.forall_mem_cons.mpr ⟨sRL_ldc2_w_27 false 164, List.forall_mem_cons.mpr ⟨sRL_invokevirtual_29 false 169, fun _ h => absurd h List.not_mem_nil⟩⟩⟩⟩⟩⟩⟩⟩⟩)
set_option maxRecDepth 100000 in
theorem vkL_law_1 : ∀ e ∈ kL_law_1, xE RL false cL_law e := xE_all (o := [(196, .ldc2_w 27, 3, 4294967295, 0), (201, .invokevirtual 33, 3, 103, 3), (228, .invokevirtual 34, 3, 75, 4), (250, .invokevirtual 38, 3, 104, 4)]) (by decide +kernel) (by rfl) (List.forall_mem_cons.mpr ⟨sRL_ldc2_w_27 false 196, List.forall_mem_cons.mpr ⟨sRL_invokevirtual_33 false 201, List.forall_mem_cons.mpr ⟨sRL_invokevirtual_34 false 228, List.forall_mem_cons.mpr ⟨sRL_invokevirtual_38 false 250, fun _ h => absurd h List.not_mem_nil⟩⟩⟩⟩)
set_option maxRecDepth 100000 in
theorem vkL_law_2 : ∀ e ∈ kL_law_2, xE RL false cL_law e := xE_all (o := [(271, .invokevirtual 39, 3, 76, 3), (287, .invokevirtual 43, 3, 105, 3), (302, .invokevirtual 44, 3, 77, 2), (312, .invokevirtual 47, 3, 106, 2), (327, .invokevirtual 48, 3, 78, 2), (337, .invokevirtual 51, 3, 142, 2)]) (by decide +kernel) (by rfl) (List.forall_mem_cons.mpr ⟨sRL_invokevirtual_39 false 271, List.forall_mem_cons.mpr ⟨sRL_invokevirtual_43 false 287, List.forall_mem_cons.mpr ⟨sRL_invokevirtual_44 false 302, List.forall_mem_cons.mpr ⟨sRL_invokevirtual_47 false 312, List.forall_mem_cons.mpr ⟨sRL_invokevirtual_48 false 327, List.forall_mem_cons.mpr ⟨sRL_invokevirtual_51 false 337, fun _ h => absurd h List.not_mem_nil⟩⟩⟩⟩⟩⟩)
set_option maxRecDepth 100000 in
theorem vkL_law_3 : ∀ e ∈ kL_law_3, xE RL false cL_law e := xE_all (o := [(358, .invokevirtual 52, 3, 79, 3), (374, .invokevirtual 55, 3, 146, 3), (383, .invokevirtual 56, 3, 80, 1), (387, .invokevirtual 60, 3, 147, 1), (397, .invokevirtual 61, 3, 81, 1), (401, .invokevirtual 64, 3, 148, 1), (411, .invokevirtual 65, 3, 82, 1), (415, .invokevirtual 69, 3, 149, 1), (430, .invokevirtual 70, 3, 83, 2)]) (by decide +kernel) (by rfl) (List.forall_mem_cons.mpr ⟨sRL_invokevirtual_52 false 358, List.forall_mem_cons.mpr ⟨sRL_invokevirtual_55 false 374, List.forall_mem_cons.mpr ⟨sRL_invokevirtual_56 false 383, List.forall_mem_cons.mpr ⟨sRL_invokevirtual_60 false 387, List.forall_mem_cons.mpr ⟨sRL_invokevirtual_61 false 397, List.forall_mem_cons.mpr ⟨sRL_invokevirtual_64 false 401, List.forall_mem_cons.mpr ⟨sRL_invokevirtual_65 false 411, List.forall_mem_cons.mpr ⟨sRL_invokevirtual_69 false 415, List.forall_mem_cons.mpr ⟨sRL_invokevirtual_70 false 430, fun _ h => absurd h List.not_mem_nil⟩⟩⟩⟩⟩⟩⟩⟩⟩)
set_option maxRecDepth 100000 in
theorem vkL_law_4 : ∀ e ∈ kL_law_4, xE RL false cL_law e := xE_all (o := [(440, .invokevirtual 73, 3, 150, 2), (455, .invokevirtual 74, 3, 84, 2), (465, .invokevirtual 78, 3, 145, 2), (481, .invokevirtual 79, 3, 85, 2), (491, .invokevirtual 82, 3, 151, 2), (512, .invokevirtual 83, 3, 86, 3)]) (by decide +kernel) (by rfl) (List.forall_mem_cons.mpr ⟨sRL_invokevirtual_73 false 440, List.forall_mem_cons.mpr ⟨sRL_invokevirtual_74 false 455, List.forall_mem_cons.mpr ⟨sRL_invokevirtual_78 false 465, List.forall_mem_cons.mpr ⟨sRL_invokevirtual_79 false 481, List.forall_mem_cons.mpr ⟨sRL_invokevirtual_82 false 491, List.forall_mem_cons.mpr ⟨sRL_invokevirtual_83 false 512, fun _ h => absurd h List.not_mem_nil⟩⟩⟩⟩⟩⟩)
set_option maxRecDepth 100000 in
theorem vkL_law_5 : ∀ e ∈ kL_law_5, xE RL false cL_law e := xE_all (o := [(528, .invokevirtual 86, 3, 152, 3), (543, .invokevirtual 87, 3, 87, 2), (553, .invokevirtual 90, 3, 153, 2), (568, .invokevirtual 91, 3, 88, 2), (578, .invokevirtual 94, 3, 159, 2), (594, .invokevirtual 95, 3, 89, 2), (604, .invokevirtual 98, 3, 160, 2)]) (by decide +kernel) (by rfl) (List.forall_mem_cons.mpr ⟨sRL_invokevirtual_86 false 528, List.forall_mem_cons.mpr ⟨sRL_invokevirtual_87 false 543, List.forall_mem_cons.mpr ⟨sRL_invokevirtual_90 false 553, List.forall_mem_cons.mpr ⟨sRL_invokevirtual_91 false 568, List.forall_mem_cons.mpr ⟨sRL_invokevirtual_94 false 578, List.forall_mem_cons.mpr ⟨sRL_invokevirtual_95 false 594, List.forall_mem_cons.mpr ⟨sRL_invokevirtual_98 false 604, fun _ h => absurd h List.not_mem_nil⟩⟩⟩⟩⟩⟩⟩)
end
section
set_option maxRecDepth 100000 in
theorem vkL_law_6 : ∀ e ∈ kL_law_6, xE RL false cL_law e := xE_all (o := [(619, .invokevirtual 99, 3, 90, 2), (629, .invokevirtual 102, 3, 161, 2), (638, .invokevirtual 103, 3, 91, 1), (642, .invokevirtual 106, 3, 162, 1), (656, .invokestatic 107, 3, 1004, 3), (668, .invokevirtual 110, 3, 163, 2), (674, .invokevirtual 111, 3, 97, 1)]) (by decide +kernel) (by rfl) (List.forall_mem_cons.mpr ⟨sRL_invokevirtual_99 false 619, List.forall_mem_cons.mpr ⟨sRL_invokevirtual_102 false 629, List.forall_mem_cons.mpr ⟨sRL_invokevirtual_103 false 638, List.forall_mem_cons.mpr ⟨sRL_invokevirtual_106 false 642, List.forall_mem_cons.mpr ⟨sRL_invokestatic_107 false 656, List.forall_mem_cons.mpr ⟨sRL_invokevirtual_110 false 668, List.forall_mem_cons.mpr ⟨sRL_invokevirtual_111 false 674, fun _ h => absurd h List.not_mem_nil⟩⟩⟩⟩⟩⟩⟩)
set_option maxRecDepth 100000 in
theorem vkL_law_7 : ∀ e ∈ kL_law_7, xE RL false cL_law e := xE_all (o := []) (by decide +kernel) (by rfl) (fun _ h => absurd h List.not_mem_nil)
set_option maxRecDepth 100000 in
theorem vkL_law : ∀ e ∈ kL_law, xE RL false cL_law e := (fun e h => (List.mem_append.mp h).elim (vkL_law_0 e) ((fun e h => (List.mem_append.mp h).elim (vkL_law_1 e) ((fun e h => (List.mem_append.mp h).elim (vkL_law_2 e) ((fun e h => (List.mem_append.mp h).elim (vkL_law_3 e) ((fun e h => (List.mem_append.mp h).elim (vkL_law_4 e) ((fun e h => (List.mem_append.mp h).elim (vkL_law_5 e) ((fun e h => (List.mem_append.mp h).elim (vkL_law_6 e) (vkL_law_7 e)) e)) e)) e)) e)) e)) e))
end
section
theorem xcX0_init : xcode 0 = kX0_init := rfl
theorem xqX0_init : xnl 0 = 2 ∧ xrt 0 = 0 := ⟨rfl, rfl⟩
theorem xmX0_init : xMok 0 (yX0_init, cX0_init, none, true) := by
  unfold xMok
  rw [xcX0_init, xqX0_init.1, xqX0_init.2]
  exact ⟨by decide +kernel, (fun _ => (xG_of 552 (by decide +kernel) (by decide +kernel))), by decide, (fun _ => rfl), (fun z => absurd z (by decide)), (fun z => absurd z (by decide)), (fun z => absurd z (by decide)), (fun _ => rfl), vkX0_init⟩
theorem xcX0_forget : xcode 1 = kX0_forget := rfl
theorem xqX0_forget : xnl 1 = 1 ∧ xrt 1 = 0 := ⟨rfl, rfl⟩
theorem xmX0_forget : xMok 1 (yX0_forget, cX0_forget, none, false) := by
  unfold xMok
  rw [xcX0_forget, xqX0_forget.1, xqX0_forget.2]
  exact ⟨by decide +kernel, (fun _ => (xG_of 1051 (by decide +kernel) (by decide +kernel))), by decide, (fun _ => rfl), (fun z => absurd z (by decide)), (fun z => absurd z (by decide)), (fun z => absurd z (by decide)), (fun z => by cases z), vkX0_forget⟩
theorem xcX0_addCut : xcode 2 = kX0_addCut := rfl
theorem xqX0_addCut : xnl 2 = 4 ∧ xrt 2 = 3 := ⟨rfl, rfl⟩
theorem xmX0_addCut : xMok 2 (yX0_addCut, cX0_addCut, some .boolean, false) := by
  unfold xMok
  rw [xcX0_addCut, xqX0_addCut.1, xqX0_addCut.2]
  exact ⟨by decide +kernel, (fun _ => (xG_of 1012 (by decide +kernel) (by decide +kernel))), by decide, (fun z => absurd z (by decide)), (fun z => absurd z (by decide)), (fun z => absurd z (by decide)), (fun _ => rfl), (fun z => by cases z), vkX0_addCut⟩
theorem xcX0_divide : xcode 3 = kX0_divide := rfl
theorem xqX0_divide : xnl 3 = 4 ∧ xrt 3 = 2 := ⟨rfl, rfl⟩
theorem xmX0_divide : xMok 3 (yX0_divide, cX0_divide, some .long, false) := by
  unfold xMok
  rw [xcX0_divide, xqX0_divide.1, xqX0_divide.2]
  exact ⟨by decide +kernel, (fun _ => (xG_of 1021 (by decide +kernel) (by decide +kernel))), by decide, (fun z => absurd z (by decide)), (fun z => absurd z (by decide)), (fun _ => rfl), (fun z => absurd z (by decide)), (fun z => by cases z), vkX0_divide⟩
theorem xcX0_findRest : xcode 4 = kX0_findRest := rfl
theorem xqX0_findRest : xnl 4 = 12 ∧ xrt 4 = 0 := ⟨rfl, rfl⟩
theorem xmX0_findRest : xMok 4 (yX0_findRest, cX0_findRest, none, false) := by
  unfold xMok
  rw [xcX0_findRest, xqX0_findRest.1, xqX0_findRest.2]
  exact ⟨by decide +kernel, (fun _ => (xG_of 1025 (by decide +kernel) (by decide +kernel))), by decide, (fun _ => rfl), (fun z => absurd z (by decide)), (fun z => absurd z (by decide)), (fun z => absurd z (by decide)), (fun z => by cases z), vkX0_findRest⟩
theorem xcX0_countOctet : xcode 5 = kX0_countOctet := rfl
theorem xqX0_countOctet : xnl 5 = 3 ∧ xrt 5 = 1 := ⟨rfl, rfl⟩
theorem xmX0_countOctet : xMok 5 (yX0_countOctet, cX0_countOctet, some .int, false) := by
  unfold xMok
  rw [xcX0_countOctet, xqX0_countOctet.1, xqX0_countOctet.2]
  exact ⟨by decide +kernel, (fun _ => (xG_of 1034 (by decide +kernel) (by decide +kernel))), by decide, (fun z => absurd z (by decide)), (fun _ => rfl), (fun z => absurd z (by decide)), (fun z => absurd z (by decide)), (fun z => by cases z), vkX0_countOctet⟩
theorem xcX0_placeOf : xcode 6 = kX0_placeOf := rfl
theorem xqX0_placeOf : xnl 6 = 2 ∧ xrt 6 = 1 := ⟨rfl, rfl⟩
theorem xmX0_placeOf : xMok 6 (yX0_placeOf, cX0_placeOf, some .int, false) := by
  unfold xMok
  rw [xcX0_placeOf, xqX0_placeOf.1, xqX0_placeOf.2]
  exact ⟨by decide +kernel, (fun _ => (xG_of 1030 (by decide +kernel) (by decide +kernel))), by decide, (fun z => absurd z (by decide)), (fun _ => rfl), (fun z => absurd z (by decide)), (fun z => absurd z (by decide)), (fun z => by cases z), vkX0_placeOf⟩
theorem xcX1_init : xcode 7 = kX1_init := rfl
theorem xqX1_init : xnl 7 = 2 ∧ xrt 7 = 0 := ⟨rfl, rfl⟩
theorem xmX1_init : xMok 7 (yX1_init, cX1_init, none, true) := by
  unfold xMok
  rw [xcX1_init, xqX1_init.1, xqX1_init.2]
  exact ⟨by decide +kernel, (fun _ => (xG_of 94 (by decide +kernel) (by decide +kernel))), by decide, (fun _ => rfl), (fun z => absurd z (by decide)), (fun z => absurd z (by decide)), (fun z => absurd z (by decide)), (fun _ => rfl), vkX1_init⟩
theorem xcX1_reset : xcode 8 = kX1_reset := rfl
theorem xqX1_reset : xnl 8 = 2 ∧ xrt 8 = 0 := ⟨rfl, rfl⟩
theorem xmX1_reset : xMok 8 (yX1_reset, cX1_reset, none, false) := by
  unfold xMok
  rw [xcX1_reset, xqX1_reset.1, xqX1_reset.2]
  exact ⟨by decide +kernel, (fun _ => (xG_of 99 (by decide +kernel) (by decide +kernel))), by decide, (fun _ => rfl), (fun z => absurd z (by decide)), (fun z => absurd z (by decide)), (fun z => absurd z (by decide)), (fun z => by cases z), vkX1_reset⟩
theorem xcX1_has : xcode 9 = kX1_has := rfl
theorem xqX1_has : xnl 9 = 3 ∧ xrt 9 = 3 := ⟨rfl, rfl⟩
theorem xmX1_has : xMok 9 (yX1_has, cX1_has, some .boolean, false) := by
  unfold xMok
  rw [xcX1_has, xqX1_has.1, xqX1_has.2]
  exact ⟨by decide +kernel, (fun _ => (xG_of 693 (by decide +kernel) (by decide +kernel))), by decide, (fun z => absurd z (by decide)), (fun z => absurd z (by decide)), (fun z => absurd z (by decide)), (fun _ => rfl), (fun z => by cases z), vkX1_has⟩
theorem xcX1_of : xcode 10 = kX1_of := rfl
theorem xqX1_of : xnl 10 = 3 ∧ xrt 10 = 1 := ⟨rfl, rfl⟩
theorem xmX1_of : xMok 10 (yX1_of, cX1_of, some .int, false) := by
  unfold xMok
  rw [xcX1_of, xqX1_of.1, xqX1_of.2]
  exact ⟨by decide +kernel, (fun _ => (xG_of 697 (by decide +kernel) (by decide +kernel))), by decide, (fun z => absurd z (by decide)), (fun _ => rfl), (fun z => absurd z (by decide)), (fun z => absurd z (by decide)), (fun z => by cases z), vkX1_of⟩
theorem xcX1_put : xcode 11 = kX1_put := rfl
theorem xqX1_put : xnl 11 = 4 ∧ xrt 11 = 0 := ⟨rfl, rfl⟩
theorem xmX1_put : xMok 11 (yX1_put, cX1_put, none, false) := by
  unfold xMok
  rw [xcX1_put, xqX1_put.1, xqX1_put.2]
  exact ⟨by decide +kernel, (fun _ => (xG_of 702 (by decide +kernel) (by decide +kernel))), by decide, (fun _ => rfl), (fun z => absurd z (by decide)), (fun z => absurd z (by decide)), (fun z => absurd z (by decide)), (fun z => by cases z), vkX1_put⟩
theorem xcX1_copyFrom : xcode 12 = kX1_copyFrom := rfl
theorem xqX1_copyFrom : xnl 12 = 2 ∧ xrt 12 = 0 := ⟨rfl, rfl⟩
theorem xmX1_copyFrom : xMok 12 (yX1_copyFrom, cX1_copyFrom, none, false) := by
  unfold xMok
  rw [xcX1_copyFrom, xqX1_copyFrom.1, xqX1_copyFrom.2]
  exact ⟨by decide +kernel, (fun _ => (xG_of 989 (by decide +kernel) (by decide +kernel))), by decide, (fun _ => rfl), (fun z => absurd z (by decide)), (fun z => absurd z (by decide)), (fun z => absurd z (by decide)), (fun z => by cases z), vkX1_copyFrom⟩
theorem xcX1_prepare : xcode 13 = kX1_prepare := rfl
theorem xqX1_prepare : xnl 13 = 3 ∧ xrt 13 = 0 := ⟨rfl, rfl⟩
theorem xmX1_prepare : xMok 13 (yX1_prepare, cX1_prepare, none, false) := by
  unfold xMok
  rw [xcX1_prepare, xqX1_prepare.1, xqX1_prepare.2]
  exact ⟨by decide +kernel, (fun _ => (xG_of 732 (by decide +kernel) (by decide +kernel))), by decide, (fun _ => rfl), (fun z => absurd z (by decide)), (fun z => absurd z (by decide)), (fun z => absurd z (by decide)), (fun z => by cases z), vkX1_prepare⟩
theorem xcX1_literalCost : xcode 14 = kX1_literalCost := rfl
theorem xqX1_literalCost : xnl 14 = 2 ∧ xrt 14 = 1 := ⟨rfl, rfl⟩
theorem xmX1_literalCost : xMok 14 (yX1_literalCost, cX1_literalCost, some .int, false) := by
  unfold xMok
  rw [xcX1_literalCost, xqX1_literalCost.1, xqX1_literalCost.2]
  exact ⟨by decide +kernel, (fun _ => (xG_of 820 (by decide +kernel) (by decide +kernel))), by decide, (fun z => absurd z (by decide)), (fun _ => rfl), (fun z => absurd z (by decide)), (fun z => absurd z (by decide)), (fun z => by cases z), vkX1_literalCost⟩
theorem xcX1_kindCost : xcode 15 = kX1_kindCost := rfl
theorem xqX1_kindCost : xnl 15 = 2 ∧ xrt 15 = 1 := ⟨rfl, rfl⟩
theorem xmX1_kindCost : xMok 15 (yX1_kindCost, cX1_kindCost, some .int, false) := by
  unfold xMok
  rw [xcX1_kindCost, xqX1_kindCost.1, xqX1_kindCost.2]
  exact ⟨by decide +kernel, (fun _ => (xG_of 774 (by decide +kernel) (by decide +kernel))), by decide, (fun z => absurd z (by decide)), (fun _ => rfl), (fun z => absurd z (by decide)), (fun z => absurd z (by decide)), (fun z => by cases z), vkX1_kindCost⟩
theorem xcX1_stepCost : xcode 16 = kX1_stepCost := rfl
theorem xqX1_stepCost : xnl 16 = 6 ∧ xrt 16 = 1 := ⟨rfl, rfl⟩
theorem xmX1_stepCost : xMok 16 (yX1_stepCost, cX1_stepCost, some .int, false) := by
  unfold xMok
  rw [xcX1_stepCost, xqX1_stepCost.1, xqX1_stepCost.2]
  exact ⟨by decide +kernel, (fun _ => (xG_of 901 (by decide +kernel) (by decide +kernel))), by decide, (fun z => absurd z (by decide)), (fun _ => rfl), (fun z => absurd z (by decide)), (fun z => absurd z (by decide)), (fun z => by cases z), vkX1_stepCost⟩
theorem xcX1_lengthCost : xcode 17 = kX1_lengthCost := rfl
theorem xqX1_lengthCost : xnl 17 = 2 ∧ xrt 17 = 1 := ⟨rfl, rfl⟩
theorem xmX1_lengthCost : xMok 17 (yX1_lengthCost, cX1_lengthCost, some .int, false) := by
  unfold xMok
  rw [xcX1_lengthCost, xqX1_lengthCost.1, xqX1_lengthCost.2]
  exact ⟨by decide +kernel, (fun _ => (xG_of 736 (by decide +kernel) (by decide +kernel))), by decide, (fun z => absurd z (by decide)), (fun _ => rfl), (fun z => absurd z (by decide)), (fun z => absurd z (by decide)), (fun z => by cases z), vkX1_lengthCost⟩
theorem xcX1_distanceCost : xcode 18 = kX1_distanceCost := rfl
theorem xqX1_distanceCost : xnl 18 = 2 ∧ xrt 18 = 1 := ⟨rfl, rfl⟩
theorem xmX1_distanceCost : xMok 18 (yX1_distanceCost, cX1_distanceCost, some .int, false) := by
  unfold xMok
  rw [xcX1_distanceCost, xqX1_distanceCost.1, xqX1_distanceCost.2]
  exact ⟨by decide +kernel, (fun _ => (xG_of 747 (by decide +kernel) (by decide +kernel))), by decide, (fun z => absurd z (by decide)), (fun _ => rfl), (fun z => absurd z (by decide)), (fun z => absurd z (by decide)), (fun z => by cases z), vkX1_distanceCost⟩
theorem xcX1_lengthSlot : xcode 19 = kX1_lengthSlot := rfl
theorem xqX1_lengthSlot : xnl 19 = 2 ∧ xrt 19 = 1 := ⟨rfl, rfl⟩
theorem xmX1_lengthSlot : xMok 19 (yX1_lengthSlot, cX1_lengthSlot, some .int, false) := by
  unfold xMok
  rw [xcX1_lengthSlot, xqX1_lengthSlot.1, xqX1_lengthSlot.2]
  exact ⟨by decide +kernel, (fun _ => (xG_of 739 (by decide +kernel) (by decide +kernel))), by decide, (fun z => absurd z (by decide)), (fun _ => rfl), (fun z => absurd z (by decide)), (fun z => absurd z (by decide)), (fun z => by cases z), vkX1_lengthSlot⟩
theorem xcX1_distanceSlot : xcode 20 = kX1_distanceSlot := rfl
theorem xqX1_distanceSlot : xnl 20 = 2 ∧ xrt 20 = 1 := ⟨rfl, rfl⟩
theorem xmX1_distanceSlot : xMok 20 (yX1_distanceSlot, cX1_distanceSlot, some .int, false) := by
  unfold xMok
  rw [xcX1_distanceSlot, xqX1_distanceSlot.1, xqX1_distanceSlot.2]
  exact ⟨by decide +kernel, (fun _ => (xG_of 750 (by decide +kernel) (by decide +kernel))), by decide, (fun z => absurd z (by decide)), (fun _ => rfl), (fun z => absurd z (by decide)), (fun z => absurd z (by decide)), (fun z => by cases z), vkX1_distanceSlot⟩
theorem xcX1_fitTo : xcode 21 = kX1_fitTo := rfl
theorem xqX1_fitTo : xnl 21 = 4 ∧ xrt 21 = 0 := ⟨rfl, rfl⟩
theorem xmX1_fitTo : xMok 21 (yX1_fitTo, cX1_fitTo, none, false) := by
  unfold xMok
  rw [xcX1_fitTo, xqX1_fitTo.1, xqX1_fitTo.2]
  exact ⟨by decide +kernel, (fun _ => (xG_of 967 (by decide +kernel) (by decide +kernel))), by decide, (fun _ => rfl), (fun z => absurd z (by decide)), (fun z => absurd z (by decide)), (fun z => absurd z (by decide)), (fun z => by cases z), vkX1_fitTo⟩
theorem xcX1_countSymbols : xcode 22 = kX1_countSymbols := rfl
theorem xqX1_countSymbols : xnl 22 = 5 ∧ xrt 22 = 0 := ⟨rfl, rfl⟩
theorem xmX1_countSymbols : xMok 22 (yX1_countSymbols, cX1_countSymbols, none, false) := by
  unfold xMok
  rw [xcX1_countSymbols, xqX1_countSymbols.1, xqX1_countSymbols.2]
  exact ⟨by decide +kernel, (fun _ => (xG_of 971 (by decide +kernel) (by decide +kernel))), by decide, (fun _ => rfl), (fun z => absurd z (by decide)), (fun z => absurd z (by decide)), (fun z => absurd z (by decide)), (fun z => by cases z), vkX1_countSymbols⟩
theorem xcX1_countOne : xcode 23 = kX1_countOne := rfl
theorem xqX1_countOne : xnl 23 = 3 ∧ xrt 23 = 0 := ⟨rfl, rfl⟩
theorem xmX1_countOne : xMok 23 (yX1_countOne, cX1_countOne, none, false) := by
  unfold xMok
  rw [xcX1_countOne, xqX1_countOne.1, xqX1_countOne.2]
  exact ⟨by decide +kernel, (fun _ => (xG_of 976 (by decide +kernel) (by decide +kernel))), by decide, (fun _ => rfl), (fun z => absurd z (by decide)), (fun z => absurd z (by decide)), (fun z => absurd z (by decide)), (fun z => by cases z), vkX1_countOne⟩
theorem xcX1_fitClass : xcode 24 = kX1_fitClass := rfl
theorem xqX1_fitClass : xnl 24 = 6 ∧ xrt 24 = 0 := ⟨rfl, rfl⟩
theorem xmX1_fitClass : xMok 24 (yX1_fitClass, cX1_fitClass, none, false) := by
  unfold xMok
  rw [xcX1_fitClass, xqX1_fitClass.1, xqX1_fitClass.2]
  exact ⟨by decide +kernel, (fun _ => (xG_of 980 (by decide +kernel) (by decide +kernel))), by decide, (fun _ => rfl), (fun z => absurd z (by decide)), (fun z => absurd z (by decide)), (fun z => absurd z (by decide)), (fun z => by cases z), vkX1_fitClass⟩
theorem xcX2_init : xcode 25 = kX2_init := rfl
theorem xqX2_init : xnl 25 = 3 ∧ xrt 25 = 0 := ⟨rfl, rfl⟩
theorem xmX2_init : xMok 25 (yX2_init, cX2_init, none, true) := by
  unfold xMok
  rw [xcX2_init, xqX2_init.1, xqX2_init.2]
  exact ⟨by decide +kernel, (fun _ => (xG_of 442 (by decide +kernel) (by decide +kernel))), by decide, (fun _ => rfl), (fun z => absurd z (by decide)), (fun z => absurd z (by decide)), (fun z => absurd z (by decide)), (fun _ => rfl), vkX2_init⟩
theorem xcX2_costOf : xcode 26 = kX2_costOf := rfl
theorem xqX2_costOf : xnl 26 = 4 ∧ xrt 26 = 2 := ⟨rfl, rfl⟩
theorem xmX2_costOf : xMok 26 (yX2_costOf, cX2_costOf, some .long, false) := by
  unfold xMok
  rw [xcX2_costOf, xqX2_costOf.1, xqX2_costOf.2]
  exact ⟨by decide +kernel, (fun _ => (xG_of 897 (by decide +kernel) (by decide +kernel))), by decide, (fun z => absurd z (by decide)), (fun z => absurd z (by decide)), (fun _ => rfl), (fun z => absurd z (by decide)), (fun z => by cases z), vkX2_costOf⟩
theorem xcX3_at : xcode 27 = kX3_at := rfl
theorem xqX3_at : xnl 27 = 3 ∧ xrt 27 = 1 := ⟨rfl, rfl⟩
theorem xmX3_at : xMok 27 (yX3_at, cX3_at, some .int, false) := by
  unfold xMok
  rw [xcX3_at, xqX3_at.1, xqX3_at.2]
  exact ⟨by decide +kernel, (fun _ => (xG_of 808 (by decide +kernel) (by decide +kernel))), by decide, (fun z => absurd z (by decide)), (fun _ => rfl), (fun z => absurd z (by decide)), (fun z => absurd z (by decide)), (fun z => by cases z), vkX3_at⟩
theorem xcX3_behindCopy : xcode 28 = kX3_behindCopy := rfl
theorem xqX3_behindCopy : xnl 28 = 3 ∧ xrt 28 = 2 := ⟨rfl, rfl⟩
theorem xmX3_behindCopy : xMok 28 (yX3_behindCopy, cX3_behindCopy, some .long, false) := by
  unfold xMok
  rw [xcX3_behindCopy, xqX3_behindCopy.1, xqX3_behindCopy.2]
  exact ⟨by decide +kernel, (fun _ => (xG_of 789 (by decide +kernel) (by decide +kernel))), by decide, (fun z => absurd z (by decide)), (fun z => absurd z (by decide)), (fun _ => rfl), (fun z => absurd z (by decide)), (fun z => by cases z), vkX3_behindCopy⟩
theorem xcX3_behindAgain : xcode 29 = kX3_behindAgain := rfl
theorem xqX3_behindAgain : xnl 29 = 8 ∧ xrt 29 = 2 := ⟨rfl, rfl⟩
theorem xmX3_behindAgain : xMok 29 (yX3_behindAgain, cX3_behindAgain, some .long, false) := by
  unfold xMok
  rw [xcX3_behindAgain, xqX3_behindAgain.1, xqX3_behindAgain.2]
  exact ⟨by decide +kernel, (fun _ => (xG_of 815 (by decide +kernel) (by decide +kernel))), by decide, (fun z => absurd z (by decide)), (fun z => absurd z (by decide)), (fun _ => rfl), (fun z => absurd z (by decide)), (fun z => by cases z), vkX3_behindAgain⟩
theorem xcX4_init : xcode 30 = kX4_init := rfl
theorem xqX4_init : xnl 30 = 3 ∧ xrt 30 = 0 := ⟨rfl, rfl⟩
theorem xmX4_init : xMok 30 (yX4_init, cX4_init, none, true) := by
  unfold xMok
  rw [xcX4_init, xqX4_init.1, xqX4_init.2]
  exact ⟨by decide +kernel, (fun _ => (xG_of 498 (by decide +kernel) (by decide +kernel))), by decide, (fun _ => rfl), (fun z => absurd z (by decide)), (fun z => absurd z (by decide)), (fun z => absurd z (by decide)), (fun _ => rfl), vkX4_init⟩
theorem xcX4_findBest : xcode 31 = kX4_findBest := rfl
theorem xqX4_findBest : xnl 31 = 6 ∧ xrt 31 = 1 := ⟨rfl, rfl⟩
theorem xmX4_findBest : xMok 31 (yX4_findBest, cX4_findBest, some .int, false) := by
  unfold xMok
  rw [xcX4_findBest, xqX4_findBest.1, xqX4_findBest.2]
  exact ⟨by decide +kernel, (fun _ => (xG_of 724 (by decide +kernel) (by decide +kernel))), by decide, (fun z => absurd z (by decide)), (fun _ => rfl), (fun z => absurd z (by decide)), (fun z => absurd z (by decide)), (fun z => by cases z), vkX4_findBest⟩
theorem xcX4_begin : xcode 32 = kX4_begin := rfl
theorem xqX4_begin : xnl 32 = 3 ∧ xrt 32 = 0 := ⟨rfl, rfl⟩
theorem xmX4_begin : xMok 32 (yX4_begin, cX4_begin, none, false) := by
  unfold xMok
  rw [xcX4_begin, xqX4_begin.1, xqX4_begin.2]
  exact ⟨by decide +kernel, (fun _ => (xG_of 728 (by decide +kernel) (by decide +kernel))), by decide, (fun _ => rfl), (fun z => absurd z (by decide)), (fun z => absurd z (by decide)), (fun z => absurd z (by decide)), (fun z => by cases z), vkX4_begin⟩
theorem xcX4_goFrom : xcode 33 = kX4_goFrom := rfl
theorem xqX4_goFrom : xnl 33 = 6 ∧ xrt 33 = 0 := ⟨rfl, rfl⟩
theorem xmX4_goFrom : xMok 33 (yX4_goFrom, cX4_goFrom, none, false) := by
  unfold xMok
  rw [xcX4_goFrom, xqX4_goFrom.1, xqX4_goFrom.2]
  exact ⟨by decide +kernel, (fun _ => (xG_of 761 (by decide +kernel) (by decide +kernel))), by decide, (fun _ => rfl), (fun z => absurd z (by decide)), (fun z => absurd z (by decide)), (fun z => absurd z (by decide)), (fun z => by cases z), vkX4_goFrom⟩
theorem xcX4_copiesWereLed : xcode 34 = kX4_copiesWereLed := rfl
theorem xqX4_copiesWereLed : xnl 34 = 3 ∧ xrt 34 = 3 := ⟨rfl, rfl⟩
theorem xmX4_copiesWereLed : xMok 34 (yX4_copiesWereLed, cX4_copiesWereLed, some .boolean, false) := by
  unfold xMok
  rw [xcX4_copiesWereLed, xqX4_copiesWereLed.1, xqX4_copiesWereLed.2]
  exact ⟨by decide +kernel, (fun _ => (xG_of 766 (by decide +kernel) (by decide +kernel))), by decide, (fun z => absurd z (by decide)), (fun z => absurd z (by decide)), (fun z => absurd z (by decide)), (fun _ => rfl), (fun z => by cases z), vkX4_copiesWereLed⟩
theorem xcX4_leadByCopies : xcode 35 = kX4_leadByCopies := rfl
theorem xqX4_leadByCopies : xnl 35 = 5 ∧ xrt 35 = 0 := ⟨rfl, rfl⟩
theorem xmX4_leadByCopies : xMok 35 (yX4_leadByCopies, cX4_leadByCopies, none, false) := by
  unfold xMok
  rw [xcX4_leadByCopies, xqX4_leadByCopies.1, xqX4_leadByCopies.2]
  exact ⟨by decide +kernel, (fun _ => (xG_of 770 (by decide +kernel) (by decide +kernel))), by decide, (fun _ => rfl), (fun z => absurd z (by decide)), (fun z => absurd z (by decide)), (fun z => absurd z (by decide)), (fun z => by cases z), vkX4_leadByCopies⟩
theorem xcX4_leadByAgain : xcode 36 = kX4_leadByAgain := rfl
theorem xqX4_leadByAgain : xnl 36 = 6 ∧ xrt 36 = 0 := ⟨rfl, rfl⟩
theorem xmX4_leadByAgain : xMok 36 (yX4_leadByAgain, cX4_leadByAgain, none, false) := by
  unfold xMok
  rw [xcX4_leadByAgain, xqX4_leadByAgain.1, xqX4_leadByAgain.2]
  exact ⟨by decide +kernel, (fun _ => (xG_of 805 (by decide +kernel) (by decide +kernel))), by decide, (fun _ => rfl), (fun z => absurd z (by decide)), (fun z => absurd z (by decide)), (fun z => absurd z (by decide)), (fun z => by cases z), vkX4_leadByAgain⟩
theorem xcX4_lead : xcode 37 = kX4_lead := rfl
theorem xqX4_lead : xnl 37 = 12 ∧ xrt 37 = 0 := ⟨rfl, rfl⟩
theorem xmX4_lead : xMok 37 (yX4_lead, cX4_lead, none, false) := by
  unfold xMok
  rw [xcX4_lead, xqX4_lead.1, xqX4_lead.2]
  exact ⟨by decide +kernel, (fun _ => (xG_of 793 (by decide +kernel) (by decide +kernel))), by decide, (fun _ => rfl), (fun z => absurd z (by decide)), (fun z => absurd z (by decide)), (fun z => absurd z (by decide)), (fun z => by cases z), vkX4_lead⟩
theorem xcX4_makeRoom : xcode 38 = kX4_makeRoom := rfl
theorem xqX4_makeRoom : xnl 38 = 2 ∧ xrt 38 = 3 := ⟨rfl, rfl⟩
theorem xmX4_makeRoom : xMok 38 (yX4_makeRoom, cX4_makeRoom, some .boolean, false) := by
  unfold xMok
  rw [xcX4_makeRoom, xqX4_makeRoom.1, xqX4_makeRoom.2]
  exact ⟨by decide +kernel, (fun _ => (xG_of 797 (by decide +kernel) (by decide +kernel))), by decide, (fun z => absurd z (by decide)), (fun z => absurd z (by decide)), (fun z => absurd z (by decide)), (fun _ => rfl), (fun z => by cases z), vkX4_makeRoom⟩
theorem xcX4_insert : xcode 39 = kX4_insert := rfl
theorem xqX4_insert : xnl 39 = 7 ∧ xrt 39 = 0 := ⟨rfl, rfl⟩
theorem xmX4_insert : xMok 39 (yX4_insert, cX4_insert, none, false) := by
  unfold xMok
  rw [xcX4_insert, xqX4_insert.1, xqX4_insert.2]
  exact ⟨by decide +kernel, (fun _ => (xG_of 801 (by decide +kernel) (by decide +kernel))), by decide, (fun _ => rfl), (fun z => absurd z (by decide)), (fun z => absurd z (by decide)), (fun z => absurd z (by decide)), (fun z => by cases z), vkX4_insert⟩
theorem xcX4_tellSteps : xcode 40 = kX4_tellSteps := rfl
theorem xqX4_tellSteps : xnl 40 = 8 ∧ xrt 40 = 0 := ⟨rfl, rfl⟩
theorem xmX4_tellSteps : xMok 40 (yX4_tellSteps, cX4_tellSteps, none, false) := by
  unfold xMok
  rw [xcX4_tellSteps, xqX4_tellSteps.1, xqX4_tellSteps.2]
  exact ⟨by decide +kernel, (fun _ => (xG_of 824 (by decide +kernel) (by decide +kernel))), by decide, (fun _ => rfl), (fun z => absurd z (by decide)), (fun z => absurd z (by decide)), (fun z => absurd z (by decide)), (fun z => by cases z), vkX4_tellSteps⟩
theorem xcX5_init : xcode 41 = kX5_init := rfl
theorem xqX5_init : xnl 41 = 4 ∧ xrt 41 = 0 := ⟨rfl, rfl⟩
theorem xmX5_init : xMok 41 (yX5_init, cX5_init, none, true) := by
  unfold xMok
  rw [xcX5_init, xqX5_init.1, xqX5_init.2]
  exact ⟨by decide +kernel, (fun _ => (xG_of 471 (by decide +kernel) (by decide +kernel))), by decide, (fun _ => rfl), (fun z => absurd z (by decide)), (fun z => absurd z (by decide)), (fun z => absurd z (by decide)), (fun _ => rfl), vkX5_init⟩
theorem xcX5_findBest : xcode 42 = kX5_findBest := rfl
theorem xqX5_findBest : xnl 42 = 5 ∧ xrt 42 = 1 := ⟨rfl, rfl⟩
theorem xmX5_findBest : xMok 42 (yX5_findBest, cX5_findBest, some .int, false) := by
  unfold xMok
  rw [xcX5_findBest, xqX5_findBest.1, xqX5_findBest.2]
  exact ⟨by decide +kernel, (fun _ => (xG_of 842 (by decide +kernel) (by decide +kernel))), by decide, (fun z => absurd z (by decide)), (fun _ => rfl), (fun z => absurd z (by decide)), (fun z => absurd z (by decide)), (fun z => by cases z), vkX5_findBest⟩
theorem xcX5_findFirst : xcode 43 = kX5_findFirst := rfl
theorem xqX5_findFirst : xnl 43 = 5 ∧ xrt 43 = 0 := ⟨rfl, rfl⟩
theorem xmX5_findFirst : xMok 43 (yX5_findFirst, cX5_findFirst, none, false) := by
  unfold xMok
  rw [xcX5_findFirst, xqX5_findFirst.1, xqX5_findFirst.2]
  exact ⟨by decide +kernel, (fun _ => (xG_of 851 (by decide +kernel) (by decide +kernel))), by decide, (fun _ => rfl), (fun z => absurd z (by decide)), (fun z => absurd z (by decide)), (fun z => absurd z (by decide)), (fun z => by cases z), vkX5_findFirst⟩
theorem xcX5_lead : xcode 44 = kX5_lead := rfl
theorem xqX5_lead : xnl 44 = 4 ∧ xrt 44 = 0 := ⟨rfl, rfl⟩
theorem xmX5_lead : xMok 44 (yX5_lead, cX5_lead, none, false) := by
  unfold xMok
  rw [xcX5_lead, xqX5_lead.1, xqX5_lead.2]
  exact ⟨by decide +kernel, (fun _ => (xG_of 855 (by decide +kernel) (by decide +kernel))), by decide, (fun _ => rfl), (fun z => absurd z (by decide)), (fun z => absurd z (by decide)), (fun z => absurd z (by decide)), (fun z => by cases z), vkX5_lead⟩
theorem xcX5_tellSteps : xcode 45 = kX5_tellSteps := rfl
theorem xqX5_tellSteps : xnl 45 = 5 ∧ xrt 45 = 0 := ⟨rfl, rfl⟩
theorem xmX5_tellSteps : xMok 45 (yX5_tellSteps, cX5_tellSteps, none, false) := by
  unfold xMok
  rw [xcX5_tellSteps, xqX5_tellSteps.1, xqX5_tellSteps.2]
  exact ⟨by decide +kernel, (fun _ => (xG_of 862 (by decide +kernel) (by decide +kernel))), by decide, (fun _ => rfl), (fun z => absurd z (by decide)), (fun z => absurd z (by decide)), (fun z => absurd z (by decide)), (fun z => by cases z), vkX5_tellSteps⟩
theorem xcX5_costOf : xcode 46 = kX5_costOf := rfl
theorem xqX5_costOf : xnl 46 = 5 ∧ xrt 46 = 2 := ⟨rfl, rfl⟩
theorem xmX5_costOf : xMok 46 (yX5_costOf, cX5_costOf, some .long, false) := by
  unfold xMok
  rw [xcX5_costOf, xqX5_costOf.1, xqX5_costOf.2]
  exact ⟨by decide +kernel, (fun _ => (xG_of 895 (by decide +kernel) (by decide +kernel))), by decide, (fun z => absurd z (by decide)), (fun z => absurd z (by decide)), (fun _ => rfl), (fun z => absurd z (by decide)), (fun z => by cases z), vkX5_costOf⟩
theorem xcX5_copyCost : xcode 47 = kX5_copyCost := rfl
theorem xqX5_copyCost : xnl 47 = 1 ∧ xrt 47 = 1 := ⟨rfl, rfl⟩
theorem xmX5_copyCost : xMok 47 (yX5_copyCost, cX5_copyCost, some .int, false) := by
  unfold xMok
  rw [xcX5_copyCost, xqX5_copyCost.1, xqX5_copyCost.2]
  exact ⟨by decide +kernel, (fun _ => (xG_of 858 (by decide +kernel) (by decide +kernel))), by decide, (fun z => absurd z (by decide)), (fun _ => rfl), (fun z => absurd z (by decide)), (fun z => absurd z (by decide)), (fun z => by cases z), vkX5_copyCost⟩
theorem xcX5_beyond : xcode 48 = kX5_beyond := rfl
theorem xqX5_beyond : xnl 48 = 2 ∧ xrt 48 = 1 := ⟨rfl, rfl⟩
theorem xmX5_beyond : xMok 48 (yX5_beyond, cX5_beyond, some .int, false) := by
  unfold xMok
  rw [xcX5_beyond, xqX5_beyond.1, xqX5_beyond.2]
  exact ⟨by decide +kernel, (fun _ => (xG_of 475 (by decide +kernel) (by decide +kernel))), by decide, (fun z => absurd z (by decide)), (fun _ => rfl), (fun z => absurd z (by decide)), (fun z => absurd z (by decide)), (fun z => by cases z), vkX5_beyond⟩
theorem xcX6_init : xcode 49 = kX6_init := rfl
theorem xqX6_init : xnl 49 = 1 ∧ xrt 49 = 0 := ⟨rfl, rfl⟩
theorem xmX6_init : xMok 49 (yX6_init, cX6_init, none, true) := by
  unfold xMok
  rw [xcX6_init, xqX6_init.1, xqX6_init.2]
  exact ⟨by decide +kernel, (fun _ => (xG_of 589 (by decide +kernel) (by decide +kernel))), by decide, (fun _ => rfl), (fun z => absurd z (by decide)), (fun z => absurd z (by decide)), (fun z => absurd z (by decide)), (fun _ => rfl), vkX6_init⟩
theorem xcX6_hasStep : xcode 50 = kX6_hasStep := rfl
theorem xqX6_hasStep : xnl 50 = 2 ∧ xrt 50 = 3 := ⟨rfl, rfl⟩
theorem xmX6_hasStep : xMok 50 (yX6_hasStep, cX6_hasStep, some .boolean, false) := by
  unfold xMok
  rw [xcX6_hasStep, xqX6_hasStep.1, xqX6_hasStep.2]
  exact ⟨by decide +kernel, (fun _ => (xG_of 905 (by decide +kernel) (by decide +kernel))), by decide, (fun z => absurd z (by decide)), (fun z => absurd z (by decide)), (fun z => absurd z (by decide)), (fun _ => rfl), (fun z => by cases z), vkX6_hasStep⟩
theorem xcX6_begin : xcode 51 = kX6_begin := rfl
theorem xqX6_begin : xnl 51 = 1 ∧ xrt 51 = 0 := ⟨rfl, rfl⟩
theorem xmX6_begin : xMok 51 (yX6_begin, cX6_begin, none, false) := by
  unfold xMok
  rw [xcX6_begin, xqX6_begin.1, xqX6_begin.2]
  exact ⟨by decide +kernel, (fun _ => (xG_of 828 (by decide +kernel) (by decide +kernel))), by decide, (fun _ => rfl), (fun z => absurd z (by decide)), (fun z => absurd z (by decide)), (fun z => absurd z (by decide)), (fun z => by cases z), vkX6_begin⟩
theorem xcX6_add : xcode 52 = kX6_add := rfl
theorem xqX6_add : xnl 52 = 5 ∧ xrt 52 = 0 := ⟨rfl, rfl⟩
theorem xmX6_add : xMok 52 (yX6_add, cX6_add, none, false) := by
  unfold xMok
  rw [xcX6_add, xqX6_add.1, xqX6_add.2]
  exact ⟨by decide +kernel, (fun _ => (xG_of 832 (by decide +kernel) (by decide +kernel))), by decide, (fun _ => rfl), (fun z => absurd z (by decide)), (fun z => absurd z (by decide)), (fun z => absurd z (by decide)), (fun z => by cases z), vkX6_add⟩
theorem xcX6_turnRound : xcode 53 = kX6_turnRound := rfl
theorem xqX6_turnRound : xnl 53 = 3 ∧ xrt 53 = 0 := ⟨rfl, rfl⟩
theorem xmX6_turnRound : xMok 53 (yX6_turnRound, cX6_turnRound, none, false) := by
  unfold xMok
  rw [xcX6_turnRound, xqX6_turnRound.1, xqX6_turnRound.2]
  exact ⟨by decide +kernel, (fun _ => (xG_of 836 (by decide +kernel) (by decide +kernel))), by decide, (fun _ => rfl), (fun z => absurd z (by decide)), (fun z => absurd z (by decide)), (fun z => absurd z (by decide)), (fun z => by cases z), vkX6_turnRound⟩
theorem xcX6_swap : xcode 54 = kX6_swap := rfl
theorem xqX6_swap : xnl 54 = 4 ∧ xrt 54 = 0 := ⟨rfl, rfl⟩
theorem xmX6_swap : xMok 54 (yX6_swap, cX6_swap, none, false) := by
  unfold xMok
  rw [xcX6_swap, xqX6_swap.1, xqX6_swap.2]
  exact ⟨by decide +kernel, (fun _ => (xG_of 839 (by decide +kernel) (by decide +kernel))), by decide, (fun _ => rfl), (fun z => absurd z (by decide)), (fun z => absurd z (by decide)), (fun z => absurd z (by decide)), (fun z => by cases z), vkX6_swap⟩
theorem xcX6_finish : xcode 55 = kX6_finish := rfl
theorem xqX6_finish : xnl 55 = 7 ∧ xrt 55 = 0 := ⟨rfl, rfl⟩
theorem xmX6_finish : xMok 55 (yX6_finish, cX6_finish, none, false) := by
  unfold xMok
  rw [xcX6_finish, xqX6_finish.1, xqX6_finish.2]
  exact ⟨by decide +kernel, (fun _ => (xG_of 911 (by decide +kernel) (by decide +kernel))), by decide, (fun _ => rfl), (fun z => absurd z (by decide)), (fun z => absurd z (by decide)), (fun z => absurd z (by decide)), (fun z => by cases z), vkX6_finish⟩
theorem xcX6_tellBack : xcode 56 = kX6_tellBack := rfl
theorem xqX6_tellBack : xnl 56 = 5 ∧ xrt 56 = 0 := ⟨rfl, rfl⟩
theorem xmX6_tellBack : xMok 56 (yX6_tellBack, cX6_tellBack, none, false) := by
  unfold xMok
  rw [xcX6_tellBack, xqX6_tellBack.1, xqX6_tellBack.2]
  exact ⟨by decide +kernel, (fun _ => (xG_of 915 (by decide +kernel) (by decide +kernel))), by decide, (fun _ => rfl), (fun z => absurd z (by decide)), (fun z => absurd z (by decide)), (fun z => absurd z (by decide)), (fun z => by cases z), vkX6_tellBack⟩
theorem xcX7_init : xcode 57 = kX7_init := rfl
theorem xqX7_init : xnl 57 = 3 ∧ xrt 57 = 0 := ⟨rfl, rfl⟩
theorem xmX7_init : xMok 57 (yX7_init, cX7_init, none, true) := by
  unfold xMok
  rw [xcX7_init, xqX7_init.1, xqX7_init.2]
  exact ⟨by decide +kernel, (fun _ => (xG_of 439 (by decide +kernel) (by decide +kernel))), by decide, (fun _ => rfl), (fun z => absurd z (by decide)), (fun z => absurd z (by decide)), (fun z => absurd z (by decide)), (fun _ => rfl), vkX7_init⟩
theorem xcX7_findBest : xcode 58 = kX7_findBest := rfl
theorem xqX7_findBest : xnl 58 = 6 ∧ xrt 58 = 1 := ⟨rfl, rfl⟩
theorem xmX7_findBest : xMok 58 (yX7_findBest, cX7_findBest, some .int, false) := by
  unfold xMok
  rw [xcX7_findBest, xqX7_findBest.1, xqX7_findBest.2]
  exact ⟨by decide +kernel, (fun _ => (xG_of 870 (by decide +kernel) (by decide +kernel))), by decide, (fun z => absurd z (by decide)), (fun _ => rfl), (fun z => absurd z (by decide)), (fun z => absurd z (by decide)), (fun z => by cases z), vkX7_findBest⟩
theorem xcX7_lead : xcode 59 = kX7_lead := rfl
theorem xqX7_lead : xnl 59 = 5 ∧ xrt 59 = 0 := ⟨rfl, rfl⟩
theorem xmX7_lead : xMok 59 (yX7_lead, cX7_lead, none, false) := by
  unfold xMok
  rw [xcX7_lead, xqX7_lead.1, xqX7_lead.2]
  exact ⟨by decide +kernel, (fun _ => (xG_of 879 (by decide +kernel) (by decide +kernel))), by decide, (fun _ => rfl), (fun z => absurd z (by decide)), (fun z => absurd z (by decide)), (fun z => absurd z (by decide)), (fun z => by cases z), vkX7_lead⟩
theorem xcX7_tellSteps : xcode 60 = kX7_tellSteps := rfl
theorem xqX7_tellSteps : xnl 60 = 4 ∧ xrt 60 = 0 := ⟨rfl, rfl⟩
theorem xmX7_tellSteps : xMok 60 (yX7_tellSteps, cX7_tellSteps, none, false) := by
  unfold xMok
  rw [xcX7_tellSteps, xqX7_tellSteps.1, xqX7_tellSteps.2]
  exact ⟨by decide +kernel, (fun _ => (xG_of 884 (by decide +kernel) (by decide +kernel))), by decide, (fun _ => rfl), (fun z => absurd z (by decide)), (fun z => absurd z (by decide)), (fun z => absurd z (by decide)), (fun z => by cases z), vkX7_tellSteps⟩
theorem xcX8_init : xcode 61 = kX8_init := rfl
theorem xqX8_init : xnl 61 = 3 ∧ xrt 61 = 0 := ⟨rfl, rfl⟩
theorem xmX8_init : xMok 61 (yX8_init, cX8_init, none, true) := by
  unfold xMok
  rw [xcX8_init, xqX8_init.1, xqX8_init.2]
  exact ⟨by decide +kernel, (fun _ => (xG_of 539 (by decide +kernel) (by decide +kernel))), by decide, (fun _ => rfl), (fun z => absurd z (by decide)), (fun z => absurd z (by decide)), (fun z => absurd z (by decide)), (fun _ => rfl), vkX8_init⟩
theorem xcX8_walk : xcode 62 = kX8_walk := rfl
theorem xqX8_walk : xnl 62 = 9 ∧ xrt 62 = 0 := ⟨rfl, rfl⟩
theorem xmX8_walk : xMok 62 (yX8_walk, cX8_walk, none, false) := by
  unfold xMok
  rw [xcX8_walk, xqX8_walk.1, xqX8_walk.2]
  exact ⟨by decide +kernel, (fun _ => (xG_of 919 (by decide +kernel) (by decide +kernel))), by decide, (fun _ => rfl), (fun z => absurd z (by decide)), (fun z => absurd z (by decide)), (fun z => absurd z (by decide)), (fun z => by cases z), vkX8_walk⟩
theorem xcX8_longerAhead : xcode 63 = kX8_longerAhead := rfl
theorem xqX8_longerAhead : xnl 63 = 5 ∧ xrt 63 = 3 := ⟨rfl, rfl⟩
theorem xmX8_longerAhead : xMok 63 (yX8_longerAhead, cX8_longerAhead, some .boolean, false) := by
  unfold xMok
  rw [xcX8_longerAhead, xqX8_longerAhead.1, xqX8_longerAhead.2]
  exact ⟨by decide +kernel, (fun _ => (xG_of 926 (by decide +kernel) (by decide +kernel))), by decide, (fun z => absurd z (by decide)), (fun z => absurd z (by decide)), (fun z => absurd z (by decide)), (fun _ => rfl), (fun z => by cases z), vkX8_longerAhead⟩
theorem xcX8_againAsLong : xcode 64 = kX8_againAsLong := rfl
theorem xqX8_againAsLong : xnl 64 = 6 ∧ xrt 64 = 1 := ⟨rfl, rfl⟩
theorem xmX8_againAsLong : xMok 64 (yX8_againAsLong, cX8_againAsLong, some .int, false) := by
  unfold xMok
  rw [xcX8_againAsLong, xqX8_againAsLong.1, xqX8_againAsLong.2]
  exact ⟨by decide +kernel, (fun _ => (xG_of 931 (by decide +kernel) (by decide +kernel))), by decide, (fun z => absurd z (by decide)), (fun _ => rfl), (fun z => absurd z (by decide)), (fun z => absurd z (by decide)), (fun z => by cases z), vkX8_againAsLong⟩
theorem xcX9_init : xcode 65 = kX9_init := rfl
theorem xqX9_init : xnl 65 = 2 ∧ xrt 65 = 0 := ⟨rfl, rfl⟩
theorem xmX9_init : xMok 65 (yX9_init, cX9_init, none, true) := by
  unfold xMok
  rw [xcX9_init, xqX9_init.1, xqX9_init.2]
  exact ⟨by decide +kernel, (fun _ => (xG_of 47 (by decide +kernel) (by decide +kernel))), by decide, (fun _ => rfl), (fun z => absurd z (by decide)), (fun z => absurd z (by decide)), (fun z => absurd z (by decide)), (fun _ => rfl), vkX9_init⟩
theorem xcX9_has : xcode 66 = kX9_has := rfl
theorem xqX9_has : xnl 66 = 2 ∧ xrt 66 = 3 := ⟨rfl, rfl⟩
theorem xmX9_has : xMok 66 (yX9_has, cX9_has, some .boolean, false) := by
  unfold xMok
  rw [xcX9_has, xqX9_has.1, xqX9_has.2]
  exact ⟨by decide +kernel, (fun _ => (xG_of 782 (by decide +kernel) (by decide +kernel))), by decide, (fun z => absurd z (by decide)), (fun z => absurd z (by decide)), (fun z => absurd z (by decide)), (fun _ => rfl), (fun z => by cases z), vkX9_has⟩
theorem xcX9_append : xcode 67 = kX9_append := rfl
theorem xqX9_append : xnl 67 = 5 ∧ xrt 67 = 0 := ⟨rfl, rfl⟩
theorem xmX9_append : xMok 67 (yX9_append, cX9_append, none, false) := by
  unfold xMok
  rw [xcX9_append, xqX9_append.1, xqX9_append.2]
  exact ⟨by decide +kernel, (fun _ => (xG_of 677 (by decide +kernel) (by decide +kernel))), by decide, (fun _ => rfl), (fun z => absurd z (by decide)), (fun z => absurd z (by decide)), (fun z => absurd z (by decide)), (fun z => by cases z), vkX9_append⟩
theorem xcX9_noteCopies : xcode 68 = kX9_noteCopies := rfl
theorem xqX9_noteCopies : xnl 68 = 6 ∧ xrt 68 = 0 := ⟨rfl, rfl⟩
theorem xmX9_noteCopies : xMok 68 (yX9_noteCopies, cX9_noteCopies, none, false) := by
  unfold xMok
  rw [xcX9_noteCopies, xqX9_noteCopies.1, xqX9_noteCopies.2]
  exact ⟨by decide +kernel, (fun _ => (xG_of 681 (by decide +kernel) (by decide +kernel))), by decide, (fun _ => rfl), (fun z => absurd z (by decide)), (fun z => absurd z (by decide)), (fun z => absurd z (by decide)), (fun z => by cases z), vkX9_noteCopies⟩
theorem xcX9_longestCopy : xcode 69 = kX9_longestCopy := rfl
theorem xqX9_longestCopy : xnl 69 = 2 ∧ xrt 69 = 1 := ⟨rfl, rfl⟩
theorem xmX9_longestCopy : xMok 69 (yX9_longestCopy, cX9_longestCopy, some .int, false) := by
  unfold xMok
  rw [xcX9_longestCopy, xqX9_longestCopy.1, xqX9_longestCopy.2]
  exact ⟨by decide +kernel, (fun _ => (xG_of 778 (by decide +kernel) (by decide +kernel))), by decide, (fun z => absurd z (by decide)), (fun _ => rfl), (fun z => absurd z (by decide)), (fun z => absurd z (by decide)), (fun z => by cases z), vkX9_longestCopy⟩
theorem xcX9_copyDistance : xcode 70 = kX9_copyDistance := rfl
theorem xqX9_copyDistance : xnl 70 = 3 ∧ xrt 70 = 1 := ⟨rfl, rfl⟩
theorem xmX9_copyDistance : xMok 70 (yX9_copyDistance, cX9_copyDistance, some .int, false) := by
  unfold xMok
  rw [xcX9_copyDistance, xqX9_copyDistance.1, xqX9_copyDistance.2]
  exact ⟨by decide +kernel, (fun _ => (xG_of 786 (by decide +kernel) (by decide +kernel))), by decide, (fun z => absurd z (by decide)), (fun _ => rfl), (fun z => absurd z (by decide)), (fun z => absurd z (by decide)), (fun z => by cases z), vkX9_copyDistance⟩
theorem xcX9_sameBy : xcode 71 = kX9_sameBy := rfl
theorem xqX9_sameBy : xnl 71 = 5 ∧ xrt 71 = 1 := ⟨rfl, rfl⟩
theorem xmX9_sameBy : xMok 71 (yX9_sameBy, cX9_sameBy, some .int, false) := by
  unfold xMok
  rw [xcX9_sameBy, xqX9_sameBy.1, xqX9_sameBy.2]
  exact ⟨by decide +kernel, (fun _ => (xG_of 812 (by decide +kernel) (by decide +kernel))), by decide, (fun z => absurd z (by decide)), (fun _ => rfl), (fun z => absurd z (by decide)), (fun z => absurd z (by decide)), (fun z => by cases z), vkX9_sameBy⟩
theorem xcX9_nearestIndex : xcode 72 = kX9_nearestIndex := rfl
theorem xqX9_nearestIndex : xnl 72 = 2 ∧ xrt 72 = 1 := ⟨rfl, rfl⟩
theorem xmX9_nearestIndex : xMok 72 (yX9_nearestIndex, cX9_nearestIndex, some .int, false) := by
  unfold xMok
  rw [xcX9_nearestIndex, xqX9_nearestIndex.1, xqX9_nearestIndex.2]
  exact ⟨by decide +kernel, (fun _ => (xG_of 685 (by decide +kernel) (by decide +kernel))), by decide, (fun z => absurd z (by decide)), (fun _ => rfl), (fun z => absurd z (by decide)), (fun z => absurd z (by decide)), (fun z => by cases z), vkX9_nearestIndex⟩
theorem xcX10_init : xcode 73 = kX10_init := rfl
theorem xqX10_init : xnl 73 = 2 ∧ xrt 73 = 0 := ⟨rfl, rfl⟩
theorem xmX10_init : xMok 73 (yX10_init, cX10_init, none, true) := by
  unfold xMok
  rw [xcX10_init, xqX10_init.1, xqX10_init.2]
  exact ⟨by decide +kernel, (fun _ => (xG_of 33 (by decide +kernel) (by decide +kernel))), by decide, (fun _ => rfl), (fun z => absurd z (by decide)), (fun z => absurd z (by decide)), (fun z => absurd z (by decide)), (fun _ => rfl), vkX10_init⟩
theorem xcX10_octets : xcode 74 = kX10_octets := rfl
theorem xqX10_octets : xnl 74 = 5 ∧ xrt 74 = 1 := ⟨rfl, rfl⟩
theorem xmX10_octets : xMok 74 (yX10_octets, cX10_octets, some .int, false) := by
  unfold xMok
  rw [xcX10_octets, xqX10_octets.1, xqX10_octets.2]
  exact ⟨by decide +kernel, (fun _ => (xG_of 673 (by decide +kernel) (by decide +kernel))), by decide, (fun z => absurd z (by decide)), (fun _ => rfl), (fun z => absurd z (by decide)), (fun z => absurd z (by decide)), (fun z => by cases z), vkX10_octets⟩
theorem xcX10_cost : xcode 75 = kX10_cost := rfl
theorem xqX10_cost : xnl 75 = 5 ∧ xrt 75 = 1 := ⟨rfl, rfl⟩
theorem xmX10_cost : xMok 75 (yX10_cost, cX10_cost, some .int, false) := by
  unfold xMok
  rw [xcX10_cost, xqX10_cost.1, xqX10_cost.2]
  exact ⟨by decide +kernel, (fun _ => (xG_of 689 (by decide +kernel) (by decide +kernel))), by decide, (fun z => absurd z (by decide)), (fun _ => rfl), (fun z => absurd z (by decide)), (fun z => absurd z (by decide)), (fun z => by cases z), vkX10_cost⟩
theorem xcX10_price : xcode 76 = kX10_price := rfl
theorem xqX10_price : xnl 76 = 3 ∧ xrt 76 = 1 := ⟨rfl, rfl⟩
theorem xmX10_price : xMok 76 (yX10_price, cX10_price, some .int, false) := by
  unfold xMok
  rw [xcX10_price, xqX10_price.1, xqX10_price.2]
  exact ⟨by decide +kernel, (fun _ => (xG_of 706 (by decide +kernel) (by decide +kernel))), by decide, (fun z => absurd z (by decide)), (fun _ => rfl), (fun z => absurd z (by decide)), (fun z => absurd z (by decide)), (fun z => by cases z), vkX10_price⟩
theorem xcX10_keep : xcode 77 = kX10_keep := rfl
theorem xqX10_keep : xnl 77 = 3 ∧ xrt 77 = 1 := ⟨rfl, rfl⟩
theorem xmX10_keep : xMok 77 (yX10_keep, cX10_keep, some .int, false) := by
  unfold xMok
  rw [xcX10_keep, xqX10_keep.1, xqX10_keep.2]
  exact ⟨by decide +kernel, (fun _ => (xG_of 710 (by decide +kernel) (by decide +kernel))), by decide, (fun z => absurd z (by decide)), (fun _ => rfl), (fun z => absurd z (by decide)), (fun z => absurd z (by decide)), (fun z => by cases z), vkX10_keep⟩
theorem xcX10_parse : xcode 78 = kX10_parse := rfl
theorem xqX10_parse : xnl 78 = 2 ∧ xrt 78 = 1 := ⟨rfl, rfl⟩
theorem xmX10_parse : xMok 78 (yX10_parse, cX10_parse, some .int, false) := by
  unfold xMok
  rw [xcX10_parse, xqX10_parse.1, xqX10_parse.2]
  exact ⟨by decide +kernel, (fun _ => (xG_of 714 (by decide +kernel) (by decide +kernel))), by decide, (fun z => absurd z (by decide)), (fun _ => rfl), (fun z => absurd z (by decide)), (fun z => absurd z (by decide)), (fun z => by cases z), vkX10_parse⟩
theorem xcX10_step : xcode 79 = kX10_step := rfl
theorem xqX10_step : xnl 79 = 3 ∧ xrt 79 = 1 := ⟨rfl, rfl⟩
theorem xmX10_step : xMok 79 (yX10_step, cX10_step, some .int, false) := by
  unfold xMok
  rw [xcX10_step, xqX10_step.1, xqX10_step.2]
  exact ⟨by decide +kernel, (fun _ => (xG_of 940 (by decide +kernel) (by decide +kernel))), by decide, (fun z => absurd z (by decide)), (fun _ => rfl), (fun z => absurd z (by decide)), (fun z => absurd z (by decide)), (fun z => by cases z), vkX10_step⟩
theorem xcX10_sum : xcode 80 = kX10_sum := rfl
theorem xqX10_sum : xnl 80 = 1 ∧ xrt 80 = 2 := ⟨rfl, rfl⟩
theorem xmX10_sum : xMok 80 (yX10_sum, cX10_sum, some .long, false) := by
  unfold xMok
  rw [xcX10_sum, xqX10_sum.1, xqX10_sum.2]
  exact ⟨by decide +kernel, (fun _ => (xG_of 945 (by decide +kernel) (by decide +kernel))), by decide, (fun z => absurd z (by decide)), (fun z => absurd z (by decide)), (fun _ => rfl), (fun z => absurd z (by decide)), (fun z => by cases z), vkX10_sum⟩
theorem xcX10_again : xcode 81 = kX10_again := rfl
theorem xqX10_again : xnl 81 = 1 ∧ xrt 81 = 2 := ⟨rfl, rfl⟩
theorem xmX10_again : xMok 81 (yX10_again, cX10_again, some .long, false) := by
  unfold xMok
  rw [xcX10_again, xqX10_again.1, xqX10_again.2]
  exact ⟨by decide +kernel, (fun _ => (xG_of 950 (by decide +kernel) (by decide +kernel))), by decide, (fun z => absurd z (by decide)), (fun z => absurd z (by decide)), (fun _ => rfl), (fun z => absurd z (by decide)), (fun z => by cases z), vkX10_again⟩
theorem xcX10_least : xcode 82 = kX10_least := rfl
theorem xqX10_least : xnl 82 = 1 ∧ xrt 82 = 3 := ⟨rfl, rfl⟩
theorem xmX10_least : xMok 82 (yX10_least, cX10_least, some .boolean, false) := by
  unfold xMok
  rw [xcX10_least, xqX10_least.1, xqX10_least.2]
  exact ⟨by decide +kernel, (fun _ => (xG_of 954 (by decide +kernel) (by decide +kernel))), by decide, (fun z => absurd z (by decide)), (fun z => absurd z (by decide)), (fun z => absurd z (by decide)), (fun _ => rfl), (fun z => by cases z), vkX10_least⟩
theorem xcX10_told : xcode 83 = kX10_told := rfl
theorem xqX10_told : xnl 83 = 2 ∧ xrt 83 = 1 := ⟨rfl, rfl⟩
theorem xmX10_told : xMok 83 (yX10_told, cX10_told, some .int, false) := by
  unfold xMok
  rw [xcX10_told, xqX10_told.1, xqX10_told.2]
  exact ⟨by decide +kernel, (fun _ => (xG_of 958 (by decide +kernel) (by decide +kernel))), by decide, (fun z => absurd z (by decide)), (fun _ => rfl), (fun z => absurd z (by decide)), (fun z => absurd z (by decide)), (fun z => by cases z), vkX10_told⟩
theorem xcX10_rounds : xcode 84 = kX10_rounds := rfl
theorem xqX10_rounds : xnl 84 = 7 ∧ xrt 84 = 2 := ⟨rfl, rfl⟩
theorem xmX10_rounds : xMok 84 (yX10_rounds, cX10_rounds, some .long, false) := by
  unfold xMok
  rw [xcX10_rounds, xqX10_rounds.1, xqX10_rounds.2]
  exact ⟨by decide +kernel, (fun _ => (xG_of 963 (by decide +kernel) (by decide +kernel))), by decide, (fun z => absurd z (by decide)), (fun z => absurd z (by decide)), (fun _ => rfl), (fun z => absurd z (by decide)), (fun z => by cases z), vkX10_rounds⟩
theorem xcX10_longest : xcode 85 = kX10_longest := rfl
theorem xqX10_longest : xnl 85 = 2 ∧ xrt 85 = 1 := ⟨rfl, rfl⟩
theorem xmX10_longest : xMok 85 (yX10_longest, cX10_longest, some .int, false) := by
  unfold xMok
  rw [xcX10_longest, xqX10_longest.1, xqX10_longest.2]
  exact ⟨by decide +kernel, (fun _ => (xG_of 998 (by decide +kernel) (by decide +kernel))), by decide, (fun z => absurd z (by decide)), (fun _ => rfl), (fun z => absurd z (by decide)), (fun z => absurd z (by decide)), (fun z => by cases z), vkX10_longest⟩
theorem xcX10_distance : xcode 86 = kX10_distance := rfl
theorem xqX10_distance : xnl 86 = 4 ∧ xrt 86 = 1 := ⟨rfl, rfl⟩
theorem xmX10_distance : xMok 86 (yX10_distance, cX10_distance, some .int, false) := by
  unfold xMok
  rw [xcX10_distance, xqX10_distance.1, xqX10_distance.2]
  exact ⟨by decide +kernel, (fun _ => (xG_of 1003 (by decide +kernel) (by decide +kernel))), by decide, (fun z => absurd z (by decide)), (fun _ => rfl), (fun z => absurd z (by decide)), (fun z => absurd z (by decide)), (fun z => by cases z), vkX10_distance⟩
theorem xcX10_cut : xcode 87 = kX10_cut := rfl
theorem xqX10_cut : xnl 87 = 2 ∧ xrt 87 = 1 := ⟨rfl, rfl⟩
theorem xmX10_cut : xMok 87 (yX10_cut, cX10_cut, some .int, false) := by
  unfold xMok
  rw [xcX10_cut, xqX10_cut.1, xqX10_cut.2]
  exact ⟨by decide +kernel, (fun _ => (xG_of 1008 (by decide +kernel) (by decide +kernel))), by decide, (fun z => absurd z (by decide)), (fun _ => rfl), (fun z => absurd z (by decide)), (fun z => absurd z (by decide)), (fun z => by cases z), vkX10_cut⟩
theorem xcX10_split : xcode 88 = kX10_split := rfl
theorem xqX10_split : xnl 88 = 2 ∧ xrt 88 = 2 := ⟨rfl, rfl⟩
theorem xmX10_split : xMok 88 (yX10_split, cX10_split, some .long, false) := by
  unfold xMok
  rw [xcX10_split, xqX10_split.1, xqX10_split.2]
  exact ⟨by decide +kernel, (fun _ => (xG_of 1016 (by decide +kernel) (by decide +kernel))), by decide, (fun z => absurd z (by decide)), (fun z => absurd z (by decide)), (fun _ => rfl), (fun z => absurd z (by decide)), (fun z => by cases z), vkX10_split⟩
theorem xcX10_taken : xcode 89 = kX10_taken := rfl
theorem xqX10_taken : xnl 89 = 2 ∧ xrt 89 = 1 := ⟨rfl, rfl⟩
theorem xmX10_taken : xMok 89 (yX10_taken, cX10_taken, some .int, false) := by
  unfold xMok
  rw [xcX10_taken, xqX10_taken.1, xqX10_taken.2]
  exact ⟨by decide +kernel, (fun _ => (xG_of 1039 (by decide +kernel) (by decide +kernel))), by decide, (fun z => absurd z (by decide)), (fun _ => rfl), (fun z => absurd z (by decide)), (fun z => absurd z (by decide)), (fun z => by cases z), vkX10_taken⟩
theorem xcX10_many : xcode 90 = kX10_many := rfl
theorem xqX10_many : xnl 90 = 2 ∧ xrt 90 = 1 := ⟨rfl, rfl⟩
theorem xmX10_many : xMok 90 (yX10_many, cX10_many, some .int, false) := by
  unfold xMok
  rw [xcX10_many, xqX10_many.1, xqX10_many.2]
  exact ⟨by decide +kernel, (fun _ => (xG_of 1043 (by decide +kernel) (by decide +kernel))), by decide, (fun z => absurd z (by decide)), (fun _ => rfl), (fun z => absurd z (by decide)), (fun z => absurd z (by decide)), (fun z => by cases z), vkX10_many⟩
theorem xcX10_clear : xcode 91 = kX10_clear := rfl
theorem xqX10_clear : xnl 91 = 1 ∧ xrt 91 = 0 := ⟨rfl, rfl⟩
theorem xmX10_clear : xMok 91 (yX10_clear, cX10_clear, none, false) := by
  unfold xMok
  rw [xcX10_clear, xqX10_clear.1, xqX10_clear.2]
  exact ⟨by decide +kernel, (fun _ => (xG_of 1047 (by decide +kernel) (by decide +kernel))), by decide, (fun _ => rfl), (fun z => absurd z (by decide)), (fun z => absurd z (by decide)), (fun z => absurd z (by decide)), (fun z => by cases z), vkX10_clear⟩
theorem xcX10_findBest : xcode 92 = kX10_findBest := rfl
theorem xqX10_findBest : xnl 92 = 2 ∧ xrt 92 = 0 := ⟨rfl, rfl⟩
theorem xmX10_findBest : xMok 92 (yX10_findBest, cX10_findBest, none, false) := by
  unfold xMok
  rw [xcX10_findBest, xqX10_findBest.1, xqX10_findBest.2]
  exact ⟨by decide +kernel, (fun _ => (xG_of 718 (by decide +kernel) (by decide +kernel))), by decide, (fun _ => rfl), (fun z => absurd z (by decide)), (fun z => absurd z (by decide)), (fun z => absurd z (by decide)), (fun z => by cases z), vkX10_findBest⟩
theorem xcX10_takeSpare : xcode 93 = kX10_takeSpare := rfl
theorem xqX10_takeSpare : xnl 93 = 2 ∧ xrt 93 = 0 := ⟨rfl, rfl⟩
theorem xmX10_takeSpare : xMok 93 (yX10_takeSpare, cX10_takeSpare, none, false) := by
  unfold xMok
  rw [xcX10_takeSpare, xqX10_takeSpare.1, xqX10_takeSpare.2]
  exact ⟨by decide +kernel, (fun _ => (xG_of 994 (by decide +kernel) (by decide +kernel))), by decide, (fun _ => rfl), (fun z => absurd z (by decide)), (fun z => absurd z (by decide)), (fun z => absurd z (by decide)), (fun z => by cases z), vkX10_takeSpare⟩
theorem xcX10_logOf : xcode 94 = kX10_logOf := rfl
theorem xqX10_logOf : xnl 94 = 2 ∧ xrt 94 = 1 := ⟨rfl, rfl⟩
theorem xmX10_logOf : xMok 94 (yX10_logOf, cX10_logOf, some .int, false) := by
  unfold xMok
  rw [xcX10_logOf, xqX10_logOf.1, xqX10_logOf.2]
  exact ⟨by decide +kernel, (fun _ => (xG_of 983 (by decide +kernel) (by decide +kernel))), by decide, (fun z => absurd z (by decide)), (fun _ => rfl), (fun z => absurd z (by decide)), (fun z => absurd z (by decide)), (fun z => by cases z), vkX10_logOf⟩
theorem xcX10_highestBit : xcode 95 = kX10_highestBit := rfl
theorem xqX10_highestBit : xnl 95 = 2 ∧ xrt 95 = 1 := ⟨rfl, rfl⟩
theorem xmX10_highestBit : xMok 95 (yX10_highestBit, cX10_highestBit, some .int, false) := by
  unfold xMok
  rw [xcX10_highestBit, xqX10_highestBit.1, xqX10_highestBit.2]
  exact ⟨by decide +kernel, (fun _ => (xG_of 742 (by decide +kernel) (by decide +kernel))), by decide, (fun z => absurd z (by decide)), (fun _ => rfl), (fun z => absurd z (by decide)), (fun z => absurd z (by decide)), (fun z => by cases z), vkX10_highestBit⟩
theorem xcX11_init : xcode 96 = kX11_init := rfl
theorem xqX11_init : xnl 96 = 2 ∧ xrt 96 = 0 := ⟨rfl, rfl⟩
theorem xmX11_init : xMok 96 (yX11_init, cX11_init, none, true) := by
  unfold xMok
  rw [xcX11_init, xqX11_init.1, xqX11_init.2]
  exact ⟨by decide +kernel, (fun _ => (xG_of 1073 (by decide +kernel) (by decide +kernel))), by decide, (fun _ => rfl), (fun z => absurd z (by decide)), (fun z => absurd z (by decide)), (fun z => absurd z (by decide)), (fun _ => rfl), vkX11_init⟩
theorem xcX11_thrown : xcode 97 = kX11_thrown := rfl
theorem xqX11_thrown : xnl 97 = 1 ∧ xrt 97 = 1 := ⟨rfl, rfl⟩
theorem xmX11_thrown : xMok 97 (yX11_thrown, cX11_thrown, some .int, false) := by
  unfold xMok
  rw [xcX11_thrown, xqX11_thrown.1, xqX11_thrown.2]
  exact ⟨by decide +kernel, (fun _ => (xG_of 1226 (by decide +kernel) (by decide +kernel))), by decide, (fun z => absurd z (by decide)), (fun _ => rfl), (fun z => absurd z (by decide)), (fun z => absurd z (by decide)), (fun z => by cases z), vkX11_thrown⟩
theorem xcX11_start : xcode 98 = kX11_start := rfl
theorem xqX11_start : xnl 98 = 2 ∧ xrt 98 = 0 := ⟨rfl, rfl⟩
theorem xmX11_start : xMok 98 (yX11_start, cX11_start, none, false) := by
  unfold xMok
  rw [xcX11_start, xqX11_start.1, xqX11_start.2]
  exact ⟨by decide +kernel, (fun _ => (xG_of 1080 (by decide +kernel) (by decide +kernel))), by decide, (fun _ => rfl), (fun z => absurd z (by decide)), (fun z => absurd z (by decide)), (fun z => absurd z (by decide)), (fun z => by cases z), vkX11_start⟩
theorem xcX11_shortest : xcode 99 = kX11_shortest := rfl
theorem xqX11_shortest : xnl 99 = 1 ∧ xrt 99 = 1 := ⟨rfl, rfl⟩
theorem xmX11_shortest : xMok 99 (yX11_shortest, cX11_shortest, some .int, false) := by
  unfold xMok
  rw [xcX11_shortest, xqX11_shortest.1, xqX11_shortest.2]
  exact ⟨by decide +kernel, (fun _ => (xG_of 1302 (by decide +kernel) (by decide +kernel))), by decide, (fun z => absurd z (by decide)), (fun _ => rfl), (fun z => absurd z (by decide)), (fun z => absurd z (by decide)), (fun z => by cases z), vkX11_shortest⟩
theorem xcX11_greatest : xcode 100 = kX11_greatest := rfl
theorem xqX11_greatest : xnl 100 = 1 ∧ xrt 100 = 1 := ⟨rfl, rfl⟩
theorem xmX11_greatest : xMok 100 (yX11_greatest, cX11_greatest, some .int, false) := by
  unfold xMok
  rw [xcX11_greatest, xqX11_greatest.1, xqX11_greatest.2]
  exact ⟨by decide +kernel, (fun _ => (xG_of 1266 (by decide +kernel) (by decide +kernel))), by decide, (fun z => absurd z (by decide)), (fun _ => rfl), (fun z => absurd z (by decide)), (fun z => absurd z (by decide)), (fun z => by cases z), vkX11_greatest⟩
theorem xcX11_symbols : xcode 101 = kX11_symbols := rfl
theorem xqX11_symbols : xnl 101 = 1 ∧ xrt 101 = 1 := ⟨rfl, rfl⟩
theorem xmX11_symbols : xMok 101 (yX11_symbols, cX11_symbols, some .int, false) := by
  unfold xMok
  rw [xcX11_symbols, xqX11_symbols.1, xqX11_symbols.2]
  exact ⟨by decide +kernel, (fun _ => (xG_of 1242 (by decide +kernel) (by decide +kernel))), by decide, (fun z => absurd z (by decide)), (fun _ => rfl), (fun z => absurd z (by decide)), (fun z => absurd z (by decide)), (fun z => by cases z), vkX11_symbols⟩
theorem xcX11_isCost : xcode 102 = kX11_isCost := rfl
theorem xqX11_isCost : xnl 102 = 3 ∧ xrt 102 = 3 := ⟨rfl, rfl⟩
theorem xmX11_isCost : xMok 102 (yX11_isCost, cX11_isCost, some .boolean, false) := by
  unfold xMok
  rw [xcX11_isCost, xqX11_isCost.1, xqX11_isCost.2]
  exact ⟨by decide +kernel, (fun _ => (xG_of 1239 (by decide +kernel) (by decide +kernel))), by decide, (fun z => absurd z (by decide)), (fun z => absurd z (by decide)), (fun z => absurd z (by decide)), (fun _ => rfl), (fun z => by cases z), vkX11_isCost⟩
theorem xcX11_octets : xcode 103 = kX11_octets := rfl
theorem xqX11_octets : xnl 103 = 5 ∧ xrt 103 = 1 := ⟨rfl, rfl⟩
theorem xmX11_octets : xMok 103 (yX11_octets, cX11_octets, some .int, false) := by
  unfold xMok
  rw [xcX11_octets, xqX11_octets.1, xqX11_octets.2]
  exact ⟨by decide +kernel, (fun _ => (xG_of 1230 (by decide +kernel) (by decide +kernel))), by decide, (fun z => absurd z (by decide)), (fun _ => rfl), (fun z => absurd z (by decide)), (fun z => absurd z (by decide)), (fun z => by cases z), vkX11_octets⟩
theorem xcX11_cost : xcode 104 = kX11_cost := rfl
theorem xqX11_cost : xnl 104 = 5 ∧ xrt 104 = 1 := ⟨rfl, rfl⟩
theorem xmX11_cost : xMok 104 (yX11_cost, cX11_cost, some .int, false) := by
  unfold xMok
  rw [xcX11_cost, xqX11_cost.1, xqX11_cost.2]
  exact ⟨by decide +kernel, (fun _ => (xG_of 1235 (by decide +kernel) (by decide +kernel))), by decide, (fun z => absurd z (by decide)), (fun _ => rfl), (fun z => absurd z (by decide)), (fun z => absurd z (by decide)), (fun z => by cases z), vkX11_cost⟩
theorem xcX11_price : xcode 105 = kX11_price := rfl
theorem xqX11_price : xnl 105 = 3 ∧ xrt 105 = 1 := ⟨rfl, rfl⟩
theorem xmX11_price : xMok 105 (yX11_price, cX11_price, some .int, false) := by
  unfold xMok
  rw [xcX11_price, xqX11_price.1, xqX11_price.2]
  exact ⟨by decide +kernel, (fun _ => (xG_of 1246 (by decide +kernel) (by decide +kernel))), by decide, (fun z => absurd z (by decide)), (fun _ => rfl), (fun z => absurd z (by decide)), (fun z => absurd z (by decide)), (fun z => by cases z), vkX11_price⟩
theorem xcX11_keep : xcode 106 = kX11_keep := rfl
theorem xqX11_keep : xnl 106 = 3 ∧ xrt 106 = 1 := ⟨rfl, rfl⟩
theorem xmX11_keep : xMok 106 (yX11_keep, cX11_keep, some .int, false) := by
  unfold xMok
  rw [xcX11_keep, xqX11_keep.1, xqX11_keep.2]
  exact ⟨by decide +kernel, (fun _ => (xG_of 1250 (by decide +kernel) (by decide +kernel))), by decide, (fun z => absurd z (by decide)), (fun _ => rfl), (fun z => absurd z (by decide)), (fun z => absurd z (by decide)), (fun z => by cases z), vkX11_keep⟩
theorem xcX11_layOut : xcode 107 = kX11_layOut := rfl
theorem xqX11_layOut : xnl 107 = 6 ∧ xrt 107 = 0 := ⟨rfl, rfl⟩
theorem xmX11_layOut : xMok 107 (yX11_layOut, cX11_layOut, none, false) := by
  unfold xMok
  rw [xcX11_layOut, xqX11_layOut.1, xqX11_layOut.2]
  exact ⟨by decide +kernel, (fun _ => (xG_of 1262 (by decide +kernel) (by decide +kernel))), by decide, (fun _ => rfl), (fun z => absurd z (by decide)), (fun z => absurd z (by decide)), (fun z => absurd z (by decide)), (fun z => by cases z), vkX11_layOut⟩
theorem xcX11_longestCopy : xcode 108 = kX11_longestCopy := rfl
theorem xqX11_longestCopy : xnl 108 = 3 ∧ xrt 108 = 1 := ⟨rfl, rfl⟩
theorem xmX11_longestCopy : xMok 108 (yX11_longestCopy, cX11_longestCopy, some .int, false) := by
  unfold xMok
  rw [xcX11_longestCopy, xqX11_longestCopy.1, xqX11_longestCopy.2]
  exact ⟨by decide +kernel, (fun _ => (xG_of 1298 (by decide +kernel) (by decide +kernel))), by decide, (fun z => absurd z (by decide)), (fun _ => rfl), (fun z => absurd z (by decide)), (fun z => absurd z (by decide)), (fun z => by cases z), vkX11_longestCopy⟩
theorem xcX11_longestAgain : xcode 109 = kX11_longestAgain := rfl
theorem xqX11_longestAgain : xnl 109 = 4 ∧ xrt 109 = 1 := ⟨rfl, rfl⟩
theorem xmX11_longestAgain : xMok 109 (yX11_longestAgain, cX11_longestAgain, some .int, false) := by
  unfold xMok
  rw [xcX11_longestAgain, xqX11_longestAgain.1, xqX11_longestAgain.2]
  exact ⟨by decide +kernel, (fun _ => (xG_of 1348 (by decide +kernel) (by decide +kernel))), by decide, (fun z => absurd z (by decide)), (fun _ => rfl), (fun z => absurd z (by decide)), (fun z => absurd z (by decide)), (fun z => by cases z), vkX11_longestAgain⟩
theorem xcX11_high : xcode 110 = kX11_high := rfl
theorem xqX11_high : xnl 110 = 2 ∧ xrt 110 = 1 := ⟨rfl, rfl⟩
theorem xmX11_high : xMok 110 (yX11_high, cX11_high, some .int, false) := by
  unfold xMok
  rw [xcX11_high, xqX11_high.1, xqX11_high.2]
  exact ⟨by decide +kernel, (fun _ => (xG_of 1331 (by decide +kernel) (by decide +kernel))), by decide, (fun z => absurd z (by decide)), (fun _ => rfl), (fun z => absurd z (by decide)), (fun z => absurd z (by decide)), (fun z => by cases z), vkX11_high⟩
theorem xcX11_lengthSlot : xcode 111 = kX11_lengthSlot := rfl
theorem xqX11_lengthSlot : xnl 111 = 2 ∧ xrt 111 = 1 := ⟨rfl, rfl⟩
theorem xmX11_lengthSlot : xMok 111 (yX11_lengthSlot, cX11_lengthSlot, some .int, false) := by
  unfold xMok
  rw [xcX11_lengthSlot, xqX11_lengthSlot.1, xqX11_lengthSlot.2]
  exact ⟨by decide +kernel, (fun _ => (xG_of 1328 (by decide +kernel) (by decide +kernel))), by decide, (fun z => absurd z (by decide)), (fun _ => rfl), (fun z => absurd z (by decide)), (fun z => absurd z (by decide)), (fun z => by cases z), vkX11_lengthSlot⟩
theorem xcX11_lengthBits : xcode 112 = kX11_lengthBits := rfl
theorem xqX11_lengthBits : xnl 112 = 1 ∧ xrt 112 = 1 := ⟨rfl, rfl⟩
theorem xmX11_lengthBits : xMok 112 (yX11_lengthBits, cX11_lengthBits, some .int, false) := by
  unfold xMok
  rw [xcX11_lengthBits, xqX11_lengthBits.1, xqX11_lengthBits.2]
  exact ⟨by decide +kernel, (fun _ => (xG_of 1334 (by decide +kernel) (by decide +kernel))), by decide, (fun z => absurd z (by decide)), (fun _ => rfl), (fun z => absurd z (by decide)), (fun z => absurd z (by decide)), (fun z => by cases z), vkX11_lengthBits⟩
theorem xcX11_distanceSlot : xcode 113 = kX11_distanceSlot := rfl
theorem xqX11_distanceSlot : xnl 113 = 2 ∧ xrt 113 = 1 := ⟨rfl, rfl⟩
theorem xmX11_distanceSlot : xMok 113 (yX11_distanceSlot, cX11_distanceSlot, some .int, false) := by
  unfold xMok
  rw [xcX11_distanceSlot, xqX11_distanceSlot.1, xqX11_distanceSlot.2]
  exact ⟨by decide +kernel, (fun _ => (xG_of 1341 (by decide +kernel) (by decide +kernel))), by decide, (fun z => absurd z (by decide)), (fun _ => rfl), (fun z => absurd z (by decide)), (fun z => absurd z (by decide)), (fun z => by cases z), vkX11_distanceSlot⟩
theorem xcX11_distanceBits : xcode 114 = kX11_distanceBits := rfl
theorem xqX11_distanceBits : xnl 114 = 1 ∧ xrt 114 = 1 := ⟨rfl, rfl⟩
theorem xmX11_distanceBits : xMok 114 (yX11_distanceBits, cX11_distanceBits, some .int, false) := by
  unfold xMok
  rw [xcX11_distanceBits, xqX11_distanceBits.1, xqX11_distanceBits.2]
  exact ⟨by decide +kernel, (fun _ => (xG_of 1344 (by decide +kernel) (by decide +kernel))), by decide, (fun z => absurd z (by decide)), (fun _ => rfl), (fun z => absurd z (by decide)), (fun z => absurd z (by decide)), (fun z => by cases z), vkX11_distanceBits⟩
theorem xcX11_lengthCost : xcode 115 = kX11_lengthCost := rfl
theorem xqX11_lengthCost : xnl 115 = 3 ∧ xrt 115 = 1 := ⟨rfl, rfl⟩
theorem xmX11_lengthCost : xMok 115 (yX11_lengthCost, cX11_lengthCost, some .int, false) := by
  unfold xMok
  rw [xcX11_lengthCost, xqX11_lengthCost.1, xqX11_lengthCost.2]
  exact ⟨by decide +kernel, (fun _ => (xG_of 1325 (by decide +kernel) (by decide +kernel))), by decide, (fun z => absurd z (by decide)), (fun _ => rfl), (fun z => absurd z (by decide)), (fun z => absurd z (by decide)), (fun z => by cases z), vkX11_lengthCost⟩
theorem xcX11_distanceCost : xcode 116 = kX11_distanceCost := rfl
theorem xqX11_distanceCost : xnl 116 = 2 ∧ xrt 116 = 1 := ⟨rfl, rfl⟩
theorem xmX11_distanceCost : xMok 116 (yX11_distanceCost, cX11_distanceCost, some .int, false) := by
  unfold xMok
  rw [xcX11_distanceCost, xqX11_distanceCost.1, xqX11_distanceCost.2]
  exact ⟨by decide +kernel, (fun _ => (xG_of 1338 (by decide +kernel) (by decide +kernel))), by decide, (fun z => absurd z (by decide)), (fun _ => rfl), (fun z => absurd z (by decide)), (fun z => absurd z (by decide)), (fun z => by cases z), vkX11_distanceCost⟩
theorem xcX11_kindCost : xcode 117 = kX11_kindCost := rfl
theorem xqX11_kindCost : xnl 117 = 2 ∧ xrt 117 = 1 := ⟨rfl, rfl⟩
theorem xmX11_kindCost : xMok 117 (yX11_kindCost, cX11_kindCost, some .int, false) := by
  unfold xMok
  rw [xcX11_kindCost, xqX11_kindCost.1, xqX11_kindCost.2]
  exact ⟨by decide +kernel, (fun _ => (xG_of 1321 (by decide +kernel) (by decide +kernel))), by decide, (fun z => absurd z (by decide)), (fun _ => rfl), (fun z => absurd z (by decide)), (fun z => absurd z (by decide)), (fun z => by cases z), vkX11_kindCost⟩
theorem xcX11_more : xcode 118 = kX11_more := rfl
theorem xqX11_more : xnl 118 = 2 ∧ xrt 118 = 1 := ⟨rfl, rfl⟩
theorem xmX11_more : xMok 118 (yX11_more, cX11_more, some .int, false) := by
  unfold xMok
  rw [xcX11_more, xqX11_more.1, xqX11_more.2]
  exact ⟨by decide +kernel, (fun _ => (xG_of 1317 (by decide +kernel) (by decide +kernel))), by decide, (fun z => absurd z (by decide)), (fun _ => rfl), (fun z => absurd z (by decide)), (fun z => absurd z (by decide)), (fun z => by cases z), vkX11_more⟩
theorem xcX11_stepCost : xcode 119 = kX11_stepCost := rfl
theorem xqX11_stepCost : xnl 119 = 6 ∧ xrt 119 = 1 := ⟨rfl, rfl⟩
theorem xmX11_stepCost : xMok 119 (yX11_stepCost, cX11_stepCost, some .int, false) := by
  unfold xMok
  rw [xcX11_stepCost, xqX11_stepCost.1, xqX11_stepCost.2]
  exact ⟨by decide +kernel, (fun _ => (xG_of 1314 (by decide +kernel) (by decide +kernel))), by decide, (fun z => absurd z (by decide)), (fun _ => rfl), (fun z => absurd z (by decide)), (fun z => absurd z (by decide)), (fun z => by cases z), vkX11_stepCost⟩
theorem xcX11_allCost : xcode 120 = kX11_allCost := rfl
theorem xqX11_allCost : xnl 120 = 5 ∧ xrt 120 = 2 := ⟨rfl, rfl⟩
theorem xmX11_allCost : xMok 120 (yX11_allCost, cX11_allCost, some .long, false) := by
  unfold xMok
  rw [xcX11_allCost, xqX11_allCost.1, xqX11_allCost.2]
  exact ⟨by decide +kernel, (fun _ => (xG_of 1398 (by decide +kernel) (by decide +kernel))), by decide, (fun z => absurd z (by decide)), (fun z => absurd z (by decide)), (fun _ => rfl), (fun z => absurd z (by decide)), (fun z => by cases z), vkX11_allCost⟩
theorem xcX11_clearLatest : xcode 121 = kX11_clearLatest := rfl
theorem xqX11_clearLatest : xnl 121 = 2 ∧ xrt 121 = 0 := ⟨rfl, rfl⟩
theorem xmX11_clearLatest : xMok 121 (yX11_clearLatest, cX11_clearLatest, none, false) := by
  unfold xMok
  rw [xcX11_clearLatest, xqX11_clearLatest.1, xqX11_clearLatest.2]
  exact ⟨by decide +kernel, (fun _ => (xG_of 1274 (by decide +kernel) (by decide +kernel))), by decide, (fun _ => rfl), (fun z => absurd z (by decide)), (fun z => absurd z (by decide)), (fun z => absurd z (by decide)), (fun z => by cases z), vkX11_clearLatest⟩
theorem xcX11_ahead : xcode 122 = kX11_ahead := rfl
theorem xqX11_ahead : xnl 122 = 4 ∧ xrt 122 = 0 := ⟨rfl, rfl⟩
theorem xmX11_ahead : xMok 122 (yX11_ahead, cX11_ahead, none, false) := by
  unfold xMok
  rw [xcX11_ahead, xqX11_ahead.1, xqX11_ahead.2]
  exact ⟨by decide +kernel, (fun _ => (xG_of 1310 (by decide +kernel) (by decide +kernel))), by decide, (fun _ => rfl), (fun z => absurd z (by decide)), (fun z => absurd z (by decide)), (fun z => absurd z (by decide)), (fun z => by cases z), vkX11_ahead⟩
theorem xcX11_longestOf : xcode 123 = kX11_longestOf := rfl
theorem xqX11_longestOf : xnl 123 = 5 ∧ xrt 123 = 1 := ⟨rfl, rfl⟩
theorem xmX11_longestOf : xMok 123 (yX11_longestOf, cX11_longestOf, some .int, false) := by
  unfold xMok
  rw [xcX11_longestOf, xqX11_longestOf.1, xqX11_longestOf.2]
  exact ⟨by decide +kernel, (fun _ => (xG_of 1394 (by decide +kernel) (by decide +kernel))), by decide, (fun z => absurd z (by decide)), (fun _ => rfl), (fun z => absurd z (by decide)), (fun z => absurd z (by decide)), (fun z => by cases z), vkX11_longestOf⟩
theorem xcX11_addStep : xcode 124 = kX11_addStep := rfl
theorem xqX11_addStep : xnl 124 = 5 ∧ xrt 124 = 0 := ⟨rfl, rfl⟩
theorem xmX11_addStep : xMok 124 (yX11_addStep, cX11_addStep, none, false) := by
  unfold xMok
  rw [xcX11_addStep, xqX11_addStep.1, xqX11_addStep.2]
  exact ⟨by decide +kernel, (fun _ => (xG_of 1356 (by decide +kernel) (by decide +kernel))), by decide, (fun _ => rfl), (fun z => absurd z (by decide)), (fun z => absurd z (by decide)), (fun z => absurd z (by decide)), (fun z => by cases z), vkX11_addStep⟩
theorem xcX11_greedy : xcode 125 = kX11_greedy := rfl
theorem xqX11_greedy : xnl 125 = 6 ∧ xrt 125 = 0 := ⟨rfl, rfl⟩
theorem xmX11_greedy : xMok 125 (yX11_greedy, cX11_greedy, none, false) := by
  unfold xMok
  rw [xcX11_greedy, xqX11_greedy.1, xqX11_greedy.2]
  exact ⟨by decide +kernel, (fun _ => (xG_of 1390 (by decide +kernel) (by decide +kernel))), by decide, (fun _ => rfl), (fun z => absurd z (by decide)), (fun z => absurd z (by decide)), (fun z => absurd z (by decide)), (fun z => by cases z), vkX11_greedy⟩
theorem xcX11_at : xcode 126 = kX11_at := rfl
theorem xqX11_at : xnl 126 = 3 ∧ xrt 126 = 1 := ⟨rfl, rfl⟩
theorem xmX11_at : xMok 126 (yX11_at, cX11_at, some .int, false) := by
  unfold xMok
  rw [xcX11_at, xqX11_at.1, xqX11_at.2]
  exact ⟨by decide +kernel, (fun _ => (xG_of 1368 (by decide +kernel) (by decide +kernel))), by decide, (fun z => absurd z (by decide)), (fun _ => rfl), (fun z => absurd z (by decide)), (fun z => absurd z (by decide)), (fun z => by cases z), vkX11_at⟩
theorem xcX11_firstRow : xcode 127 = kX11_firstRow := rfl
theorem xqX11_firstRow : xnl 127 = 4 ∧ xrt 127 = 1 := ⟨rfl, rfl⟩
theorem xmX11_firstRow : xMok 127 (yX11_firstRow, cX11_firstRow, some .int, false) := by
  unfold xMok
  rw [xcX11_firstRow, xqX11_firstRow.1, xqX11_firstRow.2]
  exact ⟨by decide +kernel, (fun _ => (xG_of 1373 (by decide +kernel) (by decide +kernel))), by decide, (fun z => absurd z (by decide)), (fun _ => rfl), (fun z => absurd z (by decide)), (fun z => absurd z (by decide)), (fun z => by cases z), vkX11_firstRow⟩
theorem xcX11_clearTable : xcode 128 = kX11_clearTable := rfl
theorem xqX11_clearTable : xnl 128 = 3 ∧ xrt 128 = 0 := ⟨rfl, rfl⟩
theorem xmX11_clearTable : xMok 128 (yX11_clearTable, cX11_clearTable, none, false) := by
  unfold xMok
  rw [xcX11_clearTable, xqX11_clearTable.1, xqX11_clearTable.2]
  exact ⟨by decide +kernel, (fun _ => (xG_of 1364 (by decide +kernel) (by decide +kernel))), by decide, (fun _ => rfl), (fun z => absurd z (by decide)), (fun z => absurd z (by decide)), (fun z => absurd z (by decide)), (fun z => by cases z), vkX11_clearTable⟩
theorem xcX11_copies : xcode 129 = kX11_copies := rfl
theorem xqX11_copies : xnl 129 = 7 ∧ xrt 129 = 0 := ⟨rfl, rfl⟩
theorem xmX11_copies : xMok 129 (yX11_copies, cX11_copies, none, false) := by
  unfold xMok
  rw [xcX11_copies, xqX11_copies.1, xqX11_copies.2]
  exact ⟨by decide +kernel, (fun _ => (xG_of 1377 (by decide +kernel) (by decide +kernel))), by decide, (fun _ => rfl), (fun z => absurd z (by decide)), (fun z => absurd z (by decide)), (fun z => absurd z (by decide)), (fun z => by cases z), vkX11_copies⟩
theorem xcX11_literals : xcode 130 = kX11_literals := rfl
theorem xqX11_literals : xnl 130 = 6 ∧ xrt 130 = 0 := ⟨rfl, rfl⟩
theorem xmX11_literals : xMok 130 (yX11_literals, cX11_literals, none, false) := by
  unfold xMok
  rw [xcX11_literals, xqX11_literals.1, xqX11_literals.2]
  exact ⟨by decide +kernel, (fun _ => (xG_of 1381 (by decide +kernel) (by decide +kernel))), by decide, (fun _ => rfl), (fun z => absurd z (by decide)), (fun z => absurd z (by decide)), (fun z => absurd z (by decide)), (fun z => by cases z), vkX11_literals⟩
theorem xcX11_backPlain : xcode 131 = kX11_backPlain := rfl
theorem xqX11_backPlain : xnl 131 = 6 ∧ xrt 131 = 0 := ⟨rfl, rfl⟩
theorem xmX11_backPlain : xMok 131 (yX11_backPlain, cX11_backPlain, none, false) := by
  unfold xMok
  rw [xcX11_backPlain, xqX11_backPlain.1, xqX11_backPlain.2]
  exact ⟨by decide +kernel, (fun _ => (xG_of 1385 (by decide +kernel) (by decide +kernel))), by decide, (fun _ => rfl), (fun z => absurd z (by decide)), (fun z => absurd z (by decide)), (fun z => absurd z (by decide)), (fun z => by cases z), vkX11_backPlain⟩
theorem xcX11_turnBack : xcode 132 = kX11_turnBack := rfl
theorem xqX11_turnBack : xnl 132 = 3 ∧ xrt 132 = 0 := ⟨rfl, rfl⟩
theorem xmX11_turnBack : xMok 132 (yX11_turnBack, cX11_turnBack, none, false) := by
  unfold xMok
  rw [xcX11_turnBack, xqX11_turnBack.1, xqX11_turnBack.2]
  exact ⟨by decide +kernel, (fun _ => (xG_of 1352 (by decide +kernel) (by decide +kernel))), by decide, (fun _ => rfl), (fun z => absurd z (by decide)), (fun z => absurd z (by decide)), (fun z => absurd z (by decide)), (fun z => by cases z), vkX11_turnBack⟩
theorem xcX11_bestPlain : xcode 133 = kX11_bestPlain := rfl
theorem xqX11_bestPlain : xnl 133 = 2 ∧ xrt 133 = 0 := ⟨rfl, rfl⟩
theorem xmX11_bestPlain : xMok 133 (yX11_bestPlain, cX11_bestPlain, none, false) := by
  unfold xMok
  rw [xcX11_bestPlain, xqX11_bestPlain.1, xqX11_bestPlain.2]
  exact ⟨by decide +kernel, (fun _ => (xG_of 1360 (by decide +kernel) (by decide +kernel))), by decide, (fun _ => rfl), (fun z => absurd z (by decide)), (fun z => absurd z (by decide)), (fun z => absurd z (by decide)), (fun z => by cases z), vkX11_bestPlain⟩
theorem xcX11_isState : xcode 134 = kX11_isState := rfl
theorem xqX11_isState : xnl 134 = 4 ∧ xrt 134 = 3 := ⟨rfl, rfl⟩
theorem xmX11_isState : xMok 134 (yX11_isState, cX11_isState, some .boolean, false) := by
  unfold xMok
  rw [xcX11_isState, xqX11_isState.1, xqX11_isState.2]
  exact ⟨by decide +kernel, (fun _ => (xG_of 1282 (by decide +kernel) (by decide +kernel))), by decide, (fun z => absurd z (by decide)), (fun z => absurd z (by decide)), (fun z => absurd z (by decide)), (fun _ => rfl), (fun z => by cases z), vkX11_isState⟩
theorem xcX11_isBehind : xcode 135 = kX11_isBehind := rfl
theorem xqX11_isBehind : xnl 135 = 4 ∧ xrt 135 = 3 := ⟨rfl, rfl⟩
theorem xmX11_isBehind : xMok 135 (yX11_isBehind, cX11_isBehind, some .boolean, false) := by
  unfold xMok
  rw [xcX11_isBehind, xqX11_isBehind.1, xqX11_isBehind.2]
  exact ⟨by decide +kernel, (fun _ => (xG_of 1290 (by decide +kernel) (by decide +kernel))), by decide, (fun z => absurd z (by decide)), (fun z => absurd z (by decide)), (fun z => absurd z (by decide)), (fun _ => rfl), (fun z => by cases z), vkX11_isBehind⟩
theorem xcX11_moveState : xcode 136 = kX11_moveState := rfl
theorem xqX11_moveState : xnl 136 = 4 ∧ xrt 136 = 0 := ⟨rfl, rfl⟩
theorem xmX11_moveState : xMok 136 (yX11_moveState, cX11_moveState, none, false) := by
  unfold xMok
  rw [xcX11_moveState, xqX11_moveState.1, xqX11_moveState.2]
  exact ⟨by decide +kernel, (fun _ => (xG_of 1286 (by decide +kernel) (by decide +kernel))), by decide, (fun _ => rfl), (fun z => absurd z (by decide)), (fun z => absurd z (by decide)), (fun z => absurd z (by decide)), (fun z => by cases z), vkX11_moveState⟩
theorem xcX11_comes : xcode 137 = kX11_comes := rfl
theorem xqX11_comes : xnl 137 = 10 ∧ xrt 137 = 0 := ⟨rfl, rfl⟩
theorem xmX11_comes : xMok 137 (yX11_comes, cX11_comes, none, false) := by
  unfold xMok
  rw [xcX11_comes, xqX11_comes.1, xqX11_comes.2]
  exact ⟨by decide +kernel, (fun _ => (xG_of 1278 (by decide +kernel) (by decide +kernel))), by decide, (fun _ => rfl), (fun z => absurd z (by decide)), (fun z => absurd z (by decide)), (fun z => absurd z (by decide)), (fun z => by cases z), vkX11_comes⟩
theorem xcX11_takeLatest : xcode 138 = kX11_takeLatest := rfl
theorem xqX11_takeLatest : xnl 138 = 3 ∧ xrt 138 = 0 := ⟨rfl, rfl⟩
theorem xmX11_takeLatest : xMok 138 (yX11_takeLatest, cX11_takeLatest, none, false) := by
  unfold xMok
  rw [xcX11_takeLatest, xqX11_takeLatest.1, xqX11_takeLatest.2]
  exact ⟨by decide +kernel, (fun _ => (xG_of 1306 (by decide +kernel) (by decide +kernel))), by decide, (fun _ => rfl), (fun z => absurd z (by decide)), (fun z => absurd z (by decide)), (fun z => absurd z (by decide)), (fun z => by cases z), vkX11_takeLatest⟩
theorem xcX11_expand : xcode 139 = kX11_expand := rfl
theorem xqX11_expand : xnl 139 = 8 ∧ xrt 139 = 0 := ⟨rfl, rfl⟩
theorem xmX11_expand : xMok 139 (yX11_expand, cX11_expand, none, false) := by
  unfold xMok
  rw [xcX11_expand, xqX11_expand.1, xqX11_expand.2]
  exact ⟨by decide +kernel, (fun _ => (xG_of 1294 (by decide +kernel) (by decide +kernel))), by decide, (fun _ => rfl), (fun z => absurd z (by decide)), (fun z => absurd z (by decide)), (fun z => absurd z (by decide)), (fun z => by cases z), vkX11_expand⟩
theorem xcX11_bestWide : xcode 140 = kX11_bestWide := rfl
theorem xqX11_bestWide : xnl 140 = 7 ∧ xrt 140 = 0 := ⟨rfl, rfl⟩
theorem xmX11_bestWide : xMok 140 (yX11_bestWide, cX11_bestWide, none, false) := by
  unfold xMok
  rw [xcX11_bestWide, xqX11_bestWide.1, xqX11_bestWide.2]
  exact ⟨by decide +kernel, (fun _ => (xG_of 1270 (by decide +kernel) (by decide +kernel))), by decide, (fun _ => rfl), (fun z => absurd z (by decide)), (fun z => absurd z (by decide)), (fun z => absurd z (by decide)), (fun z => by cases z), vkX11_bestWide⟩
theorem xcX11_best : xcode 141 = kX11_best := rfl
theorem xqX11_best : xnl 141 = 1 ∧ xrt 141 = 0 := ⟨rfl, rfl⟩
theorem xmX11_best : xMok 141 (yX11_best, cX11_best, none, false) := by
  unfold xMok
  rw [xcX11_best, xqX11_best.1, xqX11_best.2]
  exact ⟨by decide +kernel, (fun _ => (xG_of 1258 (by decide +kernel) (by decide +kernel))), by decide, (fun _ => rfl), (fun z => absurd z (by decide)), (fun z => absurd z (by decide)), (fun z => absurd z (by decide)), (fun z => by cases z), vkX11_best⟩
theorem xcX11_parse : xcode 142 = kX11_parse := rfl
theorem xqX11_parse : xnl 142 = 2 ∧ xrt 142 = 1 := ⟨rfl, rfl⟩
theorem xmX11_parse : xMok 142 (yX11_parse, cX11_parse, some .int, false) := by
  unfold xMok
  rw [xcX11_parse, xqX11_parse.1, xqX11_parse.2]
  exact ⟨by decide +kernel, (fun _ => (xG_of 1254 (by decide +kernel) (by decide +kernel))), by decide, (fun z => absurd z (by decide)), (fun _ => rfl), (fun z => absurd z (by decide)), (fun z => absurd z (by decide)), (fun z => by cases z), vkX11_parse⟩
theorem xcX11_log : xcode 143 = kX11_log := rfl
theorem xqX11_log : xnl 143 = 2 ∧ xrt 143 = 1 := ⟨rfl, rfl⟩
theorem xmX11_log : xMok 143 (yX11_log, cX11_log, some .int, false) := by
  unfold xMok
  rw [xcX11_log, xqX11_log.1, xqX11_log.2]
  exact ⟨by decide +kernel, (fun _ => (xG_of 1410 (by decide +kernel) (by decide +kernel))), by decide, (fun z => absurd z (by decide)), (fun _ => rfl), (fun z => absurd z (by decide)), (fun z => absurd z (by decide)), (fun z => by cases z), vkX11_log⟩
theorem xcX11_fit : xcode 144 = kX11_fit := rfl
theorem xqX11_fit : xnl 144 = 5 ∧ xrt 144 = 0 := ⟨rfl, rfl⟩
theorem xmX11_fit : xMok 144 (yX11_fit, cX11_fit, none, false) := by
  unfold xMok
  rw [xcX11_fit, xqX11_fit.1, xqX11_fit.2]
  exact ⟨by decide +kernel, (fun _ => (xG_of 1407 (by decide +kernel) (by decide +kernel))), by decide, (fun _ => rfl), (fun z => absurd z (by decide)), (fun z => absurd z (by decide)), (fun z => absurd z (by decide)), (fun z => by cases z), vkX11_fit⟩
theorem xcX11_rounds : xcode 145 = kX11_rounds := rfl
theorem xqX11_rounds : xnl 145 = 12 ∧ xrt 145 = 2 := ⟨rfl, rfl⟩
theorem xmX11_rounds : xMok 145 (yX11_rounds, cX11_rounds, some .long, false) := by
  unfold xMok
  rw [xcX11_rounds, xqX11_rounds.1, xqX11_rounds.2]
  exact ⟨by decide +kernel, (fun _ => (xG_of 1402 (by decide +kernel) (by decide +kernel))), by decide, (fun z => absurd z (by decide)), (fun z => absurd z (by decide)), (fun _ => rfl), (fun z => absurd z (by decide)), (fun z => by cases z), vkX11_rounds⟩
theorem xcX11_step : xcode 146 = kX11_step := rfl
theorem xqX11_step : xnl 146 = 3 ∧ xrt 146 = 1 := ⟨rfl, rfl⟩
theorem xmX11_step : xMok 146 (yX11_step, cX11_step, some .int, false) := by
  unfold xMok
  rw [xcX11_step, xqX11_step.1, xqX11_step.2]
  exact ⟨by decide +kernel, (fun _ => (xG_of 1415 (by decide +kernel) (by decide +kernel))), by decide, (fun z => absurd z (by decide)), (fun _ => rfl), (fun z => absurd z (by decide)), (fun z => absurd z (by decide)), (fun z => by cases z), vkX11_step⟩
theorem xcX11_sum : xcode 147 = kX11_sum := rfl
theorem xqX11_sum : xnl 147 = 1 ∧ xrt 147 = 2 := ⟨rfl, rfl⟩
theorem xmX11_sum : xMok 147 (yX11_sum, cX11_sum, some .long, false) := by
  unfold xMok
  rw [xcX11_sum, xqX11_sum.1, xqX11_sum.2]
  exact ⟨by decide +kernel, (fun _ => (xG_of 1419 (by decide +kernel) (by decide +kernel))), by decide, (fun z => absurd z (by decide)), (fun z => absurd z (by decide)), (fun _ => rfl), (fun z => absurd z (by decide)), (fun z => by cases z), vkX11_sum⟩
theorem xcX11_again : xcode 148 = kX11_again := rfl
theorem xqX11_again : xnl 148 = 1 ∧ xrt 148 = 2 := ⟨rfl, rfl⟩
theorem xmX11_again : xMok 148 (yX11_again, cX11_again, some .long, false) := by
  unfold xMok
  rw [xcX11_again, xqX11_again.1, xqX11_again.2]
  exact ⟨by decide +kernel, (fun _ => (xG_of 1423 (by decide +kernel) (by decide +kernel))), by decide, (fun z => absurd z (by decide)), (fun z => absurd z (by decide)), (fun _ => rfl), (fun z => absurd z (by decide)), (fun z => by cases z), vkX11_again⟩
theorem xcX11_least : xcode 149 = kX11_least := rfl
theorem xqX11_least : xnl 149 = 1 ∧ xrt 149 = 3 := ⟨rfl, rfl⟩
theorem xmX11_least : xMok 149 (yX11_least, cX11_least, some .boolean, false) := by
  unfold xMok
  rw [xcX11_least, xqX11_least.1, xqX11_least.2]
  exact ⟨by decide +kernel, (fun _ => (xG_of 1427 (by decide +kernel) (by decide +kernel))), by decide, (fun z => absurd z (by decide)), (fun z => absurd z (by decide)), (fun z => absurd z (by decide)), (fun _ => rfl), (fun z => by cases z), vkX11_least⟩
theorem xcX11_told : xcode 150 = kX11_told := rfl
theorem xqX11_told : xnl 150 = 5 ∧ xrt 150 = 1 := ⟨rfl, rfl⟩
theorem xmX11_told : xMok 150 (yX11_told, cX11_told, some .int, false) := by
  unfold xMok
  rw [xcX11_told, xqX11_told.1, xqX11_told.2]
  exact ⟨by decide +kernel, (fun _ => (xG_of 1431 (by decide +kernel) (by decide +kernel))), by decide, (fun z => absurd z (by decide)), (fun _ => rfl), (fun z => absurd z (by decide)), (fun z => absurd z (by decide)), (fun z => by cases z), vkX11_told⟩
theorem xcX11_longest : xcode 151 = kX11_longest := rfl
theorem xqX11_longest : xnl 151 = 2 ∧ xrt 151 = 1 := ⟨rfl, rfl⟩
theorem xmX11_longest : xMok 151 (yX11_longest, cX11_longest, some .int, false) := by
  unfold xMok
  rw [xcX11_longest, xqX11_longest.1, xqX11_longest.2]
  exact ⟨by decide +kernel, (fun _ => (xG_of 1435 (by decide +kernel) (by decide +kernel))), by decide, (fun z => absurd z (by decide)), (fun _ => rfl), (fun z => absurd z (by decide)), (fun z => absurd z (by decide)), (fun z => by cases z), vkX11_longest⟩
theorem xcX11_distance : xcode 152 = kX11_distance := rfl
theorem xqX11_distance : xnl 152 = 4 ∧ xrt 152 = 1 := ⟨rfl, rfl⟩
theorem xmX11_distance : xMok 152 (yX11_distance, cX11_distance, some .int, false) := by
  unfold xMok
  rw [xcX11_distance, xqX11_distance.1, xqX11_distance.2]
  exact ⟨by decide +kernel, (fun _ => (xG_of 1439 (by decide +kernel) (by decide +kernel))), by decide, (fun z => absurd z (by decide)), (fun _ => rfl), (fun z => absurd z (by decide)), (fun z => absurd z (by decide)), (fun z => by cases z), vkX11_distance⟩
theorem xcX11_cut : xcode 153 = kX11_cut := rfl
theorem xqX11_cut : xnl 153 = 4 ∧ xrt 153 = 1 := ⟨rfl, rfl⟩
theorem xmX11_cut : xMok 153 (yX11_cut, cX11_cut, some .int, false) := by
  unfold xMok
  rw [xcX11_cut, xqX11_cut.1, xqX11_cut.2]
  exact ⟨by decide +kernel, (fun _ => (xG_of 1443 (by decide +kernel) (by decide +kernel))), by decide, (fun z => absurd z (by decide)), (fun _ => rfl), (fun z => absurd z (by decide)), (fun z => absurd z (by decide)), (fun z => by cases z), vkX11_cut⟩
theorem xcX11_border : xcode 154 = kX11_border := rfl
theorem xqX11_border : xnl 154 = 2 ∧ xrt 154 = 1 := ⟨rfl, rfl⟩
theorem xmX11_border : xMok 154 (yX11_border, cX11_border, some .int, false) := by
  unfold xMok
  rw [xcX11_border, xqX11_border.1, xqX11_border.2]
  exact ⟨by decide +kernel, (fun _ => (xG_of 1456 (by decide +kernel) (by decide +kernel))), by decide, (fun z => absurd z (by decide)), (fun _ => rfl), (fun z => absurd z (by decide)), (fun z => absurd z (by decide)), (fun z => by cases z), vkX11_border⟩
theorem xcX11_fillBlocks : xcode 155 = kX11_fillBlocks := rfl
theorem xqX11_fillBlocks : xnl 155 = 7 ∧ xrt 155 = 0 := ⟨rfl, rfl⟩
theorem xmX11_fillBlocks : xMok 155 (yX11_fillBlocks, cX11_fillBlocks, none, false) := by
  unfold xMok
  rw [xcX11_fillBlocks, xqX11_fillBlocks.1, xqX11_fillBlocks.2]
  exact ⟨by decide +kernel, (fun _ => (xG_of 1452 (by decide +kernel) (by decide +kernel))), by decide, (fun _ => rfl), (fun z => absurd z (by decide)), (fun z => absurd z (by decide)), (fun z => absurd z (by decide)), (fun z => by cases z), vkX11_fillBlocks⟩
theorem xcX11_setCost : xcode 156 = kX11_setCost := rfl
theorem xqX11_setCost : xnl 156 = 6 ∧ xrt 156 = 2 := ⟨rfl, rfl⟩
theorem xmX11_setCost : xMok 156 (yX11_setCost, cX11_setCost, some .long, false) := by
  unfold xMok
  rw [xcX11_setCost, xqX11_setCost.1, xqX11_setCost.2]
  exact ⟨by decide +kernel, (fun _ => (xG_of 1460 (by decide +kernel) (by decide +kernel))), by decide, (fun z => absurd z (by decide)), (fun z => absurd z (by decide)), (fun _ => rfl), (fun z => absurd z (by decide)), (fun z => by cases z), vkX11_setCost⟩
theorem xcX11_count : xcode 157 = kX11_count := rfl
theorem xqX11_count : xnl 157 = 3 ∧ xrt 157 = 1 := ⟨rfl, rfl⟩
theorem xmX11_count : xMok 157 (yX11_count, cX11_count, some .int, false) := by
  unfold xMok
  rw [xcX11_count, xqX11_count.1, xqX11_count.2]
  exact ⟨by decide +kernel, (fun _ => (xG_of 1463 (by decide +kernel) (by decide +kernel))), by decide, (fun z => absurd z (by decide)), (fun _ => rfl), (fun z => absurd z (by decide)), (fun z => absurd z (by decide)), (fun z => by cases z), vkX11_count⟩
theorem xcX11_isBefore : xcode 158 = kX11_isBefore := rfl
theorem xqX11_isBefore : xnl 158 = 4 ∧ xrt 158 = 3 := ⟨rfl, rfl⟩
theorem xmX11_isBefore : xMok 158 (yX11_isBefore, cX11_isBefore, some .boolean, false) := by
  unfold xMok
  rw [xcX11_isBefore, xqX11_isBefore.1, xqX11_isBefore.2]
  exact ⟨by decide +kernel, (fun _ => (xG_of 1466 (by decide +kernel) (by decide +kernel))), by decide, (fun z => absurd z (by decide)), (fun z => absurd z (by decide)), (fun z => absurd z (by decide)), (fun _ => rfl), (fun z => by cases z), vkX11_isBefore⟩
theorem xcX11_split : xcode 159 = kX11_split := rfl
theorem xqX11_split : xnl 159 = 8 ∧ xrt 159 = 2 := ⟨rfl, rfl⟩
theorem xmX11_split : xMok 159 (yX11_split, cX11_split, some .long, false) := by
  unfold xMok
  rw [xcX11_split, xqX11_split.1, xqX11_split.2]
  exact ⟨by decide +kernel, (fun _ => (xG_of 1447 (by decide +kernel) (by decide +kernel))), by decide, (fun z => absurd z (by decide)), (fun z => absurd z (by decide)), (fun _ => rfl), (fun z => absurd z (by decide)), (fun z => by cases z), vkX11_split⟩
theorem xcX11_taken : xcode 160 = kX11_taken := rfl
theorem xqX11_taken : xnl 160 = 2 ∧ xrt 160 = 1 := ⟨rfl, rfl⟩
theorem xmX11_taken : xMok 160 (yX11_taken, cX11_taken, some .int, false) := by
  unfold xMok
  rw [xcX11_taken, xqX11_taken.1, xqX11_taken.2]
  exact ⟨by decide +kernel, (fun _ => (xG_of 1470 (by decide +kernel) (by decide +kernel))), by decide, (fun z => absurd z (by decide)), (fun _ => rfl), (fun z => absurd z (by decide)), (fun z => absurd z (by decide)), (fun z => by cases z), vkX11_taken⟩
theorem xcX11_many : xcode 161 = kX11_many := rfl
theorem xqX11_many : xnl 161 = 2 ∧ xrt 161 = 1 := ⟨rfl, rfl⟩
theorem xmX11_many : xMok 161 (yX11_many, cX11_many, some .int, false) := by
  unfold xMok
  rw [xcX11_many, xqX11_many.1, xqX11_many.2]
  exact ⟨by decide +kernel, (fun _ => (xG_of 1474 (by decide +kernel) (by decide +kernel))), by decide, (fun z => absurd z (by decide)), (fun _ => rfl), (fun z => absurd z (by decide)), (fun z => absurd z (by decide)), (fun z => by cases z), vkX11_many⟩
theorem xcX11_clear : xcode 162 = kX11_clear := rfl
theorem xqX11_clear : xnl 162 = 1 ∧ xrt 162 = 0 := ⟨rfl, rfl⟩
theorem xmX11_clear : xMok 162 (yX11_clear, cX11_clear, none, false) := by
  unfold xMok
  rw [xcX11_clear, xqX11_clear.1, xqX11_clear.2]
  exact ⟨by decide +kernel, (fun _ => (xG_of 1478 (by decide +kernel) (by decide +kernel))), by decide, (fun _ => rfl), (fun z => absurd z (by decide)), (fun z => absurd z (by decide)), (fun z => absurd z (by decide)), (fun z => by cases z), vkX11_clear⟩
theorem xcX11_trier : xcode 163 = kX11_trier := rfl
theorem xqX11_trier : xnl 163 = 2 ∧ xrt 163 = 1 := ⟨rfl, rfl⟩
theorem xmX11_trier : xMok 163 (yX11_trier, cX11_trier, some .int, false) := by
  unfold xMok
  rw [xcX11_trier, xqX11_trier.1, xqX11_trier.2]
  exact ⟨by decide +kernel, (fun _ => (xG_of 1482 (by decide +kernel) (by decide +kernel))), by decide, (fun z => absurd z (by decide)), (fun _ => rfl), (fun z => absurd z (by decide)), (fun z => absurd z (by decide)), (fun z => by cases z), vkX11_trier⟩
theorem xcJ7_rangeCheck_23922 : xcode 164 = kJ7_rangeCheck_23922 := rfl
theorem xqJ7_rangeCheck_23922 : xnl 164 = 3 ∧ xrt 164 = 0 := ⟨rfl, rfl⟩
theorem xmJ7_rangeCheck_23922 : xMok 164 (yJ7_rangeCheck_23922, cJ7_rangeCheck_23922, none, false) := by
  unfold xMok
  rw [xcJ7_rangeCheck_23922, xqJ7_rangeCheck_23922.1, xqJ7_rangeCheck_23922.2]
  exact ⟨by decide +kernel, (fun _ => (xG_of 111 (by decide +kernel) (by decide +kernel))), by decide, (fun _ => rfl), (fun z => absurd z (by decide)), (fun z => absurd z (by decide)), (fun z => absurd z (by decide)), (fun z => by cases z), vkJ7_rangeCheck_23922⟩
theorem xcJ7_fill_d0a16 : xcode 165 = kJ7_fill_d0a16 := rfl
theorem xqJ7_fill_d0a16 : xnl 165 = 5 ∧ xrt 165 = 0 := ⟨rfl, rfl⟩
theorem xmJ7_fill_d0a16 : xMok 165 (yJ7_fill_d0a16, cJ7_fill_d0a16, none, false) := by
  unfold xMok
  rw [xcJ7_fill_d0a16, xqJ7_fill_d0a16.1, xqJ7_fill_d0a16.2]
  exact ⟨by decide +kernel, (fun _ => (xG_of 756 (by decide +kernel) (by decide +kernel))), by decide, (fun _ => rfl), (fun z => absurd z (by decide)), (fun z => absurd z (by decide)), (fun z => absurd z (by decide)), (fun z => by cases z), vkJ7_fill_d0a16⟩
theorem xcJ7_fill_53178 : xcode 166 = kJ7_fill_53178 := rfl
theorem xqJ7_fill_53178 : xnl 166 = 4 ∧ xrt 166 = 0 := ⟨rfl, rfl⟩
theorem xmJ7_fill_53178 : xMok 166 (yJ7_fill_53178, cJ7_fill_53178, none, false) := by
  unfold xMok
  rw [xcJ7_fill_53178, xqJ7_fill_53178.1, xqJ7_fill_53178.2]
  exact ⟨by decide +kernel, (fun _ => (xG_of 846 (by decide +kernel) (by decide +kernel))), by decide, (fun _ => rfl), (fun z => absurd z (by decide)), (fun z => absurd z (by decide)), (fun z => absurd z (by decide)), (fun z => by cases z), vkJ7_fill_53178⟩
theorem xcJ7_fill_fda19 : xcode 167 = kJ7_fill_fda19 := rfl
theorem xqJ7_fill_fda19 : xnl 167 = 5 ∧ xrt 167 = 0 := ⟨rfl, rfl⟩
theorem xmJ7_fill_fda19 : xMok 167 (yJ7_fill_fda19, cJ7_fill_fda19, none, false) := by
  unfold xMok
  rw [xcJ7_fill_fda19, xqJ7_fill_fda19.1, xqJ7_fill_fda19.2]
  exact ⟨by decide +kernel, (fun _ => (xG_of 108 (by decide +kernel) (by decide +kernel))), by decide, (fun _ => rfl), (fun z => absurd z (by decide)), (fun z => absurd z (by decide)), (fun z => absurd z (by decide)), (fun z => by cases z), vkJ7_fill_fda19⟩
theorem xcL_cell : xcode 168 = kL_cell := rfl
theorem xqL_cell : xnl 168 = 2 ∧ xrt 168 = 1 := ⟨rfl, rfl⟩
theorem xmL_cell : xMok 168 (yL_cell, cL_cell, some .int, false) := by
  unfold xMok
  rw [xcL_cell, xqL_cell.1, xqL_cell.2]
  exact ⟨by decide +kernel, (fun _ => (xG_of 1055 (by decide +kernel) (by decide +kernel))), by decide, (fun z => absurd z (by decide)), (fun _ => rfl), (fun z => absurd z (by decide)), (fun z => absurd z (by decide)), (fun z => by cases z), vkL_cell⟩
theorem xcL_law : xcode 169 = kL_law := rfl
theorem xqL_law : xnl 169 = 7 ∧ xrt 169 = 3 := ⟨rfl, rfl⟩
theorem xmL_law : xMok 169 (yL_law, cL_law, some .boolean, false) := by
  unfold xMok
  rw [xcL_law, xqL_law.1, xqL_law.2]
  exact ⟨by decide +kernel, (fun z => absurd rfl z), by decide, (fun z => absurd z (by decide)), (fun z => absurd z (by decide)), (fun z => absurd z (by decide)), (fun _ => rfl), (fun z => by cases z), vkL_law⟩
end
section
/-- all of a list, by their numbers -/
def xAll (P : Nat → xMT → Prop) : Nat → List xMT → Prop
  | _, [] => True
  | k, t :: l => P k t ∧ xAll P (k + 1) l
theorem xAll.get {P : Nat → xMT → Prop} : ∀ {l : List xMT} {k j : Nat} {t : xMT}, xAll P k l → l[j]? = some t → P (k + j) t
  | [], _, _, _, _, h => by simp at h
  | _ :: _, k, 0, _, hp, h => by
    rw [List.getElem?_cons_zero] at h
    cases h
    exact hp.1
  | _ :: l, k, j + 1, _, hp, h => by
    rw [List.getElem?_cons_succ] at h
    have := xAll.get hp.2 h
    rw [show k + (j + 1) = k + 1 + j by omega]
    exact this
theorem xAll.app {P : Nat → xMT → Prop} : ∀ {l l2 : List xMT} {k n : Nat}, xAll P k l → l.length + k = n → xAll P n l2 → xAll P k (l ++ l2)
  | [], _, _, _, _, e, h => by
    have e : _ = _ := e
    rw [List.length_nil, Nat.zero_add] at e
    subst e
    exact h
  | _ :: l, _, k, n, hp, e, h => ⟨hp.1, xAll.app hp.2 (by rw [List.length_cons] at e; omega) h⟩
def xmL0 : List xMT := [(yX0_init, cX0_init, none, true), (yX0_forget, cX0_forget, none, false), (yX0_addCut, cX0_addCut, some .boolean, false), (yX0_divide, cX0_divide, some .long, false), (yX0_findRest, cX0_findRest, none, false), (yX0_countOctet, cX0_countOctet, some .int, false), (yX0_placeOf, cX0_placeOf, some .int, false), (yX1_init, cX1_init, none, true), (yX1_reset, cX1_reset, none, false), (yX1_has, cX1_has, some .boolean, false), (yX1_of, cX1_of, some .int, false), (yX1_put, cX1_put, none, false), (yX1_copyFrom, cX1_copyFrom, none, false), (yX1_prepare, cX1_prepare, none, false), (yX1_literalCost, cX1_literalCost, some .int, false), (yX1_kindCost, cX1_kindCost, some .int, false), (yX1_stepCost, cX1_stepCost, some .int, false), (yX1_lengthCost, cX1_lengthCost, some .int, false), (yX1_distanceCost, cX1_distanceCost, some .int, false), (yX1_lengthSlot, cX1_lengthSlot, some .int, false)]
theorem xmA0 : xAll xMok 0 xmL0 := ⟨xmX0_init, xmX0_forget, xmX0_addCut, xmX0_divide, xmX0_findRest, xmX0_countOctet, xmX0_placeOf, xmX1_init, xmX1_reset, xmX1_has, xmX1_of, xmX1_put, xmX1_copyFrom, xmX1_prepare, xmX1_literalCost, xmX1_kindCost, xmX1_stepCost, xmX1_lengthCost, xmX1_distanceCost, xmX1_lengthSlot, trivial⟩
def xmL1 : List xMT := [(yX1_distanceSlot, cX1_distanceSlot, some .int, false), (yX1_fitTo, cX1_fitTo, none, false), (yX1_countSymbols, cX1_countSymbols, none, false), (yX1_countOne, cX1_countOne, none, false), (yX1_fitClass, cX1_fitClass, none, false), (yX2_init, cX2_init, none, true), (yX2_costOf, cX2_costOf, some .long, false), (yX3_at, cX3_at, some .int, false), (yX3_behindCopy, cX3_behindCopy, some .long, false), (yX3_behindAgain, cX3_behindAgain, some .long, false), (yX4_init, cX4_init, none, true), (yX4_findBest, cX4_findBest, some .int, false), (yX4_begin, cX4_begin, none, false), (yX4_goFrom, cX4_goFrom, none, false), (yX4_copiesWereLed, cX4_copiesWereLed, some .boolean, false), (yX4_leadByCopies, cX4_leadByCopies, none, false), (yX4_leadByAgain, cX4_leadByAgain, none, false), (yX4_lead, cX4_lead, none, false), (yX4_makeRoom, cX4_makeRoom, some .boolean, false), (yX4_insert, cX4_insert, none, false)]
theorem xmA1 : xAll xMok 20 xmL1 := ⟨xmX1_distanceSlot, xmX1_fitTo, xmX1_countSymbols, xmX1_countOne, xmX1_fitClass, xmX2_init, xmX2_costOf, xmX3_at, xmX3_behindCopy, xmX3_behindAgain, xmX4_init, xmX4_findBest, xmX4_begin, xmX4_goFrom, xmX4_copiesWereLed, xmX4_leadByCopies, xmX4_leadByAgain, xmX4_lead, xmX4_makeRoom, xmX4_insert, trivial⟩
def xmL2 : List xMT := [(yX4_tellSteps, cX4_tellSteps, none, false), (yX5_init, cX5_init, none, true), (yX5_findBest, cX5_findBest, some .int, false), (yX5_findFirst, cX5_findFirst, none, false), (yX5_lead, cX5_lead, none, false), (yX5_tellSteps, cX5_tellSteps, none, false), (yX5_costOf, cX5_costOf, some .long, false), (yX5_copyCost, cX5_copyCost, some .int, false), (yX5_beyond, cX5_beyond, some .int, false), (yX6_init, cX6_init, none, true), (yX6_hasStep, cX6_hasStep, some .boolean, false), (yX6_begin, cX6_begin, none, false), (yX6_add, cX6_add, none, false), (yX6_turnRound, cX6_turnRound, none, false), (yX6_swap, cX6_swap, none, false), (yX6_finish, cX6_finish, none, false), (yX6_tellBack, cX6_tellBack, none, false), (yX7_init, cX7_init, none, true), (yX7_findBest, cX7_findBest, some .int, false), (yX7_lead, cX7_lead, none, false)]
theorem xmA2 : xAll xMok 40 xmL2 := ⟨xmX4_tellSteps, xmX5_init, xmX5_findBest, xmX5_findFirst, xmX5_lead, xmX5_tellSteps, xmX5_costOf, xmX5_copyCost, xmX5_beyond, xmX6_init, xmX6_hasStep, xmX6_begin, xmX6_add, xmX6_turnRound, xmX6_swap, xmX6_finish, xmX6_tellBack, xmX7_init, xmX7_findBest, xmX7_lead, trivial⟩
def xmL3 : List xMT := [(yX7_tellSteps, cX7_tellSteps, none, false), (yX8_init, cX8_init, none, true), (yX8_walk, cX8_walk, none, false), (yX8_longerAhead, cX8_longerAhead, some .boolean, false), (yX8_againAsLong, cX8_againAsLong, some .int, false), (yX9_init, cX9_init, none, true), (yX9_has, cX9_has, some .boolean, false), (yX9_append, cX9_append, none, false), (yX9_noteCopies, cX9_noteCopies, none, false), (yX9_longestCopy, cX9_longestCopy, some .int, false), (yX9_copyDistance, cX9_copyDistance, some .int, false), (yX9_sameBy, cX9_sameBy, some .int, false), (yX9_nearestIndex, cX9_nearestIndex, some .int, false), (yX10_init, cX10_init, none, true), (yX10_octets, cX10_octets, some .int, false), (yX10_cost, cX10_cost, some .int, false), (yX10_price, cX10_price, some .int, false), (yX10_keep, cX10_keep, some .int, false), (yX10_parse, cX10_parse, some .int, false), (yX10_step, cX10_step, some .int, false)]
theorem xmA3 : xAll xMok 60 xmL3 := ⟨xmX7_tellSteps, xmX8_init, xmX8_walk, xmX8_longerAhead, xmX8_againAsLong, xmX9_init, xmX9_has, xmX9_append, xmX9_noteCopies, xmX9_longestCopy, xmX9_copyDistance, xmX9_sameBy, xmX9_nearestIndex, xmX10_init, xmX10_octets, xmX10_cost, xmX10_price, xmX10_keep, xmX10_parse, xmX10_step, trivial⟩
def xmL4 : List xMT := [(yX10_sum, cX10_sum, some .long, false), (yX10_again, cX10_again, some .long, false), (yX10_least, cX10_least, some .boolean, false), (yX10_told, cX10_told, some .int, false), (yX10_rounds, cX10_rounds, some .long, false), (yX10_longest, cX10_longest, some .int, false), (yX10_distance, cX10_distance, some .int, false), (yX10_cut, cX10_cut, some .int, false), (yX10_split, cX10_split, some .long, false), (yX10_taken, cX10_taken, some .int, false), (yX10_many, cX10_many, some .int, false), (yX10_clear, cX10_clear, none, false), (yX10_findBest, cX10_findBest, none, false), (yX10_takeSpare, cX10_takeSpare, none, false), (yX10_logOf, cX10_logOf, some .int, false), (yX10_highestBit, cX10_highestBit, some .int, false), (yX11_init, cX11_init, none, true), (yX11_thrown, cX11_thrown, some .int, false), (yX11_start, cX11_start, none, false), (yX11_shortest, cX11_shortest, some .int, false)]
theorem xmA4 : xAll xMok 80 xmL4 := ⟨xmX10_sum, xmX10_again, xmX10_least, xmX10_told, xmX10_rounds, xmX10_longest, xmX10_distance, xmX10_cut, xmX10_split, xmX10_taken, xmX10_many, xmX10_clear, xmX10_findBest, xmX10_takeSpare, xmX10_logOf, xmX10_highestBit, xmX11_init, xmX11_thrown, xmX11_start, xmX11_shortest, trivial⟩
def xmL5 : List xMT := [(yX11_greatest, cX11_greatest, some .int, false), (yX11_symbols, cX11_symbols, some .int, false), (yX11_isCost, cX11_isCost, some .boolean, false), (yX11_octets, cX11_octets, some .int, false), (yX11_cost, cX11_cost, some .int, false), (yX11_price, cX11_price, some .int, false), (yX11_keep, cX11_keep, some .int, false), (yX11_layOut, cX11_layOut, none, false), (yX11_longestCopy, cX11_longestCopy, some .int, false), (yX11_longestAgain, cX11_longestAgain, some .int, false), (yX11_high, cX11_high, some .int, false), (yX11_lengthSlot, cX11_lengthSlot, some .int, false), (yX11_lengthBits, cX11_lengthBits, some .int, false), (yX11_distanceSlot, cX11_distanceSlot, some .int, false), (yX11_distanceBits, cX11_distanceBits, some .int, false), (yX11_lengthCost, cX11_lengthCost, some .int, false), (yX11_distanceCost, cX11_distanceCost, some .int, false), (yX11_kindCost, cX11_kindCost, some .int, false), (yX11_more, cX11_more, some .int, false), (yX11_stepCost, cX11_stepCost, some .int, false)]
theorem xmA5 : xAll xMok 100 xmL5 := ⟨xmX11_greatest, xmX11_symbols, xmX11_isCost, xmX11_octets, xmX11_cost, xmX11_price, xmX11_keep, xmX11_layOut, xmX11_longestCopy, xmX11_longestAgain, xmX11_high, xmX11_lengthSlot, xmX11_lengthBits, xmX11_distanceSlot, xmX11_distanceBits, xmX11_lengthCost, xmX11_distanceCost, xmX11_kindCost, xmX11_more, xmX11_stepCost, trivial⟩
def xmL6 : List xMT := [(yX11_allCost, cX11_allCost, some .long, false), (yX11_clearLatest, cX11_clearLatest, none, false), (yX11_ahead, cX11_ahead, none, false), (yX11_longestOf, cX11_longestOf, some .int, false), (yX11_addStep, cX11_addStep, none, false), (yX11_greedy, cX11_greedy, none, false), (yX11_at, cX11_at, some .int, false), (yX11_firstRow, cX11_firstRow, some .int, false), (yX11_clearTable, cX11_clearTable, none, false), (yX11_copies, cX11_copies, none, false), (yX11_literals, cX11_literals, none, false), (yX11_backPlain, cX11_backPlain, none, false), (yX11_turnBack, cX11_turnBack, none, false), (yX11_bestPlain, cX11_bestPlain, none, false), (yX11_isState, cX11_isState, some .boolean, false), (yX11_isBehind, cX11_isBehind, some .boolean, false), (yX11_moveState, cX11_moveState, none, false), (yX11_comes, cX11_comes, none, false), (yX11_takeLatest, cX11_takeLatest, none, false), (yX11_expand, cX11_expand, none, false)]
theorem xmA6 : xAll xMok 120 xmL6 := ⟨xmX11_allCost, xmX11_clearLatest, xmX11_ahead, xmX11_longestOf, xmX11_addStep, xmX11_greedy, xmX11_at, xmX11_firstRow, xmX11_clearTable, xmX11_copies, xmX11_literals, xmX11_backPlain, xmX11_turnBack, xmX11_bestPlain, xmX11_isState, xmX11_isBehind, xmX11_moveState, xmX11_comes, xmX11_takeLatest, xmX11_expand, trivial⟩
def xmL7 : List xMT := [(yX11_bestWide, cX11_bestWide, none, false), (yX11_best, cX11_best, none, false), (yX11_parse, cX11_parse, some .int, false), (yX11_log, cX11_log, some .int, false), (yX11_fit, cX11_fit, none, false), (yX11_rounds, cX11_rounds, some .long, false), (yX11_step, cX11_step, some .int, false), (yX11_sum, cX11_sum, some .long, false), (yX11_again, cX11_again, some .long, false), (yX11_least, cX11_least, some .boolean, false), (yX11_told, cX11_told, some .int, false), (yX11_longest, cX11_longest, some .int, false), (yX11_distance, cX11_distance, some .int, false), (yX11_cut, cX11_cut, some .int, false), (yX11_border, cX11_border, some .int, false), (yX11_fillBlocks, cX11_fillBlocks, none, false), (yX11_setCost, cX11_setCost, some .long, false), (yX11_count, cX11_count, some .int, false), (yX11_isBefore, cX11_isBefore, some .boolean, false), (yX11_split, cX11_split, some .long, false)]
theorem xmA7 : xAll xMok 140 xmL7 := ⟨xmX11_bestWide, xmX11_best, xmX11_parse, xmX11_log, xmX11_fit, xmX11_rounds, xmX11_step, xmX11_sum, xmX11_again, xmX11_least, xmX11_told, xmX11_longest, xmX11_distance, xmX11_cut, xmX11_border, xmX11_fillBlocks, xmX11_setCost, xmX11_count, xmX11_isBefore, xmX11_split, trivial⟩
def xmL8 : List xMT := [(yX11_taken, cX11_taken, some .int, false), (yX11_many, cX11_many, some .int, false), (yX11_clear, cX11_clear, none, false), (yX11_trier, cX11_trier, some .int, false), (yJ7_rangeCheck_23922, cJ7_rangeCheck_23922, none, false), (yJ7_fill_d0a16, cJ7_fill_d0a16, none, false), (yJ7_fill_53178, cJ7_fill_53178, none, false), (yJ7_fill_fda19, cJ7_fill_fda19, none, false), (yL_cell, cL_cell, some .int, false), (yL_law, cL_law, some .boolean, false)]
theorem xmA8 : xAll xMok 160 xmL8 := ⟨xmX11_taken, xmX11_many, xmX11_clear, xmX11_trier, xmJ7_rangeCheck_23922, xmJ7_fill_d0a16, xmJ7_fill_53178, xmJ7_fill_fda19, xmL_cell, xmL_law, trivial⟩
set_option maxRecDepth 100000 in
theorem xmt_eq (i : Nat) : xmt i = (xmL0 ++ (xmL1 ++ (xmL2 ++ (xmL3 ++ (xmL4 ++ (xmL5 ++ (xmL6 ++ (xmL7 ++ (xmL8)))))))))[i]? := rfl
theorem xval : xVal := fun i t ht => by
  rw [xmt_eq] at ht
  have h := xAll.get (xmA0.app rfl (xmA1.app rfl (xmA2.app rfl (xmA3.app rfl (xmA4.app rfl (xmA5.app rfl (xmA6.app rfl (xmA7.app rfl xmA8)))))))) ht
  rw [Nat.zero_add] at h
  exact h
end
section
/-! RUNS WITHOUT FUEL: more fuel, more depth, more locals change nothing -/
def xwk1 : xL → xL → Prop
  | [], [] => True
  | a :: l, b :: l' => (a = none ∨ a = b) ∧ xwk1 l l'
  | _, _ => False
theorem xwk1.refl : ∀ L : xL, xwk1 L L
  | [] => trivial
  | _ :: l => ⟨Or.inr rfl, xwk1.refl l⟩
theorem xwk1.len : ∀ {L L' : xL}, xwk1 L L' → L'.length = L.length
  | [], [], _ => rfl
  | _ :: l, _ :: l', h => by rw [List.length_cons, List.length_cons, xwk1.len h.2]
  | [], _ :: _, h => absurd h id
  | _ :: _, [], h => absurd h id
theorem xwk1.ld : ∀ {L L' : xL} {i : Nat} {v : Value}, xwk1 L L' → xld L i = some v → xld L' i = some v
  | [], [], i, v, _, h => h
  | a :: l, b :: l', 0, v, hw, h => by
    have h2 : a = some v := by simpa [xld] using h
    rcases hw.1 with z | z
    · rw [z] at h2; cases h2
    · rw [← z, h2]; rfl
  | a :: l, b :: l', i + 1, v, hw, h => by
    have := xwk1.ld (i := i) hw.2 (by simpa [xld] using h)
    simpa [xld] using this
  | [], _ :: _, _, _, h, _ => absurd h id
  | _ :: _, [], _, _, h, _ => absurd h id
theorem xwk1.set : ∀ {L L' : xL} (i : Nat) {o o' : Option Value}, xwk1 L L' → (o = none ∨ o = o') → xwk1 (L.set i o) (L'.set i o')
  | [], [], _, _, _, _, _ => trivial
  | _ :: _, _ :: _, 0, _, _, h, ho => ⟨ho, h.2⟩
  | _ :: _, _ :: _, i + 1, _, _, h, ho => ⟨h.1, xwk1.set i h.2 ho⟩
  | [], _ :: _, _, _, _, h, _ => absurd h id
  | _ :: _, [], _, _, _, h, _ => absurd h id
/-- a place whose content isn't known any more -/
theorem xwk1.drop : ∀ {L L' : xL} (i : Nat), xwk1 L L' → xwk1 (L.set i none) L'
  | [], [], _, _ => trivial
  | _ :: _, _ :: _, 0, h => ⟨Or.inl rfl, h.2⟩
  | _ :: _, _ :: _, i + 1, h => ⟨h.1, xwk1.drop i h.2⟩
  | [], _ :: _, _, h => absurd h id
  | _ :: _, [], _, h => absurd h id
theorem xset2 : ∀ (L : xL) (i : Nat) (a b : Option Value), (L.set i a).set i b = L.set i b
  | [], _, _, _ => rfl
  | _ :: _, 0, _, _ => rfl
  | x :: l, i + 1, a, b => by rw [List.set_cons_succ, List.set_cons_succ, List.set_cons_succ, xset2 l i a b]
theorem xwk1.clr {L L' : xL} (i : Nat) (h : xwk1 L L') : xwk1 (xclr L i) (xclr L' i) ∨ ∃ j, i = j + 1 ∧ xld L j = none ∧ xwk1 (xclr L i) ((xclr L' i).set j none) ∧ xwk1 (xclr L i) (xclr L' i) := by
  left
  unfold xclr
  split
  · exact h
  · rename_i j
    cases hL : xld L j with
    | some v =>
      rw [h.ld hL]
      dsimp only
      split
      · exact xwk1.set j h (Or.inl rfl)
      · exact h
    | none =>
      dsimp only
      split
      · rename_i v hv
        split
        · -- L' knows a long there, L nothing: clearing it keeps the order
          have key : ∀ {A B : xL} (j : Nat), xwk1 A B → xld A j = none → xwk1 A (B.set j none) := by
            intro A B j
            induction A generalizing B j with
            | nil => intro hAB _; cases B with
              | nil => trivial
              | cons _ _ => exact absurd hAB id
            | cons a l ih =>
              intro hAB hn
              cases B with
              | nil => exact absurd hAB id
              | cons b l' =>
                cases j with
                | zero =>
                  have : a = none := by simpa [xld] using hn
                  exact ⟨Or.inl this, hAB.2⟩
                | succ j => exact ⟨hAB.1, ih j hAB.2 (by simpa [xld] using hn)⟩
          exact key j h hL
        · exact h
      · exact h
theorem xwk1.st1 {L L' M : xL} {i : Nat} {v : Value} (h : xwk1 L L') (hs : xst1 L i v = some M) : ∃ M', xst1 L' i v = some M' ∧ xwk1 M M' := by
  have hi := xst1_lt hs
  unfold xst1 at hs ⊢
  rw [if_pos hi] at hs
  cases hs
  rw [if_pos (by rw [h.len]; exact hi)]
  rcases h.clr i with hc | ⟨_, _, _, _, hc⟩
  · exact ⟨_, rfl, xwk1.set i hc (Or.inr rfl)⟩
  · exact ⟨_, rfl, xwk1.set i hc (Or.inr rfl)⟩
theorem xwk1.st2 {L L' M : xL} {i : Nat} {v : Value} (h : xwk1 L L') (hs : xst2 L i v = some M) : ∃ M', xst2 L' i v = some M' ∧ xwk1 M M' := by
  have hi := xst2_lt hs
  unfold xst2 at hs ⊢
  rw [if_pos hi] at hs
  cases hs
  rw [if_pos (by rw [h.len]; exact hi)]
  rcases h.clr i with hc | ⟨_, _, _, _, hc⟩
  · exact ⟨_, rfl, xwk1.set _ (xwk1.set i hc (Or.inr rfl)) (Or.inl rfl)⟩
  · exact ⟨_, rfl, xwk1.set _ (xwk1.set i hc (Or.inr rfl)) (Or.inl rfl)⟩
theorem xlo_wk {ins : Instr} {L L' : xL} {st : List Value} {q : xL × List Value} (h : xwk1 L L') (hx : xlo ins L st = some q) : ∃ M', xlo ins L' st = some (M', q.2) ∧ xwk1 q.1 M' := by
  unfold xlo at hx ⊢
  cases ins <;> first | (cases hx; done) | skip
  all_goals dsimp only at hx ⊢
  all_goals first
    | (split at hx
       · rename_i hv
         rw [h.ld hv]
         first
           | (cases hx; exact ⟨_, rfl, h⟩)
           | (obtain ⟨M, hs, he⟩ := Option.map_eq_some_iff.mp hx
              obtain ⟨M', hs', hw⟩ := h.st1 hs
              cases he
              exact ⟨M', by dsimp only; rw [hs']; rfl, hw⟩)
       · cases hx)
    | (split at hx
       · obtain ⟨M, hs, he⟩ := Option.map_eq_some_iff.mp hx
         cases he
         first
           | (obtain ⟨M', hs', hw⟩ := h.st1 hs
              exact ⟨M', by rw [hs']; rfl, hw⟩)
           | (obtain ⟨M', hs', hw⟩ := h.st2 hs
              exact ⟨M', by rw [hs']; rfl, hw⟩)
       · cases hx)
theorem xlo_no {ins : Instr} {L L' : xL} {st : List Value} {q : xL × List Value} (h : xlo ins L' st = some q) (r1 pc r2 : Nat) (hp : xS) : xbr ins r1 pc st = none ∧ xhp ins r1 r2 st hp = none ∧ xal ins r1 st hp = none := by
  cases ins <;> first | (cases h; done) | exact ⟨rfl, rfl, rfl⟩
theorem xstep_wk {ins : Instr} {r1 r2 pc : Nat} {L L' : xL} {st : List Value} {h : xS} {f : xF} (hw : xwk1 L L') (hx : xstep ins r1 r2 pc L st h = some f) : ∃ M', xstep ins r1 r2 pc L' st h = some (f.1, M', f.2.2.1, f.2.2.2) ∧ xwk1 f.2.1 M' := by
  unfold xstep at hx ⊢
  cases ho : xop ins r1 st with
  | some st' =>
    rw [ho] at hx
    cases hx
    exact ⟨L', rfl, hw⟩
  | none =>
    rw [ho] at hx
    dsimp only at hx ⊢
    cases hq : xlo ins L st with
    | some q =>
      rw [hq] at hx
      obtain ⟨M', h1, h2⟩ := xlo_wk hw hq
      rw [h1]
      cases hx
      exact ⟨M', rfl, h2⟩
    | none =>
      rw [hq] at hx
      dsimp only at hx
      cases hl : xlo ins L' st with
      | some q =>
        obtain ⟨z1, z2, z3⟩ := xlo_no (L := L) hl r1 pc r2 h
        rw [z1, z2, z3] at hx
        cases hx
      | none =>
        dsimp only
        cases h1 : xbr ins r1 pc st with
        | some q =>
          rw [h1] at hx
          cases hx
          exact ⟨L', rfl, hw⟩
        | none =>
          rw [h1] at hx
          dsimp only at hx ⊢
          cases h2 : xhp ins r1 r2 st h with
          | some q =>
            rw [h2] at hx
            cases hx
            exact ⟨L', rfl, hw⟩
          | none =>
            rw [h2] at hx
            dsimp only at hx ⊢
            cases h3 : xal ins r1 st h with
            | some q =>
              rw [h3] at hx
              cases hx
              exact ⟨L', rfl, hw⟩
            | none =>
              rw [h3] at hx
              cases hx
theorem ex_up : ∀ {n d i pc : Nat} {L L' : xL} {st : List Value} {h : xS} {r : Option Value × xS} (m e : Nat), ex n d i pc L st h = some r → xwk1 L L' → n ≤ m → d ≤ e → ex m e i pc L' st h = some r
  | 0, _, _, _, _, _, _, _, _, _, _, H, _, _, _ => by simp [ex] at H
  | n + 1, d, i, pc, L, L', st, h, r, m, e, H, hw, hm, he => by
    obtain ⟨m, rfl⟩ : ∃ k, m = k + 1 := ⟨m - 1, by omega⟩
    unfold ex at H ⊢
    cases hx : xat pc (xcode i) with
    | none => rw [hx] at H; cases H
    | some x =>
      rw [hx] at H
      dsimp only at H ⊢
      cases hr : xret i x.1 st h with
      | some r0 => rw [hr] at H; exact H
      | none =>
        rw [hr] at H
        dsimp only at H ⊢
        cases hj : xwho x.1 x.2.2.1 x.2.2.2 st h with
        | some j =>
          rw [hj] at H
          dsimp only at H ⊢
          cases d with
          | zero => cases H
          | succ d' =>
            obtain ⟨e, rfl⟩ : ∃ k, e = k + 1 := ⟨e - 1, by omega⟩
            dsimp only at H ⊢
            by_cases hc : x.2.2.2 ≤ st.length ∧ xsum (st.drop x.2.2.2) ≤ 8 ∧ (xargs (st.take x.2.2.2).reverse).length ≤ xnl j
            · rw [if_pos hc] at H ⊢
              cases hq : ex n d' j 0 (xent (xnl j) (st.take x.2.2.2).reverse) [] h with
              | some q =>
                rw [hq] at H
                rw [ex_up m e hq (xwk1.refl _) (by omega) (by omega)]
                exact ex_up m (e + 1) H hw (by omega) he
              | none => rw [hq] at H; cases H
            · rw [if_neg hc] at H; cases H
        | none =>
          rw [hj] at H
          dsimp only at H ⊢
          cases hq : xbj x.1 x.2.2.1 st h with
          | some q =>
            rw [hq] at H
            dsimp only at H ⊢
            by_cases hc : 1 ≤ d ∧ xsum q.1 ≤ 9
            · rw [if_pos hc] at H
              rw [if_pos ⟨by omega, hc.2⟩]
              exact ex_up m e H hw (by omega) he
            · rw [if_neg hc] at H; cases H
          | none =>
            rw [hq] at H
            dsimp only at H ⊢
            cases hq2 : xbt x.1 x.2.2.1 st h with
            | some q =>
              rw [hq2] at H
              dsimp only at H ⊢
              by_cases hc : 6 ≤ d ∧ xsum q.1 ≤ 9
              · rw [if_pos hc] at H
                rw [if_pos ⟨by omega, hc.2⟩]
                exact ex_up m e H hw (by omega) he
              · rw [if_neg hc] at H; cases H
            | none =>
              rw [hq2] at H
              dsimp only at H ⊢
              cases hf : xstep x.1 x.2.2.1 x.2.2.2 pc L st h with
              | some f =>
                rw [hf] at H
                obtain ⟨M', h1, h2⟩ := xstep_wk hw hf
                rw [h1]
                exact ex_up m e H h2 (by omega) he
              | none => rw [hf] at H; cases H
/-- some fuel is enough -/
def Ev (d i pc : Nat) (L : xL) (st : List Value) (h : xS) (r : Option Value × xS) : Prop := ∃ n, ex n d i pc L st h = some r
theorem Ev.wk {d i pc : Nat} {L L' : xL} {st : List Value} {h : xS} {r : Option Value × xS} (H : Ev d i pc L st h r) (hw : xwk1 L L') : Ev d i pc L' st h r := by
  obtain ⟨n, hn⟩ := H
  exact ⟨n, ex_up n d hn hw (Nat.le_refl _) (Nat.le_refl _)⟩
theorem Ev.dp {d e i pc : Nat} {L : xL} {st : List Value} {h : xS} {r : Option Value × xS} (H : Ev d i pc L st h r) (hd : d ≤ e) : Ev e i pc L st h r := by
  obtain ⟨n, hn⟩ := H
  exact ⟨n, ex_up n e hn (xwk1.refl _) (Nat.le_refl _) hd⟩
theorem Ev.ret {d i pc : Nat} {L : xL} {st : List Value} {h : xS} {r : Option Value × xS} {x : xI} (hx : xat pc (xcode i) = some x) (hr : xret i x.1 st h = some r) : Ev d i pc L st h r := ⟨1, by unfold ex; rw [hx]; dsimp only; rw [hr]⟩
theorem Ev.step {d i pc : Nat} {L : xL} {st : List Value} {h : xS} {r : Option Value × xS} {x : xI} (hx : xat pc (xcode i) = some x) (f : xF) (hf : xstep x.1 x.2.2.1 x.2.2.2 pc L st h = some f) (hp : xret i x.1 st h = none ∧ xwho x.1 x.2.2.1 x.2.2.2 st h = none ∧ xbj x.1 x.2.2.1 st h = none ∧ xbt x.1 x.2.2.1 st h = none) (k : Ev d i f.1 f.2.1 f.2.2.1 f.2.2.2 r) : Ev d i pc L st h r := by
  obtain ⟨n, hn⟩ := k
  obtain ⟨p1, p2, p3, p4⟩ := hp
  refine ⟨n + 1, ?_⟩
  unfold ex
  rw [hx]
  dsimp only
  rw [p1]
  dsimp only
  rw [p2]
  dsimp only
  rw [p3]
  dsimp only
  rw [p4]
  dsimp only
  rw [hf]
  exact hn
theorem Ev.bi {d i pc : Nat} {L : xL} {st : List Value} {h : xS} {r : Option Value × xS} {x : xI} (hx : xat pc (xcode i) = some x) (q : List Value × xS) (hq : xbj x.1 x.2.2.1 st h = some q) (hp : xret i x.1 st h = none ∧ xwho x.1 x.2.2.1 x.2.2.2 st h = none) (hd : 1 ≤ d) (hs : xsum q.1 ≤ 9) (k : Ev d i (pc + 3) L q.1 q.2 r) : Ev d i pc L st h r := by
  obtain ⟨n, hn⟩ := k
  obtain ⟨p1, p2⟩ := hp
  refine ⟨n + 1, ?_⟩
  unfold ex
  rw [hx]
  dsimp only
  rw [p1]
  dsimp only
  rw [p2]
  dsimp only
  rw [hq]
  dsimp only
  rw [if_pos ⟨hd, hs⟩]
  exact hn
theorem Ev.tr {d i pc : Nat} {L : xL} {st : List Value} {h : xS} {r : Option Value × xS} {x : xI} (hx : xat pc (xcode i) = some x) (q : List Value × xS) (hq : xbt x.1 x.2.2.1 st h = some q) (hp : xret i x.1 st h = none ∧ xwho x.1 x.2.2.1 x.2.2.2 st h = none ∧ xbj x.1 x.2.2.1 st h = none) (hd : 6 ≤ d) (hs : xsum q.1 ≤ 9) (k : Ev d i (pc + 3) L q.1 q.2 r) : Ev d i pc L st h r := by
  obtain ⟨n, hn⟩ := k
  obtain ⟨p1, p2, p3⟩ := hp
  refine ⟨n + 1, ?_⟩
  unfold ex
  rw [hx]
  dsimp only
  rw [p1]
  dsimp only
  rw [p2]
  dsimp only
  rw [p3]
  dsimp only
  rw [hq]
  dsimp only
  rw [if_pos ⟨hd, hs⟩]
  exact hn
theorem Ev.call {d i pc : Nat} {L : xL} {st : List Value} {h : xS} {r : Option Value × xS} {x : xI} (hx : xat pc (xcode i) = some x) (j : Nat) (hj : xwho x.1 x.2.2.1 x.2.2.2 st h = some j) (hp : xret i x.1 st h = none) (hc : x.2.2.2 ≤ st.length ∧ xsum (st.drop x.2.2.2) ≤ 8 ∧ (xargs (st.take x.2.2.2).reverse).length ≤ xnl j) {q : Option Value × xS} (hq : Ev d j 0 (xent (xnl j) (st.take x.2.2.2).reverse) [] h q) (k : Ev (d + 1) i (pc + 3) L (q.1.toList ++ st.drop x.2.2.2) q.2 r) : Ev (d + 1) i pc L st h r := by
  obtain ⟨n, hn⟩ := k
  obtain ⟨n', hn'⟩ := hq
  refine ⟨(n + n') + 1, ?_⟩
  unfold ex
  rw [hx]
  dsimp only
  rw [hp]
  dsimp only
  rw [hj]
  dsimp only
  rw [if_pos hc, ex_up (n + n') d hn' (xwk1.refl _) (by omega) (Nat.le_refl _)]
  exact ex_up (n + n') (d + 1) hn (xwk1.refl _) (by omega) (Nat.le_refl _)
end
section
/-! WHAT MUST HOLD BEFORE, so that a run ends with Q: a row an instruction -/
def Wp (d i pc : Nat) (L : xL) (st : List Value) (h : xS) (Q : Option Value × xS → Prop) : Prop := ∃ r, Ev d i pc L st h r ∧ Q r
theorem Wp.mono {d i pc : Nat} {L : xL} {st : List Value} {h : xS} {Q Q' : Option Value × xS → Prop} (H : Wp d i pc L st h Q) (k : ∀ r, Q r → Q' r) : Wp d i pc L st h Q' := by
  obtain ⟨r, h1, h2⟩ := H
  exact ⟨r, h1, k r h2⟩
theorem Wp.wk {d i pc : Nat} {L L' : xL} {st : List Value} {h : xS} {Q : Option Value × xS → Prop} (hw : xwk1 L L') (H : Wp d i pc L st h Q) : Wp d i pc L' st h Q := by
  obtain ⟨r, h1, h2⟩ := H
  exact ⟨r, h1.wk hw, h2⟩
theorem Wp.dp {d e i pc : Nat} {L : xL} {st : List Value} {h : xS} {Q : Option Value × xS → Prop} (hd : d ≤ e) (H : Wp d i pc L st h Q) : Wp e i pc L st h Q := by
  obtain ⟨r, h1, h2⟩ := H
  exact ⟨r, h1.dp hd, h2⟩
section WP
variable {d i pc : Nat} {L : xL} {st : List Value} {Q : Option Value × xS → Prop} {K : Nat → Nat × Nat} {P : List Nat × Nat × Nat} {I : Nat → Nat → Int32} {J : Nat → Nat → Int64} {F : Nat → Nat → Option Nat}
theorem Wp.ret {h : xS} {x : xI} (hx : xat pc (xcode i) = some x) {r : Option Value × xS} (hr : xret i x.1 st h = some r) (k : Q r) : Wp d i pc L st h Q := ⟨r, Ev.ret hx hr, k⟩
theorem Wp.go {h : xS} {x : xI} (hx : xat pc (xcode i) = some x) (pc' : Nat) (L' : xL) (st' : List Value) (hf : xstep x.1 x.2.2.1 x.2.2.2 pc L st h = some (pc', L', st', h)) (hp : xret i x.1 st h = none ∧ xwho x.1 x.2.2.1 x.2.2.2 st h = none ∧ xbj x.1 x.2.2.1 st h = none ∧ xbt x.1 x.2.2.1 st h = none) (k : Wp d i pc' L' st' h Q) : Wp d i pc L st h Q := by
  obtain ⟨r, h1, h2⟩ := k
  exact ⟨r, Ev.step hx _ hf hp h1, h2⟩
/-- any step that isn't a call: the new store too -/
theorem Wp.sh {h h' : xS} {x : xI} (hx : xat pc (xcode i) = some x) {pc' : Nat} {st' : List Value} (hf : xstep x.1 x.2.2.1 x.2.2.2 pc L st h = some (pc', L, st', h')) (hp : xret i x.1 st h = none ∧ xwho x.1 x.2.2.1 x.2.2.2 st h = none ∧ xbj x.1 x.2.2.1 st h = none ∧ xbt x.1 x.2.2.1 st h = none) (k : Wp d i pc' L st' h' Q) : Wp d i pc L st h Q := by
  obtain ⟨r, h1, h2⟩ := k
  exact ⟨r, Ev.step hx _ hf hp h1, h2⟩
theorem Wp.icmp {h : xS} {c : Jvm.ClassFile.Cond} {off : Int} {r1 r2 : Nat} {x y : Int32} (hx : xat pc (xcode i) = some (.if_icmp c off, 3, r1, r2)) (k : (xcmp c x y = true → Wp d i r1 L st h Q) ∧ (¬ xcmp c x y = true → Wp d i (pc + 3) L st h Q)) : Wp d i pc L (.int y :: .int x :: st) h Q := by
  by_cases hc : xcmp c x y = true
  · obtain ⟨r, h1, h2⟩ := k.1 hc
    exact ⟨r, Ev.step hx (r1, L, st, h) (by show some (if xcmp c x y = true then r1 else pc + 3, L, st, h) = _; rw [if_pos hc]) ⟨rfl, rfl, rfl, rfl⟩ h1, h2⟩
  · obtain ⟨r, h1, h2⟩ := k.2 hc
    exact ⟨r, Ev.step hx (pc + 3, L, st, h) (by show some (if xcmp c x y = true then r1 else pc + 3, L, st, h) = _; rw [if_neg hc]) ⟨rfl, rfl, rfl, rfl⟩ h1, h2⟩
theorem Wp.ifz {h : xS} {c : Jvm.ClassFile.Cond} {off : Int} {r1 r2 : Nat} {x : Int32} (hx : xat pc (xcode i) = some (.ifCond c off, 3, r1, r2)) (k : (xcmp c x 0 = true → Wp d i r1 L st h Q) ∧ (¬ xcmp c x 0 = true → Wp d i (pc + 3) L st h Q)) : Wp d i pc L (.int x :: st) h Q := by
  by_cases hc : xcmp c x 0 = true
  · obtain ⟨r, h1, h2⟩ := k.1 hc
    exact ⟨r, Ev.step hx (r1, L, st, h) (by show some (if xcmp c x 0 = true then r1 else pc + 3, L, st, h) = _; rw [if_pos hc]) ⟨rfl, rfl, rfl, rfl⟩ h1, h2⟩
  · obtain ⟨r, h1, h2⟩ := k.2 hc
    exact ⟨r, Ev.step hx (pc + 3, L, st, h) (by show some (if xcmp c x 0 = true then r1 else pc + 3, L, st, h) = _; rw [if_neg hc]) ⟨rfl, rfl, rfl, rfl⟩ h1, h2⟩
theorem Wp.c_lt {h : xS} {off : Int} {r1 r2 pc' : Nat} {x y : Int32} (hx : xat pc (xcode i) = some (.if_icmp .lt off, 3, r1, r2)) (hp : pc + 3 = pc') (k : (x < y → Wp d i r1 L st h Q) ∧ (¬ x < y → Wp d i pc' L st h Q)) : Wp d i pc L (.int y :: .int x :: st) h Q := by
  subst hp; exact Wp.icmp hx (by simpa only [xcmp, decide_eq_true_eq] using k)
theorem Wp.c_ge {h : xS} {off : Int} {r1 r2 pc' : Nat} {x y : Int32} (hx : xat pc (xcode i) = some (.if_icmp .ge off, 3, r1, r2)) (hp : pc + 3 = pc') (k : (y ≤ x → Wp d i r1 L st h Q) ∧ (¬ y ≤ x → Wp d i pc' L st h Q)) : Wp d i pc L (.int y :: .int x :: st) h Q := by
  subst hp; exact Wp.icmp hx (by simpa only [xcmp, decide_eq_true_eq] using k)
theorem Wp.c_gt {h : xS} {off : Int} {r1 r2 pc' : Nat} {x y : Int32} (hx : xat pc (xcode i) = some (.if_icmp .gt off, 3, r1, r2)) (hp : pc + 3 = pc') (k : (y < x → Wp d i r1 L st h Q) ∧ (¬ y < x → Wp d i pc' L st h Q)) : Wp d i pc L (.int y :: .int x :: st) h Q := by
  subst hp; exact Wp.icmp hx (by simpa only [xcmp, decide_eq_true_eq] using k)
theorem Wp.c_le {h : xS} {off : Int} {r1 r2 pc' : Nat} {x y : Int32} (hx : xat pc (xcode i) = some (.if_icmp .le off, 3, r1, r2)) (hp : pc + 3 = pc') (k : (x ≤ y → Wp d i r1 L st h Q) ∧ (¬ x ≤ y → Wp d i pc' L st h Q)) : Wp d i pc L (.int y :: .int x :: st) h Q := by
  subst hp; exact Wp.icmp hx (by simpa only [xcmp, decide_eq_true_eq] using k)
theorem Wp.c_eq {h : xS} {off : Int} {r1 r2 pc' : Nat} {x y : Int32} (hx : xat pc (xcode i) = some (.if_icmp .eq off, 3, r1, r2)) (hp : pc + 3 = pc') (k : (x = y → Wp d i r1 L st h Q) ∧ (¬ x = y → Wp d i pc' L st h Q)) : Wp d i pc L (.int y :: .int x :: st) h Q := by
  subst hp; exact Wp.icmp hx (by simpa only [xcmp, decide_eq_true_eq] using k)
theorem Wp.c_ne {h : xS} {off : Int} {r1 r2 pc' : Nat} {x y : Int32} (hx : xat pc (xcode i) = some (.if_icmp .ne off, 3, r1, r2)) (hp : pc + 3 = pc') (k : (¬ x = y → Wp d i r1 L st h Q) ∧ (x = y → Wp d i pc' L st h Q)) : Wp d i pc L (.int y :: .int x :: st) h Q := by
  subst hp; exact Wp.icmp hx ⟨fun z => k.1 (by simpa only [xcmp, decide_eq_true_eq] using z), fun z => k.2 (by simpa only [xcmp, decide_eq_true_eq, Decidable.not_not] using z)⟩
theorem Wp.z_lt {h : xS} {off : Int} {r1 r2 pc' : Nat} {x : Int32} (hx : xat pc (xcode i) = some (.ifCond .lt off, 3, r1, r2)) (hp : pc + 3 = pc') (k : (x < 0 → Wp d i r1 L st h Q) ∧ (¬ x < 0 → Wp d i pc' L st h Q)) : Wp d i pc L (.int x :: st) h Q := by
  subst hp; exact Wp.ifz hx (by simpa only [xcmp, decide_eq_true_eq] using k)
theorem Wp.z_ge {h : xS} {off : Int} {r1 r2 pc' : Nat} {x : Int32} (hx : xat pc (xcode i) = some (.ifCond .ge off, 3, r1, r2)) (hp : pc + 3 = pc') (k : (0 ≤ x → Wp d i r1 L st h Q) ∧ (¬ 0 ≤ x → Wp d i pc' L st h Q)) : Wp d i pc L (.int x :: st) h Q := by
  subst hp; exact Wp.ifz hx (by simpa only [xcmp, decide_eq_true_eq] using k)
theorem Wp.z_gt {h : xS} {off : Int} {r1 r2 pc' : Nat} {x : Int32} (hx : xat pc (xcode i) = some (.ifCond .gt off, 3, r1, r2)) (hp : pc + 3 = pc') (k : (0 < x → Wp d i r1 L st h Q) ∧ (¬ 0 < x → Wp d i pc' L st h Q)) : Wp d i pc L (.int x :: st) h Q := by
  subst hp; exact Wp.ifz hx (by simpa only [xcmp, decide_eq_true_eq] using k)
theorem Wp.z_le {h : xS} {off : Int} {r1 r2 pc' : Nat} {x : Int32} (hx : xat pc (xcode i) = some (.ifCond .le off, 3, r1, r2)) (hp : pc + 3 = pc') (k : (x ≤ 0 → Wp d i r1 L st h Q) ∧ (¬ x ≤ 0 → Wp d i pc' L st h Q)) : Wp d i pc L (.int x :: st) h Q := by
  subst hp; exact Wp.ifz hx (by simpa only [xcmp, decide_eq_true_eq] using k)
theorem Wp.z_eq {h : xS} {off : Int} {r1 r2 pc' : Nat} {x : Int32} (hx : xat pc (xcode i) = some (.ifCond .eq off, 3, r1, r2)) (hp : pc + 3 = pc') (k : (x = 0 → Wp d i r1 L st h Q) ∧ (¬ x = 0 → Wp d i pc' L st h Q)) : Wp d i pc L (.int x :: st) h Q := by
  subst hp; exact Wp.ifz hx (by simpa only [xcmp, decide_eq_true_eq] using k)
theorem Wp.z_ne {h : xS} {off : Int} {r1 r2 pc' : Nat} {x : Int32} (hx : xat pc (xcode i) = some (.ifCond .ne off, 3, r1, r2)) (hp : pc + 3 = pc') (k : (¬ x = 0 → Wp d i r1 L st h Q) ∧ (x = 0 → Wp d i pc' L st h Q)) : Wp d i pc L (.int x :: st) h Q := by
  subst hp; exact Wp.ifz hx ⟨fun z => k.1 (by simpa only [xcmp, decide_eq_true_eq] using z), fun z => k.2 (by simpa only [xcmp, decide_eq_true_eq, Decidable.not_not] using z)⟩
/-- a field that is read: an int or boolean, a long, a reference -/
theorem Wp.gI {idx r1 r2 a kd n pc' : Nat} (hx : xat pc (xcode i) = some (.getfield idx, 3, r1, r2)) (hp : pc + 3 = pc') (hk : K a = (kd, n)) (hs : xsub r1 kd = true) (hf : xft kd r2 ≠ 1 ∧ xft kd r2 ≠ 3) (k : Wp d i pc' L (.int (I a r2) :: st) (K, P, I, J, F) Q) : Wp d i pc L (.ref a :: st) (K, P, I, J, F) Q := by
  subst hp
  refine Wp.sh hx (st' := .int (I a r2) :: st) (h' := (K, P, I, J, F)) ?_ ⟨rfl, rfl, rfl, rfl⟩ k
  show (match (if xsub r1 (K a).1 = true then some (xv (K, P, I, J, F) a r2 :: st, (K, P, I, J, F)) else none) with | some q => some (pc + 3, L, q.1, q.2) | none => _) = _
  rw [hk, if_pos hs]
  unfold xv
  dsimp only
  have e1 : ¬ xft (K a).1 r2 = 1 := by rw [hk]; exact hf.1
  have e3 : ¬ xft (K a).1 r2 = 3 := by rw [hk]; exact hf.2
  rw [if_neg e1, if_neg e3]
theorem Wp.gJ {idx r1 r2 a kd n pc' : Nat} (hx : xat pc (xcode i) = some (.getfield idx, 3, r1, r2)) (hp : pc + 3 = pc') (hk : K a = (kd, n)) (hs : xsub r1 kd = true) (hf : xft kd r2 = 1) (k : Wp d i pc' L (.long (J a r2) :: st) (K, P, I, J, F) Q) : Wp d i pc L (.ref a :: st) (K, P, I, J, F) Q := by
  subst hp
  refine Wp.sh hx (st' := .long (J a r2) :: st) (h' := (K, P, I, J, F)) ?_ ⟨rfl, rfl, rfl, rfl⟩ k
  show (match (if xsub r1 (K a).1 = true then some (xv (K, P, I, J, F) a r2 :: st, (K, P, I, J, F)) else none) with | some q => some (pc + 3, L, q.1, q.2) | none => _) = _
  rw [hk, if_pos hs]
  unfold xv
  dsimp only
  have e1 : xft (K a).1 r2 = 1 := by rw [hk]; exact hf
  rw [if_pos e1]
theorem Wp.gR {idx r1 r2 a kd n b pc' : Nat} (hx : xat pc (xcode i) = some (.getfield idx, 3, r1, r2)) (hp : pc + 3 = pc') (hk : K a = (kd, n)) (hs : xsub r1 kd = true) (hf : xft kd r2 = 3) (hb : F a r2 = some b) (k : Wp d i pc' L (.ref b :: st) (K, P, I, J, F) Q) : Wp d i pc L (.ref a :: st) (K, P, I, J, F) Q := by
  subst hp
  refine Wp.sh hx (st' := .ref b :: st) (h' := (K, P, I, J, F)) ?_ ⟨rfl, rfl, rfl, rfl⟩ k
  show (match (if xsub r1 (K a).1 = true then some (xv (K, P, I, J, F) a r2 :: st, (K, P, I, J, F)) else none) with | some q => some (pc + 3, L, q.1, q.2) | none => _) = _
  rw [hk, if_pos hs]
  unfold xv
  dsimp only
  have e3 : xft (K a).1 r2 = 3 := by rw [hk]; exact hf
  have e1 : ¬ xft (K a).1 r2 = 1 := by rw [e3]; decide
  rw [if_neg e1, if_pos e3, hb]
  rfl
theorem Wp.pI {idx r1 r2 a kd n pc' : Nat} {x : Int32} (hx : xat pc (xcode i) = some (.putfield idx, 3, r1, r2)) (hp : pc + 3 = pc') (hk : K a = (kd, n)) (hs : xsub r1 kd = true) (hf : xft kd r2 = 0 ∨ (xft kd r2 = 2 ∧ (x = 0 ∨ x = 1))) (k : Wp d i pc' L st (K, P, xup I a r2 x, J, F) Q) : Wp d i pc L (.int x :: .ref a :: st) (K, P, I, J, F) Q := by
  subst hp
  refine Wp.sh hx (st' := st) (h' := (K, P, xup I a r2 x, J, F)) ?_ ⟨rfl, rfl, rfl, rfl⟩ k
  show (match (if xsub r1 (K a).1 = true then (xpf (K, P, I, J, F) a r2 (.int x)).map (fun h' => (st, h')) else none) with | some q => some (pc + 3, L, q.1, q.2) | none => _) = _
  rw [hk, if_pos hs]
  unfold xpf
  dsimp only
  have e1 : xft (K a).1 r2 = 0 ∨ (xft (K a).1 r2 = 2 ∧ (x = 0 ∨ x = 1)) := by rw [hk]; exact hf
  rw [if_pos e1]
  rfl
theorem Wp.pJ {idx r1 r2 a kd n pc' : Nat} {x : Int64} (hx : xat pc (xcode i) = some (.putfield idx, 3, r1, r2)) (hp : pc + 3 = pc') (hk : K a = (kd, n)) (hs : xsub r1 kd = true) (hf : xft kd r2 = 1) (k : Wp d i pc' L st (K, P, I, xup J a r2 x, F) Q) : Wp d i pc L (.long x :: .ref a :: st) (K, P, I, J, F) Q := by
  subst hp
  refine Wp.sh hx (st' := st) (h' := (K, P, I, xup J a r2 x, F)) ?_ ⟨rfl, rfl, rfl, rfl⟩ k
  show (match (if xsub r1 (K a).1 = true then (xpf (K, P, I, J, F) a r2 (.long x)).map (fun h' => (st, h')) else none) with | some q => some (pc + 3, L, q.1, q.2) | none => _) = _
  rw [hk, if_pos hs]
  unfold xpf
  dsimp only
  have e1 : xft (K a).1 r2 = 1 := by rw [hk]; exact hf
  rw [if_pos e1]
  rfl
theorem Wp.pR {idx r1 r2 a kd n b pc' : Nat} (hx : xat pc (xcode i) = some (.putfield idx, 3, r1, r2)) (hp : pc + 3 = pc') (hk : K a = (kd, n)) (hs : xsub r1 kd = true) (hf : xft kd r2 = 3) (k : Wp d i pc' L st (K, P, I, J, xup F a r2 (some b)) Q) : Wp d i pc L (.ref b :: .ref a :: st) (K, P, I, J, F) Q := by
  subst hp
  refine Wp.sh hx (st' := st) (h' := (K, P, I, J, xup F a r2 (some b))) ?_ ⟨rfl, rfl, rfl, rfl⟩ k
  show (match (if xsub r1 (K a).1 = true then (xpf (K, P, I, J, F) a r2 (.ref b)).map (fun h' => (st, h')) else none) with | some q => some (pc + 3, L, q.1, q.2) | none => _) = _
  rw [hk, if_pos hs]
  unfold xpf
  dsimp only
  have e1 : xft (K a).1 r2 = 3 := by rw [hk]; exact hf
  rw [if_pos e1]
  rfl
theorem xin_n {x : Int32} {k n : Nat} (e : x = nI k) (h : k < n) (hn : n < 2147483648) : ¬ (x < 0 ∨ n ≤ x.toNatClampNeg) ∧ x.toNatClampNeg = k := by
  subst e
  have hk : k < 2 ^ 31 := by omega
  refine ⟨nI_in h (by omega), nI_clamp hk⟩
/-- an int array that is read at place k -/
theorem Wp.ald {a n pc' : Nat} {x : Int32} (hx : xat pc (xcode i) = some (.iaload, 1, 0, 0)) (hp : pc + 1 = pc') {kd : Nat} (hk : K a = (kd, n)) (hkd : kd = 100 ∨ kd = 103) (hn : n < 2147483648) (k : ∃ j : Nat, x = nI j ∧ j < n ∧ Wp d i pc' L (.int (I a j) :: st) (K, P, I, J, F) Q) : Wp d i pc L (.int x :: .ref a :: st) (K, P, I, J, F) Q := by
  subst hp
  obtain ⟨j, e, hj, k⟩ := k
  obtain ⟨h1, h2⟩ := xin_n e hj hn
  refine Wp.sh hx (st' := .int (I a j) :: st) (h' := (K, P, I, J, F)) ?_ ⟨rfl, rfl, rfl, rfl⟩ k
  show (match (if ((K a).1 = 100 ∨ (K a).1 = 103) ∧ ¬ (x < 0 ∨ (K a).2 ≤ x.toNatClampNeg) then some (.int (I a x.toNatClampNeg) :: st, (K, P, I, J, F)) else none) with | some q => some (pc + 1, L, q.1, q.2) | none => _) = _
  rw [hk, if_pos ⟨hkd, h1⟩, h2]
theorem Wp.bld {a n pc' : Nat} {x : Int32} (hx : xat pc (xcode i) = some (.baload, 1, 0, 0)) (hp : pc + 1 = pc') (hk : K a = (102, n)) (hn : n < 2147483648) (k : ∃ j : Nat, x = nI j ∧ j < n ∧ Wp d i pc' L (.int (I a j) :: st) (K, P, I, J, F) Q) : Wp d i pc L (.int x :: .ref a :: st) (K, P, I, J, F) Q := by
  subst hp
  obtain ⟨j, e, hj, k⟩ := k
  obtain ⟨h1, h2⟩ := xin_n e hj hn
  refine Wp.sh hx (st' := .int (I a j) :: st) (h' := (K, P, I, J, F)) ?_ ⟨rfl, rfl, rfl, rfl⟩ k
  show (match (if (K a).1 = 102 ∧ ¬ (x < 0 ∨ (K a).2 ≤ x.toNatClampNeg) then some (.int (I a x.toNatClampNeg) :: st, (K, P, I, J, F)) else none) with | some q => some (pc + 1, L, q.1, q.2) | none => _) = _
  rw [hk, if_pos ⟨rfl, h1⟩, h2]
theorem Wp.lld {a n pc' : Nat} {x : Int32} (hx : xat pc (xcode i) = some (.laload, 1, 0, 0)) (hp : pc + 1 = pc') (hk : K a = (101, n)) (hn : n < 2147483648) (k : ∃ j : Nat, x = nI j ∧ j < n ∧ Wp d i pc' L (.long (J a j) :: st) (K, P, I, J, F) Q) : Wp d i pc L (.int x :: .ref a :: st) (K, P, I, J, F) Q := by
  subst hp
  obtain ⟨j, e, hj, k⟩ := k
  obtain ⟨h1, h2⟩ := xin_n e hj hn
  refine Wp.sh hx (st' := .long (J a j) :: st) (h' := (K, P, I, J, F)) ?_ ⟨rfl, rfl, rfl, rfl⟩ k
  show (match (if (K a).1 = 101 ∧ ¬ (x < 0 ∨ (K a).2 ≤ x.toNatClampNeg) then some (.long (J a x.toNatClampNeg) :: st, (K, P, I, J, F)) else none) with | some q => some (pc + 1, L, q.1, q.2) | none => _) = _
  rw [hk, if_pos ⟨rfl, h1⟩, h2]
theorem Wp.ast {a n pc' : Nat} {x v : Int32} (hx : xat pc (xcode i) = some (.iastore, 1, 0, 0)) (hp : pc + 1 = pc') (hk : K a = (100, n)) (hn : n < 2147483648) (k : ∃ j : Nat, x = nI j ∧ j < n ∧ Wp d i pc' L st (K, P, xup I a j v, J, F) Q) : Wp d i pc L (.int v :: .int x :: .ref a :: st) (K, P, I, J, F) Q := by
  subst hp
  obtain ⟨j, e, hj, k⟩ := k
  obtain ⟨h1, h2⟩ := xin_n e hj hn
  refine Wp.sh hx (st' := st) (h' := (K, P, xup I a j v, J, F)) ?_ ⟨rfl, rfl, rfl, rfl⟩ k
  show (match (if (K a).1 = 100 ∧ ¬ (x < 0 ∨ (K a).2 ≤ x.toNatClampNeg) then some (st, (K, P, xup I a x.toNatClampNeg v, J, F)) else none) with | some q => some (pc + 1, L, q.1, q.2) | none => _) = _
  rw [hk, if_pos ⟨rfl, h1⟩, h2]
theorem Wp.bst {a n pc' : Nat} {x v : Int32} (hx : xat pc (xcode i) = some (.bastore, 1, 0, 0)) (hp : pc + 1 = pc') (hk : K a = (102, n)) (hn : n < 2147483648) (hv : v = 0 ∨ v = 1) (k : ∃ j : Nat, x = nI j ∧ j < n ∧ Wp d i pc' L st (K, P, xup I a j v, J, F) Q) : Wp d i pc L (.int v :: .int x :: .ref a :: st) (K, P, I, J, F) Q := by
  subst hp
  obtain ⟨j, e, hj, k⟩ := k
  obtain ⟨h1, h2⟩ := xin_n e hj hn
  refine Wp.sh hx (st' := st) (h' := (K, P, xup I a j v, J, F)) ?_ ⟨rfl, rfl, rfl, rfl⟩ k
  show (match (if ((K a).1 = 102 ∧ (v = 0 ∨ v = 1)) ∧ ¬ (x < 0 ∨ (K a).2 ≤ x.toNatClampNeg) then some (st, (K, P, xup I a x.toNatClampNeg v, J, F)) else none) with | some q => some (pc + 1, L, q.1, q.2) | none => _) = _
  rw [hk, if_pos ⟨⟨rfl, hv⟩, h1⟩, h2]
theorem Wp.lst {a n pc' : Nat} {x : Int32} {v : Int64} (hx : xat pc (xcode i) = some (.lastore, 1, 0, 0)) (hp : pc + 1 = pc') (hk : K a = (101, n)) (hn : n < 2147483648) (k : ∃ j : Nat, x = nI j ∧ j < n ∧ Wp d i pc' L st (K, P, I, xup J a j v, F) Q) : Wp d i pc L (.long v :: .int x :: .ref a :: st) (K, P, I, J, F) Q := by
  subst hp
  obtain ⟨j, e, hj, k⟩ := k
  obtain ⟨h1, h2⟩ := xin_n e hj hn
  refine Wp.sh hx (st' := st) (h' := (K, P, I, xup J a j v, F)) ?_ ⟨rfl, rfl, rfl, rfl⟩ k
  show (match (if (K a).1 = 101 ∧ ¬ (x < 0 ∨ (K a).2 ≤ x.toNatClampNeg) then some (st, (K, P, I, xup J a x.toNatClampNeg v, F)) else none) with | some q => some (pc + 1, L, q.1, q.2) | none => _) = _
  rw [hk, if_pos ⟨rfl, h1⟩, h2]
theorem Wp.alen {a n kd pc' : Nat} (hx : xat pc (xcode i) = some (.arraylength, 1, 0, 0)) (hp : pc + 1 = pc') (hk : K a = (kd, n)) (hkd : kd = 100 ∨ kd = 103 ∨ kd = 101) (k : Wp d i pc' L (.int (nI n) :: st) (K, P, I, J, F) Q) : Wp d i pc L (.ref a :: st) (K, P, I, J, F) Q := by
  subst hp
  refine Wp.sh hx (st' := .int (nI n) :: st) (h' := (K, P, I, J, F)) ?_ ⟨rfl, rfl, rfl, rfl⟩ k
  show (match (if (K a).1 = 100 ∨ (K a).1 = 103 ∨ (K a).1 = 101 then some (.int (Int32.ofNat (K a).2) :: st, (K, P, I, J, F)) else none) with | some q => some (pc + 1, L, q.1, q.2) | none => _) = _
  rw [hk, if_pos hkd]
  rfl
theorem Wp.idiv {h : xS} {pc' : Nat} {x y : Int32} (hx : xat pc (xcode i) = some (.idiv, 1, 0, 0)) (hp : pc + 1 = pc') (hy : ¬ y = 0) (k : Wp d i pc' L (.int (x / y) :: st) h Q) : Wp d i pc L (.int y :: .int x :: st) h Q := by
  subst hp
  refine Wp.sh hx (st' := .int (x / y) :: st) (h' := h) ?_ ⟨rfl, rfl, rfl, rfl⟩ k
  show (match (if y = 0 then none else some (Value.int (x / y) :: st)) with | some st' => some (pc + 1, L, st', h) | none => _) = _
  rw [if_neg hy]
theorem Wp.max {h : xS} {idx r2 pc' : Nat} {x y : Int32} (hx : xat pc (xcode i) = some (.invokestatic idx, 3, 1000, r2)) (hp : pc + 3 = pc') (hd : 1 ≤ d) (hs : xsum (.int 0 :: st) ≤ 9) (k : Wp d i pc' L (.int (if x < y then y else x) :: st) h Q) : Wp d i pc L (.int y :: .int x :: st) h Q := by
  subst hp
  obtain ⟨r, h1, h2⟩ := k
  exact ⟨r, Ev.bi hx (.int (if x < y then y else x) :: st, h) rfl ⟨rfl, rfl⟩ hd hs h1, h2⟩
theorem Wp.min {h : xS} {idx r2 pc' : Nat} {x y : Int32} (hx : xat pc (xcode i) = some (.invokestatic idx, 3, 1001, r2)) (hp : pc + 3 = pc') (hd : 1 ≤ d) (hs : xsum (.int 0 :: st) ≤ 9) (k : Wp d i pc' L (.int (if y < x then y else x) :: st) h Q) : Wp d i pc L (.int y :: .int x :: st) h Q := by
  subst hp
  obtain ⟨r, h1, h2⟩ := k
  exact ⟨r, Ev.bi hx (.int (if y < x then y else x) :: st, h) rfl ⟨rfl, rfl⟩ hd hs h1, h2⟩
/-- calls: what the callee ends with is what goes on -/
theorem Wp.call {h : xS} {x : xI} (hx : xat pc (xcode i) = some x) (j : Nat) (vs rest : List Value) (hj : xwho x.1 x.2.2.1 x.2.2.2 st h = some j) (hp : xret i x.1 st h = none) (hc : x.2.2.2 ≤ st.length ∧ xsum (st.drop x.2.2.2) ≤ 8 ∧ (xargs (st.take x.2.2.2).reverse).length ≤ xnl j) (hvs : (st.take x.2.2.2).reverse = vs) (hrest : st.drop x.2.2.2 = rest) {pc' : Nat} (hpc : pc + 3 = pc') (k : Wp d j 0 (xent (xnl j) vs) [] h (fun q => Wp (d + 1) i pc' L (q.1.toList ++ rest) q.2 Q)) : Wp (d + 1) i pc L st h Q := by
  subst hpc hvs hrest
  obtain ⟨q, h1, r, h2, h3⟩ := k
  exact ⟨r, Ev.call hx j hj hp hc h1 h2, h3⟩
end WP
end
section
/-! constants, locals' increments, returns, statics -/
section WP2
variable {d i pc pc' : Nat} {L L' : xL} {st : List Value} {Q : Option Value × xS → Prop} {h : xS}
theorem Wp.ic {n : Int} {v : Int32} (hx : xat pc (xcode i) = some (.iconst n, 1, 0, 0)) (hp : pc + 1 = pc') (hv : Int32.ofInt n = v) (k : Wp d i pc' L (.int v :: st) h Q) : Wp d i pc L st h Q := by
  subst hp hv
  exact Wp.go hx _ L _ rfl ⟨rfl, rfl, rfl, rfl⟩ k
theorem Wp.bp {n : Int} {v : Int32} (hx : xat pc (xcode i) = some (.bipush n, 2, 0, 0)) (hp : pc + 2 = pc') (hv : (Int8.ofInt n).toInt32 = v) (k : Wp d i pc' L (.int v :: st) h Q) : Wp d i pc L st h Q := by
  subst hp hv
  exact Wp.go hx _ L _ rfl ⟨rfl, rfl, rfl, rfl⟩ k
theorem Wp.sp {n : Int} {v : Int32} (hx : xat pc (xcode i) = some (.sipush n, 3, 0, 0)) (hp : pc + 3 = pc') (hv : (Int16.ofInt n).toInt32 = v) (k : Wp d i pc' L (.int v :: st) h Q) : Wp d i pc L st h Q := by
  subst hp hv
  exact Wp.go hx _ L _ rfl ⟨rfl, rfl, rfl, rfl⟩ k
theorem Wp.lc {n : Fin 2} {v : Int64} (hx : xat pc (xcode i) = some (.lconst n, 1, 0, 0)) (hp : pc + 1 = pc') (hv : Int64.ofNat (n : Nat) = v) (k : Wp d i pc' L (.long v :: st) h Q) : Wp d i pc L st h Q := by
  subst hp hv
  exact Wp.go hx _ L _ rfl ⟨rfl, rfl, rfl, rfl⟩ k
theorem Wp.ldc {m r1 : Nat} {v : Int32} (hx : xat pc (xcode i) = some (.ldc m, 2, r1, 0)) (hp : pc + 2 = pc') (hv : Int32.ofNat r1 = v) (k : Wp d i pc' L (.int v :: st) h Q) : Wp d i pc L st h Q := by
  subst hp hv
  exact Wp.go hx _ L _ rfl ⟨rfl, rfl, rfl, rfl⟩ k
theorem Wp.ldcw {m r1 : Nat} {v : Int32} (hx : xat pc (xcode i) = some (.ldc_w m, 3, r1, 0)) (hp : pc + 3 = pc') (hv : Int32.ofNat r1 = v) (k : Wp d i pc' L (.int v :: st) h Q) : Wp d i pc L st h Q := by
  subst hp hv
  exact Wp.go hx _ L _ rfl ⟨rfl, rfl, rfl, rfl⟩ k
theorem Wp.ldcj {m r1 : Nat} {v : Int64} (hx : xat pc (xcode i) = some (.ldc2_w m, 3, r1, 0)) (hp : pc + 3 = pc') (hv : Int64.ofNat r1 = v) (k : Wp d i pc' L (.long v :: st) h Q) : Wp d i pc L st h Q := by
  subst hp hv
  exact Wp.go hx _ L _ rfl ⟨rfl, rfl, rfl, rfl⟩ k
theorem Wp.ii {j : Nat} {n : Int} {x v : Int32} (hx : xat pc (xcode i) = some (.iinc j n, 3, 0, 0)) (hp : pc + 3 = pc') (hv : Int32.ofInt n = v) (hl : xld L j = some (.int x)) (hs : xst1 L j (.int (x + v)) = some L') (k : Wp d i pc' L' st h Q) : Wp d i pc L st h Q := by
  subst hp hv
  refine Wp.go hx _ L' st ?_ ⟨rfl, rfl, rfl, rfl⟩ k
  show (match (match xld L j with | some (.int x) => (xst1 L j (.int (x + Int32.ofInt n))).map (fun L' => (L', st)) | _ => none) with | some q => some (pc + 3, q.1, q.2, h) | none => _) = _
  rw [hl]
  dsimp only
  rw [hs]
  rfl
theorem Wp.gst {m r1 : Nat} (hx : xat pc (xcode i) = some (.getstatic m, 3, r1, 0)) (hp : pc + 3 = pc') (k : Wp d i pc' L (.ref r1 :: st) h Q) : Wp d i pc L st h Q := by
  subst hp
  exact Wp.go hx _ L _ rfl ⟨rfl, rfl, rfl, rfl⟩ k
theorem Wp.rI {v : Int32} (hx : xat pc (xcode i) = some (.ireturn, 1, 0, 0)) (hr : xrt i = 1) (k : Q (some (.int v), h)) : Wp d i pc L [.int v] h Q := by
  refine Wp.ret hx (r := (some (.int v), h)) ?_ k
  show (if xrt i = 1 ∨ (xrt i = 3 ∧ (v = 0 ∨ v = 1)) then some (some (Value.int v), h) else none) = _
  rw [if_pos (Or.inl hr)]
theorem Wp.rZ {v : Int32} (hx : xat pc (xcode i) = some (.ireturn, 1, 0, 0)) (hr : xrt i = 3) (hv : v = 0 ∨ v = 1) (k : Q (some (.int v), h)) : Wp d i pc L [.int v] h Q := by
  refine Wp.ret hx (r := (some (.int v), h)) ?_ k
  show (if xrt i = 1 ∨ (xrt i = 3 ∧ (v = 0 ∨ v = 1)) then some (some (Value.int v), h) else none) = _
  rw [if_pos (Or.inr ⟨hr, hv⟩)]
theorem Wp.rJ {v : Int64} (hx : xat pc (xcode i) = some (.lreturn, 1, 0, 0)) (hr : xrt i = 2) (k : Q (some (.long v), h)) : Wp d i pc L [.long v] h Q := by
  refine Wp.ret hx (r := (some (.long v), h)) ?_ k
  show (if xrt i = 2 then some (some (Value.long v), h) else none) = _
  rw [if_pos hr]
theorem Wp.rV (hx : xat pc (xcode i) = some (.return_, 1, 0, 0)) (hr : xrt i = 0) (k : Q (none, h)) : Wp d i pc L [] h Q := by
  refine Wp.ret hx (r := (none, h)) ?_ k
  show (if xrt i = 0 then some (none, h) else none) = _
  rw [if_pos hr]
end WP2
section WP3
variable {d i pc pc' : Nat} {L : xL} {st : List Value} {Q : Option Value × xS → Prop} {K : Nat → Nat × Nat} {P : List Nat × Nat × Nat} {I : Nat → Nat → Int32} {J : Nat → Nat → Int64} {F : Nat → Nat → Option Nat}
/-- what a callee that makes nothing leaves behind: an int, a long, nothing -/
def xrI (K : Nat → Nat × Nat) (P : List Nat × Nat × Nat) (F : Nat → Nat → Option Nat) (R : Int32 → (Nat → Nat → Int32) → (Nat → Nat → Int64) → Prop) : Option Value × xS → Prop := fun q => ∃ v I1 J1, q = (some (.int v), (K, P, I1, J1, F)) ∧ R v I1 J1
def xrJ (K : Nat → Nat × Nat) (P : List Nat × Nat × Nat) (F : Nat → Nat → Option Nat) (R : Int64 → (Nat → Nat → Int32) → (Nat → Nat → Int64) → Prop) : Option Value × xS → Prop := fun q => ∃ v I1 J1, q = (some (.long v), (K, P, I1, J1, F)) ∧ R v I1 J1
def xrV (K : Nat → Nat × Nat) (P : List Nat × Nat × Nat) (F : Nat → Nat → Option Nat) (R : (Nat → Nat → Int32) → (Nat → Nat → Int64) → Prop) : Option Value × xS → Prop := fun q => ∃ I1 J1, q = (none, (K, P, I1, J1, F)) ∧ R I1 J1
theorem Wp.kI {x : xI} {j : Nat} {vs rest : List Value} {R : Int32 → (Nat → Nat → Int32) → (Nat → Nat → Int64) → Prop} (hx : xat pc (xcode i) = some x) (hj : xwho x.1 x.2.2.1 x.2.2.2 st (K, P, I, J, F) = some j) (hp : xret i x.1 st (K, P, I, J, F) = none) (hc : x.2.2.2 ≤ st.length ∧ xsum (st.drop x.2.2.2) ≤ 8 ∧ (xargs (st.take x.2.2.2).reverse).length ≤ xnl j) (hvs : (st.take x.2.2.2).reverse = vs) (hrest : st.drop x.2.2.2 = rest) (hpc : pc + 3 = pc')
    (H : Wp d j 0 (xent (xnl j) vs) [] (K, P, I, J, F) (xrI K P F R)) (k : ∀ v I1 J1, R v I1 J1 → Wp (d + 1) i pc' L (.int v :: rest) (K, P, I1, J1, F) Q) : Wp (d + 1) i pc L st (K, P, I, J, F) Q := by
  refine Wp.call hx j vs rest hj hp hc hvs hrest hpc (H.mono fun q hq => ?_)
  obtain ⟨v, I1, J1, rfl, hr⟩ := hq
  exact k v I1 J1 hr
theorem Wp.kJ {x : xI} {j : Nat} {vs rest : List Value} {R : Int64 → (Nat → Nat → Int32) → (Nat → Nat → Int64) → Prop} (hx : xat pc (xcode i) = some x) (hj : xwho x.1 x.2.2.1 x.2.2.2 st (K, P, I, J, F) = some j) (hp : xret i x.1 st (K, P, I, J, F) = none) (hc : x.2.2.2 ≤ st.length ∧ xsum (st.drop x.2.2.2) ≤ 8 ∧ (xargs (st.take x.2.2.2).reverse).length ≤ xnl j) (hvs : (st.take x.2.2.2).reverse = vs) (hrest : st.drop x.2.2.2 = rest) (hpc : pc + 3 = pc')
    (H : Wp d j 0 (xent (xnl j) vs) [] (K, P, I, J, F) (xrJ K P F R)) (k : ∀ v I1 J1, R v I1 J1 → Wp (d + 1) i pc' L (.long v :: rest) (K, P, I1, J1, F) Q) : Wp (d + 1) i pc L st (K, P, I, J, F) Q := by
  refine Wp.call hx j vs rest hj hp hc hvs hrest hpc (H.mono fun q hq => ?_)
  obtain ⟨v, I1, J1, rfl, hr⟩ := hq
  exact k v I1 J1 hr
theorem Wp.kV {x : xI} {j : Nat} {vs rest : List Value} {R : (Nat → Nat → Int32) → (Nat → Nat → Int64) → Prop} (hx : xat pc (xcode i) = some x) (hj : xwho x.1 x.2.2.1 x.2.2.2 st (K, P, I, J, F) = some j) (hp : xret i x.1 st (K, P, I, J, F) = none) (hc : x.2.2.2 ≤ st.length ∧ xsum (st.drop x.2.2.2) ≤ 8 ∧ (xargs (st.take x.2.2.2).reverse).length ≤ xnl j) (hvs : (st.take x.2.2.2).reverse = vs) (hrest : st.drop x.2.2.2 = rest) (hpc : pc + 3 = pc')
    (H : Wp d j 0 (xent (xnl j) vs) [] (K, P, I, J, F) (xrV K P F R)) (k : ∀ I1 J1, R I1 J1 → Wp (d + 1) i pc' L rest (K, P, I1, J1, F) Q) : Wp (d + 1) i pc L st (K, P, I, J, F) Q := by
  refine Wp.call hx j vs rest hj hp hc hvs hrest hpc (H.mono fun q hq => ?_)
  obtain ⟨I1, J1, rfl, hr⟩ := hq
  exact k I1 J1 hr
end WP3
end
section
set_option maxRecDepth 20000 in
theorem wX1_has_0 {d : Nat} {Q : Option Value × xS → Prop} {K : Nat → Nat × Nat} {P : List Nat × Nat × Nat} {I : Nat → Nat → Int32} {J : Nat → Nat → Int64} {F : Nat → Nat → Option Nat} {r0 : Nat} {x1 : Int32} {x2 : Int32} {n_r0 : Nat} {n_c1 : Nat} (hK : ∀ {a k n : Nat}, K a = (k, n) → n < 2147483648) (hn_r0 : K r0 = (2, n_r0)) (hn_c1 : K 1 = (103, n_c1)) (H : ((x1 < 0 → Q (some (.int (nI 0)), (K, P, I, J, F))) ∧ (¬ x1 < 0 → ((I r0 0 ≤ x1 → Q (some (.int (nI 0)), (K, P, I, J, F))) ∧ (¬ I r0 0 ≤ x1 → ((x2 < 0 → Q (some (.int (nI 0)), (K, P, I, J, F))) ∧ (¬ x2 < 0 → (∃ j1 : Nat, x1 = nI j1 ∧ j1 < n_c1 ∧ ((I 1 j1 ≤ x2 → Q (some (.int (nI 0)), (K, P, I, J, F))) ∧ (¬ I 1 j1 ≤ x2 → Q (some (.int (nI 1)), (K, P, I, J, F)))))))))))) : Wp d 9 0 [some (.ref r0), some (.int x1), some (.int x2)] [] (K, P, I, J, F) Q := by
  refine Wp.go (x := (.iload_n 1, 1, 0, 0)) rfl 1 [some (.ref r0), some (.int x1), some (.int x2)] [.int x1] rfl ⟨rfl, rfl, rfl, rfl⟩ ?_
  refine Wp.z_lt rfl rfl ⟨fun c => ?_, fun c => ?_⟩
  · have H := H.1 c
    refine Wp.ic (v := nI 0) rfl rfl (by decide) ?_
    exact Wp.rZ rfl rfl (Or.inl rfl) H
  · have H := H.2 c
    refine Wp.go (x := (.iload_n 1, 1, 0, 0)) rfl 5 [some (.ref r0), some (.int x1), some (.int x2)] [.int x1] rfl ⟨rfl, rfl, rfl, rfl⟩ ?_
    refine Wp.go (x := (.aload_n 0, 1, 0, 0)) rfl 6 [some (.ref r0), some (.int x1), some (.int x2)] [.ref r0, .int x1] rfl ⟨rfl, rfl, rfl, rfl⟩ ?_
    refine Wp.gI rfl rfl hn_r0 rfl ⟨by decide, by decide⟩ ?_
    refine Wp.c_ge rfl rfl ⟨fun c => ?_, fun c => ?_⟩
    · have H := H.1 c
      refine Wp.ic (v := nI 0) rfl rfl (by decide) ?_
      exact Wp.rZ rfl rfl (Or.inl rfl) H
    · have H := H.2 c
      refine Wp.go (x := (.iload_n 2, 1, 0, 0)) rfl 13 [some (.ref r0), some (.int x1), some (.int x2)] [.int x2] rfl ⟨rfl, rfl, rfl, rfl⟩ ?_
      refine Wp.z_lt rfl rfl ⟨fun c => ?_, fun c => ?_⟩
      · have H := H.1 c
        refine Wp.ic (v := nI 0) rfl rfl (by decide) ?_
        exact Wp.rZ rfl rfl (Or.inl rfl) H
      · have H := H.2 c
        refine Wp.go (x := (.iload_n 2, 1, 0, 0)) rfl 17 [some (.ref r0), some (.int x1), some (.int x2)] [.int x2] rfl ⟨rfl, rfl, rfl, rfl⟩ ?_
        refine Wp.gst rfl rfl ?_
        refine Wp.go (x := (.iload_n 1, 1, 0, 0)) rfl 21 [some (.ref r0), some (.int x1), some (.int x2)] [.int x1, .ref 1, .int x2] rfl ⟨rfl, rfl, rfl, rfl⟩ ?_
        obtain ⟨j1, e, b, H⟩ := H
        refine Wp.ald rfl rfl hn_c1 (Or.inr rfl) (hK hn_c1) ⟨j1, e, b, ?_⟩
        refine Wp.c_ge rfl rfl ⟨fun c => ?_, fun c => ?_⟩
        · have H := H.1 c
          refine Wp.ic (v := nI 0) rfl rfl (by decide) ?_
          exact Wp.rZ rfl rfl (Or.inl rfl) H
        · have H := H.2 c
          refine Wp.ic (v := nI 1) rfl rfl (by decide) ?_
          refine Wp.go (x := (.goto 4, 3, 30, 0)) rfl 30 [some (.ref r0), some (.int x1), some (.int x2)] [.int (nI 1)] rfl ⟨rfl, rfl, rfl, rfl⟩ ?_
          exact Wp.rZ rfl rfl (Or.inr rfl) H
set_option maxRecDepth 20000 in
theorem wX9_sameBy_0 {d : Nat} {Q : Option Value × xS → Prop} {K : Nat → Nat × Nat} {P : List Nat × Nat × Nat} {I : Nat → Nat → Int32} {J : Nat → Nat → Int64} {F : Nat → Nat → Option Nat} {r0 : Nat} {x1 : Int32} {x2 : Int32} {n_r0 : Nat} (hn_r0 : K r0 = (8, n_r0)) (H : ((x2 < nI 1 → Q (some (.int (nI 0)), (K, P, I, J, F))) ∧ (¬ x2 < nI 1 → ((x2 ≤ x1 → Wp (d + 1) 71 29 [some (.ref r0), some (.int x1), some (.int x2), some (.int (if I r0 1 < (I r0 3) - x1 then I r0 1 else (I r0 3) - x1)), some (.int (nI 0))] [] (K, P, I, J, F) Q) ∧ (¬ x2 ≤ x1 → Q (some (.int (nI 0)), (K, P, I, J, F))))))) : Wp (d + 1) 71 0 [some (.ref r0), some (.int x1), some (.int x2), none, none] [] (K, P, I, J, F) Q := by
  refine Wp.go (x := (.iload_n 2, 1, 0, 0)) rfl 1 [some (.ref r0), some (.int x1), some (.int x2), none, none] [.int x2] rfl ⟨rfl, rfl, rfl, rfl⟩ ?_
  refine Wp.ic (v := nI 1) rfl rfl (by decide) ?_
  refine Wp.c_lt rfl rfl ⟨fun c => ?_, fun c => ?_⟩
  · have H := H.1 c
    refine Wp.ic (v := nI 0) rfl rfl (by decide) ?_
    exact Wp.rI rfl rfl H
  · have H := H.2 c
    refine Wp.go (x := (.iload_n 2, 1, 0, 0)) rfl 6 [some (.ref r0), some (.int x1), some (.int x2), none, none] [.int x2] rfl ⟨rfl, rfl, rfl, rfl⟩ ?_
    refine Wp.go (x := (.iload_n 1, 1, 0, 0)) rfl 7 [some (.ref r0), some (.int x1), some (.int x2), none, none] [.int x1, .int x2] rfl ⟨rfl, rfl, rfl, rfl⟩ ?_
    refine Wp.c_le rfl rfl ⟨fun c => ?_, fun c => ?_⟩
    · have H := H.1 c
      refine Wp.go (x := (.aload_n 0, 1, 0, 0)) rfl 13 [some (.ref r0), some (.int x1), some (.int x2), none, none] [.ref r0] rfl ⟨rfl, rfl, rfl, rfl⟩ ?_
      refine Wp.gI rfl rfl hn_r0 rfl ⟨by decide, by decide⟩ ?_
      refine Wp.go (x := (.iload_n 1, 1, 0, 0)) rfl 17 [some (.ref r0), some (.int x1), some (.int x2), none, none] [.int x1, .int (I r0 3)] rfl ⟨rfl, rfl, rfl, rfl⟩ ?_
      refine Wp.go (x := (.isub, 1, 0, 0)) rfl 18 [some (.ref r0), some (.int x1), some (.int x2), none, none] [.int ((I r0 3) - x1)] rfl ⟨rfl, rfl, rfl, rfl⟩ ?_
      refine Wp.go (x := (.aload_n 0, 1, 0, 0)) rfl 19 [some (.ref r0), some (.int x1), some (.int x2), none, none] [.ref r0, .int ((I r0 3) - x1)] rfl ⟨rfl, rfl, rfl, rfl⟩ ?_
      refine Wp.gI rfl rfl hn_r0 rfl ⟨by decide, by decide⟩ ?_
      refine Wp.min rfl rfl (by omega) (by decide) ?_
      refine Wp.go (x := (.istore_n 3, 1, 0, 0)) rfl 26 [some (.ref r0), some (.int x1), some (.int x2), some (.int (if I r0 1 < (I r0 3) - x1 then I r0 1 else (I r0 3) - x1)), none] [] rfl ⟨rfl, rfl, rfl, rfl⟩ ?_
      refine Wp.ic (v := nI 0) rfl rfl (by decide) ?_
      refine Wp.go (x := (.istore 4, 2, 0, 0)) rfl 29 [some (.ref r0), some (.int x1), some (.int x2), some (.int (if I r0 1 < (I r0 3) - x1 then I r0 1 else (I r0 3) - x1)), some (.int (nI 0))] [] rfl ⟨rfl, rfl, rfl, rfl⟩ ?_
      exact H
    · have H := H.2 c
      refine Wp.ic (v := nI 0) rfl rfl (by decide) ?_
      exact Wp.rI rfl rfl H
set_option maxRecDepth 20000 in
theorem wX9_sameBy_29 {d : Nat} {Q : Option Value × xS → Prop} {K : Nat → Nat × Nat} {P : List Nat × Nat × Nat} {I : Nat → Nat → Int32} {J : Nat → Nat → Int64} {F : Nat → Nat → Option Nat} {r0 : Nat} {x1 : Int32} {x2 : Int32} {x3 : Int32} {x4 : Int32} {n_r0 : Nat} {f1 : Nat} {n_f1 : Nat} (hK : ∀ {a k n : Nat}, K a = (k, n) → n < 2147483648) (hn_r0 : K r0 = (8, n_r0)) (hf1 : F r0 2 = some f1) (hn_f1 : K f1 = (100, n_f1)) (H : ((x3 ≤ x4 → Q (some (.int x4), (K, P, I, J, F))) ∧ (¬ x3 ≤ x4 → (∃ j2 : Nat, x1 + x4 = nI j2 ∧ j2 < n_f1 ∧ (∃ j3 : Nat, (x1 + x4) - x2 = nI j3 ∧ j3 < n_f1 ∧ ((¬ I f1 j2 = I f1 j3 → Q (some (.int x4), (K, P, I, J, F))) ∧ (I f1 j2 = I f1 j3 → Wp d 71 29 [some (.ref r0), some (.int x1), some (.int x2), some (.int x3), some (.int (x4 + nI 1))] [] (K, P, I, J, F) Q))))))) : Wp d 71 29 [some (.ref r0), some (.int x1), some (.int x2), some (.int x3), some (.int x4)] [] (K, P, I, J, F) Q := by
  refine Wp.go (x := (.iload 4, 2, 0, 0)) rfl 31 [some (.ref r0), some (.int x1), some (.int x2), some (.int x3), some (.int x4)] [.int x4] rfl ⟨rfl, rfl, rfl, rfl⟩ ?_
  refine Wp.go (x := (.iload_n 3, 1, 0, 0)) rfl 32 [some (.ref r0), some (.int x1), some (.int x2), some (.int x3), some (.int x4)] [.int x3, .int x4] rfl ⟨rfl, rfl, rfl, rfl⟩ ?_
  refine Wp.c_ge rfl rfl ⟨fun c => ?_, fun c => ?_⟩
  · have H := H.1 c
    refine Wp.go (x := (.iload 4, 2, 0, 0)) rfl 66 [some (.ref r0), some (.int x1), some (.int x2), some (.int x3), some (.int x4)] [.int x4] rfl ⟨rfl, rfl, rfl, rfl⟩ ?_
    exact Wp.rI rfl rfl H
  · have H := H.2 c
    refine Wp.go (x := (.aload_n 0, 1, 0, 0)) rfl 36 [some (.ref r0), some (.int x1), some (.int x2), some (.int x3), some (.int x4)] [.ref r0] rfl ⟨rfl, rfl, rfl, rfl⟩ ?_
    refine Wp.gR rfl rfl hn_r0 rfl rfl hf1 ?_
    refine Wp.go (x := (.iload_n 1, 1, 0, 0)) rfl 40 [some (.ref r0), some (.int x1), some (.int x2), some (.int x3), some (.int x4)] [.int x1, .ref f1] rfl ⟨rfl, rfl, rfl, rfl⟩ ?_
    refine Wp.go (x := (.iload 4, 2, 0, 0)) rfl 42 [some (.ref r0), some (.int x1), some (.int x2), some (.int x3), some (.int x4)] [.int x4, .int x1, .ref f1] rfl ⟨rfl, rfl, rfl, rfl⟩ ?_
    refine Wp.go (x := (.iadd, 1, 0, 0)) rfl 43 [some (.ref r0), some (.int x1), some (.int x2), some (.int x3), some (.int x4)] [.int (x1 + x4), .ref f1] rfl ⟨rfl, rfl, rfl, rfl⟩ ?_
    obtain ⟨j2, e, b, H⟩ := H
    refine Wp.ald rfl rfl hn_f1 (Or.inl rfl) (hK hn_f1) ⟨j2, e, b, ?_⟩
    refine Wp.go (x := (.aload_n 0, 1, 0, 0)) rfl 45 [some (.ref r0), some (.int x1), some (.int x2), some (.int x3), some (.int x4)] [.ref r0, .int (I f1 j2)] rfl ⟨rfl, rfl, rfl, rfl⟩ ?_
    refine Wp.gR rfl rfl hn_r0 rfl rfl hf1 ?_
    refine Wp.go (x := (.iload_n 1, 1, 0, 0)) rfl 49 [some (.ref r0), some (.int x1), some (.int x2), some (.int x3), some (.int x4)] [.int x1, .ref f1, .int (I f1 j2)] rfl ⟨rfl, rfl, rfl, rfl⟩ ?_
    refine Wp.go (x := (.iload 4, 2, 0, 0)) rfl 51 [some (.ref r0), some (.int x1), some (.int x2), some (.int x3), some (.int x4)] [.int x4, .int x1, .ref f1, .int (I f1 j2)] rfl ⟨rfl, rfl, rfl, rfl⟩ ?_
    refine Wp.go (x := (.iadd, 1, 0, 0)) rfl 52 [some (.ref r0), some (.int x1), some (.int x2), some (.int x3), some (.int x4)] [.int (x1 + x4), .ref f1, .int (I f1 j2)] rfl ⟨rfl, rfl, rfl, rfl⟩ ?_
    refine Wp.go (x := (.iload_n 2, 1, 0, 0)) rfl 53 [some (.ref r0), some (.int x1), some (.int x2), some (.int x3), some (.int x4)] [.int x2, .int (x1 + x4), .ref f1, .int (I f1 j2)] rfl ⟨rfl, rfl, rfl, rfl⟩ ?_
    refine Wp.go (x := (.isub, 1, 0, 0)) rfl 54 [some (.ref r0), some (.int x1), some (.int x2), some (.int x3), some (.int x4)] [.int ((x1 + x4) - x2), .ref f1, .int (I f1 j2)] rfl ⟨rfl, rfl, rfl, rfl⟩ ?_
    obtain ⟨j3, e, b, H⟩ := H
    refine Wp.ald rfl rfl hn_f1 (Or.inl rfl) (hK hn_f1) ⟨j3, e, b, ?_⟩
    refine Wp.c_ne rfl rfl ⟨fun c => ?_, fun c => ?_⟩
    · have H := H.1 c
      refine Wp.go (x := (.iload 4, 2, 0, 0)) rfl 66 [some (.ref r0), some (.int x1), some (.int x2), some (.int x3), some (.int x4)] [.int x4] rfl ⟨rfl, rfl, rfl, rfl⟩ ?_
      exact Wp.rI rfl rfl H
    · have H := H.2 c
      refine Wp.ii (v := nI 1) rfl rfl (by decide) rfl (L' := [some (.ref r0), some (.int x1), some (.int x2), some (.int x3), some (.int (x4 + nI 1))]) rfl ?_
      refine Wp.go (x := (.goto (-32), 3, 29, 0)) rfl 29 [some (.ref r0), some (.int x1), some (.int x2), some (.int x3), some (.int (x4 + nI 1))] [] rfl ⟨rfl, rfl, rfl, rfl⟩ ?_
      exact H
set_option maxRecDepth 20000 in
theorem wX9_nearestIndex_0 {d : Nat} {Q : Option Value × xS → Prop} {K : Nat → Nat × Nat} {P : List Nat × Nat × Nat} {I : Nat → Nat → Int32} {J : Nat → Nat → Int64} {F : Nat → Nat → Option Nat} {x0 : Int32} {x1 : Int32}  (H : (¬ nI 2 = 0 ∧ Q (some (.int ((((x0 * (x0 - (nI 1))) / (nI 2)) + x1) - (nI 1))), (K, P, I, J, F)))) : Wp d 72 0 [some (.int x0), some (.int x1)] [] (K, P, I, J, F) Q := by
  refine Wp.go (x := (.iload_n 0, 1, 0, 0)) rfl 1 [some (.int x0), some (.int x1)] [.int x0] rfl ⟨rfl, rfl, rfl, rfl⟩ ?_
  refine Wp.go (x := (.iload_n 0, 1, 0, 0)) rfl 2 [some (.int x0), some (.int x1)] [.int x0, .int x0] rfl ⟨rfl, rfl, rfl, rfl⟩ ?_
  refine Wp.ic (v := nI 1) rfl rfl (by decide) ?_
  refine Wp.go (x := (.isub, 1, 0, 0)) rfl 4 [some (.int x0), some (.int x1)] [.int (x0 - (nI 1)), .int x0] rfl ⟨rfl, rfl, rfl, rfl⟩ ?_
  refine Wp.go (x := (.imul, 1, 0, 0)) rfl 5 [some (.int x0), some (.int x1)] [.int (x0 * (x0 - (nI 1)))] rfl ⟨rfl, rfl, rfl, rfl⟩ ?_
  refine Wp.ic (v := nI 2) rfl rfl (by decide) ?_
  obtain ⟨z, H⟩ := H
  refine Wp.idiv rfl rfl z ?_
  refine Wp.go (x := (.iload_n 1, 1, 0, 0)) rfl 8 [some (.int x0), some (.int x1)] [.int x1, .int ((x0 * (x0 - (nI 1))) / (nI 2))] rfl ⟨rfl, rfl, rfl, rfl⟩ ?_
  refine Wp.go (x := (.iadd, 1, 0, 0)) rfl 9 [some (.int x0), some (.int x1)] [.int (((x0 * (x0 - (nI 1))) / (nI 2)) + x1)] rfl ⟨rfl, rfl, rfl, rfl⟩ ?_
  refine Wp.ic (v := nI 1) rfl rfl (by decide) ?_
  refine Wp.go (x := (.isub, 1, 0, 0)) rfl 11 [some (.int x0), some (.int x1)] [.int ((((x0 * (x0 - (nI 1))) / (nI 2)) + x1) - (nI 1))] rfl ⟨rfl, rfl, rfl, rfl⟩ ?_
  exact Wp.rI rfl rfl H
end
