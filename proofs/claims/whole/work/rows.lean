section
-- ===== PART A: goes FIRST, ahead of the names: the tables' words, and 'selects' of the private methods out of them =====
/-- a private method of a class that the tables say can be made, by its rows of tables_1 -/
def lw_okq (q : MethodName × Nat) : Prop := (q.1.cls ≠ "java/lang/invoke/MethodHandle" ∧ q.1.cls ≠ "java/lang/invoke/VarHandle") ∧ Cond.instantiable q.1.cls q.2 ∈ tables_1 ∧ Cond.privateMethod q.1 ∈ tables_1 ∧ Cond.instanceMethod q.1 ∈ tables_1
theorem lw_p0 : lw_okq (⟨"java/lang/Throwable", "fillInStackTrace", "(I)Ljava/lang/Throwable;"⟩, 6) := ⟨⟨by decide +kernel, by decide +kernel⟩, List.mem_of_getElem? (i := 290) (by decide +kernel), List.mem_of_getElem? (i := 288) (by decide +kernel), List.mem_of_getElem? (i := 289) (by decide +kernel)⟩
theorem lw_p1 : lw_okq (⟨"LazyTester$DepthTable", "fillType", "(II)V"⟩, 3) := ⟨⟨by decide +kernel, by decide +kernel⟩, List.mem_of_getElem? (i := 47) (by decide +kernel), List.mem_of_getElem? (i := 371) (by decide +kernel), List.mem_of_getElem? (i := 372) (by decide +kernel)⟩
theorem lw_p2 : lw_okq (⟨"LazyTester$SizeTable", "fillType", "(II)V"⟩, 3) := ⟨⟨by decide +kernel, by decide +kernel⟩, List.mem_of_getElem? (i := 64) (by decide +kernel), List.mem_of_getElem? (i := 407) (by decide +kernel), List.mem_of_getElem? (i := 408) (by decide +kernel)⟩
theorem lw_p3 : lw_okq (⟨"LazyTester$SizeTable", "waysToShare", "(III)J"⟩, 3) := ⟨⟨by decide +kernel, by decide +kernel⟩, List.mem_of_getElem? (i := 64) (by decide +kernel), List.mem_of_getElem? (i := 414) (by decide +kernel), List.mem_of_getElem? (i := 415) (by decide +kernel)⟩
theorem lw_p4 : lw_okq (⟨"LazyTester$Value", "fillIn", "(IIJ)V"⟩, 5) := ⟨⟨by decide +kernel, by decide +kernel⟩, List.mem_of_getElem? (i := 93) (by decide +kernel), List.mem_of_getElem? (i := 454) (by decide +kernel), List.mem_of_getElem? (i := 455) (by decide +kernel)⟩
theorem lw_p5 : lw_okq (⟨"LazyTester$Value", "place", "(II)V"⟩, 5) := ⟨⟨by decide +kernel, by decide +kernel⟩, List.mem_of_getElem? (i := 93) (by decide +kernel), List.mem_of_getElem? (i := 464) (by decide +kernel), List.mem_of_getElem? (i := 465) (by decide +kernel)⟩
theorem lw_p6 : lw_okq (⟨"LazyTester$Value", "leaveOpen", "(I)V"⟩, 5) := ⟨⟨by decide +kernel, by decide +kernel⟩, List.mem_of_getElem? (i := 93) (by decide +kernel), List.mem_of_getElem? (i := 473) (by decide +kernel), List.mem_of_getElem? (i := 474) (by decide +kernel)⟩
theorem lw_p7 : lw_okq (⟨"LazyTester$Value", "writePart", "(LLazyTester$Row;II)V"⟩, 5) := ⟨⟨by decide +kernel, by decide +kernel⟩, List.mem_of_getElem? (i := 93) (by decide +kernel), List.mem_of_getElem? (i := 486) (by decide +kernel), List.mem_of_getElem? (i := 487) (by decide +kernel)⟩
theorem lw_p8 : lw_okq (⟨"LazyTester$SizedValues", "writePart", "(IIJ)V"⟩, 4) := ⟨⟨by decide +kernel, by decide +kernel⟩, List.mem_of_getElem? (i := 115) (by decide +kernel), List.mem_of_getElem? (i := 522) (by decide +kernel), List.mem_of_getElem? (i := 523) (by decide +kernel)⟩
theorem lw_p9 : lw_okq (⟨"LazyTester$SizedValues", "writeFields", "(IIJ)V"⟩, 4) := ⟨⟨by decide +kernel, by decide +kernel⟩, List.mem_of_getElem? (i := 115) (by decide +kernel), List.mem_of_getElem? (i := 530) (by decide +kernel), List.mem_of_getElem? (i := 531) (by decide +kernel)⟩
theorem lw_p10 : lw_okq (⟨"LazyTester$SizedValues", "share", "(IIJ)J"⟩, 4) := ⟨⟨by decide +kernel, by decide +kernel⟩, List.mem_of_getElem? (i := 115) (by decide +kernel), List.mem_of_getElem? (i := 534) (by decide +kernel), List.mem_of_getElem? (i := 535) (by decide +kernel)⟩
theorem lw_p11 : lw_okq (⟨"LazyTester$SizedValues", "waysWithPart", "(IIII)J"⟩, 4) := ⟨⟨by decide +kernel, by decide +kernel⟩, List.mem_of_getElem? (i := 115) (by decide +kernel), List.mem_of_getElem? (i := 540) (by decide +kernel), List.mem_of_getElem? (i := 541) (by decide +kernel)⟩
theorem lw_p12 : lw_okq (⟨"LazyTester$SizedValues", "waysAfter", "(III)J"⟩, 4) := ⟨⟨by decide +kernel, by decide +kernel⟩, List.mem_of_getElem? (i := 115) (by decide +kernel), List.mem_of_getElem? (i := 545) (by decide +kernel), List.mem_of_getElem? (i := 546) (by decide +kernel)⟩
theorem lw_p13 : lw_okq (⟨"LazyTester", "requireRoomOnPile", "()V"⟩, 10) := ⟨⟨by decide +kernel, by decide +kernel⟩, List.mem_of_getElem? (i := 22) (by decide +kernel), List.mem_of_getElem? (i := 564) (by decide +kernel), List.mem_of_getElem? (i := 565) (by decide +kernel)⟩
theorem lw_p14 : lw_okq (⟨"LazyTester", "requireProperty", "()V"⟩, 10) := ⟨⟨by decide +kernel, by decide +kernel⟩, List.mem_of_getElem? (i := 22) (by decide +kernel), List.mem_of_getElem? (i := 613) (by decide +kernel), List.mem_of_getElem? (i := 614) (by decide +kernel)⟩
theorem lw_p15 : lw_okq (⟨"LazyTester", "firstFalse", "(III)I"⟩, 10) := ⟨⟨by decide +kernel, by decide +kernel⟩, List.mem_of_getElem? (i := 22) (by decide +kernel), List.mem_of_getElem? (i := 620) (by decide +kernel), List.mem_of_getElem? (i := 621) (by decide +kernel)⟩
def lw_privs_1 : List (MethodName × Nat) := [(⟨"java/lang/Throwable", "fillInStackTrace", "(I)Ljava/lang/Throwable;"⟩, 6), (⟨"LazyTester$DepthTable", "fillType", "(II)V"⟩, 3), (⟨"LazyTester$SizeTable", "fillType", "(II)V"⟩, 3), (⟨"LazyTester$SizeTable", "waysToShare", "(III)J"⟩, 3), (⟨"LazyTester$Value", "fillIn", "(IIJ)V"⟩, 5), (⟨"LazyTester$Value", "place", "(II)V"⟩, 5), (⟨"LazyTester$Value", "leaveOpen", "(I)V"⟩, 5), (⟨"LazyTester$Value", "writePart", "(LLazyTester$Row;II)V"⟩, 5), (⟨"LazyTester$SizedValues", "writePart", "(IIJ)V"⟩, 4), (⟨"LazyTester$SizedValues", "writeFields", "(IIJ)V"⟩, 4), (⟨"LazyTester$SizedValues", "share", "(IIJ)J"⟩, 4), (⟨"LazyTester$SizedValues", "waysWithPart", "(IIII)J"⟩, 4), (⟨"LazyTester$SizedValues", "waysAfter", "(III)J"⟩, 4), (⟨"LazyTester", "requireRoomOnPile", "()V"⟩, 10), (⟨"LazyTester", "requireProperty", "()V"⟩, 10), (⟨"LazyTester", "firstFalse", "(III)I"⟩, 10)]
theorem lw_r1 : ∀ q ∈ lw_privs_1, lw_okq q := List.forall_mem_cons.mpr ⟨lw_p0, List.forall_mem_cons.mpr ⟨lw_p1, List.forall_mem_cons.mpr ⟨lw_p2, List.forall_mem_cons.mpr ⟨lw_p3, List.forall_mem_cons.mpr ⟨lw_p4, List.forall_mem_cons.mpr ⟨lw_p5, List.forall_mem_cons.mpr ⟨lw_p6, List.forall_mem_cons.mpr ⟨lw_p7, List.forall_mem_cons.mpr ⟨lw_p8, List.forall_mem_cons.mpr ⟨lw_p9, List.forall_mem_cons.mpr ⟨lw_p10, List.forall_mem_cons.mpr ⟨lw_p11, List.forall_mem_cons.mpr ⟨lw_p12, List.forall_mem_cons.mpr ⟨lw_p13, List.forall_mem_cons.mpr ⟨lw_p14, List.forall_mem_cons.mpr ⟨lw_p15, fun _ h => absurd h List.not_mem_nil⟩⟩⟩⟩⟩⟩⟩⟩⟩⟩⟩⟩⟩⟩⟩⟩
theorem lw_p16 : lw_okq (⟨"LazyTester$Pile", "evaluate", "(ILLazyTester$Value;)I"⟩, 6) := ⟨⟨by decide +kernel, by decide +kernel⟩, List.mem_of_getElem? (i := 134) (by decide +kernel), List.mem_of_getElem? (i := 628) (by decide +kernel), List.mem_of_getElem? (i := 629) (by decide +kernel)⟩
theorem lw_p17 : lw_okq (⟨"LazyTester$Value", "goAlong", "(I)I"⟩, 5) := ⟨⟨by decide +kernel, by decide +kernel⟩, List.mem_of_getElem? (i := 93) (by decide +kernel), List.mem_of_getElem? (i := 636) (by decide +kernel), List.mem_of_getElem? (i := 637) (by decide +kernel)⟩
theorem lw_p18 : lw_okq (⟨"LazyTester$Value", "compare", "(III)I"⟩, 5) := ⟨⟨by decide +kernel, by decide +kernel⟩, List.mem_of_getElem? (i := 93) (by decide +kernel), List.mem_of_getElem? (i := 647) (by decide +kernel), List.mem_of_getElem? (i := 648) (by decide +kernel)⟩
theorem lw_p19 : lw_okq (⟨"LazyTester$Value", "waysToFill", "(II)J"⟩, 5) := ⟨⟨by decide +kernel, by decide +kernel⟩, List.mem_of_getElem? (i := 93) (by decide +kernel), List.mem_of_getElem? (i := 674) (by decide +kernel), List.mem_of_getElem? (i := 675) (by decide +kernel)⟩
theorem lw_p20 : lw_okq (⟨"LazyTester$Refining", "advance", "(I)Z"⟩, 6) := ⟨⟨by decide +kernel, by decide +kernel⟩, List.mem_of_getElem? (i := 159) (by decide +kernel), List.mem_of_getElem? (i := 683) (by decide +kernel), List.mem_of_getElem? (i := 684) (by decide +kernel)⟩
theorem lw_p21 : lw_okq (⟨"LazyTesterModel", "findDeep", "()V"⟩, 27) := ⟨⟨by decide +kernel, by decide +kernel⟩, List.mem_of_getElem? (i := 706) (by decide +kernel), List.mem_of_getElem? (i := 812) (by decide +kernel), List.mem_of_getElem? (i := 813) (by decide +kernel)⟩
theorem lw_p22 : lw_okq (⟨"LazyTesterModel", "deepWith", "(III)J"⟩, 27) := ⟨⟨by decide +kernel, by decide +kernel⟩, List.mem_of_getElem? (i := 706) (by decide +kernel), List.mem_of_getElem? (i := 816) (by decide +kernel), List.mem_of_getElem? (i := 817) (by decide +kernel)⟩
theorem lw_p23 : lw_okq (⟨"LazyTesterModel", "fieldType", "(III)I"⟩, 27) := ⟨⟨by decide +kernel, by decide +kernel⟩, List.mem_of_getElem? (i := 706) (by decide +kernel), List.mem_of_getElem? (i := 820) (by decide +kernel), List.mem_of_getElem? (i := 821) (by decide +kernel)⟩
theorem lw_p24 : lw_okq (⟨"LazyTesterModel", "findSizes", "()V"⟩, 27) := ⟨⟨by decide +kernel, by decide +kernel⟩, List.mem_of_getElem? (i := 706) (by decide +kernel), List.mem_of_getElem? (i := 838) (by decide +kernel), List.mem_of_getElem? (i := 839) (by decide +kernel)⟩
theorem lw_p25 : lw_okq (⟨"LazyTesterModel", "sizedWith", "(III)J"⟩, 27) := ⟨⟨by decide +kernel, by decide +kernel⟩, List.mem_of_getElem? (i := 706) (by decide +kernel), List.mem_of_getElem? (i := 842) (by decide +kernel), List.mem_of_getElem? (i := 843) (by decide +kernel)⟩
theorem lw_p26 : lw_okq (⟨"LazyTesterModel", "sizedBy", "(IIIII)J"⟩, 27) := ⟨⟨by decide +kernel, by decide +kernel⟩, List.mem_of_getElem? (i := 706) (by decide +kernel), List.mem_of_getElem? (i := 846) (by decide +kernel), List.mem_of_getElem? (i := 847) (by decide +kernel)⟩
theorem lw_p27 : lw_okq (⟨"LazyTesterModel", "ofSize", "(II)J"⟩, 27) := ⟨⟨by decide +kernel, by decide +kernel⟩, List.mem_of_getElem? (i := 706) (by decide +kernel), List.mem_of_getElem? (i := 850) (by decide +kernel), List.mem_of_getElem? (i := 851) (by decide +kernel)⟩
theorem lw_p28 : lw_okq (⟨"LazyTesterModel", "build", "(IIJ)V"⟩, 27) := ⟨⟨by decide +kernel, by decide +kernel⟩, List.mem_of_getElem? (i := 706) (by decide +kernel), List.mem_of_getElem? (i := 858) (by decide +kernel), List.mem_of_getElem? (i := 859) (by decide +kernel)⟩
theorem lw_p29 : lw_okq (⟨"LazyTesterModel", "clearValue", "()V"⟩, 27) := ⟨⟨by decide +kernel, by decide +kernel⟩, List.mem_of_getElem? (i := 706) (by decide +kernel), List.mem_of_getElem? (i := 862) (by decide +kernel), List.mem_of_getElem? (i := 863) (by decide +kernel)⟩
theorem lw_p30 : lw_okq (⟨"LazyTesterModel", "push", "(IIJ)V"⟩, 27) := ⟨⟨by decide +kernel, by decide +kernel⟩, List.mem_of_getElem? (i := 706) (by decide +kernel), List.mem_of_getElem? (i := 866) (by decide +kernel), List.mem_of_getElem? (i := 867) (by decide +kernel)⟩
theorem lw_p31 : lw_okq (⟨"LazyTesterModel", "place", "(IIIJ)V"⟩, 27) := ⟨⟨by decide +kernel, by decide +kernel⟩, List.mem_of_getElem? (i := 706) (by decide +kernel), List.mem_of_getElem? (i := 873) (by decide +kernel), List.mem_of_getElem? (i := 874) (by decide +kernel)⟩
def lw_privs_2 : List (MethodName × Nat) := [(⟨"LazyTester$Pile", "evaluate", "(ILLazyTester$Value;)I"⟩, 6), (⟨"LazyTester$Value", "goAlong", "(I)I"⟩, 5), (⟨"LazyTester$Value", "compare", "(III)I"⟩, 5), (⟨"LazyTester$Value", "waysToFill", "(II)J"⟩, 5), (⟨"LazyTester$Refining", "advance", "(I)Z"⟩, 6), (⟨"LazyTesterModel", "findDeep", "()V"⟩, 27), (⟨"LazyTesterModel", "deepWith", "(III)J"⟩, 27), (⟨"LazyTesterModel", "fieldType", "(III)I"⟩, 27), (⟨"LazyTesterModel", "findSizes", "()V"⟩, 27), (⟨"LazyTesterModel", "sizedWith", "(III)J"⟩, 27), (⟨"LazyTesterModel", "sizedBy", "(IIIII)J"⟩, 27), (⟨"LazyTesterModel", "ofSize", "(II)J"⟩, 27), (⟨"LazyTesterModel", "build", "(IIJ)V"⟩, 27), (⟨"LazyTesterModel", "clearValue", "()V"⟩, 27), (⟨"LazyTesterModel", "push", "(IIJ)V"⟩, 27), (⟨"LazyTesterModel", "place", "(IIIJ)V"⟩, 27)]
theorem lw_r2 : ∀ q ∈ lw_privs_2, lw_okq q := List.forall_mem_cons.mpr ⟨lw_p16, List.forall_mem_cons.mpr ⟨lw_p17, List.forall_mem_cons.mpr ⟨lw_p18, List.forall_mem_cons.mpr ⟨lw_p19, List.forall_mem_cons.mpr ⟨lw_p20, List.forall_mem_cons.mpr ⟨lw_p21, List.forall_mem_cons.mpr ⟨lw_p22, List.forall_mem_cons.mpr ⟨lw_p23, List.forall_mem_cons.mpr ⟨lw_p24, List.forall_mem_cons.mpr ⟨lw_p25, List.forall_mem_cons.mpr ⟨lw_p26, List.forall_mem_cons.mpr ⟨lw_p27, List.forall_mem_cons.mpr ⟨lw_p28, List.forall_mem_cons.mpr ⟨lw_p29, List.forall_mem_cons.mpr ⟨lw_p30, List.forall_mem_cons.mpr ⟨lw_p31, fun _ h => absurd h List.not_mem_nil⟩⟩⟩⟩⟩⟩⟩⟩⟩⟩⟩⟩⟩⟩⟩⟩
theorem lw_p32 : lw_okq (⟨"LazyTesterModel", "showValue", "()V"⟩, 27) := ⟨⟨by decide +kernel, by decide +kernel⟩, List.mem_of_getElem? (i := 706) (by decide +kernel), List.mem_of_getElem? (i := 877) (by decide +kernel), List.mem_of_getElem? (i := 878) (by decide +kernel)⟩
theorem lw_p33 : lw_okq (⟨"LazyTesterModel", "showNext", "(IIJ)V"⟩, 27) := ⟨⟨by decide +kernel, by decide +kernel⟩, List.mem_of_getElem? (i := 706) (by decide +kernel), List.mem_of_getElem? (i := 885) (by decide +kernel), List.mem_of_getElem? (i := 886) (by decide +kernel)⟩
theorem lw_p34 : lw_okq (⟨"LazyTesterModel", "put", "(III)I"⟩, 27) := ⟨⟨by decide +kernel, by decide +kernel⟩, List.mem_of_getElem? (i := 706) (by decide +kernel), List.mem_of_getElem? (i := 900) (by decide +kernel), List.mem_of_getElem? (i := 901) (by decide +kernel)⟩
theorem lw_p35 : lw_okq (⟨"LazyTesterModel", "evaluate", "()I"⟩, 27) := ⟨⟨by decide +kernel, by decide +kernel⟩, List.mem_of_getElem? (i := 706) (by decide +kernel), List.mem_of_getElem? (i := 921) (by decide +kernel), List.mem_of_getElem? (i := 922) (by decide +kernel)⟩
theorem lw_p36 : lw_okq (⟨"LazyTesterModel", "evaluateTest", "(II)I"⟩, 27) := ⟨⟨by decide +kernel, by decide +kernel⟩, List.mem_of_getElem? (i := 706) (by decide +kernel), List.mem_of_getElem? (i := 925) (by decide +kernel), List.mem_of_getElem? (i := 926) (by decide +kernel)⟩
theorem lw_p37 : lw_okq (⟨"LazyTesterModel", "go", "(I)I"⟩, 27) := ⟨⟨by decide +kernel, by decide +kernel⟩, List.mem_of_getElem? (i := 706) (by decide +kernel), List.mem_of_getElem? (i := 929) (by decide +kernel), List.mem_of_getElem? (i := 930) (by decide +kernel)⟩
theorem lw_p38 : lw_okq (⟨"LazyTesterModel", "evaluateSame", "(II)I"⟩, 27) := ⟨⟨by decide +kernel, by decide +kernel⟩, List.mem_of_getElem? (i := 706) (by decide +kernel), List.mem_of_getElem? (i := 936) (by decide +kernel), List.mem_of_getElem? (i := 937) (by decide +kernel)⟩
theorem lw_p39 : lw_okq (⟨"LazyTesterModel", "turn", "()I"⟩, 27) := ⟨⟨by decide +kernel, by decide +kernel⟩, List.mem_of_getElem? (i := 706) (by decide +kernel), List.mem_of_getElem? (i := 944) (by decide +kernel), List.mem_of_getElem? (i := 945) (by decide +kernel)⟩
theorem lw_p40 : lw_okq (⟨"LazyTesterModel", "standsFor", "()J"⟩, 27) := ⟨⟨by decide +kernel, by decide +kernel⟩, List.mem_of_getElem? (i := 706) (by decide +kernel), List.mem_of_getElem? (i := 948) (by decide +kernel), List.mem_of_getElem? (i := 949) (by decide +kernel)⟩
theorem lw_p41 : lw_okq (⟨"LazyTesterModel", "goOn", "()Z"⟩, 27) := ⟨⟨by decide +kernel, by decide +kernel⟩, List.mem_of_getElem? (i := 706) (by decide +kernel), List.mem_of_getElem? (i := 952) (by decide +kernel), List.mem_of_getElem? (i := 953) (by decide +kernel)⟩
theorem lw_p42 : lw_okq (⟨"LazyTesterModel", "fillNext", "()Z"⟩, 27) := ⟨⟨by decide +kernel, by decide +kernel⟩, List.mem_of_getElem? (i := 706) (by decide +kernel), List.mem_of_getElem? (i := 956) (by decide +kernel), List.mem_of_getElem? (i := 957) (by decide +kernel)⟩
def lw_privs_3 : List (MethodName × Nat) := [(⟨"LazyTesterModel", "showValue", "()V"⟩, 27), (⟨"LazyTesterModel", "showNext", "(IIJ)V"⟩, 27), (⟨"LazyTesterModel", "put", "(III)I"⟩, 27), (⟨"LazyTesterModel", "evaluate", "()I"⟩, 27), (⟨"LazyTesterModel", "evaluateTest", "(II)I"⟩, 27), (⟨"LazyTesterModel", "go", "(I)I"⟩, 27), (⟨"LazyTesterModel", "evaluateSame", "(II)I"⟩, 27), (⟨"LazyTesterModel", "turn", "()I"⟩, 27), (⟨"LazyTesterModel", "standsFor", "()J"⟩, 27), (⟨"LazyTesterModel", "goOn", "()Z"⟩, 27), (⟨"LazyTesterModel", "fillNext", "()Z"⟩, 27)]
theorem lw_r3 : ∀ q ∈ lw_privs_3, lw_okq q := List.forall_mem_cons.mpr ⟨lw_p32, List.forall_mem_cons.mpr ⟨lw_p33, List.forall_mem_cons.mpr ⟨lw_p34, List.forall_mem_cons.mpr ⟨lw_p35, List.forall_mem_cons.mpr ⟨lw_p36, List.forall_mem_cons.mpr ⟨lw_p37, List.forall_mem_cons.mpr ⟨lw_p38, List.forall_mem_cons.mpr ⟨lw_p39, List.forall_mem_cons.mpr ⟨lw_p40, List.forall_mem_cons.mpr ⟨lw_p41, List.forall_mem_cons.mpr ⟨lw_p42, fun _ h => absurd h List.not_mem_nil⟩⟩⟩⟩⟩⟩⟩⟩⟩⟩⟩
def lw_privs : List (MethodName × Nat) := lw_privs_1 ++ (lw_privs_2 ++ (lw_privs_3))
def lw_tbl : List Cond := k2_sels lw_privs ++ tables_1
theorem lw_privs_ok : ∀ q ∈ lw_privs, lw_okq q := by
  show ∀ q ∈ lw_privs_1 ++ (lw_privs_2 ++ (lw_privs_3)), lw_okq q
  exact List.forall_mem_append.mpr ⟨lw_r1, List.forall_mem_append.mpr ⟨lw_r2, lw_r3⟩⟩
end
section
/-! ===== the claim's methods and classes by number ===== -/
def mm_tab_0 : List (MethodName × ByteArray × Nat × Option FieldType × List (Nat × Nat × Nat × Nat)) := [
  (⟨"LazyTester", "<init>", "()V"⟩, prog_1_method_1_code, 1, (Option.none : Option Jvm.ClassFile.FieldType), []),
  (⟨"LazyTester$Types", "<init>", "()V"⟩, prog_10_method_1_code, 1, (Option.none : Option Jvm.ClassFile.FieldType), []),
  (⟨"LazyTester$DepthTable", "<init>", "(LLazyTester$Types;)V"⟩, prog_2_method_1_code, 2, (Option.none : Option Jvm.ClassFile.FieldType), []),
  (⟨"LazyTester$SizeTable", "<init>", "(LLazyTester$Types;)V"⟩, prog_8_method_1_code, 2, (Option.none : Option Jvm.ClassFile.FieldType), []),
  (⟨"LazyTester$Row", "<init>", "()V"⟩, prog_7_method_1_code, 1, (Option.none : Option Jvm.ClassFile.FieldType), []),
  (⟨"LazyTester$Value", "<init>", "(LLazyTester$Types;LLazyTester$DepthTable;)V"⟩, prog_11_method_1_code, 3, (Option.none : Option Jvm.ClassFile.FieldType), []),
  (⟨"LazyTester$SizedValues", "<init>", "(LLazyTester$Types;LLazyTester$SizeTable;LLazyTester$Row;)V"⟩, prog_9_method_1_code, 4, (Option.none : Option Jvm.ClassFile.FieldType), []),
  (⟨"LazyTester$Pile", "<init>", "()V"⟩, prog_5_method_1_code, 1, (Option.none : Option Jvm.ClassFile.FieldType), []),
  (⟨"LazyTester$Refining", "<init>", "(LLazyTester$Value;LLazyTester$Pile;)V"⟩, prog_6_method_1_code, 3, (Option.none : Option Jvm.ClassFile.FieldType), []),
  (⟨"LazyTester", "shown", "(I)I"⟩, prog_1_method_7_code, 2, (Option.some Jvm.ClassFile.FieldType.int), []),
  (⟨"LazyTester$Row", "at", "(I)I"⟩, prog_7_method_5_code, 2, (Option.some Jvm.ClassFile.FieldType.int), []),
  (⟨"LazyTester", "discard", "()V"⟩, prog_1_method_11_code, 1, (Option.none : Option Jvm.ClassFile.FieldType), []),
  (⟨"LazyTester$Pile", "clear", "()V"⟩, prog_5_method_5_code, 1, (Option.none : Option Jvm.ClassFile.FieldType), []),
  (⟨"LazyTester", "evaluated", "()I"⟩, prog_1_method_14_code, 1, (Option.some Jvm.ClassFile.FieldType.int), []),
  (⟨"LazyTester", "passed", "()J"⟩, prog_1_method_15_code, 1, (Option.some Jvm.ClassFile.FieldType.long), []),
  (⟨"LazyTesterLaw", "constructor", "(LLazyTester;IIIII[J)I"⟩, method_3_code, 8, (Option.some Jvm.ClassFile.FieldType.int), [((0 : Nat), (16 : Nat), (19 : Nat), (13 : Nat)), ((0 : Nat), (16 : Nat), (23 : Nat), (15 : Nat)), ((0 : Nat), (16 : Nat), (27 : Nat), (17 : Nat))]),
  (⟨"LazyTester", "constructor", "(IIIII)I"⟩, prog_1_method_2_code, 7, (Option.some Jvm.ClassFile.FieldType.int), []),
  (⟨"LazyTester", "requireType", "(I)V"⟩, prog_1_method_17_code, 1, (Option.none : Option Jvm.ClassFile.FieldType), []),
  (⟨"LazyTester", "requireFieldTypes", "(IIII)V"⟩, prog_1_method_18_code, 4, (Option.none : Option Jvm.ClassFile.FieldType), []),
  (⟨"LazyTester$Types", "constructors", "(I)I"⟩, prog_10_method_4_code, 2, (Option.some Jvm.ClassFile.FieldType.int), []),
  (⟨"LazyTester$Types", "add", "(IIIII)I"⟩, prog_10_method_3_code, 8, (Option.some Jvm.ClassFile.FieldType.int), []),
  (⟨"LazyTester$Types", "form", "(II)I"⟩, prog_10_method_2_code, 2, (Option.some Jvm.ClassFile.FieldType.int), []),
  (⟨"LazyTester$DepthTable", "fill", "()V"⟩, prog_2_method_2_code, 3, (Option.none : Option Jvm.ClassFile.FieldType), []),
  (⟨"LazyTester$DepthTable", "fillType", "(II)V"⟩, prog_2_method_3_code, 9, (Option.none : Option Jvm.ClassFile.FieldType), []),
  (⟨"LazyTester$Types", "fields", "(I)I"⟩, prog_10_method_5_code, 2, (Option.some Jvm.ClassFile.FieldType.int), []),
  (⟨"LazyTester$DepthTable", "fieldValues", "(III)J"⟩, prog_2_method_6_code, 7, (Option.some Jvm.ClassFile.FieldType.long), []),
  (⟨"LazyTester$Types", "fieldType", "(II)I"⟩, prog_10_method_6_code, 3, (Option.some Jvm.ClassFile.FieldType.int), []),
  (⟨"LazyTester$DepthTable", "values", "(II)J"⟩, prog_2_method_4_code, 3, (Option.some Jvm.ClassFile.FieldType.long), []),
  (⟨"LazyTester", "cappedProduct", "(JJ)J"⟩, prog_1_method_26_code, 4, (Option.some Jvm.ClassFile.FieldType.long), []),
  (⟨"LazyTester", "cappedSum", "(JJ)J"⟩, prog_1_method_25_code, 4, (Option.some Jvm.ClassFile.FieldType.long), [])]
def mm_tab_1 : List (MethodName × ByteArray × Nat × Option FieldType × List (Nat × Nat × Nat × Nat)) := [
  (⟨"LazyTester$SizeTable", "fill", "()V"⟩, prog_8_method_2_code, 3, (Option.none : Option Jvm.ClassFile.FieldType), []),
  (⟨"LazyTester$SizeTable", "fillType", "(II)V"⟩, prog_8_method_3_code, 8, (Option.none : Option Jvm.ClassFile.FieldType), []),
  (⟨"LazyTester$SizeTable", "waysToShare", "(III)J"⟩, prog_8_method_4_code, 7, (Option.some Jvm.ClassFile.FieldType.long), []),
  (⟨"LazyTester$SizeTable", "values", "(II)J"⟩, prog_8_method_5_code, 3, (Option.some Jvm.ClassFile.FieldType.long), []),
  (⟨"LazyTester$SizeTable", "fieldValues", "(III)J"⟩, prog_8_method_6_code, 4, (Option.some Jvm.ClassFile.FieldType.long), []),
  (⟨"LazyTesterLaw", "count", "(LLazyTester;II[J)I"⟩, method_4_code, 5, (Option.some Jvm.ClassFile.FieldType.int), [((0 : Nat), (9 : Nat), (12 : Nat), (13 : Nat)), ((0 : Nat), (9 : Nat), (16 : Nat), (15 : Nat))]),
  (⟨"LazyTester", "count", "(II)J"⟩, prog_1_method_3_code, 3, (Option.some Jvm.ClassFile.FieldType.long), []),
  (⟨"LazyTester", "requireDepth", "(I)V"⟩, prog_1_method_19_code, 1, (Option.none : Option Jvm.ClassFile.FieldType), []),
  (⟨"LazyTesterLaw", "show", "(LLazyTester;IIJ[J)I"⟩, method_5_code, 7, (Option.some Jvm.ClassFile.FieldType.int), [((0 : Nat), (12 : Nat), (15 : Nat), (13 : Nat)), ((0 : Nat), (12 : Nat), (19 : Nat), (15 : Nat)), ((0 : Nat), (12 : Nat), (23 : Nat), (17 : Nat))]),
  (⟨"LazyTester", "show", "(IIJ)I"⟩, prog_1_method_4_code, 5, (Option.some Jvm.ClassFile.FieldType.int), []),
  (⟨"LazyTester", "requireNumber", "(JJ)V"⟩, prog_1_method_21_code, 4, (Option.none : Option Jvm.ClassFile.FieldType), []),
  (⟨"LazyTester$Value", "become", "(IIJ)V"⟩, prog_11_method_3_code, 5, (Option.none : Option Jvm.ClassFile.FieldType), []),
  (⟨"LazyTester$Value", "fillIn", "(IIJ)V"⟩, prog_11_method_5_code, 13, (Option.none : Option Jvm.ClassFile.FieldType), []),
  (⟨"LazyTester$DepthTable", "formValues", "(II)J"⟩, prog_2_method_5_code, 3, (Option.some Jvm.ClassFile.FieldType.long), []),
  (⟨"LazyTester$Value", "place", "(II)V"⟩, prog_11_method_6_code, 6, (Option.none : Option Jvm.ClassFile.FieldType), []),
  (⟨"LazyTester$Paths", "toField", "(II)I"⟩, prog_4_method_3_code, 2, (Option.some Jvm.ClassFile.FieldType.int), []),
  (⟨"LazyTester$Value", "leaveOpen", "(I)V"⟩, prog_11_method_4_code, 2, (Option.none : Option Jvm.ClassFile.FieldType), []),
  (⟨"LazyTester$Value", "writeTo", "(LLazyTester$Row;)V"⟩, prog_11_method_10_code, 2, (Option.none : Option Jvm.ClassFile.FieldType), []),
  (⟨"LazyTester$Row", "clear", "()V"⟩, prog_7_method_2_code, 1, (Option.none : Option Jvm.ClassFile.FieldType), []),
  (⟨"LazyTester$Value", "writePart", "(LLazyTester$Row;II)V"⟩, prog_11_method_11_code, 5, (Option.none : Option Jvm.ClassFile.FieldType), []),
  (⟨"LazyTester$Row", "add", "(I)V"⟩, prog_7_method_3_code, 2, (Option.none : Option Jvm.ClassFile.FieldType), []),
  (⟨"LazyTester$Row", "length", "()I"⟩, prog_7_method_4_code, 1, (Option.some Jvm.ClassFile.FieldType.int), []),
  (⟨"LazyTesterLaw", "sized", "(LLazyTester;II[J)I"⟩, method_6_code, 5, (Option.some Jvm.ClassFile.FieldType.int), [((0 : Nat), (9 : Nat), (12 : Nat), (13 : Nat)), ((0 : Nat), (9 : Nat), (16 : Nat), (15 : Nat))]),
  (⟨"LazyTester", "sized", "(II)J"⟩, prog_1_method_5_code, 3, (Option.some Jvm.ClassFile.FieldType.long), []),
  (⟨"LazyTester", "requireSize", "(I)V"⟩, prog_1_method_20_code, 1, (Option.none : Option Jvm.ClassFile.FieldType), []),
  (⟨"LazyTesterLaw", "showSized", "(LLazyTester;IIJ[J)I"⟩, method_7_code, 7, (Option.some Jvm.ClassFile.FieldType.int), [((0 : Nat), (12 : Nat), (15 : Nat), (13 : Nat)), ((0 : Nat), (12 : Nat), (19 : Nat), (15 : Nat)), ((0 : Nat), (12 : Nat), (23 : Nat), (17 : Nat))]),
  (⟨"LazyTester", "showSized", "(IIJ)I"⟩, prog_1_method_6_code, 5, (Option.some Jvm.ClassFile.FieldType.int), []),
  (⟨"LazyTester$SizedValues", "write", "(IIJ)V"⟩, prog_9_method_2_code, 5, (Option.none : Option Jvm.ClassFile.FieldType), []),
  (⟨"LazyTester$SizedValues", "writePart", "(IIJ)V"⟩, prog_9_method_3_code, 8, (Option.none : Option Jvm.ClassFile.FieldType), []),
  (⟨"LazyTester$SizedValues", "writeFields", "(IIJ)V"⟩, prog_9_method_4_code, 10, (Option.none : Option Jvm.ClassFile.FieldType), [])]
def mm_tab_2 : List (MethodName × ByteArray × Nat × Option FieldType × List (Nat × Nat × Nat × Nat)) := [
  (⟨"LazyTester$SizedValues", "share", "(IIJ)J"⟩, prog_9_method_5_code, 15, (Option.some Jvm.ClassFile.FieldType.long), []),
  (⟨"LazyTester$SizedValues", "waysWithPart", "(IIII)J"⟩, prog_9_method_6_code, 5, (Option.some Jvm.ClassFile.FieldType.long), []),
  (⟨"LazyTester$SizedValues", "waysAfter", "(III)J"⟩, prog_9_method_7_code, 7, (Option.some Jvm.ClassFile.FieldType.long), []),
  (⟨"LazyTesterLaw", "test", "(LLazyTester;II[J)I"⟩, method_8_code, 5, (Option.some Jvm.ClassFile.FieldType.int), [((0 : Nat), (10 : Nat), (13 : Nat), (15 : Nat)), ((0 : Nat), (10 : Nat), (17 : Nat), (17 : Nat))]),
  (⟨"LazyTester", "test", "(II)I"⟩, prog_1_method_8_code, 3, (Option.some Jvm.ClassFile.FieldType.int), []),
  (⟨"LazyTester", "requirePath", "(I)V"⟩, prog_1_method_22_code, 1, (Option.none : Option Jvm.ClassFile.FieldType), []),
  (⟨"LazyTester$Paths", "isPath", "(I)Z"⟩, prog_4_method_2_code, 2, (Option.some Jvm.ClassFile.FieldType.boolean), []),
  (⟨"LazyTester", "requireRoomOnPile", "()V"⟩, prog_1_method_23_code, 1, (Option.none : Option Jvm.ClassFile.FieldType), []),
  (⟨"LazyTester$Pile", "made", "()I"⟩, prog_5_method_3_code, 1, (Option.some Jvm.ClassFile.FieldType.int), []),
  (⟨"LazyTester$Pile", "put", "(III)I"⟩, prog_5_method_6_code, 4, (Option.some Jvm.ClassFile.FieldType.int), []),
  (⟨"LazyTesterLaw", "same", "(LLazyTester;II[J)I"⟩, method_9_code, 5, (Option.some Jvm.ClassFile.FieldType.int), [((0 : Nat), (10 : Nat), (13 : Nat), (15 : Nat)), ((0 : Nat), (10 : Nat), (17 : Nat), (17 : Nat))]),
  (⟨"LazyTester", "same", "(II)I"⟩, prog_1_method_9_code, 3, (Option.some Jvm.ClassFile.FieldType.int), []),
  (⟨"LazyTesterLaw", "combine", "(LLazyTester;I[J)I"⟩, method_10_code, 4, (Option.some Jvm.ClassFile.FieldType.int), [((0 : Nat), (9 : Nat), (12 : Nat), (15 : Nat)), ((0 : Nat), (9 : Nat), (15 : Nat), (17 : Nat))]),
  (⟨"LazyTester", "combine", "(I)I"⟩, prog_1_method_10_code, 2, (Option.some Jvm.ClassFile.FieldType.int), []),
  (⟨"LazyTester$Pile", "height", "()I"⟩, prog_5_method_4_code, 1, (Option.some Jvm.ClassFile.FieldType.int), []),
  (⟨"LazyTester$Pile", "operands", "(I)I"⟩, prog_5_method_2_code, 1, (Option.some Jvm.ClassFile.FieldType.int), []),
  (⟨"LazyTester$Pile", "join", "(I)I"⟩, prog_5_method_7_code, 4, (Option.some Jvm.ClassFile.FieldType.int), []),
  (⟨"LazyTesterLaw", "check", "(LLazyTester;II[J)I"⟩, method_11_code, 5, (Option.some Jvm.ClassFile.FieldType.int), [((0 : Nat), (10 : Nat), (13 : Nat), (13 : Nat)), ((0 : Nat), (10 : Nat), (17 : Nat), (15 : Nat)), ((0 : Nat), (10 : Nat), (21 : Nat), (17 : Nat))]),
  (⟨"LazyTester", "check", "(II)I"⟩, prog_1_method_12_code, 6, (Option.some Jvm.ClassFile.FieldType.int), []),
  (⟨"LazyTester", "requireProperty", "()V"⟩, prog_1_method_24_code, 1, (Option.none : Option Jvm.ClassFile.FieldType), []),
  (⟨"LazyTester", "firstFalse", "(III)I"⟩, prog_1_method_16_code, 5, (Option.some Jvm.ClassFile.FieldType.int), []),
  (⟨"LazyTester$Pile", "evaluateTopmost", "(LLazyTester$Value;)I"⟩, prog_5_method_8_code, 2, (Option.some Jvm.ClassFile.FieldType.int), []),
  (⟨"LazyTester$Pile", "evaluate", "(ILLazyTester$Value;)I"⟩, prog_5_method_9_code, 7, (Option.some Jvm.ClassFile.FieldType.int), []),
  (⟨"LazyTester$Value", "hasConstructor", "(II)I"⟩, prog_11_method_12_code, 4, (Option.some Jvm.ClassFile.FieldType.int), []),
  (⟨"LazyTester$Value", "goAlong", "(I)I"⟩, prog_11_method_15_code, 5, (Option.some Jvm.ClassFile.FieldType.int), []),
  (⟨"LazyTester$Paths", "steps", "(I)I"⟩, prog_4_method_4_code, 3, (Option.some Jvm.ClassFile.FieldType.int), []),
  (⟨"LazyTester$Value", "isAlike", "(II)I"⟩, prog_11_method_13_code, 5, (Option.some Jvm.ClassFile.FieldType.int), []),
  (⟨"LazyTester$Value", "compare", "(III)I"⟩, prog_11_method_14_code, 6, (Option.some Jvm.ClassFile.FieldType.int), []),
  (⟨"LazyTester$Pile", "negate", "(I)I"⟩, prog_5_method_10_code, 1, (Option.some Jvm.ClassFile.FieldType.int), []),
  (⟨"LazyTesterLaw", "refine", "(LLazyTester;II[J)I"⟩, method_12_code, 5, (Option.some Jvm.ClassFile.FieldType.int), [((0 : Nat), (17 : Nat), (20 : Nat), (13 : Nat)), ((0 : Nat), (17 : Nat), (24 : Nat), (15 : Nat)), ((0 : Nat), (17 : Nat), (28 : Nat), (17 : Nat))])]
def mm_tab_3 : List (MethodName × ByteArray × Nat × Option FieldType × List (Nat × Nat × Nat × Nat)) := [
  (⟨"LazyTester", "refine", "(II)Z"⟩, prog_1_method_13_code, 4, (Option.some Jvm.ClassFile.FieldType.boolean), []),
  (⟨"LazyTester$Refining", "run", "(II)LLazyTester$Outcome;"⟩, prog_6_method_4_code, 5, (Option.some (Jvm.ClassFile.FieldType.object "LazyTester$Outcome")), []),
  (⟨"LazyTester$Value", "becomeHole", "(I)V"⟩, prog_11_method_2_code, 2, (Option.none : Option Jvm.ClassFile.FieldType), []),
  (⟨"LazyTester$Value", "standsFor", "(I)J"⟩, prog_11_method_8_code, 2, (Option.some Jvm.ClassFile.FieldType.long), []),
  (⟨"LazyTester$Value", "waysToFill", "(II)J"⟩, prog_11_method_9_code, 6, (Option.some Jvm.ClassFile.FieldType.long), []),
  (⟨"LazyTester$Refining", "advance", "(I)Z"⟩, prog_6_method_5_code, 2, (Option.some Jvm.ClassFile.FieldType.boolean), []),
  (⟨"LazyTester$Value", "advance", "(II)Z"⟩, prog_11_method_7_code, 7, (Option.some Jvm.ClassFile.FieldType.boolean), []),
  (⟨"LazyTester$Refining", "evaluations", "()I"⟩, prog_6_method_2_code, 1, (Option.some Jvm.ClassFile.FieldType.int), []),
  (⟨"LazyTester$Refining", "passes", "()J"⟩, prog_6_method_3_code, 1, (Option.some Jvm.ClassFile.FieldType.long), []),
  (⟨"LazyTesterModel", "<init>", "()V"⟩, prog_13_method_1_code, 1, (Option.none : Option Jvm.ClassFile.FieldType), []),
  (⟨"LazyTesterModel", "thrown", "()I"⟩, prog_13_method_2_code, 1, (Option.some Jvm.ClassFile.FieldType.int), []),
  (⟨"LazyTesterModel", "constructor", "(IIIII)I"⟩, prog_13_method_4_code, 8, (Option.some Jvm.ClassFile.FieldType.int), []),
  (⟨"LazyTesterModel", "isType", "(I)Z"⟩, prog_13_method_3_code, 1, (Option.some Jvm.ClassFile.FieldType.boolean), []),
  (⟨"LazyTesterModel", "count", "(II)J"⟩, prog_13_method_16_code, 3, (Option.some Jvm.ClassFile.FieldType.long), []),
  (⟨"LazyTesterModel", "depthBar", "(II)I"⟩, prog_13_method_14_code, 2, (Option.some Jvm.ClassFile.FieldType.int), []),
  (⟨"LazyTesterModel", "findDeep", "()V"⟩, prog_13_method_9_code, 6, (Option.none : Option Jvm.ClassFile.FieldType), []),
  (⟨"LazyTesterModel", "deepWith", "(III)J"⟩, prog_13_method_8_code, 7, (Option.some Jvm.ClassFile.FieldType.long), []),
  (⟨"LazyTesterModel", "fieldType", "(III)I"⟩, prog_13_method_5_code, 4, (Option.some Jvm.ClassFile.FieldType.int), []),
  (⟨"LazyTesterModel", "times", "(JJ)J"⟩, prog_13_method_7_code, 4, (Option.some Jvm.ClassFile.FieldType.long), []),
  (⟨"LazyTesterModel", "plus", "(JJ)J"⟩, prog_13_method_6_code, 4, (Option.some Jvm.ClassFile.FieldType.long), []),
  (⟨"LazyTesterModel", "sized", "(II)J"⟩, prog_13_method_17_code, 3, (Option.some Jvm.ClassFile.FieldType.long), []),
  (⟨"LazyTesterModel", "sizeBar", "(II)I"⟩, prog_13_method_15_code, 2, (Option.some Jvm.ClassFile.FieldType.int), []),
  (⟨"LazyTesterModel", "findSizes", "()V"⟩, prog_13_method_13_code, 6, (Option.none : Option Jvm.ClassFile.FieldType), []),
  (⟨"LazyTesterModel", "sizedWith", "(III)J"⟩, prog_13_method_12_code, 8, (Option.some Jvm.ClassFile.FieldType.long), []),
  (⟨"LazyTesterModel", "sizedBy", "(IIIII)J"⟩, prog_13_method_11_code, 9, (Option.some Jvm.ClassFile.FieldType.long), []),
  (⟨"LazyTesterModel", "ofSize", "(II)J"⟩, prog_13_method_10_code, 3, (Option.some Jvm.ClassFile.FieldType.long), []),
  (⟨"LazyTesterModel", "show", "(IIJ)I"⟩, prog_13_method_24_code, 5, (Option.some Jvm.ClassFile.FieldType.int), []),
  (⟨"LazyTesterModel", "build", "(IIJ)V"⟩, prog_13_method_22_code, 6, (Option.none : Option Jvm.ClassFile.FieldType), []),
  (⟨"LazyTesterModel", "clearValue", "()V"⟩, prog_13_method_19_code, 2, (Option.none : Option Jvm.ClassFile.FieldType), []),
  (⟨"LazyTesterModel", "push", "(IIJ)V"⟩, prog_13_method_18_code, 5, (Option.none : Option Jvm.ClassFile.FieldType), [])]
def mm_tab_4 : List (MethodName × ByteArray × Nat × Option FieldType × List (Nat × Nat × Nat × Nat)) := [
  (⟨"LazyTesterModel", "steps", "(I)I"⟩, prog_13_method_20_code, 3, (Option.some Jvm.ClassFile.FieldType.int), []),
  (⟨"LazyTesterModel", "place", "(IIIJ)V"⟩, prog_13_method_21_code, 12, (Option.none : Option Jvm.ClassFile.FieldType), []),
  (⟨"LazyTesterModel", "showValue", "()V"⟩, prog_13_method_23_code, 4, (Option.none : Option Jvm.ClassFile.FieldType), []),
  (⟨"LazyTesterModel", "showSized", "(IIJ)I"⟩, prog_13_method_26_code, 5, (Option.some Jvm.ClassFile.FieldType.int), []),
  (⟨"LazyTesterModel", "showNext", "(IIJ)V"⟩, prog_13_method_25_code, 14, (Option.none : Option Jvm.ClassFile.FieldType), []),
  (⟨"LazyTesterModel", "shown", "(I)I"⟩, prog_13_method_27_code, 2, (Option.some Jvm.ClassFile.FieldType.int), []),
  (⟨"LazyTesterModel", "test", "(II)I"⟩, prog_13_method_30_code, 3, (Option.some Jvm.ClassFile.FieldType.int), []),
  (⟨"LazyTesterModel", "isPath", "(I)Z"⟩, prog_13_method_29_code, 3, (Option.some Jvm.ClassFile.FieldType.boolean), []),
  (⟨"LazyTesterModel", "put", "(III)I"⟩, prog_13_method_28_code, 4, (Option.some Jvm.ClassFile.FieldType.int), []),
  (⟨"LazyTesterModel", "same", "(II)I"⟩, prog_13_method_31_code, 3, (Option.some Jvm.ClassFile.FieldType.int), []),
  (⟨"LazyTesterModel", "combine", "(I)I"⟩, prog_13_method_32_code, 4, (Option.some Jvm.ClassFile.FieldType.int), []),
  (⟨"LazyTesterModel", "discard", "()V"⟩, prog_13_method_33_code, 1, (Option.none : Option Jvm.ClassFile.FieldType), []),
  (⟨"LazyTesterModel", "check", "(II)I"⟩, prog_13_method_39_code, 6, (Option.some Jvm.ClassFile.FieldType.int), []),
  (⟨"LazyTesterModel", "evaluate", "()I"⟩, prog_13_method_38_code, 5, (Option.some Jvm.ClassFile.FieldType.int), []),
  (⟨"LazyTesterModel", "evaluateTest", "(II)I"⟩, prog_13_method_36_code, 4, (Option.some Jvm.ClassFile.FieldType.int), []),
  (⟨"LazyTesterModel", "go", "(I)I"⟩, prog_13_method_35_code, 6, (Option.some Jvm.ClassFile.FieldType.int), []),
  (⟨"LazyTesterModel", "stepOf", "(II)I"⟩, prog_13_method_34_code, 4, (Option.some Jvm.ClassFile.FieldType.int), []),
  (⟨"LazyTesterModel", "evaluateSame", "(II)I"⟩, prog_13_method_37_code, 9, (Option.some Jvm.ClassFile.FieldType.int), []),
  (⟨"LazyTesterModel", "refine", "(II)Z"⟩, prog_13_method_44_code, 4, (Option.some Jvm.ClassFile.FieldType.boolean), []),
  (⟨"LazyTesterModel", "turn", "()I"⟩, prog_13_method_43_code, 2, (Option.some Jvm.ClassFile.FieldType.int), []),
  (⟨"LazyTesterModel", "standsFor", "()J"⟩, prog_13_method_40_code, 4, (Option.some Jvm.ClassFile.FieldType.long), []),
  (⟨"LazyTesterModel", "goOn", "()Z"⟩, prog_13_method_42_code, 1, (Option.some Jvm.ClassFile.FieldType.boolean), []),
  (⟨"LazyTesterModel", "fillNext", "()Z"⟩, prog_13_method_41_code, 5, (Option.some Jvm.ClassFile.FieldType.boolean), []),
  (⟨"LazyTesterModel", "evaluated", "()I"⟩, prog_13_method_45_code, 1, (Option.some Jvm.ClassFile.FieldType.int), []),
  (⟨"LazyTesterModel", "passed", "()J"⟩, prog_13_method_46_code, 1, (Option.some Jvm.ClassFile.FieldType.long), []),
  (x, code, maxLocals, ret, []),
  (⟨"java/lang/Math", "min", "(JJ)J"⟩, prog_19_method_70_code, 4, (Option.some Jvm.ClassFile.FieldType.long), [])]
def mm_tab : List (MethodName × ByteArray × Nat × Option FieldType × List (Nat × Nat × Nat × Nat)) := mm_tab_0 ++ (mm_tab_1 ++ (mm_tab_2 ++ (mm_tab_3 ++ (mm_tab_4))))
def mm_e (k : Nat) : MethodName × ByteArray × Nat × Option FieldType × List (Nat × Nat × Nat × Nat) := mm_tab.getD k (x, code, 0, none, [])
def mm_yn (k : Nat) : MethodName := (mm_e k).1
def mm_cb (k : Nat) : ByteArray := (mm_e k).2.1
def mm_ml (k : Nat) : Nat := (mm_e k).2.2.1
def mm_rt (k : Nat) : Option FieldType := (mm_e k).2.2.2.1
def mm_ht (k : Nat) : List (Nat × Nat × Nat × Nat) := (mm_e k).2.2.2.2
def mm_oc : String := "LazyTester$Outcome"
def mm_od : String := "LLazyTester$Outcome;"
def mm_on : Nat → String
  | 0 => "HELD"
  | 1 => "REFUTED"
  | _ => "FAILED"
def mm_fd : List (String × List (String × String × Bool)) := [
  ("LazyTester", [("types", "LLazyTester$Types;", true), ("depths", "LLazyTester$DepthTable;", true), ("sizes", "LLazyTester$SizeTable;", true), ("row", "LLazyTester$Row;", true), ("value", "LLazyTester$Value;", true), ("sizedValues", "LLazyTester$SizedValues;", true), ("pile", "LLazyTester$Pile;", true), ("refining", "LLazyTester$Refining;", true), ("latestEvaluated", "I", false), ("latestPassed", "J", false)]),
  ("LazyTester$Types", [("constructors", "[I", true), ("fields", "[I", true), ("fieldTypes", "[I", true)]),
  ("LazyTester$DepthTable", [("types", "LLazyTester$Types;", true), ("ofType", "[J", true), ("ofForm", "[J", true)]),
  ("LazyTester$SizeTable", [("types", "LLazyTester$Types;", true), ("ofType", "[J", true), ("ofFields", "[J", true)]),
  ("LazyTester$Row", [("items", "[I", true), ("length", "I", false)]),
  ("LazyTester$Value", [("types", "LLazyTester$Types;", true), ("depths", "LLazyTester$DepthTable;", true), ("typeAt", "[I", true), ("constructorAt", "[I", true), ("fieldsAt", "[I", true)]),
  ("LazyTester$SizedValues", [("types", "LLazyTester$Types;", true), ("sizes", "LLazyTester$SizeTable;", true), ("row", "LLazyTester$Row;", true), ("parts", "[I", true)]),
  ("LazyTester$Pile", [("kind", "[I", true), ("first", "[I", true), ("second", "[I", true), ("lying", "[I", true), ("made", "I", false), ("height", "I", false)]),
  ("LazyTester$Refining", [("value", "LLazyTester$Value;", true), ("pile", "LLazyTester$Pile;", true), ("asked", "[I", true), ("open", "I", false), ("evaluations", "I", false), ("passes", "J", false)]),
  ("LazyTesterModel", [("thrown", "I", false), ("constructors", "[I", false), ("fields", "[I", false), ("types", "[I", false), ("deep", "[J", false), ("sizes", "[J", false), ("at", "[I", false), ("typed", "[I", false), ("shownCount", "I", false), ("shownAt", "[I", false), ("pending", "I", false), ("one", "[I", false), ("two", "[I", false), ("three", "[J", false), ("made", "I", false), ("kind", "[I", false), ("left", "[I", false), ("right", "[I", false), ("found", "[I", false), ("lying", "I", false), ("pile", "[I", false), ("chosen", "I", false), ("where", "[I", false), ("with", "[I", false), ("most", "I", false), ("evaluated", "I", false), ("passed", "J", false)])]
def mm_T (q : String × List (String × String × Bool)) : u_T := fun j => match q.2[j]? with
  | some f => (q.1, f)
  | none => ("", "", "", false)
def mm_cl : List vw_C := mm_fd.map fun q => (q.1, mm_T q, q.2.length)
def mm_fk (ci : Nat) : List Nat := [[2, 2, 2, 2, 2, 2, 2, 2, 0, 1], [2, 2, 2], [2, 2, 2], [2, 2, 2], [2, 0], [2, 2, 2, 2, 2], [2, 2, 2, 2], [2, 2, 2, 2, 0, 0], [2, 2, 2, 0, 0, 1], [0, 2, 2, 2, 2, 2, 2, 2, 0, 2, 0, 2, 2, 2, 0, 2, 2, 2, 2, 0, 2, 0, 2, 2, 0, 0, 1]].getD ci []
end
section
/-! ===== a small machine: memory in two banks, locals, operand stack; what it says of the real one ===== -/
abbrev mm_M : Type := (Nat → Nat → Int32) × (Nat → Nat → Int64)
/-- what lies at a place: (0, n, _) an int array of n; (1, n, _) a long array of n; (2, c, rs) an object of class c, rs its fields that are references -/
abbrev mm_K : Type := Nat × Nat × List Value
abbrev mm_S : Type := List mm_K × mm_M
/-- how a method ends: it answers, or throws a new object of the class of that name -/
abbrev mm_O : Type := Option Value ⊕ String
def mm_nth : List Value → Nat → Value
  | [], _ => .null
  | v :: _, 0 => v
  | _ :: L, n + 1 => mm_nth L n
def mm_kd : List mm_K → Nat → mm_K
  | [], _ => (9, 0, [])
  | v :: _, 0 => v
  | _ :: L, n + 1 => mm_kd L n
def mm_kill : Value → Value
  | .long _ => .null
  | .double _ => .null
  | v => v
def mm_st1 : Nat → Value → List Value → List Value
  | _, _, [] => []
  | 0, v, _ :: L => v :: L
  | n + 1, v, x :: L => (match n with | 0 => mm_kill x | _ + 1 => x) :: mm_st1 n v L
def mm_kill0 : List Value → List Value
  | [] => []
  | _ :: L => .null :: L
def mm_st2 : Nat → Value → List Value → List Value
  | _, _, [] => []
  | 0, v, _ :: L => v :: mm_kill0 L
  | n + 1, v, x :: L => (match n with | 0 => mm_kill x | _ + 1 => x) :: mm_st2 n v L
def mm_en : List Value → List Value
  | [] => []
  | .long x :: vs => .long x :: .null :: mm_en vs
  | .double x :: vs => .double x :: .null :: mm_en vs
  | v :: vs => v :: mm_en vs
def mm_pad : Nat → List Value → List Value
  | 0, _ => []
  | n + 1, [] => .null :: mm_pad n []
  | n + 1, v :: L => v :: mm_pad n L
def mm_set {α : Type} (f : Nat → Nat → α) (p i : Nat) (x : α) : Nat → Nat → α := fun q j => if q = p then (if j = i then x else f q j) else f q j
def mm_row {α : Type} (f : Nat → Nat → α) (p : Nat) (g : Nat → α) : Nat → Nat → α := fun q j => if q = p then g j else f q j
theorem mm_nth_some {L : List Value} {i : Nat} {v : Value} (h : mm_nth L i = v) (hv : v ≠ .null) : L[i]? = some v := by
  induction L generalizing i with
  | nil => exact absurd h.symm hv
  | cons x L ih =>
    cases i with
    | zero => simpa [mm_nth] using h
    | succ n => simpa using ih (i := n) h
theorem mm_kd_some {L : List mm_K} {i : Nat} {v : mm_K} (h : mm_kd L i = v) (hv : v.1 ≠ 9) : L[i]? = some v := by
  induction L generalizing i with
  | nil => exact absurd (by rw [← h]; rfl) hv
  | cons x L ih =>
    cases i with
    | zero => simpa [mm_kd] using h
    | succ n => simpa using ih (i := n) h
/-! values -/
def mm_V (φ ρ : List Nat) (v w : Value) : Prop := match v with
  | .ref p => ∃ a, ρ[p]? = some a ∧ w = .ref a
  | .retAddr j => ∃ a, φ[j]? = some a ∧ w = .ref a
  | .null => ∃ a, w = .ref a
  | v => w = v
def mm_Vs (φ ρ : List Nat) : List Value → List Value → Prop
  | [], [] => True
  | v :: vs, w :: ws => mm_V φ ρ v w ∧ mm_Vs φ ρ vs ws
  | _, _ => False
theorem mm_V.mono {φ ρ δ : List Nat} {v w : Value} (h : mm_V φ ρ v w) : mm_V φ (ρ ++ δ) v w := by
  cases v <;> try exact h
  obtain ⟨a, h1, h2⟩ := h
  exact ⟨a, by rw [List.getElem?_append_left (List.getElem?_eq_some_iff.mp h1).1]; exact h1, h2⟩
theorem mm_Vs.mono {φ ρ δ : List Nat} : ∀ {vs ws : List Value}, mm_Vs φ ρ vs ws → mm_Vs φ (ρ ++ δ) vs ws
  | [], [], _ => trivial
  | _ :: _, _ :: _, h => ⟨h.1.mono, mm_Vs.mono h.2⟩
theorem mm_V.cat {φ ρ : List Nat} {v w : Value} (h : mm_V φ ρ v w) : w.category = v.category := by
  cases v <;> first | (obtain ⟨a, -, rfl⟩ := h; rfl) | (obtain ⟨a, rfl⟩ := h; rfl) | (cases h; rfl)
theorem mm_Vs.app {φ ρ : List Nat} : ∀ {a b c d : List Value}, mm_Vs φ ρ a b → mm_Vs φ ρ c d → mm_Vs φ ρ (a ++ c) (b ++ d)
  | [], [], _, _, _, h => h
  | _ :: _, _ :: _, _, _, h1, h2 => ⟨h1.1, mm_Vs.app h1.2 h2⟩
theorem mm_Vs.split {φ ρ : List Nat} : ∀ {a c w : List Value}, mm_Vs φ ρ (a ++ c) w → ∃ b d, w = b ++ d ∧ mm_Vs φ ρ a b ∧ mm_Vs φ ρ c d
  | [], _, w, h => ⟨[], w, rfl, trivial, h⟩
  | _ :: _, _, [], h => absurd h (by intro q; exact q)
  | _ :: _, _, x :: w, h => by
    obtain ⟨b, d, e, h1, h2⟩ := mm_Vs.split h.2
    exact ⟨x :: b, d, by rw [e]; rfl, ⟨h.1, h1⟩, h2⟩
theorem mm_Vs.rev {φ ρ : List Nat} : ∀ {a b : List Value}, mm_Vs φ ρ a b → mm_Vs φ ρ a.reverse b.reverse
  | [], [], _ => trivial
  | x :: a, y :: b, h => by
    rw [List.reverse_cons, List.reverse_cons]
    exact (mm_Vs.rev h.2).app ⟨h.1, trivial⟩
theorem mm_Vs.len {φ ρ : List Nat} : ∀ {a b : List Value}, mm_Vs φ ρ a b → b.length = a.length
  | [], [], _ => rfl
  | _ :: _, _ :: _, h => by simp [mm_Vs.len h.2]
theorem mm_Vs.cats {φ ρ : List Nat} : ∀ {a b : List Value}, mm_Vs φ ρ a b → (b.map fun v => v.category).sum = (a.map fun v => v.category).sum
  | [], [], _ => rfl
  | _ :: _, _ :: _, h => by simp [mm_Vs.cats h.2, h.1.cat]
theorem mm_Vs.cons {φ ρ : List Nat} {v : Value} {S st : List Value} (h : mm_Vs φ ρ (v :: S) st) : ∃ w st', st = w :: st' ∧ mm_V φ ρ v w ∧ mm_Vs φ ρ S st' := by
  cases st with
  | nil => exact h.elim
  | cons w st' => exact ⟨w, st', rfl, h.1, h.2⟩
/-! locals -/
def mm_L (φ ρ : List Nat) (L : List Value) (ls : Array Slot) (nL : Nat) : Prop :=
  lv_has ls nL [] ∧ ∀ (i : Nat) (v : Value), L[i]? = some v → v ≠ .null → ∃ w, ls[i]? = some (.val w) ∧ mm_V φ ρ v w
theorem mm_L.mono {φ ρ δ : List Nat} {L : List Value} {ls : Array Slot} {nL : Nat} (h : mm_L φ ρ L ls nL) : mm_L φ (ρ ++ δ) L ls nL :=
  ⟨h.1, fun i v h1 h2 => by obtain ⟨w, e, hw⟩ := h.2 i v h1 h2; exact ⟨w, e, hw.mono⟩⟩
theorem mm_L.at {φ ρ : List Nat} {L : List Value} {ls : Array Slot} {nL i : Nat} {v : Value} (h : mm_L φ ρ L ls nL) (hv : mm_nth L i = v) (hn : v ≠ .null) : ∃ w, ls[i]? = some (.val w) ∧ mm_V φ ρ v w :=
  h.2 i v (mm_nth_some hv hn) hn
def mm_all (ls : Array Slot) : List (Nat × Value) := (List.range ls.size).filterMap fun (i : Nat) => match (ls[i]? : Option Slot) with
  | some (.val w) => some (i, w)
  | _ => none
theorem mm_all_mem {ls : Array Slot} {q : Nat × Value} : q ∈ mm_all ls ↔ ls[q.1]? = some (.val q.2) := by
  constructor
  · intro h
    obtain ⟨i, -, h⟩ := List.mem_filterMap.mp h
    split at h
    next w hw => cases h; exact hw
    next => cases h
  · intro h
    refine List.mem_filterMap.mpr ⟨q.1, List.mem_range.mpr (Array.getElem?_eq_some_iff.mp h).1, ?_⟩
    rw [h]
theorem mm_all_has {ls : Array Slot} {nL : Nat} (h : lv_has ls nL []) : lv_has ls nL (mm_all ls) := ⟨h.1, h.2.1, fun _ hq => mm_all_mem.mp hq⟩
theorem mm_kill_of {x u : Value} (h : mm_kill x = u) (hu : u ≠ .null) : x = u ∧ u.category = 1 := by
  cases x <;> simp only [mm_kill] at h <;> first | exact absurd h.symm hu | (subst h; exact ⟨rfl, rfl⟩)
theorem mm_st1_at : ∀ (L : List Value) (i : Nat) (v : Value) (j : Nat) (u : Value), (mm_st1 i v L)[j]? = some u → u ≠ .null →
    (j = i ∧ u = v) ∨ (j ≠ i ∧ L[j]? = some u ∧ (j + 1 = i → u.category = 1))
  | [], _, _, _, _, h, _ => by simp [mm_st1] at h
  | x :: L, 0, v, j, u, h, _ => by
    cases j with
    | zero => simp [mm_st1] at h; exact Or.inl ⟨rfl, h.symm⟩
    | succ j => simp [mm_st1] at h; exact Or.inr ⟨by omega, by simpa using h, by omega⟩
  | x :: L, n + 1, v, j, u, h, hu => by
    cases j with
    | zero =>
      cases n with
      | zero =>
        simp only [mm_st1, List.getElem?_cons_zero, Option.some.injEq] at h
        obtain ⟨h1, h2⟩ := mm_kill_of h hu
        exact Or.inr ⟨by omega, by simp [h1], fun _ => h2⟩
      | succ n =>
        simp only [mm_st1, List.getElem?_cons_zero, Option.some.injEq] at h
        exact Or.inr ⟨by omega, by simp [h], by omega⟩
    | succ j =>
      have h' : (mm_st1 n v L)[j]? = some u := by simpa [mm_st1] using h
      rcases mm_st1_at L n v j u h' hu with ⟨h1, h2⟩ | ⟨h1, h2, h3⟩
      · exact Or.inl ⟨by omega, h2⟩
      · exact Or.inr ⟨by omega, by simpa using h2, fun q => h3 (by omega)⟩
theorem mm_st2_at : ∀ (L : List Value) (i : Nat) (v : Value) (j : Nat) (u : Value), (mm_st2 i v L)[j]? = some u → u ≠ .null →
    (j = i ∧ u = v) ∨ (j ≠ i ∧ j ≠ i + 1 ∧ L[j]? = some u ∧ (j + 1 = i → u.category = 1))
  | [], _, _, _, _, h, _ => by simp [mm_st2] at h
  | x :: L, 0, v, j, u, h, hu => by
    cases j with
    | zero => simp [mm_st2] at h; exact Or.inl ⟨rfl, h.symm⟩
    | succ j =>
      have h' : (mm_kill0 L)[j]? = some u := by simpa [mm_st2] using h
      cases L with
      | nil => simp [mm_kill0] at h'
      | cons y L =>
        cases j with
        | zero => simp [mm_kill0] at h'; exact absurd h'.symm hu
        | succ j => exact Or.inr ⟨by omega, by omega, by simpa [mm_kill0] using h', by omega⟩
  | x :: L, n + 1, v, j, u, h, hu => by
    cases j with
    | zero =>
      cases n with
      | zero =>
        simp only [mm_st2, List.getElem?_cons_zero, Option.some.injEq] at h
        obtain ⟨h1, h2⟩ := mm_kill_of h hu
        exact Or.inr ⟨by omega, by omega, by simp [h1], fun _ => h2⟩
      | succ n =>
        simp only [mm_st2, List.getElem?_cons_zero, Option.some.injEq] at h
        exact Or.inr ⟨by omega, by omega, by simp [h], by omega⟩
    | succ j =>
      have h' : (mm_st2 n v L)[j]? = some u := by simpa [mm_st2] using h
      rcases mm_st2_at L n v j u h' hu with ⟨h1, h2⟩ | ⟨h1, h2, h3, h4⟩
      · exact Or.inl ⟨by omega, h2⟩
      · exact Or.inr ⟨by omega, by omega, by simpa using h3, fun q => h4 (by omega)⟩
theorem mm_L.st1 {φ ρ : List Nat} {L : List Value} {ls ls' : Array Slot} {nL i : Nat} {v w : Value} (h : mm_L φ ρ L ls nL) (hv : v ≠ .null → mm_V φ ρ v w)
    (h' : lv_has ls' nL ((i, w) :: (mm_all ls).filter (fun q => !(q.1 == i) && !(q.1 + 1 == i && q.2.category == 2)))) : mm_L φ ρ (mm_st1 i v L) ls' nL := by
  refine ⟨⟨h'.1, h'.2.1, fun _ q => by cases q⟩, fun j u hj hu => ?_⟩
  rcases mm_st1_at L i v j u hj hu with ⟨rfl, rfl⟩ | ⟨h1, h2, h3⟩
  · exact ⟨w, h'.2.2 _ List.mem_cons_self, hv hu⟩
  · obtain ⟨w2, e2, hw2⟩ := h.2 j u h2 hu
    refine ⟨w2, h'.2.2 (j, w2) (List.mem_cons_of_mem _ (List.mem_filter.mpr ⟨mm_all_mem.mpr e2, ?_⟩)), hw2⟩
    by_cases hji : j + 1 = i
    · have := h3 hji
      simp [h1, hw2.cat, this]
    · simp [h1, hji]
theorem mm_L.st2 {φ ρ : List Nat} {L : List Value} {ls ls' : Array Slot} {nL i : Nat} {v w : Value} (h : mm_L φ ρ L ls nL) (hv : mm_V φ ρ v w)
    (h' : lv_has ls' nL ((i, w) :: (mm_all ls).filter (fun q => !(q.1 == i) && (!(q.1 == i + 1) && !(q.1 + 1 == i && q.2.category == 2))))) : mm_L φ ρ (mm_st2 i v L) ls' nL := by
  refine ⟨⟨h'.1, h'.2.1, fun _ q => by cases q⟩, fun j u hj hu => ?_⟩
  rcases mm_st2_at L i v j u hj hu with ⟨rfl, rfl⟩ | ⟨h1, h0, h2, h3⟩
  · exact ⟨w, h'.2.2 _ List.mem_cons_self, hv⟩
  · obtain ⟨w2, e2, hw2⟩ := h.2 j u h2 hu
    refine ⟨w2, h'.2.2 (j, w2) (List.mem_cons_of_mem _ (List.mem_filter.mpr ⟨mm_all_mem.mpr e2, ?_⟩)), hw2⟩
    by_cases hji : j + 1 = i
    · have := h3 hji
      simp [h1, h0, hw2.cat, this]
    · simp [h1, h0, hji]
theorem mm_pad_at : ∀ (n : Nat) (L : List Value) (i : Nat) (v : Value), (mm_pad n L)[i]? = some v → v ≠ .null → L[i]? = some v
  | 0, _, _, _, h, _ => by simp [mm_pad] at h
  | n + 1, [], i, v, h, hv => by
    cases i with
    | zero => simp [mm_pad] at h; exact absurd h.symm hv
    | succ i => have := mm_pad_at n [] i v (by simpa [mm_pad] using h) hv; simp at this
  | n + 1, x :: L, i, v, h, hv => by
    cases i with
    | zero => simpa [mm_pad] using h
    | succ i => simpa using mm_pad_at n L i v (by simpa [mm_pad] using h) hv
theorem mm_en_at {φ ρ : List Nat} : ∀ (as avr : List Value) (b i : Nat) (v : Value), mm_Vs φ ρ as avr → (mm_en as)[i]? = some v → v ≠ .null → ∃ w, (b + i, w) ∈ lv_args b avr ∧ mm_V φ ρ v w
  | [], _, _, _, _, _, h, _ => by simp [mm_en] at h
  | x :: as, [], _, _, _, h, _, _ => h.elim
  | x :: as, y :: avr, b, i, v, hs, h, hv => by
    have hc := hs.1.cat
    by_cases h2 : x.category = 2
    · have e : mm_en (x :: as) = x :: .null :: mm_en as := by cases x <;> first | rfl | (simp [Value.category] at h2)
      rw [e] at h
      have hb : lv_args b (y :: avr) = (b, y) :: lv_args (b + 2) avr := by simp [lv_args, hc, h2]
      rw [hb]
      match i, h with
      | 0, h => simp at h; subst h; exact ⟨y, List.mem_cons_self, hs.1⟩
      | 1, h => simp at h; exact absurd h.symm hv
      | i + 2, h =>
        obtain ⟨w, h1, h3⟩ := mm_en_at as avr (b + 2) i v hs.2 (by simpa using h) hv
        exact ⟨w, List.mem_cons_of_mem _ (by rw [show b + (i + 2) = b + 2 + i by omega]; exact h1), h3⟩
    · have e : mm_en (x :: as) = x :: mm_en as := by cases x <;> first | rfl | (simp [Value.category] at h2)
      rw [e] at h
      have hb : lv_args b (y :: avr) = (b, y) :: lv_args (b + 1) avr := by simp [lv_args, hc, h2]
      rw [hb]
      match i, h with
      | 0, h => simp at h; subst h; exact ⟨y, List.mem_cons_self, hs.1⟩
      | i + 1, h =>
        obtain ⟨w, h1, h3⟩ := mm_en_at as avr (b + 1) i v hs.2 (by simpa using h) hv
        exact ⟨w, List.mem_cons_of_mem _ (by rw [show b + (i + 1) = b + 1 + i by omega]; exact h1), h3⟩
theorem mm_entry {φ ρ : List Nat} {as avr : List Value} {n : Nat} (hs : mm_Vs φ ρ as avr) (h : (lg_sl avr).length ≤ n) :
    mm_L φ ρ (mm_pad n (mm_en as)) ((lg_sl avr ++ List.replicate (n - (lg_sl avr).length) Slot.unset).toArray) n := by
  have h0 := lv_entry avr h
  refine ⟨⟨h0.1, h0.2.1, fun _ q => by cases q⟩, fun i v hi hv => ?_⟩
  obtain ⟨w, h1, h2⟩ := mm_en_at as avr 0 i v hs (mm_pad_at _ _ _ _ hi hv) hv
  exact ⟨w, by simpa using h0.2.2 _ h1, h2⟩
theorem mm_sl_len {φ ρ : List Nat} : ∀ {as avr : List Value}, mm_Vs φ ρ as avr → (lg_sl avr).length = (as.map fun v => v.category).sum
  | [], [], _ => rfl
  | x :: as, y :: avr, h => by
    have e : lg_sl (y :: avr) = (if y.category = 2 then [Slot.val y, .second] else [.val y]) ++ lg_sl avr := by simp [lg_sl]
    rw [e, List.length_append, mm_sl_len h.2, List.map_cons, List.sum_cons, ← h.1.cat]
    rcases lv_cat y with hy | hy <;> simp [hy]
end
section
/-! ===== where the small machine's words hold of the real one ===== -/
def mm_gw : Cond → Bool
  | .stringRef .. => true
  | .methodLinkNest .. => true
  | .arrayClass _ => true
  | w => w.onTables && (w.keeps || w.faceAtom)
/-- the words that hold under all warmer tables -/
def mm_tb : List Cond := lw_tbl.filter mm_gw
theorem mm_wm {w : Cond} {args a' : Array Value} {s U : State} (hw : mm_gw w = true) (hW : s.WarmedH U.vm) (h : w.before args s = true) : w.before a' U = true := by
  have key : (w.onTables && (w.keeps || w.faceAtom)) = true → w.before a' U = true := by
    intro hq
    simp only [Bool.and_eq_true, Bool.or_eq_true] at hq
    rcases hq with ⟨h1, h2 | h2⟩
    · exact word_at hW (Or.inl (by simp [h1, h2])) h
    · have h3 : w.before args (s.setVm U.vm) = true := Cond.faceAtom_setVm hW.alike w h2 h
      have h4 := Cond.onTables_vm (A := args) (A' := a') (U := s) (U' := U) U.vm w h1
      rw [State.setVm_self] at h4
      rw [← h4]; exact h3
  cases w <;> first | exact key hw | skip
  case stringRef a b c =>
    have h1 := Cond.stringRef_warmed hW h
    exact h1
  case methodLinkNest a b c d => exact va_Nw.use rfl (va_Nw.warmM hW (va_Nw.of rfl h))
  case arrayClass ty => exact word_at hW (Or.inr ⟨ty, rfl⟩) h
def mm_LS (C n d : String) (A : Nat → Prop) (U : State) (H : Heap) : Prop := ∃ (c : ClassId) (k : Class) (i : Nat) (f : Field) (a : Nat) (cell : Cell), U.vm.findClass C = some c ∧ U.fieldFound? C n d = some (c, k, i, f) ∧ f.isStatic = true ∧ k.statics = some a ∧ H[a]? = some cell ∧ cell.vm.isStatics = true ∧ cell.cls = c ∧ f.slot < cell.slots.size ∧ k.staticTypes[f.slot]? = some f.type ∧ ¬ A a
theorem mm_LS.moved {C n d : String} {A : Nat → Prop} {u U : State} {H : Heap} (hvm : u.vm.Alike U.vm) (h : mm_LS C n d A u H) : mm_LS C n d A U H := by
  obtain ⟨c, k, i, f, a, cell, h0, h1, h2, h3, h4, h5, h6, h7, h8, h9⟩ := h
  obtain ⟨k', hi', he⟩ := State.fieldFound?_setVm hvm h1
  exact ⟨c, k', i, f, a, cell, by rw [hvm.findClass]; exact h0, hi', h2, by rw [he]; exact h3, h4, h5, h6, h7, by rw [he]; exact h8, h9⟩
theorem mm_LS.kept {C n d : String} {A : Nat → Prop} {U : State} {H H1 : Heap} (h : mm_LS C n d A U H) (hq : ∀ a : Nat, a < H.size → ¬ A a → H1[a]? = H[a]?) : mm_LS C n d A U H1 := by
  obtain ⟨c, k, i, f, a, cell, h0, h1, h2, h3, h4, h5, h6, h7, h8, h9⟩ := h
  exact ⟨c, k, i, f, a, cell, h0, h1, h2, h3, by rw [hq a (Array.getElem?_eq_some_iff.mp h4).1 h9]; exact h4, h5, h6, h7, h8, h9⟩
theorem mm_LS.use {C n d : String} {A : Nat → Prop} {U : State} {args : Array Value} (h : mm_LS C n d A U U.heap) : (Cond.laysStatic C n d).before args U = true := by
  obtain ⟨c, k, i, f, a, cell, h0, h1, h2, h3, h4, h5, h6, h7, h8, h9⟩ := h
  simp [Cond.before, Cond.holds, Cond.value, h0, h1, h2, h3, h4, h5, h6, h7, h8]
theorem mm_LS.of {C n d : String} {A : Nat → Prop} {U : State} {args : Array Value} (h : (Cond.laysStatic C n d).before args U = true) (hA : ∀ a : Nat, a < U.heap.size → ¬ A a) : mm_LS C n d A U U.heap := by
  obtain ⟨c, k, i, f, a, cell, h0, h1, h2, h3, h4, h5, h6, h7, h8⟩ := Cond.laysStatic_spec h
  exact ⟨c, k, i, f, a, cell, h0, h1, h2, h3, h4, h5, h6, h7, h8, hA a (Array.getElem?_eq_some_iff.mp h4).1⟩
def mm_F (φ ρ : List Nat) (M : mm_M) (p : Nat) (ks : List Nat) (rs fs : List Value) : Prop :=
  fs.length = ks.length ∧ ∀ (j t : Nat), ks[j]? = some t → ∃ w, fs[j]? = some w ∧ (match t with
    | 0 => w = .int (M.1 p j)
    | 1 => w = .long (M.2 p j)
    | _ => mm_nth rs j ≠ .null → mm_V φ ρ (mm_nth rs j) w)
def mm_C (φ ρ : List Nat) (cI cL : ClassId) (M : mm_M) (p : Nat) : mm_K → va_E → Prop
  | (0, n, _), E => E = .inl (cI, n, .inl (M.1 p))
  | (1, n, _), E => E = .inl (cL, n, .inr (.inl (M.2 p)))
  | (2, ci, rs), E => ∃ fs, E = .inr (ci, fs) ∧ mm_F φ ρ M p (mm_fk ci) rs fs
  | _, _ => False
def mm_W (φ ρ : List Nat) (cI cL : ClassId) (σ : mm_S) (ws : va_W) : Prop :=
  ws.length = σ.1.length ∧ ρ.length = σ.1.length ∧ ∀ (p : Nat) (kd : mm_K), σ.1[p]? = some kd → ∃ a E, ρ[p]? = some a ∧ ws[p]? = some (a, E) ∧ mm_C φ ρ cI cL σ.2 p kd E
def mm_ex : Nat → String
  | 0 => "java/lang/IndexOutOfBoundsException"
  | 1 => "java/lang/IllegalArgumentException"
  | _ => "java/lang/IllegalStateException"
/-- what nobody writes: the script, the constants of the enum, two statics of Throwable -/
def mm_Fz (X : Nat × (Nat → Int32)) (φ : List Nat) (A : Nat → Prop) (U : State) (H : Heap) : Prop :=
  (∃ b, φ[0]? = some b ∧ va_X b X.1 X.2 U H ∧ ¬ A b ∧ b < H.size) ∧
  (∀ j, j < 3 → ∃ a, φ[j + 1]? = some a ∧ va_Z mm_oc (mm_on j) mm_od (.ref a) A U H) ∧
  (∀ i j a, i < 3 → j < 3 → φ[i + 1]? = some a → φ[j + 1]? = some a → i = j) ∧
  va_Zq Bundle.tN "UNASSIGNED_STACK" Bundle.steD A U H ∧ va_Zq Bundle.tN "SUPPRESSED_SENTINEL" Bundle.listD A U H ∧
  (∀ i j, i < 3 → j < 3 → i ≠ j → va_Nc (mm_ex i) (mm_ex j) U) ∧
  mm_LS Bundle.tN "UNASSIGNED_STACK" Bundle.steD A U H ∧ mm_LS Bundle.tN "SUPPRESSED_SENTINEL" Bundle.listD A U H
def mm_Cx (l : Launch) (k d : Nat) (X : Nat × (Nat → Int32)) (φ : List Nat) (p : Program) (e : Env) (R : Room) (s : State) (m : MethodId) (args : Array Value) (meth : Method) (c : Code) (D : va_G) (A : Nat → Prop) (cI cL : ClassId) : Prop :=
  p.tables.exec = Jvm.exec ∧ c.code = mm_cb k ∧ c.maxLocals = mm_ml k ∧ meth.sig.returnType = mm_rt k ∧ meth.locks = false ∧ s.vm.findClass (mm_yn k).cls = some m.cls ∧
  (∀ w ∈ mm_tb, w.before args s = true) ∧ va_K D mm_cl [(cI, .int), (cL, .long)] s ∧ (∀ q, s.heap.size ≤ q → A q) ∧ mm_Fz X φ A s s.heap ∧ d + 10 ≤ R.frames ∧ 100 * d + 300 ≤ R.locals ∧
  meth.name = (mm_yn k).name ∧ c.exceptionTable.toList.map (fun h => (h.startPc, h.endPc, h.handlerPc, h.catchType)) = mm_ht k ∧ ∀ e' : Env, l.admits e' → e'.platform.stackTraces = false
def mm_Vo (φ ρ : List Nat) : Option Value → Option Value → Prop
  | none, none => True
  | some v, some w => mm_V φ ρ v w
  | _, _ => False
def mm_Oc (φ ρ : List Nat) (s : State) (o : mm_O) (ro : Outcome) (t : State) : Prop := match o with
  | .inl v => ∃ vr, ro = .returned vr ∧ mm_Vo φ ρ v vr
  | .inr E => ∃ a ce, ro = .threw a ∧ t.heap[a]? = some ce ∧ ce.vm = .none ∧ s.vm.findClass E = some ce.cls
def mm_Q (φ ρ : List Nat) (D : va_G) (A : Nat → Prop) (cI cL : ClassId) (below : List Frame) (s : State) (nc ns : Nat) (o : mm_O) (σ' : mm_S) : State → Prop := fun t =>
  ∃ (ro : Outcome) (δ : List Nat) (ws' : va_W) (Lc : List Loc), t.status = .running ∧ Ended t below ro ∧ mm_W φ (ρ ++ δ) cI cL σ' ws' ∧ va_P D mm_cl ws' t.heap ∧ va_D A ws' ∧ va_S A s.heap t.heap Lc ∧
    s.WarmedH t.vm ∧ s.sameButNew ({ t with vm := s.vm } : State) Lc nc ns ∧ mm_Oc φ (ρ ++ δ) s o ro t
def mm_Run (l : Launch) (X : Nat × (Nat → Int32)) (k d pc : Nat) (L S : List Value) (σ : mm_S) (mc ms : Nat) (o : mm_O) (σ' : mm_S) : Prop :=
  ∀ ⦃p : Program⦄ ⦃e : Env⦄ ⦃R : Room⦄ ⦃s : State⦄ ⦃m : MethodId⦄ ⦃args : Array Value⦄ ⦃below : List Frame⦄ ⦃meth : Method⦄ ⦃c : Code⦄ ⦃D : va_G⦄ ⦃A : Nat → Prop⦄ ⦃cI cL : ClassId⦄ ⦃φ : List Nat⦄,
    mm_Cx l k d X φ p e R s m args meth c D A cI cL →
    ∀ ⦃H : Heap⦄ ⦃locs : List Loc⦄ ⦃cells slots : Nat⦄ ⦃ρ : List Nat⦄ ⦃ws : va_W⦄ ⦃ls : Array Slot⦄ ⦃st : List Value⦄,
      mm_W φ ρ cI cL σ ws → va_P D mm_cl ws H → va_D A ws → va_S A s.heap H locs → mm_L φ ρ L ls (mm_ml k) → mm_Vs φ ρ S st → cells + mc ≤ R.cells → slots + ms ≤ R.slots →
      W p l e R s m args below meth c H locs cells slots (mm_Q φ ρ D A cI cL below s (cells + mc) (slots + ms) o σ') (F0 m pc ls st)
section MM
variable {l : Launch} {X : Nat × (Nat → Int32)} {k d pc : Nat} {L S : List Value} {σ σ' : mm_S} {mc ms : Nat} {o : mm_O}
theorem mm_simple {pc' : Nat} {L' S' : List Value}
    (h : ∀ {p : Program} {e : Env} {R : Room} {s : State} {m : MethodId} {args : Array Value} {below : List Frame} {meth : Method} {c : Code} {D : va_G} {A : Nat → Prop} {cI cL : ClassId} {φ ρ : List Nat} {H : Heap} {locs : List Loc} {cells slots : Nat} {ls : Array Slot} {st : List Value} {Q : State → Prop},
      mm_Cx l k d X φ p e R s m args meth c D A cI cL → mm_L φ ρ L ls (mm_ml k) → mm_Vs φ ρ S st →
      (∀ ls' st', mm_L φ ρ L' ls' (mm_ml k) → mm_Vs φ ρ S' st' → W p l e R s m args below meth c H locs cells slots Q (F0 m pc' ls' st')) → W p l e R s m args below meth c H locs cells slots Q (F0 m pc ls st))
    (hr : mm_Run l X k d pc' L' S' σ mc ms o σ') : mm_Run l X k d pc L S σ mc ms o σ' := by
  intro p e R s m args below meth c D A cI cL φ hc H locs cells slots ρ ws ls st hW hP hD hS hL hV h1 h2
  exact h hc hL hV fun ls' st' q1 q2 => hr hc hW hP hD hS q1 q2 h1 h2
theorem mm_iconst {n : Int} (hd : decode (mm_cb k) pc = .ok (.iconst n, 1))  (hr : mm_Run l X k d (pc + 1) L (.int (Int32.ofInt n) :: S) σ mc ms o σ') : mm_Run l X k d pc L S σ mc ms o σ' := by
  refine mm_simple (fun hc hL hS kk => ?_) hr
  exact lv_iconst hc.1 hc.2.1 hd rfl (kk _ _ hL ⟨rfl, hS⟩)
theorem mm_bipush {n : Int} (hd : decode (mm_cb k) pc = .ok (.bipush n, 2))  (hr : mm_Run l X k d (pc + 2) L (.int (Int8.ofInt n).toInt32 :: S) σ mc ms o σ') : mm_Run l X k d pc L S σ mc ms o σ' := by
  refine mm_simple (fun hc hL hS kk => ?_) hr
  exact lv_bipush hc.1 hc.2.1 hd rfl (kk _ _ hL ⟨rfl, hS⟩)
theorem mm_sipush {n : Int} (hd : decode (mm_cb k) pc = .ok (.sipush n, 3))  (hr : mm_Run l X k d (pc + 3) L (.int (Int16.ofInt n).toInt32 :: S) σ mc ms o σ') : mm_Run l X k d pc L S σ mc ms o σ' := by
  refine mm_simple (fun hc hL hS kk => ?_) hr
  exact lv_sipush hc.1 hc.2.1 hd rfl (kk _ _ hL ⟨rfl, hS⟩)
theorem mm_lconst {n : Fin 2} (hd : decode (mm_cb k) pc = .ok (.lconst n, 1))  (hr : mm_Run l X k d (pc + 1) L (.long (Int64.ofNat (n : Nat)) :: S) σ mc ms o σ') : mm_Run l X k d pc L S σ mc ms o σ' := by
  refine mm_simple (fun hc hL hS kk => ?_) hr
  exact lv_lconst hc.1 hc.2.1 hd rfl (kk _ _ hL ⟨rfl, hS⟩)
theorem mm_iload_n {i : Fin 4} {x : Int32} (hd : decode (mm_cb k) pc = .ok (.iload_n i, 1)) (hl : mm_nth L (i : Nat) = .int x) (hr : mm_Run l X k d (pc + 1) L (.int x :: S) σ mc ms o σ') : mm_Run l X k d pc L S σ mc ms o σ' := by
  refine mm_simple (fun hc hL hS kk => ?_) hr
  obtain ⟨w, e1, rfl⟩ := hL.at hl (by simp)
  exact lv_iload_n hc.1 hc.2.1 hd rfl e1 (kk _ _ hL ⟨rfl, hS⟩)
theorem mm_iload {i : Nat} {x : Int32} (hd : decode (mm_cb k) pc = .ok (.iload i, 2)) (hl : mm_nth L i = .int x) (hr : mm_Run l X k d (pc + 2) L (.int x :: S) σ mc ms o σ') : mm_Run l X k d pc L S σ mc ms o σ' := by
  refine mm_simple (fun hc hL hS kk => ?_) hr
  obtain ⟨w, e1, rfl⟩ := hL.at hl (by simp)
  exact lv_iload hc.1 hc.2.1 hd e1 (kk _ _ hL ⟨rfl, hS⟩)
theorem mm_lload_n {i : Fin 4} {x : Int64} (hd : decode (mm_cb k) pc = .ok (.lload_n i, 1)) (hl : mm_nth L (i : Nat) = .long x) (hr : mm_Run l X k d (pc + 1) L (.long x :: S) σ mc ms o σ') : mm_Run l X k d pc L S σ mc ms o σ' := by
  refine mm_simple (fun hc hL hS kk => ?_) hr
  obtain ⟨w, e1, rfl⟩ := hL.at hl (by simp)
  exact lv_lload_n hc.1 hc.2.1 hd rfl e1 (kk _ _ hL ⟨rfl, hS⟩)
theorem mm_lload {i : Nat} {x : Int64} (hd : decode (mm_cb k) pc = .ok (.lload i, 2)) (hl : mm_nth L i = .long x) (hr : mm_Run l X k d (pc + 2) L (.long x :: S) σ mc ms o σ') : mm_Run l X k d pc L S σ mc ms o σ' := by
  refine mm_simple (fun hc hL hS kk => ?_) hr
  obtain ⟨w, e1, rfl⟩ := hL.at hl (by simp)
  exact lv_lload hc.1 hc.2.1 hd e1 (kk _ _ hL ⟨rfl, hS⟩)
theorem mm_isref {φ ρ : List Nat} {v w : Value} (h : mm_V φ ρ v w) (hv : (∃ p, v = .ref p) ∨ ∃ j, v = .retAddr j) : ∃ a, w = .ref a := by
  rcases hv with ⟨p, rfl⟩ | ⟨j, rfl⟩ <;> (obtain ⟨a, -, e⟩ := h; exact ⟨a, e⟩)
theorem mm_refne {v : Value} (hv : (∃ p, v = .ref p) ∨ ∃ j, v = .retAddr j) : v ≠ .null := by
  rcases hv with ⟨p, rfl⟩ | ⟨j, rfl⟩ <;> simp
theorem mm_aload_n {i : Fin 4} {v : Value} (hd : decode (mm_cb k) pc = .ok (.aload_n i, 1)) (hl : mm_nth L (i : Nat) = v) (hv : (∃ p, v = .ref p) ∨ ∃ j, v = .retAddr j) (hr : mm_Run l X k d (pc + 1) L (v :: S) σ mc ms o σ') : mm_Run l X k d pc L S σ mc ms o σ' := by
  refine mm_simple (fun hc hL hS kk => ?_) hr
  obtain ⟨w, e1, h1⟩ := hL.at hl (mm_refne hv)
  obtain ⟨a, rfl⟩ := mm_isref h1 hv
  exact lv_aload_n hc.1 hc.2.1 hd rfl e1 (kk _ _ hL ⟨h1, hS⟩)
theorem mm_aload {i : Nat} {v : Value} (hd : decode (mm_cb k) pc = .ok (.aload i, 2)) (hl : mm_nth L i = v) (hv : (∃ p, v = .ref p) ∨ ∃ j, v = .retAddr j) (hr : mm_Run l X k d (pc + 2) L (v :: S) σ mc ms o σ') : mm_Run l X k d pc L S σ mc ms o σ' := by
  refine mm_simple (fun hc hL hS kk => ?_) hr
  obtain ⟨w, e1, h1⟩ := hL.at hl (mm_refne hv)
  obtain ⟨a, rfl⟩ := mm_isref h1 hv
  exact lv_aload hc.1 hc.2.1 hd e1 (kk _ _ hL ⟨h1, hS⟩)
theorem mm_istore_n {i : Fin 4} {x : Int32} (hd : decode (mm_cb k) pc = .ok (.istore_n i, 1)) (hi : (i : Nat) < mm_ml k) (hr : mm_Run l X k d (pc + 1) (mm_st1 (i : Nat) (.int x) L) S σ mc ms o σ') : mm_Run l X k d pc L (.int x :: S) σ mc ms o σ' := by
  refine mm_simple (fun hc hL hS kk => ?_) hr
  obtain ⟨_, st, rfl, rfl, hS1⟩ := hS.cons
  exact lv_istore_n hc.1 hc.2.1 hd rfl (mm_all_has hL.1) hi rfl (fun ls1 h1 => kk _ _ (hL.st1 (fun _ => rfl) h1) hS1)
theorem mm_istore {i : Nat} {x : Int32} (hd : decode (mm_cb k) pc = .ok (.istore i, 2)) (hi : i < mm_ml k) (hr : mm_Run l X k d (pc + 2) (mm_st1 i (.int x) L) S σ mc ms o σ') : mm_Run l X k d pc L (.int x :: S) σ mc ms o σ' := by
  refine mm_simple (fun hc hL hS kk => ?_) hr
  obtain ⟨_, st, rfl, rfl, hS1⟩ := hS.cons
  exact lv_istore hc.1 hc.2.1 hd (mm_all_has hL.1) hi rfl (fun ls1 h1 => kk _ _ (hL.st1 (fun _ => rfl) h1) hS1)
theorem mm_lstore_n {i : Fin 4} {x : Int64} (hd : decode (mm_cb k) pc = .ok (.lstore_n i, 1)) (hi : (i : Nat) + 1 < mm_ml k) (hr : mm_Run l X k d (pc + 1) (mm_st2 (i : Nat) (.long x) L) S σ mc ms o σ') : mm_Run l X k d pc L (.long x :: S) σ mc ms o σ' := by
  refine mm_simple (fun hc hL hS kk => ?_) hr
  obtain ⟨_, st, rfl, rfl, hS1⟩ := hS.cons
  exact lv_lstore_n hc.1 hc.2.1 hd rfl (mm_all_has hL.1) hi rfl (fun ls1 h1 => kk _ _ (hL.st2 rfl h1) hS1)
theorem mm_lstore {i : Nat} {x : Int64} (hd : decode (mm_cb k) pc = .ok (.lstore i, 2)) (hi : i + 1 < mm_ml k) (hr : mm_Run l X k d (pc + 2) (mm_st2 i (.long x) L) S σ mc ms o σ') : mm_Run l X k d pc L (.long x :: S) σ mc ms o σ' := by
  refine mm_simple (fun hc hL hS kk => ?_) hr
  obtain ⟨_, st, rfl, rfl, hS1⟩ := hS.cons
  exact lv_lstore hc.1 hc.2.1 hd (mm_all_has hL.1) hi rfl (fun ls1 h1 => kk _ _ (hL.st2 rfl h1) hS1)
theorem mm_astore_n {i : Fin 4} {v : Value} (hd : decode (mm_cb k) pc = .ok (.astore_n i, 1)) (hv : v = .null ∨ (∃ p, v = .ref p) ∨ ∃ j, v = .retAddr j) (hi : (i : Nat) < mm_ml k) (hr : mm_Run l X k d (pc + 1) (mm_st1 (i : Nat) v L) S σ mc ms o σ') : mm_Run l X k d pc L (v :: S) σ mc ms o σ' := by
  refine mm_simple (fun hc hL hS kk => ?_) hr
  obtain ⟨w, st, rfl, h1, hS1⟩ := hS.cons
  have hw : ∃ a, w = .ref a := by
    rcases hv with rfl | hv
    · exact h1
    · exact mm_isref h1 hv
  obtain ⟨a, rfl⟩ := hw
  exact lv_astore_n hc.1 hc.2.1 hd rfl (mm_all_has hL.1) hi rfl (fun ls1 h2 => kk _ _ (hL.st1 (fun _ => h1) h2) hS1)
theorem mm_astore {i : Nat} {v : Value} (hd : decode (mm_cb k) pc = .ok (.astore i, 2)) (hv : v = .null ∨ (∃ p, v = .ref p) ∨ ∃ j, v = .retAddr j) (hi : i < mm_ml k) (hr : mm_Run l X k d (pc + 2) (mm_st1 i v L) S σ mc ms o σ') : mm_Run l X k d pc L (v :: S) σ mc ms o σ' := by
  refine mm_simple (fun hc hL hS kk => ?_) hr
  obtain ⟨w, st, rfl, h1, hS1⟩ := hS.cons
  have hw : ∃ a, w = .ref a := by
    rcases hv with rfl | hv
    · exact h1
    · exact mm_isref h1 hv
  obtain ⟨a, rfl⟩ := hw
  exact lv_astore hc.1 hc.2.1 hd (mm_all_has hL.1) hi rfl (fun ls1 h2 => kk _ _ (hL.st1 (fun _ => h1) h2) hS1)
theorem mm_iinc {i : Nat} {n : Int} {x : Int32} (hd : decode (mm_cb k) pc = .ok (.iinc i n, 3)) (hl : mm_nth L i = .int x) (hi : i < mm_ml k) (hr : mm_Run l X k d (pc + 3) (mm_st1 i (.int (x + Int32.ofInt n)) L) S σ mc ms o σ') : mm_Run l X k d pc L S σ mc ms o σ' := by
  refine mm_simple (fun hc hL hS kk => ?_) hr
  obtain ⟨w, e1, rfl⟩ := hL.at hl (by simp)
  obtain ⟨kk0, hk0⟩ := List.getElem?_of_mem (mm_all_mem.mpr e1 : (i, Value.int x) ∈ mm_all _)
  exact lv_iinc hc.1 hc.2.1 hd (mm_all_has hL.1) hk0 rfl hi rfl (fun ls1 h1 => kk _ _ (hL.st1 (fun _ => rfl) h1) hS)
theorem mm_iadd {x y : Int32} (hd : decode (mm_cb k) pc = .ok (.iadd, 1))  (hr : mm_Run l X k d (pc + 1) L (.int (x + y) :: S) σ mc ms o σ') : mm_Run l X k d pc L (.int y :: .int x :: S) σ mc ms o σ' := by
  refine mm_simple (fun hc hL hS kk => ?_) hr
  obtain ⟨_, st, rfl, rfl, hS1⟩ := hS.cons
  obtain ⟨_, st, rfl, rfl, hS2⟩ := hS1.cons
  exact lv_iadd hc.1 hc.2.1 hd (kk _ _ hL ⟨rfl, hS2⟩)
theorem mm_isub {x y : Int32} (hd : decode (mm_cb k) pc = .ok (.isub, 1))  (hr : mm_Run l X k d (pc + 1) L (.int (x - y) :: S) σ mc ms o σ') : mm_Run l X k d pc L (.int y :: .int x :: S) σ mc ms o σ' := by
  refine mm_simple (fun hc hL hS kk => ?_) hr
  obtain ⟨_, st, rfl, rfl, hS1⟩ := hS.cons
  obtain ⟨_, st, rfl, rfl, hS2⟩ := hS1.cons
  exact lv_isub hc.1 hc.2.1 hd (kk _ _ hL ⟨rfl, hS2⟩)
theorem mm_imul {x y : Int32} (hd : decode (mm_cb k) pc = .ok (.imul, 1))  (hr : mm_Run l X k d (pc + 1) L (.int (x * y) :: S) σ mc ms o σ') : mm_Run l X k d pc L (.int y :: .int x :: S) σ mc ms o σ' := by
  refine mm_simple (fun hc hL hS kk => ?_) hr
  obtain ⟨_, st, rfl, rfl, hS1⟩ := hS.cons
  obtain ⟨_, st, rfl, rfl, hS2⟩ := hS1.cons
  exact lv_imul hc.1 hc.2.1 hd (kk _ _ hL ⟨rfl, hS2⟩)
theorem mm_iand {x y : Int32} (hd : decode (mm_cb k) pc = .ok (.iand, 1))  (hr : mm_Run l X k d (pc + 1) L (.int (x &&& y) :: S) σ mc ms o σ') : mm_Run l X k d pc L (.int y :: .int x :: S) σ mc ms o σ' := by
  refine mm_simple (fun hc hL hS kk => ?_) hr
  obtain ⟨_, st, rfl, rfl, hS1⟩ := hS.cons
  obtain ⟨_, st, rfl, rfl, hS2⟩ := hS1.cons
  exact lv_iand hc.1 hc.2.1 hd (kk _ _ hL ⟨rfl, hS2⟩)
theorem mm_ior {x y : Int32} (hd : decode (mm_cb k) pc = .ok (.ior, 1))  (hr : mm_Run l X k d (pc + 1) L (.int (x ||| y) :: S) σ mc ms o σ') : mm_Run l X k d pc L (.int y :: .int x :: S) σ mc ms o σ' := by
  refine mm_simple (fun hc hL hS kk => ?_) hr
  obtain ⟨_, st, rfl, rfl, hS1⟩ := hS.cons
  obtain ⟨_, st, rfl, rfl, hS2⟩ := hS1.cons
  exact lv_ior hc.1 hc.2.1 hd (kk _ _ hL ⟨rfl, hS2⟩)
theorem mm_ishl {x y : Int32} (hd : decode (mm_cb k) pc = .ok (.ishl, 1))  (hr : mm_Run l X k d (pc + 1) L (.int (x <<< (y &&& 31)) :: S) σ mc ms o σ') : mm_Run l X k d pc L (.int y :: .int x :: S) σ mc ms o σ' := by
  refine mm_simple (fun hc hL hS kk => ?_) hr
  obtain ⟨_, st, rfl, rfl, hS1⟩ := hS.cons
  obtain ⟨_, st, rfl, rfl, hS2⟩ := hS1.cons
  exact lv_ishl hc.1 hc.2.1 hd (kk _ _ hL ⟨rfl, hS2⟩)
theorem mm_ishr {x y : Int32} (hd : decode (mm_cb k) pc = .ok (.ishr, 1))  (hr : mm_Run l X k d (pc + 1) L (.int (x >>> (y &&& 31)) :: S) σ mc ms o σ') : mm_Run l X k d pc L (.int y :: .int x :: S) σ mc ms o σ' := by
  refine mm_simple (fun hc hL hS kk => ?_) hr
  obtain ⟨_, st, rfl, rfl, hS1⟩ := hS.cons
  obtain ⟨_, st, rfl, rfl, hS2⟩ := hS1.cons
  exact lv_ishr hc.1 hc.2.1 hd (kk _ _ hL ⟨rfl, hS2⟩)
theorem mm_ladd {x y : Int64} (hd : decode (mm_cb k) pc = .ok (.ladd, 1))  (hr : mm_Run l X k d (pc + 1) L (.long (x + y) :: S) σ mc ms o σ') : mm_Run l X k d pc L (.long y :: .long x :: S) σ mc ms o σ' := by
  refine mm_simple (fun hc hL hS kk => ?_) hr
  obtain ⟨_, st, rfl, rfl, hS1⟩ := hS.cons
  obtain ⟨_, st, rfl, rfl, hS2⟩ := hS1.cons
  exact lv_ladd hc.1 hc.2.1 hd (kk _ _ hL ⟨rfl, hS2⟩)
theorem mm_lsub {x y : Int64} (hd : decode (mm_cb k) pc = .ok (.lsub, 1))  (hr : mm_Run l X k d (pc + 1) L (.long (x - y) :: S) σ mc ms o σ') : mm_Run l X k d pc L (.long y :: .long x :: S) σ mc ms o σ' := by
  refine mm_simple (fun hc hL hS kk => ?_) hr
  obtain ⟨_, st, rfl, rfl, hS1⟩ := hS.cons
  obtain ⟨_, st, rfl, rfl, hS2⟩ := hS1.cons
  exact lv_lsub hc.1 hc.2.1 hd (kk _ _ hL ⟨rfl, hS2⟩)
theorem mm_lmul {x y : Int64} (hd : decode (mm_cb k) pc = .ok (.lmul, 1))  (hr : mm_Run l X k d (pc + 1) L (.long (x * y) :: S) σ mc ms o σ') : mm_Run l X k d pc L (.long y :: .long x :: S) σ mc ms o σ' := by
  refine mm_simple (fun hc hL hS kk => ?_) hr
  obtain ⟨_, st, rfl, rfl, hS1⟩ := hS.cons
  obtain ⟨_, st, rfl, rfl, hS2⟩ := hS1.cons
  exact lv_lmul hc.1 hc.2.1 hd (kk _ _ hL ⟨rfl, hS2⟩)
theorem mm_land {x y : Int64} (hd : decode (mm_cb k) pc = .ok (.land, 1))  (hr : mm_Run l X k d (pc + 1) L (.long (x &&& y) :: S) σ mc ms o σ') : mm_Run l X k d pc L (.long y :: .long x :: S) σ mc ms o σ' := by
  refine mm_simple (fun hc hL hS kk => ?_) hr
  obtain ⟨_, st, rfl, rfl, hS1⟩ := hS.cons
  obtain ⟨_, st, rfl, rfl, hS2⟩ := hS1.cons
  exact lv_land hc.1 hc.2.1 hd (kk _ _ hL ⟨rfl, hS2⟩)
theorem mm_lor {x y : Int64} (hd : decode (mm_cb k) pc = .ok (.lor, 1))  (hr : mm_Run l X k d (pc + 1) L (.long (x ||| y) :: S) σ mc ms o σ') : mm_Run l X k d pc L (.long y :: .long x :: S) σ mc ms o σ' := by
  refine mm_simple (fun hc hL hS kk => ?_) hr
  obtain ⟨_, st, rfl, rfl, hS1⟩ := hS.cons
  obtain ⟨_, st, rfl, rfl, hS2⟩ := hS1.cons
  exact lv_lor hc.1 hc.2.1 hd (kk _ _ hL ⟨rfl, hS2⟩)
theorem mm_idiv {x y : Int32} (hd : decode (mm_cb k) pc = .ok (.idiv, 1)) (hne : ¬ y = 0) (hr : mm_Run l X k d (pc + 1) L (.int (x / y) :: S) σ mc ms o σ') : mm_Run l X k d pc L (.int y :: .int x :: S) σ mc ms o σ' := by
  refine mm_simple (fun hc hL hS kk => ?_) hr
  obtain ⟨_, st, rfl, rfl, hS1⟩ := hS.cons
  obtain ⟨_, st, rfl, rfl, hS2⟩ := hS1.cons
  exact lv_idiv hc.1 hc.2.1 hd hne (kk _ _ hL ⟨rfl, hS2⟩)
theorem mm_irem {x y : Int32} (hd : decode (mm_cb k) pc = .ok (.irem, 1)) (hne : ¬ y = 0) (hr : mm_Run l X k d (pc + 1) L (.int (x - x / y * y) :: S) σ mc ms o σ') : mm_Run l X k d pc L (.int y :: .int x :: S) σ mc ms o σ' := by
  refine mm_simple (fun hc hL hS kk => ?_) hr
  obtain ⟨_, st, rfl, rfl, hS1⟩ := hS.cons
  obtain ⟨_, st, rfl, rfl, hS2⟩ := hS1.cons
  exact lv_irem hc.1 hc.2.1 hd hne (kk _ _ hL ⟨rfl, hS2⟩)
theorem mm_ldiv {x y : Int64} (hd : decode (mm_cb k) pc = .ok (.ldiv, 1)) (hne : ¬ y = 0) (hr : mm_Run l X k d (pc + 1) L (.long (x / y) :: S) σ mc ms o σ') : mm_Run l X k d pc L (.long y :: .long x :: S) σ mc ms o σ' := by
  refine mm_simple (fun hc hL hS kk => ?_) hr
  obtain ⟨_, st, rfl, rfl, hS1⟩ := hS.cons
  obtain ⟨_, st, rfl, rfl, hS2⟩ := hS1.cons
  exact lv_ldiv hc.1 hc.2.1 hd hne (kk _ _ hL ⟨rfl, hS2⟩)
theorem mm_lrem {x y : Int64} (hd : decode (mm_cb k) pc = .ok (.lrem, 1)) (hne : ¬ y = 0) (hr : mm_Run l X k d (pc + 1) L (.long (x - x / y * y) :: S) σ mc ms o σ') : mm_Run l X k d pc L (.long y :: .long x :: S) σ mc ms o σ' := by
  refine mm_simple (fun hc hL hS kk => ?_) hr
  obtain ⟨_, st, rfl, rfl, hS1⟩ := hS.cons
  obtain ⟨_, st, rfl, rfl, hS2⟩ := hS1.cons
  exact lv_lrem hc.1 hc.2.1 hd hne (kk _ _ hL ⟨rfl, hS2⟩)
theorem mm_lshl {x : Int64} {y : Int32} (hd : decode (mm_cb k) pc = .ok (.lshl, 1))  (hr : mm_Run l X k d (pc + 1) L (.long (x <<< (y.toInt64 &&& 63)) :: S) σ mc ms o σ') : mm_Run l X k d pc L (.int y :: .long x :: S) σ mc ms o σ' := by
  refine mm_simple (fun hc hL hS kk => ?_) hr
  obtain ⟨_, st, rfl, rfl, hS1⟩ := hS.cons
  obtain ⟨_, st, rfl, rfl, hS2⟩ := hS1.cons
  exact lv_lshl hc.1 hc.2.1 hd rfl (kk _ _ hL ⟨rfl, hS2⟩)
theorem mm_lcmp {x y : Int64} (hd : decode (mm_cb k) pc = .ok (.lcmp, 1))  (hr : mm_Run l X k d (pc + 1) L (.int (lg_cmp x y) :: S) σ mc ms o σ') : mm_Run l X k d pc L (.long y :: .long x :: S) σ mc ms o σ' := by
  refine mm_simple (fun hc hL hS kk => ?_) hr
  obtain ⟨_, st, rfl, rfl, hS1⟩ := hS.cons
  obtain ⟨_, st, rfl, rfl, hS2⟩ := hS1.cons
  exact W.lcmp hc.1 hc.2.1 hd (kk _ _ hL ⟨rfl, hS2⟩)
theorem mm_i2l {x : Int32} (hd : decode (mm_cb k) pc = .ok (.i2l, 1))  (hr : mm_Run l X k d (pc + 1) L (.long x.toInt64 :: S) σ mc ms o σ') : mm_Run l X k d pc L (.int x :: S) σ mc ms o σ' := by
  refine mm_simple (fun hc hL hS kk => ?_) hr
  obtain ⟨_, st, rfl, rfl, hS1⟩ := hS.cons
  exact lv_i2l hc.1 hc.2.1 hd rfl (kk _ _ hL ⟨rfl, hS1⟩)
theorem mm_l2i {x : Int64} (hd : decode (mm_cb k) pc = .ok (.l2i, 1))  (hr : mm_Run l X k d (pc + 1) L (.int x.toInt32 :: S) σ mc ms o σ') : mm_Run l X k d pc L (.long x :: S) σ mc ms o σ' := by
  refine mm_simple (fun hc hL hS kk => ?_) hr
  obtain ⟨_, st, rfl, rfl, hS1⟩ := hS.cons
  exact lv_l2i hc.1 hc.2.1 hd rfl (kk _ _ hL ⟨rfl, hS1⟩)
theorem mm_dup {v : Value} (hd : decode (mm_cb k) pc = .ok (.dup, 1)) (hv : v.category = 1) (hr : mm_Run l X k d (pc + 1) L (v :: v :: S) σ mc ms o σ') : mm_Run l X k d pc L (v :: S) σ mc ms o σ' := by
  refine mm_simple (fun hc hL hS kk => ?_) hr
  obtain ⟨w, st, rfl, h1, hS1⟩ := hS.cons
  exact lv_dup hc.1 hc.2.1 hd (by rw [h1.cat]; exact hv) (kk _ _ hL ⟨h1, h1, hS1⟩)
theorem mm_pop {v : Value} (hd : decode (mm_cb k) pc = .ok (.pop, 1)) (hv : v.category = 1) (hr : mm_Run l X k d (pc + 1) L S σ mc ms o σ') : mm_Run l X k d pc L (v :: S) σ mc ms o σ' := by
  refine mm_simple (fun hc hL hS kk => ?_) hr
  obtain ⟨w, st, rfl, h1, hS1⟩ := hS.cons
  exact lv_pop hc.1 hc.2.1 hd (by rw [h1.cat]; exact hv) (kk _ _ hL hS1)
theorem mm_dup2 {v u : Value} (hd : decode (mm_cb k) pc = .ok (.dup2, 1)) (hv : v.category = 1) (hu : u.category = 1) (hr : mm_Run l X k d (pc + 1) L (v :: u :: v :: u :: S) σ mc ms o σ') : mm_Run l X k d pc L (v :: u :: S) σ mc ms o σ' := by
  refine mm_simple (fun hc hL hS kk => ?_) hr
  obtain ⟨w, st, rfl, h1, hS1⟩ := hS.cons
  obtain ⟨w2, st, rfl, h2, hS2⟩ := hS1.cons
  exact lv_dup2_11 hc.1 hc.2.1 hd (by rw [h1.cat]; exact hv) (by rw [h2.cat]; exact hu) (kk _ _ hL ⟨h1, h2, h1, h2, hS2⟩)
theorem mm_goto {off : Int} {tgt : Nat} (hd : decode (mm_cb k) pc = .ok (.goto off, 3)) (ht : (pc : Int) + off = (tgt : Int)) (hr : mm_Run l X k d tgt L S σ mc ms o σ') : mm_Run l X k d pc L S σ mc ms o σ' :=
  mm_simple (fun hc hL hS kk => lv_goto hc.1 hc.2.1 hd ht (kk _ _ hL hS)) hr
theorem mm_branch {pt pf : Nat} {S' : List Value} {P : Prop}
    (h : ∀ {p : Program} {e : Env} {R : Room} {s : State} {m : MethodId} {args : Array Value} {below : List Frame} {meth : Method} {c : Code} {D : va_G} {A : Nat → Prop} {cI cL : ClassId} {φ ρ : List Nat} {H : Heap} {locs : List Loc} {cells slots : Nat} {ls : Array Slot} {st : List Value} {Q : State → Prop},
      mm_Cx l k d X φ p e R s m args meth c D A cI cL → mm_L φ ρ L ls (mm_ml k) → mm_Vs φ ρ S st →
      (P → ∀ st', mm_Vs φ ρ S' st' → W p l e R s m args below meth c H locs cells slots Q (F0 m pt ls st')) →
      (¬ P → ∀ st', mm_Vs φ ρ S' st' → W p l e R s m args below meth c H locs cells slots Q (F0 m pf ls st')) → W p l e R s m args below meth c H locs cells slots Q (F0 m pc ls st))
    (ht : P → mm_Run l X k d pt L S' σ mc ms o σ') (hf : ¬ P → mm_Run l X k d pf L S' σ mc ms o σ') : mm_Run l X k d pc L S σ mc ms o σ' := by
  intro p e R s m args below meth c D A cI cL φ hc H locs cells slots ρ ws ls st hW hP hD hS hL hV h1 h2
  exact h hc hL hV (fun q st' q2 => ht q hc hW hP hD hS hL q2 h1 h2) (fun q st' q2 => hf q hc hW hP hD hS hL q2 h1 h2)
def mm_cnd (cd : ClassFile.Cond) (x y : Int32) : Prop := match cd with
  | .eq => x = y
  | .ne => ¬ x = y
  | .lt => x < y
  | .ge => y ≤ x
  | .gt => y < x
  | .le => x ≤ y
theorem mm_icmp {cd : ClassFile.Cond} {off : Int} {tgt : Nat} {x y : Int32} (hd : decode (mm_cb k) pc = .ok (.if_icmp cd off, 3)) (ht : (pc : Int) + off = (tgt : Int)) (kt : mm_cnd cd x y → mm_Run l X k d tgt L S σ mc ms o σ') (kf : ¬ mm_cnd cd x y → mm_Run l X k d (pc + 3) L S σ mc ms o σ') :
    mm_Run l X k d pc L (.int y :: .int x :: S) σ mc ms o σ' := by
  refine mm_branch (P := mm_cnd cd x y) (fun hc hL hS ht1 hf1 => ?_) kt kf
  obtain ⟨_, st, rfl, rfl, hS1⟩ := hS.cons
  obtain ⟨_, st, rfl, rfl, hS2⟩ := hS1.cons
  cases cd
  · exact lv_icmp_eq hc.1 hc.2.1 hd ht (fun q => ht1 q _ hS2) (fun q => hf1 q _ hS2)
  · exact lv_icmp_ne hc.1 hc.2.1 hd ht (fun q => ht1 q _ hS2) (fun q => hf1 (fun z => z q) _ hS2)
  · exact lv_icmp_lt hc.1 hc.2.1 hd ht (fun q => ht1 q _ hS2) (fun q => hf1 q _ hS2)
  · exact lv_icmp_ge hc.1 hc.2.1 hd ht (fun q => ht1 q _ hS2) (fun q => hf1 q _ hS2)
  · exact lv_icmp_gt hc.1 hc.2.1 hd ht (fun q => ht1 q _ hS2) (fun q => hf1 q _ hS2)
  · exact lv_icmp_le hc.1 hc.2.1 hd ht (fun q => ht1 q _ hS2) (fun q => hf1 q _ hS2)
theorem mm_if {cd : ClassFile.Cond} {off : Int} {tgt : Nat} {x : Int32} (hd : decode (mm_cb k) pc = .ok (.ifCond cd off, 3)) (ht : (pc : Int) + off = (tgt : Int)) (kt : mm_cnd cd x 0 → mm_Run l X k d tgt L S σ mc ms o σ') (kf : ¬ mm_cnd cd x 0 → mm_Run l X k d (pc + 3) L S σ mc ms o σ') :
    mm_Run l X k d pc L (.int x :: S) σ mc ms o σ' := by
  refine mm_branch (P := mm_cnd cd x 0) (fun hc hL hS ht1 hf1 => ?_) kt kf
  obtain ⟨_, st, rfl, rfl, hS1⟩ := hS.cons
  cases cd
  · exact lv_if_eq hc.1 hc.2.1 hd ht (fun q => ht1 q _ hS1) (fun q => hf1 q _ hS1)
  · exact lv_if_ne hc.1 hc.2.1 hd ht (fun q => ht1 q _ hS1) (fun q => hf1 (fun z => z q) _ hS1)
  · exact lv_if_lt hc.1 hc.2.1 hd ht (fun q => ht1 q _ hS1) (fun q => hf1 q _ hS1)
  · exact lv_if_ge hc.1 hc.2.1 hd ht (fun q => ht1 q _ hS1) (fun q => hf1 q _ hS1)
  · exact lv_if_gt hc.1 hc.2.1 hd ht (fun q => ht1 q _ hS1) (fun q => hf1 q _ hS1)
  · exact lv_if_le hc.1 hc.2.1 hd ht (fun q => ht1 q _ hS1) (fun q => hf1 q _ hS1)
def mm_acd (cd : ClassFile.ACond) (i j : Nat) : Prop := match cd with
  | .eq => i = j
  | .ne => ¬ i = j
theorem mm_acmp {cd : ClassFile.ACond} {off : Int} {tgt i j : Nat} (hd : decode (mm_cb k) pc = .ok (.if_acmp cd off, 3)) (ht : (pc : Int) + off = (tgt : Int)) (hi : i < 3) (hj : j < 3)
    (kt : mm_acd cd i j → mm_Run l X k d tgt L S σ mc ms o σ') (kf : ¬ mm_acd cd i j → mm_Run l X k d (pc + 3) L S σ mc ms o σ') :
    mm_Run l X k d pc L (.retAddr (j + 1) :: .retAddr (i + 1) :: S) σ mc ms o σ' := by
  refine mm_branch (P := mm_acd cd i j) (fun hc hL hS ht1 hf1 => ?_) kt kf
  obtain ⟨_, st, rfl, ⟨a, ha, rfl⟩, hS1⟩ := hS.cons
  obtain ⟨_, st, rfl, ⟨b, hb, rfl⟩, hS2⟩ := hS1.cons
  have hz := hc.2.2.2.2.2.2.2.2.2.1.2.2.1
  have hab : some b = some a ↔ i = j := ⟨fun q => hz i j b hi hj hb (by rw [q]; exact ha), fun q => by subst q; exact hb.symm.trans ha⟩
  cases cd
  · exact lv_acmp_eq (rx := some b) (ry := some a) hc.1 hc.2.1 hd ht (fun q => ht1 (hab.mp q) _ hS2) (fun q => hf1 (fun z => q (hab.mpr z)) _ hS2)
  · exact lv_acmp_ne (rx := some b) (ry := some a) hc.1 hc.2.1 hd ht (fun q => ht1 (fun z => q (hab.mpr z)) _ hS2) (fun q => hf1 (fun z => z (hab.mp q)) _ hS2)
/-! the memory -/
theorem mm_set_ne {α : Type} {f : Nat → Nat → α} {p i q : Nat} {x : α} (h : q ≠ p) : mm_set f p i x q = f q := by
  funext j; simp [mm_set, h]
theorem mm_set_eq {α : Type} {f : Nat → Nat → α} {p i : Nat} {x : α} : mm_set f p i x p = fun j => if j = i then x else f p j := by
  funext j; simp [mm_set]
theorem mm_C.off {φ ρ : List Nat} {cI cL : ClassId} {M M' : mm_M} {p : Nat} {kd : mm_K} {E : va_E} (h : mm_C φ ρ cI cL M p kd E) (h1 : M'.1 p = M.1 p) (h2 : M'.2 p = M.2 p) : mm_C φ ρ cI cL M' p kd E := by
  obtain ⟨t, n, rs⟩ := kd
  match t, h with
  | 0, h => exact (by rw [show E = _ from h, ← h1] : E = .inl (cI, n, .inl (M'.1 p)))
  | 1, h => exact (by rw [show E = _ from h, ← h2] : E = .inl (cL, n, .inr (.inl (M'.2 p))))
  | 2, h =>
    obtain ⟨fs, e, f1, f2⟩ := h
    refine ⟨fs, e, f1, fun j t ht => ?_⟩
    obtain ⟨w, g1, g2⟩ := f2 j t ht
    refine ⟨w, g1, ?_⟩
    match t, g2 with
    | 0, g2 => show w = .int (M'.1 p j); rw [h1]; exact g2
    | 1, g2 => show w = .long (M'.2 p j); rw [h2]; exact g2
    | t + 2, g2 => exact g2
  | t + 3, h => exact h.elim
theorem mm_W.upd {φ ρ : List Nat} {cI cL : ClassId} {Λ : List mm_K} {M M' : mm_M} {ws : va_W} {p a : Nat} {kd kd' : mm_K} {E E' : va_E} (h : mm_W φ ρ cI cL (Λ, M) ws) (hk : Λ[p]? = some kd) (hE : ws[p]? = some (a, E))
    (hoff : ∀ q, q ≠ p → M'.1 q = M.1 q ∧ M'.2 q = M.2 q) (hC : mm_C φ ρ cI cL M' p kd' E') : mm_W φ ρ cI cL (Λ.set p kd', M') (ws.set p (a, E')) := by
  obtain ⟨h1, h2, h3⟩ := h
  have hlt : p < Λ.length := (List.getElem?_eq_some_iff.mp hk).1
  refine ⟨by simpa using h1, by simpa using h2, fun q kd1 hq => ?_⟩
  by_cases hqp : q = p
  · subst hqp
    obtain ⟨a1, E1, g1, g2, -⟩ := h3 q kd hk
    have e1 : (a1, E1) = (a, E) := Option.some.inj (g2.symm.trans hE)
    cases e1
    have hkd : kd1 = kd' := by simpa [hlt] using hq.symm
    subst hkd
    exact ⟨a, E', g1, by simp [h1 ▸ hlt], hC⟩
  · have hq' : Λ[q]? = some kd1 := by
      have : (Λ.set p kd')[q]? = Λ[q]? := List.getElem?_set_ne (fun z => hqp z.symm)
      exact this.symm.trans hq
    obtain ⟨a1, E1, g1, g2, g3⟩ := h3 q kd1 hq'
    exact ⟨a1, E1, g1, by rw [List.getElem?_set_ne (fun z => hqp z.symm)]; exact g2, g3.off (hoff q hqp).1 (hoff q hqp).2⟩
theorem mm_W.same {φ ρ : List Nat} {cI cL : ClassId} {Λ : List mm_K} {M M' : mm_M} {ws : va_W} {p a : Nat} {kd : mm_K} {E E' : va_E} (h : mm_W φ ρ cI cL (Λ, M) ws) (hk : Λ[p]? = some kd) (hE : ws[p]? = some (a, E))
    (hoff : ∀ q, q ≠ p → M'.1 q = M.1 q ∧ M'.2 q = M.2 q) (hC : mm_C φ ρ cI cL M' p kd E') : mm_W φ ρ cI cL (Λ, M') (ws.set p (a, E')) := by
  have h1 := h.upd hk hE hoff hC
  have hlt := (List.getElem?_eq_some_iff.mp hk)
  obtain ⟨hl, he⟩ := hlt
  have : Λ.set p kd = Λ := by rw [← he]; exact List.set_getElem_self hl
  rw [this] at h1
  exact h1
theorem mm_W.get {φ ρ : List Nat} {cI cL : ClassId} {σ : mm_S} {ws : va_W} {p a : Nat} {kd : mm_K} (h : mm_W φ ρ cI cL σ ws) (hk : mm_kd σ.1 p = kd) (h9 : kd.1 ≠ 9) (ha : ρ[p]? = some a) : ∃ E, ws[p]? = some (a, E) ∧ mm_C φ ρ cI cL σ.2 p kd E := by
  obtain ⟨a1, E, g1, g2, g3⟩ := h.2.2 p kd (mm_kd_some hk h9)
  cases Option.some.inj (g1.symm.trans ha)
  exact ⟨E, g2, g3⟩
theorem mm_iaload {p n : Nat} {rs : List Value} {i : Int32} (hd : decode (mm_cb k) pc = .ok (.iaload, 1)) (hk : mm_kd σ.1 p = (0, n, rs)) (hin : vp_in i n) (hr : mm_Run l X k d (pc + 1) L (.int (σ.2.1 p i.toNatClampNeg) :: S) σ mc ms o σ') :
    mm_Run l X k d pc L (.int i :: .ref p :: S) σ mc ms o σ' := by
  intro pp e R s m args below meth c D A cI cL φ hc H locs cells slots ρ ws ls st hW hP hD hS hL hV h1 h2
  obtain ⟨_, st, rfl, rfl, hV1⟩ := hV.cons
  obtain ⟨_, st, rfl, ⟨a, ha, rfl⟩, hV2⟩ := hV1.cons
  obtain ⟨E, g1, g2⟩ := hW.get hk (by simp) ha
  have e1 : E = .inl (cI, n, .inl (σ.2.1 p)) := g2
  subst e1
  exact va_iald hc.1 hc.2.1 hc.2.2.2.2.2.2.2.1 hP p 0 g1 rfl hin hd (hr hc hW hP hD hS hL ⟨rfl, hV2⟩ h1 h2)
theorem mm_laload {p n : Nat} {rs : List Value} {i : Int32} (hd : decode (mm_cb k) pc = .ok (.laload, 1)) (hk : mm_kd σ.1 p = (1, n, rs)) (hin : vp_in i n) (hr : mm_Run l X k d (pc + 1) L (.long (σ.2.2 p i.toNatClampNeg) :: S) σ mc ms o σ') :
    mm_Run l X k d pc L (.int i :: .ref p :: S) σ mc ms o σ' := by
  intro pp e R s m args below meth c D A cI cL φ hc H locs cells slots ρ ws ls st hW hP hD hS hL hV h1 h2
  obtain ⟨_, st, rfl, rfl, hV1⟩ := hV.cons
  obtain ⟨_, st, rfl, ⟨a, ha, rfl⟩, hV2⟩ := hV1.cons
  obtain ⟨E, g1, g2⟩ := hW.get hk (by simp) ha
  have e1 : E = .inl (cL, n, .inr (.inl (σ.2.2 p))) := g2
  subst e1
  exact va_lald hc.1 hc.2.1 hc.2.2.2.2.2.2.2.1 hP p 1 g1 rfl hin hd (hr hc hW hP hD hS hL ⟨rfl, hV2⟩ h1 h2)
theorem mm_iastore {p n : Nat} {rs : List Value} {i x : Int32} (hd : decode (mm_cb k) pc = .ok (.iastore, 1)) (hk : mm_kd σ.1 p = (0, n, rs)) (hin : vp_in i n) (hr : mm_Run l X k d (pc + 1) L S (σ.1, mm_set σ.2.1 p i.toNatClampNeg x, σ.2.2) mc ms o σ') :
    mm_Run l X k d pc L (.int x :: .int i :: .ref p :: S) σ mc ms o σ' := by
  intro pp e R s m args below meth c D A cI cL φ hc H locs cells slots ρ ws ls st hW hP hD hS hL hV h1 h2
  obtain ⟨_, st, rfl, rfl, hV1⟩ := hV.cons
  obtain ⟨_, st, rfl, rfl, hV2⟩ := hV1.cons
  obtain ⟨_, st, rfl, ⟨a, ha, rfl⟩, hV3⟩ := hV2.cons
  obtain ⟨E, g1, g2⟩ := hW.get hk (by simp) ha
  have e1 : E = .inl (cI, n, .inl (σ.2.1 p)) := g2
  subst e1
  refine va_iast hc.1 hc.2.1 hc.2.2.2.2.2.2.2.1 hP hD hS p 0 g1 rfl hin hd (fun H1 locs1 q1 q2 q3 => ?_)
  refine hr hc (hW.same (Λ := σ.1) (M := σ.2) (mm_kd_some hk (by simp)) g1 (fun q hq => ⟨mm_set_ne hq, rfl⟩) ?_) q1 q2 q3 hL hV3 h1 h2
  show _ = _
  simp only [mm_set_eq]
  rfl
theorem mm_lastore {p n : Nat} {rs : List Value} {i : Int32} {x : Int64} (hd : decode (mm_cb k) pc = .ok (.lastore, 1)) (hk : mm_kd σ.1 p = (1, n, rs)) (hin : vp_in i n) (hr : mm_Run l X k d (pc + 1) L S (σ.1, σ.2.1, mm_set σ.2.2 p i.toNatClampNeg x) mc ms o σ') :
    mm_Run l X k d pc L (.long x :: .int i :: .ref p :: S) σ mc ms o σ' := by
  intro pp e R s m args below meth c D A cI cL φ hc H locs cells slots ρ ws ls st hW hP hD hS hL hV h1 h2
  obtain ⟨_, st, rfl, rfl, hV1⟩ := hV.cons
  obtain ⟨_, st, rfl, rfl, hV2⟩ := hV1.cons
  obtain ⟨_, st, rfl, ⟨a, ha, rfl⟩, hV3⟩ := hV2.cons
  obtain ⟨E, g1, g2⟩ := hW.get hk (by simp) ha
  have e1 : E = .inl (cL, n, .inr (.inl (σ.2.2 p))) := g2
  subst e1
  refine va_last hc.1 hc.2.1 hc.2.2.2.2.2.2.2.1 hP hD hS p 1 g1 rfl hin hd (fun H1 locs1 q1 q2 q3 => ?_)
  refine hr hc (hW.same (Λ := σ.1) (M := σ.2) (mm_kd_some hk (by simp)) g1 (fun q hq => ⟨rfl, mm_set_ne hq⟩) ?_) q1 q2 q3 hL hV3 h1 h2
  show _ = _
  simp only [mm_set_eq]
  rfl
theorem mm_scload {i : Int32} (hd : decode (mm_cb k) pc = .ok (.iaload, 1)) (hin : vp_in i X.1) (hr : mm_Run l X k d (pc + 1) L (.int (X.2 i.toNatClampNeg) :: S) σ mc ms o σ') :
    mm_Run l X k d pc L (.int i :: .retAddr 0 :: S) σ mc ms o σ' := by
  intro pp e R s m args below meth c D A cI cL φ hc H locs cells slots ρ ws ls st hW hP hD hS hL hV h1 h2
  obtain ⟨_, st, rfl, rfl, hV1⟩ := hV.cons
  obtain ⟨_, st, rfl, ⟨a, ha, rfl⟩, hV2⟩ := hV1.cons
  obtain ⟨b, g1, g2, g3, g4⟩ := hc.2.2.2.2.2.2.2.2.2.1.1
  cases Option.some.inj (g1.symm.trans ha)
  exact va_sld hc.1 hc.2.1 g2 g4 g3 hS hin hd (hr hc hW hP hD hS hL ⟨rfl, hV2⟩ h1 h2)
theorem mm_sclen (hd : decode (mm_cb k) pc = .ok (.arraylength, 1)) (hr : mm_Run l X k d (pc + 1) L (.int (Int32.ofNat X.1) :: S) σ mc ms o σ') :
    mm_Run l X k d pc L (.retAddr 0 :: S) σ mc ms o σ' := by
  intro pp e R s m args below meth c D A cI cL φ hc H locs cells slots ρ ws ls st hW hP hD hS hL hV h1 h2
  obtain ⟨_, st, rfl, ⟨a, ha, rfl⟩, hV1⟩ := hV.cons
  obtain ⟨b, g1, g2, g3, g4⟩ := hc.2.2.2.2.2.2.2.2.2.1.1
  cases Option.some.inj (g1.symm.trans ha)
  exact va_slen hc.1 hc.2.1 g2 g4 g3 hS hd (hr hc hW hP hD hS hL ⟨rfl, hV1⟩ h1 h2)
theorem mm_getstatic {idx j : Nat} (hd : decode (mm_cb k) pc = .ok (.getstatic idx, 3)) (hj : j < 3) (hl : Cond.fieldLink (mm_yn k).cls idx mm_oc (mm_on j) mm_od ∈ mm_tb) (hr : mm_Run l X k d (pc + 3) L (.retAddr (j + 1) :: S) σ mc ms o σ') :
    mm_Run l X k d pc L S σ mc ms o σ' := by
  intro pp e R s m args below meth c D A cI cL φ hc H locs cells slots ρ ws ls st hW hP hD hS hL hV h1 h2
  obtain ⟨a, ha, hz⟩ := hc.2.2.2.2.2.2.2.2.2.1.2.1 j hj
  exact va_gets hc.1 hc.2.1 hz hS hc.2.2.2.2.2.1 (hc.2.2.2.2.2.2.1 _ hl) (fun x h => h) hd (hr hc hW hP hD hS hL ⟨⟨a, ha, rfl⟩, hV⟩ h1 h2)
/-! fields -/
def mm_tk : FieldType → Nat
  | .int => 0
  | .long => 1
  | .object _ => 2
  | .array _ => 2
  | _ => 7
def mm_okc (ci : Nat) : Prop := ∃ (C : String) (T : u_T) (N : Nat), mm_cl[ci]? = some (C, T, N) ∧ N = (mm_fk ci).length ∧ (∀ w ∈ u_ws C T N, w ∈ mm_tb) ∧
  (∃ ty0 : Nat → FieldType, ∀ j, j < N → parseFieldDescriptor (T j).2.2.1 = some (ty0 j) ∧ (mm_fk ci)[j]? = some (mm_tk (ty0 j)) ∧ mm_tk (ty0 j) < 3) ∧ (∀ a, a < N → ∀ b, b < N → a ≠ b → (T a).2.1 ≠ (T b).2.1)
def mm_okf (k idx ci j : Nat) : Prop := ∃ (C : String) (T : u_T) (N : Nat), mm_cl[ci]? = some (C, T, N) ∧ j < N ∧ Cond.fieldLink (mm_yn k).cls idx (T j).1 (T j).2.1 (T j).2.2.1 ∈ mm_tb
def mm_okp (k ci j : Nat) : Prop := ∀ (C : String) (T : u_T) (N : Nat), mm_cl[ci]? = some (C, T, N) → ((T j).2.2.2 = false ∨ ((T j).2.2.2 = true ∧ (mm_yn k).name = "<init>" ∧ (T j).1 = (mm_yn k).cls))
def mm_fv (M : mm_M) (p ci j : Nat) (rs : List Value) : Value := match (mm_fk ci)[j]? with
  | some 0 => .int (M.1 p j)
  | some 1 => .long (M.2 p j)
  | some _ => mm_nth rs j
  | none => .null
theorem mm_getfield {idx p ci j : Nat} {rs : List Value} {v : Value} (hd : decode (mm_cb k) pc = .ok (.getfield idx, 3)) (hc0 : mm_okc ci) (hf : mm_okf k idx ci j) (hk : mm_kd σ.1 p = (2, ci, rs)) (hv : mm_fv σ.2 p ci j rs = v) (hn : v ≠ .null)
    (hr : mm_Run l X k d (pc + 3) L (v :: S) σ mc ms o σ') : mm_Run l X k d pc L (.ref p :: S) σ mc ms o σ' := by
  intro pp e R s m args below meth c D A cI cL φ hc H locs cells slots ρ ws ls st hW hP hD hS hL hV h1 h2
  obtain ⟨_, st, rfl, ⟨a, ha, rfl⟩, hV1⟩ := hV.cons
  obtain ⟨E, g1, g2⟩ := hW.get hk (by simp) ha
  obtain ⟨fs, e1, f1, f2⟩ := g2
  subst e1
  obtain ⟨C, T, N, c1, c2, c3, -⟩ := hc0
  obtain ⟨C', T', N', d1, d2, d3⟩ := hf
  cases Option.some.inj (c1.symm.trans d1)
  have hj : j < (mm_fk ci).length := by omega
  obtain ⟨w, w1, w2⟩ := f2 j _ (List.getElem?_eq_getElem hj)
  have hvw : mm_V φ ρ v w := by
    subst hv
    unfold mm_fv at hn ⊢
    rw [List.getElem?_eq_getElem hj] at hn ⊢
    generalize (mm_fk ci)[j] = t at hn w2 ⊢
    match t, hn, w2 with
    | 0, _, w2 => exact w2
    | 1, _, w2 => exact w2
    | t + 2, hn, w2 => exact w2 hn
  exact va_get hc.1 hc.2.1 hc.2.2.2.2.2.2.1 c3 hc.2.2.2.2.2.1 hc.2.2.2.2.2.2.2.1 hP p g1 c1 j d2 (hc.2.2.2.2.2.2.1 _ d3) (fun x h => h) w1 hd (hr hc hW hP hD hS hL ⟨hvw, hV1⟩ h1 h2)
def mm_pv (σ : mm_S) (p ci j : Nat) (rs : List Value) (v : Value) : mm_S := match v with
  | .int x => (σ.1, mm_set σ.2.1 p j x, σ.2.2)
  | .long x => (σ.1, σ.2.1, mm_set σ.2.2 p j x)
  | v => (σ.1.set p (2, ci, rs.set j v), σ.2)
def mm_vk : Value → Nat
  | .int _ => 0
  | .long _ => 1
  | .ref _ => 2
  | .retAddr _ => 2
  | _ => 8
theorem mm_nth_set {rs : List Value} {j i : Nat} {v : Value} (h : j < rs.length) : mm_nth (rs.set j v) i = if i = j then v else mm_nth rs i := by
  induction rs generalizing j i with
  | nil => simp at h
  | cons x rs ih =>
    cases j with
    | zero => cases i <;> simp [mm_nth]
    | succ j =>
      cases i with
      | zero => simp [mm_nth]
      | succ i => simpa [mm_nth] using ih (j := j) (i := i) (by simpa using h)
theorem mm_putfield {idx p ci j : Nat} {rs : List Value} {v : Value} (hd : decode (mm_cb k) pc = .ok (.putfield idx, 3)) (hc0 : mm_okc ci) (hf : mm_okf k idx ci j) (hpu : mm_okp k ci j) (hk : mm_kd σ.1 p = (2, ci, rs)) (hv : (mm_fk ci)[j]? = some (mm_vk v)) (hrl : rs.length = (mm_fk ci).length)
    (hr : mm_Run l X k d (pc + 3) L S (mm_pv σ p ci j rs v) mc ms o σ') : mm_Run l X k d pc L (v :: .ref p :: S) σ mc ms o σ' := by
  intro pp e R s m args below meth c D A cI cL φ hc H locs cells slots ρ ws ls st hW hP hD hS hL hV h1 h2
  obtain ⟨w, st, rfl, hw, hV1⟩ := hV.cons
  obtain ⟨_, st, rfl, ⟨a, ha, rfl⟩, hV2⟩ := hV1.cons
  obtain ⟨E, g1, g2⟩ := hW.get hk (by simp) ha
  obtain ⟨fs, e1, f1, f2⟩ := g2
  subst e1
  obtain ⟨C, T, N, c1, c2, c3, ⟨ty0, c4⟩, c5⟩ := hc0
  obtain ⟨C', T', N', d1, d2, d3⟩ := hf
  cases Option.some.inj (c1.symm.trans d1)
  have hj : j < (mm_fk ci).length := by omega
  obtain ⟨t1, t2, -⟩ := c4 j d2
  have htk : mm_tk (ty0 j) = mm_vk v := Option.some.inj (t2.symm.trans hv)
  have hnf : narrow (ty0 j) w = w ∧ fits (ty0 j) w = true := by
    generalize ty0 j = ty at htk
    cases v <;> simp only [mm_vk] at htk <;> cases ty <;> simp only [mm_tk] at htk <;> first | (exact absurd htk (by decide)) | (obtain ⟨b, -, rfl⟩ := hw; exact ⟨rfl, rfl⟩) | (cases hw; exact ⟨rfl, rfl⟩)
  have hend : ∀ (H1 : Heap) (locs1 : List Loc), va_P D mm_cl (ws.set p (a, .inr (ci, fs.set j w))) H1 → va_D A (ws.set p (a, .inr (ci, fs.set j w))) → va_S A s.heap H1 locs1 → W pp l e R s m args below meth c H1 locs1 cells slots (mm_Q φ ρ D A cI cL below s (cells + mc) (slots + ms) o σ') (F0 m (pc + 3) ls st) := by
    intro H1 locs1 q1 q2 q3
    refine hr hc ?_ q1 q2 q3 hL hV2 h1 h2
    have hkd := mm_kd_some hk (by simp)
    have hold : ∀ (M' : mm_M) (rs' : List Value), (∀ i t, (mm_fk ci)[i]? = some t → i ≠ j → (match t with | 0 => M'.1 p i = σ.2.1 p i | 1 => M'.2 p i = σ.2.2 p i | _ => mm_nth rs' i = mm_nth rs i)) →
        (match mm_vk v with | 0 => w = .int (M'.1 p j) | 1 => w = .long (M'.2 p j) | _ => mm_nth rs' j ≠ .null → mm_V φ ρ (mm_nth rs' j) w) → mm_C φ ρ cI cL M' p (2, ci, rs') (.inr (ci, fs.set j w)) := by
      intro M' rs' ho hn
      refine ⟨fs.set j w, rfl, by simpa using f1, fun i t ht => ?_⟩
      by_cases hij : i = j
      · subst hij
        have htv : t = mm_vk v := Option.some.inj (ht.symm.trans hv)
        subst htv
        exact ⟨w, by simp [f1, hj], hn⟩
      · obtain ⟨w1, x1, x2⟩ := f2 i t ht
        refine ⟨w1, by rw [List.getElem?_set_ne (fun z => hij z.symm)]; exact x1, ?_⟩
        have hoo := ho i t ht hij
        match t, x2, hoo with
        | 0, x2, hoo => exact x2.trans (by rw [hoo])
        | 1, x2, hoo => exact x2.trans (by rw [hoo])
        | t + 2, x2, hoo => intro hnn; rw [show mm_nth rs' i = mm_nth rs i from hoo] at hnn ⊢; exact x2 hnn
    cases v with
    | int x =>
      cases hw
      refine hW.same (Λ := σ.1) (M := σ.2) hkd g1 (fun q hq => ⟨mm_set_ne hq, rfl⟩) (hold _ rs ?_ ?_)
      · intro i t _ hij
        match t with
        | 0 => show mm_set σ.2.1 p j x p i = _; simp [mm_set, hij]
        | 1 => rfl
        | t + 2 => rfl
      · show Value.int x = .int (mm_set σ.2.1 p j x p j); simp [mm_set]
    | long x =>
      cases hw
      refine hW.same (Λ := σ.1) (M := σ.2) hkd g1 (fun q hq => ⟨rfl, mm_set_ne hq⟩) (hold _ rs ?_ ?_)
      · intro i t _ hij
        match t with
        | 0 => rfl
        | 1 => show mm_set σ.2.2 p j x p i = _; simp [mm_set, hij]
        | t + 2 => rfl
      · show Value.long x = .long (mm_set σ.2.2 p j x p j); simp [mm_set]
    | ref x =>
      refine hW.upd (Λ := σ.1) (M := σ.2) hkd g1 (fun q hq => ⟨rfl, rfl⟩) (hold _ _ ?_ ?_)
      · intro i t _ hij
        match t with
        | 0 => rfl
        | 1 => rfl
        | t + 2 => show mm_nth _ i = _; rw [mm_nth_set (by omega), if_neg hij]
      · show _ → _; rw [mm_nth_set (by omega), if_pos rfl]; exact fun _ => hw
    | retAddr x =>
      refine hW.upd (Λ := σ.1) (M := σ.2) hkd g1 (fun q hq => ⟨rfl, rfl⟩) (hold _ _ ?_ ?_)
      · intro i t _ hij
        match t with
        | 0 => rfl
        | 1 => rfl
        | t + 2 => show mm_nth _ i = _; rw [mm_nth_set (by omega), if_neg hij]
      · show _ → _; rw [mm_nth_set (by omega), if_pos rfl]; exact fun _ => hw
    | _ =>
      exfalso
      generalize ty0 j = ty at htk
      cases ty <;> simp [mm_tk, mm_vk] at htk
  rcases hpu C T N c1 with hfi | ⟨hfi, hin, hdc⟩
  · exact va_put hc.1 hc.2.1 hc.2.2.2.2.2.2.1 c3 ty0 (fun i hi => (c4 i hi).1) c5 hc.2.2.2.2.2.1 hc.2.2.2.2.2.2.2.1 hP hD hS p g1 c1 j d2 (hc.2.2.2.2.2.2.1 _ d3) (fun x h => h) hfi t1 hnf.1 hnf.2 (by omega) hd hend
  · exact va_putF hc.1 hc.2.1 hc.2.2.2.2.2.2.1 c3 ty0 (fun i hi => (c4 i hi).1) c5 hc.2.2.2.2.2.1 hc.2.2.2.2.2.2.2.1 hP hD hS p g1 c1 j d2 (hc.2.2.2.2.2.2.1 _ d3) (fun x h => h) hfi (hc.2.2.2.2.2.2.2.2.2.2.2.2.1.trans hin) hdc t1 hnf.1 hnf.2 (by omega) hd hend
end MM
end
section
/-! ===== answers; a method's contract; calls that come back ===== -/
theorem mm_Wmono {p : Program} {l : Launch} {e : Env} {R : Room} {s : State} {m : MethodId} {args : Array Value} {below : List Frame} {meth : Method} {c : Code} {H : Heap} {locs : List Loc} {cells slots : Nat} {Q Q' : State → Prop} {g : JFrame}
    (h : ∀ t, Q t → Q' t) (k : W p l e R s m args below meth c H locs cells slots Q g) : W p l e R s m args below meth c H locs cells slots Q' g := by
  intro T hT X
  obtain ⟨t, a, b⟩ := k T hT X
  exact ⟨t, a, h t b⟩
theorem mm_Q.ext {φ ρ δ : List Nat} {D : va_G} {A : Nat → Prop} {cI cL : ClassId} {below : List Frame} {s : State} {nc ns nc' ns' : Nat} {o : mm_O} {σ' : mm_S} {t : State} (h : mm_Q φ (ρ ++ δ) D A cI cL below s nc ns o σ' t) (h1 : nc = nc') (h2 : ns = ns') :
    mm_Q φ ρ D A cI cL below s nc' ns' o σ' t := by
  subst h1; subst h2
  obtain ⟨ro, δ', ws', Lc, q⟩ := h
  rw [List.append_assoc] at q
  exact ⟨ro, δ ++ δ', ws', Lc, q⟩
theorem mm_Fz.move {X : Nat × (Nat → Int32)} {φ : List Nat} {A : Nat → Prop} {s U : State} {H : Heap} {locs : List Loc} (h : mm_Fz X φ A s s.heap) (hS : va_S A s.heap H locs) (hvm : s.vm.Alike U.vm) (hU : U.heap = H) : mm_Fz X φ A U U.heap := by
  subst hU
  obtain ⟨⟨b, b1, b2, b3, b4⟩, h2, h3, h4, h5, h6, h7, h8⟩ := h
  refine ⟨⟨b, b1, (b2.kept (hS.2.1 b b4 b3)).moved hvm, b3, Nat.lt_of_lt_of_le b4 hS.1⟩, fun j hj => ?_, h3, (h4.kept hS.2.1).moved hvm, (h5.kept hS.2.1).moved hvm, fun i j hi hj hij => (h6 i j hi hj hij).moved hvm, (h7.kept hS.2.1).moved hvm, (h8.kept hS.2.1).moved hvm⟩
  obtain ⟨a, a1, a2⟩ := h2 j hj
  exact ⟨a, a1, (a2.kept hS.2.1).moved hvm⟩
section MMR
variable {l : Launch} {X : Nat × (Nat → Int32)} {k d pc : Nat} {L S : List Value} {σ σ' : mm_S} {mc ms : Nat} {o : mm_O}
/-- more room may be asked for than is used -/
theorem mm_widen {mc' ms' : Nat} (h1 : mc ≤ mc') (h2 : ms ≤ ms') (hr : mm_Run l X k d pc L S σ mc ms o σ') : mm_Run l X k d pc L S σ mc' ms' o σ' := by
  intro p e R s m args below meth c D A cI cL φ hc H locs cells slots ρ ws ls st hW hP hD hS hL hV q1 q2
  refine mm_Wmono (fun t h => ?_) (hr hc hW hP hD hS hL hV (by omega) (by omega))
  obtain ⟨ro, δ, ws', Lc, a1, a2, a3, a4, a5, a6, a7, a8, a9⟩ := h
  exact ⟨ro, δ, ws', Lc, a1, a2, a3, a4, a5, a6, a7, a8.mono (by omega) (by omega), a9⟩
theorem mm_deeper {d' : Nat} (h : d ≤ d') (hr : mm_Run l X k d pc L S σ mc ms o σ') : mm_Run l X k d' pc L S σ mc ms o σ' := by
  intro p e R s m args below meth c D A cI cL φ hc
  obtain ⟨a1, a2, a3, a4, a5, a6, a7, a8, a9, a10, a11, a12, a13⟩ := hc
  exact hr ⟨a1, a2, a3, a4, a5, a6, a7, a8, a9, a10, by omega, by omega, a13⟩
theorem mm_ret0 {v : Option Value}
    (h : ∀ {p : Program} {e : Env} {R : Room} {s : State} {m : MethodId} {args : Array Value} {below : List Frame} {meth : Method} {c : Code} {D : va_G} {A : Nat → Prop} {cI cL : ClassId} {φ ρ : List Nat} {locs : List Loc} {cells slots : Nat} {ls : Array Slot} {st : List Value} {T : State},
      mm_Cx l k d X φ p e R s m args meth c D A cI cL → mm_Vs φ ρ S st → Stand p l e R s m args below meth c T locs cells slots →
      ∃ vr, mm_Vo φ ρ v vr ∧ (meth.sig.returnType = none → vr = none) ∧ ∀ fs, (∀ (f : JFrame) (acts : List Action), f.method = m → f.locked = none → f.entered = [] → (doReturn e (T.setTop f) acts vr).1 = T.setFrames fs) → Steps p.tables e below (T.setTop (F0 m pc ls st)) (T.setFrames fs)) :
    mm_Run l X k d pc L S σ mc ms (.inl v) σ := by
  intro p e R s m args below meth c D A cI cL φ hc H locs cells slots ρ ws ls st hW hP hD hS hL hV q1 q2 T hT Y
  subst hT
  obtain ⟨vr, v1, v2, v3⟩ := h (ρ := ρ) (ls := ls) hc hV Y
  obtain ⟨fs, hret, hrun, hended, hWm, hframe⟩ := Y.leave (v := vr) v2 hc.2.2.2.2.1
  refine ⟨T.setFrames fs, v3 fs hret, .returned vr, [], ws, locs, hrun, hended, ?_, hP, hD, hS, hWm, hframe.mono (by omega) (by omega), vr, rfl, ?_⟩
  · rw [List.append_nil]; exact hW
  · rw [List.append_nil]; exact v1
theorem mm_ireturn {x : Int32} (hd : decode (mm_cb k) pc = .ok (.ireturn, 1)) (hr : mm_rt k = some .int) : mm_Run l X k d pc L [.int x] σ mc ms (.inl (some (.int x))) σ := by
  refine mm_ret0 fun hc hV Y => ?_
  obtain ⟨_, st, rfl, rfl, hVn⟩ := hV.cons
  cases st with
  | cons _ _ => exact hVn.elim
  | nil =>
    have hr' := hc.2.2.2.1.trans hr
    refine ⟨some (.int x), rfl, (fun q => by rw [hr'] at q; cases q), fun fs hret => ?_⟩
    have hmeth' := Y.method'
    have hexec := hc.1
    have hb := hc.2.1
    jvm_step Y.here [Y.here.top, hexec, hb, hd, hmeth', hr', narrow]
    (try refine ⟨rfl, ?_⟩); (try refine ⟨rfl, ?_⟩)
    first | (intro acts; rw [hret _ acts rfl rfl rfl]) | rw [hret _ _ rfl rfl rfl]
    exact Steps.refl _
theorem mm_zreturn {x : Int32} (hd : decode (mm_cb k) pc = .ok (.ireturn, 1)) (hr : mm_rt k = some .boolean) (hx : x = 0 ∨ x = 1) : mm_Run l X k d pc L [.int x] σ mc ms (.inl (some (.int x))) σ := by
  refine mm_ret0 fun hc hV Y => ?_
  obtain ⟨_, st, rfl, rfl, hVn⟩ := hV.cons
  cases st with
  | cons _ _ => exact hVn.elim
  | nil =>
    have hr' := hc.2.2.2.1.trans hr
    refine ⟨some (.int x), rfl, (fun q => by rw [hr'] at q; cases q), fun fs hret => ?_⟩
    have hmeth' := Y.method'
    have hexec := hc.1
    have hb := hc.2.1
    have hn : narrow .boolean (.int x) = .int x := by rcases hx with rfl | rfl <;> rfl
    jvm_step Y.here [Y.here.top, hexec, hb, hd, hmeth', hr', hn]
    (try refine ⟨rfl, ?_⟩); (try refine ⟨rfl, ?_⟩)
    first | (intro acts; rw [hret _ acts rfl rfl rfl]) | rw [hret _ _ rfl rfl rfl]
    exact Steps.refl _
theorem mm_lreturn {x : Int64} (hd : decode (mm_cb k) pc = .ok (.lreturn, 1)) (hr : mm_rt k = some .long) : mm_Run l X k d pc L [.long x] σ mc ms (.inl (some (.long x))) σ := by
  refine mm_ret0 fun hc hV Y => ?_
  obtain ⟨_, st, rfl, rfl, hVn⟩ := hV.cons
  cases st with
  | cons _ _ => exact hVn.elim
  | nil =>
    have hr' := hc.2.2.2.1.trans hr
    refine ⟨some (.long x), rfl, (fun q => by rw [hr'] at q; cases q), fun fs hret => ?_⟩
    have hmeth' := Y.method'
    have hexec := hc.1
    have hb := hc.2.1
    jvm_step Y.here [Y.here.top, hexec, hb, hd, hmeth', hr', narrow]
    (try refine ⟨rfl, ?_⟩); (try refine ⟨rfl, ?_⟩)
    first | (intro acts; rw [hret _ acts rfl rfl rfl]) | rw [hret _ _ rfl rfl rfl]
    exact Steps.refl _
theorem mm_vreturn (hd : decode (mm_cb k) pc = .ok (.return_, 1)) (hr : mm_rt k = none) : mm_Run l X k d pc L [] σ mc ms (.inl none) σ := by
  refine mm_ret0 fun hc hV Y => ?_
  rename_i st _
  cases st with
  | cons _ _ => exact hV.elim
  | nil =>
    have hr' := hc.2.2.2.1.trans hr
    refine ⟨none, trivial, fun _ => rfl, fun fs hret => ?_⟩
    have hmeth' := Y.method'
    have hexec := hc.1
    have hb := hc.2.1
    jvm_step Y.here [Y.here.top, hexec, hb, hd, hmeth', hr']
    (try refine ⟨rfl, ?_⟩); (try refine ⟨rfl, ?_⟩)
    first | (intro acts; rw [hret _ acts rfl rfl rfl]) | rw [hret _ _ rfl rfl rfl]
    exact Steps.refl _
theorem mm_areturn {v : Value} {n : String} (hd : decode (mm_cb k) pc = .ok (.areturn, 1)) (hr : mm_rt k = some (.object n)) (hv : (∃ p, v = .ref p) ∨ ∃ j, v = .retAddr j) : mm_Run l X k d pc L [v] σ mc ms (.inl (some v)) σ := by
  refine mm_ret0 fun hc hV Y => ?_
  obtain ⟨w, st, rfl, hw, hVn⟩ := hV.cons
  obtain ⟨a, rfl⟩ := mm_isref hw hv
  cases st with
  | cons _ _ => exact hVn.elim
  | nil =>
    have hr' := hc.2.2.2.1.trans hr
    refine ⟨some (.ref a), hw, (fun q => by rw [hr'] at q; cases q), fun fs hret => ?_⟩
    have hmeth' := Y.method'
    have hexec := hc.1
    have hb := hc.2.1
    jvm_step Y.here [Y.here.top, hexec, hb, hd, hmeth', hr']
    (try refine ⟨rfl, ?_⟩); (try refine ⟨rfl, ?_⟩)
    first | (intro acts; rw [hret _ acts rfl rfl rfl]) | rw [hret _ _ rfl rfl rfl]
    exact Steps.refl _
end MMR
/-! a method, entered with arguments -/
def mm_Call (l : Launch) (X : Nat × (Nat → Int32)) (k d : Nat) (as : List Value) (σ : mm_S) (mc ms : Nat) (o : mm_O) (σ' : mm_S) : Prop :=
  mm_Run l X k d 0 (mm_pad (mm_ml k) (mm_en as)) [] σ mc ms o σ'
def mm_rm (d mc ms : Nat) : Room := { frames := d + 10, cells := mc, slots := ms, locals := 100 * d + 300 }
theorem mm_rm_f (d mc ms : Nat) : (mm_rm d mc ms).frames = d + 10 := rfl
theorem mm_rm_l (d mc ms : Nat) : (mm_rm d mc ms).locals = 100 * d + 300 := rfl
set_option maxRecDepth 8000 in
theorem mm_ar {z d r : Nat} (h1 : z ≤ 60) (h2 : 100 * (d + 1) + 300 ≤ r) : 8 + (z + 11) + (100 * d + 300) ≤ r := by omega
def mm_is (k : Nat) : Prop := plainName (mm_yn k).cls = true ∧ ∀ (args : Array Value) (s : State) (m : MethodId), (∀ w ∈ mm_tb, w.before args s = true) → s.methodNamed? (mm_yn k) = some m →
  ∃ meth c, s.vm.method? m = some meth ∧ meth.code = some c ∧ c.code = mm_cb k ∧ c.maxLocals = mm_ml k ∧ meth.sig.returnType = mm_rt k ∧ meth.locks = false ∧
    c.exceptionTable.toList.map (fun h => (h.startPc, h.endPc, h.handlerPc, h.catchType)) = mm_ht k ∧ meth.name = (mm_yn k).name
theorem mm_is_of {k : Nat} (h0 : plainName (mm_yn k).cls = true) (h : Cond.code (mm_yn k) (mm_cb k) (mm_ml k) (mm_rt k) ∈ mm_tb) (h2 : mm_ht k = []) : mm_is k := by
  refine ⟨h0, fun args s m hts hn => ?_⟩
  obtain ⟨meth, c, a1, a2, a3, a4, a5, a6, a7, -⟩ := Cond.code_spec hn (hts _ h)
  refine ⟨meth, c, a1, a2, a3, a4, a5, a6, ?_, (name_of_methodNamed hn a1).1⟩
  have : c.exceptionTable = #[] := by simpa using a7
  rw [this, h2]; rfl
theorem mm_is_ofW {k : Nat} (h0 : plainName (mm_yn k).cls = true) (h : Cond.codeWith (mm_yn k) (mm_cb k) (mm_ml k) (mm_rt k) (mm_ht k) ∈ mm_tb) : mm_is k := by
  refine ⟨h0, fun args s m hts hn => ?_⟩
  obtain ⟨m', meth, c, a0, a1, a2, a3, a4, a5, a6, a7, -⟩ := Cond.codeWith_spec (hts _ h)
  cases hn.symm.trans a0
  exact ⟨meth, c, a1, a2, a3, a4, a6, a7, a5, (name_of_methodNamed hn a1).1⟩
def mm_P (X : Nat × (Nat → Int32)) (φ : List Nat) (D : va_G) (A : Nat → Prop) (cI cL : ClassId) (ws : va_W) (avr : List Value) : Array Value → State → Prop := fun a U =>
  a = avr.toArray ∧ va_K D mm_cl [(cI, .int), (cL, .long)] U ∧ va_P D mm_cl ws U.heap ∧ va_D A ws ∧ (∀ q, U.heap.size ≤ q → A q) ∧ mm_Fz X φ A U U.heap
theorem mm_P.blind {X : Nat × (Nat → Int32)} {φ : List Nat} {D : va_G} {A : Nat → Prop} {cI cL : ClassId} {ws : va_W} {avr : List Value} : FrameBlind (mm_P X φ D A cI cL ws avr) := by
  intro a U g mk h
  obtain ⟨h1, h2, h3, h4, h5, h6⟩ := h
  have hvm : U.vm.Alike (U.calling g mk a).vm := (State.WarmedH.refl U).alike
  exact ⟨h1, h2.moved hvm, h3, h4, h5, h6.move (va_S.rf (A := A)) hvm rfl⟩
def mm_QO (φ ρ : List Nat) (D : va_G) (A : Nat → Prop) (cI cL : ClassId) (o : mm_O) (σ' : mm_S) : Array Value → State → Outcome → State → Prop := fun _ st oc t =>
  ∃ δ ws', mm_W φ (ρ ++ δ) cI cL σ' ws' ∧ va_P D mm_cl ws' t.heap ∧ va_D A ws' ∧ va_F A st t ∧ mm_Oc φ (ρ ++ δ) st o oc t
theorem mm_free {l : Launch} {X : Nat × (Nat → Int32)} {k d : Nat} {as : List Value} {σ σ' : mm_S} {mc ms : Nat} {o : mm_O} (hk : mm_is k) (hcat : (as.map fun v => v.category).sum ≤ mm_ml k) (htr : ∀ e' : Env, l.admits e' → e'.platform.stackTraces = false)
    (h : mm_Call l X k d as σ mc ms o σ') {φ ρ : List Nat} {D : va_G} {A : Nat → Prop} {cI cL : ClassId} {ws : va_W} {avr : List Value} (hv : mm_Vs φ ρ as avr) (hW : mm_W φ ρ cI cL σ ws) :
    MetFree l (mm_yn k) (headSpec mm_tb (mm_rm d mc ms)) (mm_P X φ D A cI cL ws avr) (fun _ _ _ _ _ => True)
      (fun a st oc t => mm_QO φ ρ D A cI cL o σ' a st oc t ∧ ∃ Lc, st.WarmedH t.vm ∧ st.sameButNew ({ t with vm := st.vm } : State) Lc mc ms ∧ ∀ q ∈ Lc, A q.base) := by
  refine MetFree.of_bodyS (code := mm_cb k) (maxLocals := mm_ml k) (ret := mm_rt k) hk.1 ?_ ?_
  · intro args s m hpre hn
    obtain ⟨meth, c, a1, a2, a3, a4, a5, a6, -⟩ := hk.2 args s m (fun w hw => atoms_spec (ws := mm_tb) hpre w hw) hn
    exact ⟨meth, c, a1, a2, a3, a4, a5, a6⟩
  · intro p e s m args below meth c s₁ B hml hp _
    obtain ⟨rfl, hK, hP, hD, hA, hF⟩ := hp
    have hts : ∀ w ∈ mm_tb, w.before avr.toArray s = true := fun w hw => atoms_spec (ws := mm_tb) B.pre w hw
    obtain ⟨meth', c', a1, a2, a3, a4, a5, a6, a7, a8⟩ := hk.2 _ s m hts B.named
    cases B.method.symm.trans a1
    have Y := Stand.of_body B
    cases Y.code.symm.trans a2
    have hh0 : s₁.heap = s.heap := by rw [B.state]; rfl
    have hcx : mm_Cx l k d X φ p e (mm_rm d mc ms) s m avr.toArray meth c D A cI cL :=
      ⟨B.exec, B.bytes, hml, B.returns, B.notSynchronized, findClass_of_methodNamed B.named, hts, hK, hA, hF, Nat.le_refl _, Nat.le_refl _, a8, a7, htr⟩
    have hrun := h hcx (below := below) (cells := 0) (slots := 0) (locs := []) hW hP hD (va_S.rf (A := A)) (mm_entry hv (by rw [mm_sl_len hv]; exact hcat)) (st := []) trivial (by simp [mm_rm]) (by simp [mm_rm])
    rw [← lg_entry_eq] at hrun
    obtain ⟨t, b1, ro, δ, ws', Lc, c1, c2, c3, c4, c5, c6, c7, c8, c9⟩ := hrun s₁ hh0 Y
    rw [Nat.zero_add, Nat.zero_add] at c8
    exact ⟨t, ro, b1, c1, c2, ⟨δ, ws', c3, c4, c5, ⟨c6.1, c6.2.1⟩, c9⟩, Lc, c7, c8, c6.2.2⟩
/-- a method that answers: the kit's contract -/
theorem mm_met {l : Launch} {X : Nat × (Nat → Int32)} {k d : Nat} {as : List Value} {σ σ' : mm_S} {mc ms : Nat} {v : Option Value} (hk : mm_is k) (hcat : (as.map fun v => v.category).sum ≤ mm_ml k) (htr : ∀ e' : Env, l.admits e' → e'.platform.stackTraces = false)
    (h : mm_Call l X k d as σ mc ms (.inl v) σ') {φ ρ : List Nat} {D : va_G} {A : Nat → Prop} {cI cL : ClassId} {ws : va_W} {avr : List Value} (hv : mm_Vs φ ρ as avr) (hW : mm_W φ ρ cI cL σ ws) :
    Met l (mm_yn k) mm_tb (mm_rm d mc ms) (mm_P X φ D A cI cL ws avr) (mm_QO φ ρ D A cI cL (.inl v) σ') mc ms A := by
  intro p e ha hc hk0 s m args below hf happ hP hK
  obtain ⟨n, oc, q1, q2, q3, q4, Lc, q5, q6, q7⟩ := mm_free hk hcat htr h hv hW p e ha hc hk0 s m args below hf happ hP hK
  refine ⟨n, oc, q1, q2, q3, q4, Lc, ⟨?_, q5, q6⟩, q7⟩
  obtain ⟨δ, ws', -, -, -, -, vr, hvr, -⟩ := q4
  exact ⟨vr, hvr⟩
section MMC
variable {l : Launch} {X : Nat × (Nat → Int32)} {k d pc : Nat} {L S : List Value} {σ σ1 σ' : mm_S} {mc ms mc1 ms1 : Nat} {o : mm_O}
theorem mm_goes {p : Program} {e : Env} {R : Room} {s : State} {m : MethodId} {args : Array Value} {below : List Frame} {meth : Method} {c : Code} {D : va_G} {A : Nat → Prop} {cI cL : ClassId} {φ ρ : List Nat} {H : Heap} {locs : List Loc} {cells slots : Nat} {ls : Array Slot} {st0 rest : List Value} {v : Option Value} {a : Array Value} {Q : State → Prop}
    (hr : va_Run p l e R s m args below meth c H locs cells slots mc1 ms1 (F0 m pc ls st0) rest (mm_QO φ ρ D A cI cL (.inl v) σ1 a) A) (hS : va_S A s.heap H locs)
    (kk : ∀ δ ws' H1 locs1 vr, mm_W φ (ρ ++ δ) cI cL σ1 ws' → va_P D mm_cl ws' H1 → va_D A ws' → va_S A s.heap H1 locs1 → mm_Vo φ (ρ ++ δ) v vr → W p l e R s m args below meth c H1 locs1 (cells + mc1) (slots + ms1) Q (F0 m (pc + 3) ls (vr.toList ++ rest))) :
    W p l e R s m args below meth c H locs cells slots Q (F0 m pc ls st0) := by
  intro T hT Y
  obtain ⟨v0, st₀, t, T', Lc, z0, Y', z1, z2, z3, ⟨δ, ws', w1, w2, w3, w4, vr, w5, w6⟩, z4⟩ := hr T hT Y
  cases w5
  obtain ⟨w7, w8⟩ := w4
  rw [z0] at w7 w8
  have hS' : va_S A s.heap T'.heap (locs ++ Lc) := ⟨Nat.le_trans hS.1 (by rw [z2]; exact w7), fun q h1 h2 => by rw [z2, w8 q (Nat.lt_of_lt_of_le h1 hS.1) h2]; exact hS.2.1 q h1 h2, fun q hq => by
    rcases List.mem_append.mp hq with hq | hq
    · exact hS.2.2 q hq
    · exact z1 q hq⟩
  obtain ⟨tt, y1, y2⟩ := kk δ ws' T'.heap (locs ++ Lc) v0 w1 (by rw [z2]; exact w2) w3 hS' w6 T' rfl Y'
  exact ⟨tt, z4 tt y1, y2⟩
def mm_okm (k' n : Nat) : Prop := Cond.code (mm_yn k') (mm_cb k') (mm_ml k') (mm_rt k') ∈ mm_tb ∧ Cond.initialized (mm_yn k').cls ∈ mm_tb ∧ (mm_yn k').cls ≠ "java/lang/invoke/MethodHandle" ∧ (mm_yn k').cls ≠ "java/lang/invoke/VarHandle" ∧
  (parseMethodDescriptor (mm_yn k').desc).map (fun d => d.parameters.length) = some n ∧ mm_ml k' ≤ 60 ∧ mm_is k'
theorem mm_callB {p : Program} {e : Env} {R : Room} {s : State} {m : MethodId} {args : Array Value} {meth : Method} {c : Code} {D : va_G} {A : Nat → Prop} {cI cL : ClassId} {φ : List Nat} {k' idx n : Nat} (hc : mm_Cx l k (d + 1) X φ p e R s m args meth c D A cI cL)
    (hm : mm_okm k' n) (hl : Cond.methodLink (mm_yn k).cls idx (mm_yn k') ∈ mm_tb) : CallB R s args (mm_yn k).cls idx (mm_yn k') (mm_cb k') (mm_ml k') (mm_rt k') mm_tb (mm_rm d mc1 ms1) mc1 ms1 n := by
  obtain ⟨a1, a2, a3, a4, a5, a6, a7, a8, a9, a10, a11, a12, a13⟩ := hc
  obtain ⟨m1, m2, m3, m4, m5, m6, -⟩ := hm
  refine ⟨rfl, rfl, by rw [mm_rm_f]; omega, by rw [mm_rm_l]; exact mm_ar m6 a12, fun w h a' U hU => mm_wm (List.mem_filter.mp h).2 hU (a7 w h), m1, a7 _ m1, a7 _ m2, ⟨m3, m4⟩, fun sig hs => ?_, a7 _ hl⟩
  rw [hs] at m5
  exact (Option.some.inj m5).symm
theorem mm_pre {p : Program} {e : Env} {R : Room} {s : State} {m : MethodId} {args : Array Value} {meth : Method} {c : Code} {D : va_G} {A : Nat → Prop} {cI cL : ClassId} {φ : List Nat} {ws : va_W} {avr : List Value} {H : Heap} {locs : List Loc} (hc : mm_Cx l k d X φ p e R s m args meth c D A cI cL)
    (hP : va_P D mm_cl ws H) (hD : va_D A ws) (hS : va_S A s.heap H locs) : PreS s H (mm_P X φ D A cI cL ws avr) avr := by
  obtain ⟨a1, a2, a3, a4, a5, a6, a7, a8, a9, a10, a11⟩ := hc
  refine ⟨mm_P.blind, fun U hU hWm => ⟨rfl, a8.moved hWm.alike, by rw [hU]; exact hP, hD, fun q hq => a9 q (Nat.le_trans hS.1 (by rw [← hU]; exact hq)), a10.move hS hWm.alike hU⟩⟩
theorem mm_callS {k' idx n : Nat} {as S0 : List Value} {v : Option Value} (hd : decode (mm_cb k) pc = .ok (.invokestatic idx, 3)) (hm : mm_okm k' n) (hl : Cond.methodLink (mm_yn k).cls idx (mm_yn k') ∈ mm_tb) (hs : Cond.static (mm_yn k') ∈ mm_tb)
    (hst : S0 = as.reverse ++ S) (hn : as.length = n) (hcat : (as.map fun v => v.category).sum ≤ mm_ml k') (hw : (S.map fun v => v.category).sum ≤ 8)
    (hcall : mm_Call l X k' d as σ mc1 ms1 (.inl v) σ1) (hr : mm_Run l X k (d + 1) (pc + 3) L (v.toList ++ S) σ1 mc ms o σ') : mm_Run l X k (d + 1) pc L S0 σ (mc1 + mc) (ms1 + ms) o σ' := by
  intro p e R s m args below meth c D A cI cL φ hc H locs cells slots ρ ws ls st hW hP hD hS hL hV h1 h2
  subst hst
  obtain ⟨ar, rest, rfl, va1, va2⟩ := hV.split
  have hva := va1.rev
  rw [List.reverse_reverse] at hva
  have hM := mm_met (D := D) (A := A) hm.2.2.2.2.2.2 hcat hc.2.2.2.2.2.2.2.2.2.2.2.2.2.2 hcall hva hW
  refine mm_goes (va_runS ⟨hc.1, hc.2.1, hc.2.2.1, hc.2.2.2.2.2.1, hc.2.2.2.2.2.2.1⟩ hM ⟨mm_callB hc hm hl, hc.2.2.2.2.2.2.1 _ hs⟩ (mm_pre hc hP hD hS) rfl (by rw [hva.len, hn]) hL.1.1 (by rw [List.reverse_reverse]) (by rw [va2.cats]; simpa using hw) hd ⟨by omega, by omega⟩) hS ?_
  intro δ ws' H1 locs1 vr q1 q2 q3 q4 q5
  refine mm_Wmono (fun t h => h.ext (δ := δ) (by omega) (by omega)) (hr hc q1 q2 q3 q4 hL.mono ?_ (by omega) (by omega))
  cases v <;> cases vr <;> first | exact q5.elim | exact va2.mono | exact ⟨q5, va2.mono⟩
theorem mm_callV {k' idx n p0 ci : Nat} {rs : List Value} {as S0 : List Value} {v : Option Value} (hd : decode (mm_cb k) pc = .ok (.invokevirtual idx, 3)) (hm : mm_okm k' n) (hl : Cond.methodLink (mm_yn k).cls idx (mm_yn k') ∈ mm_tb) (hi : Cond.instanceMethod (mm_yn k') ∈ mm_tb)
    (hse : Cond.selects (mm_yn k').cls (mm_yn k') (mm_yn k') ∈ mm_tb) (hkd : mm_kd σ.1 p0 = (2, ci, rs)) (hci : ∃ T N, mm_cl[ci]? = some ((mm_yn k').cls, T, N))
    (hst : S0 = as.reverse ++ .ref p0 :: S) (hn : as.length = n) (hcat : ((Value.ref p0 :: as).map fun v => v.category).sum ≤ mm_ml k') (hw : (S.map fun v => v.category).sum ≤ 8)
    (hcall : mm_Call l X k' d (.ref p0 :: as) σ mc1 ms1 (.inl v) σ1) (hr : mm_Run l X k (d + 1) (pc + 3) L (v.toList ++ S) σ1 mc ms o σ') : mm_Run l X k (d + 1) pc L S0 σ (mc1 + mc) (ms1 + ms) o σ' := by
  intro p e R s m args below meth c D A cI cL φ hc H locs cells slots ρ ws ls st hW hP hD hS hL hV h1 h2
  subst hst
  obtain ⟨ar, rest, rfl, va1, va2⟩ := hV.split
  obtain ⟨_, rest, rfl, hb0, va2n⟩ := va2.cons
  obtain ⟨b, hb, rfl⟩ := id hb0
  have hva := va1.rev
  rw [List.reverse_reverse] at hva
  obtain ⟨E, g1, fs, e1, -⟩ := hW.get hkd (by simp) hb
  subst e1
  obtain ⟨T, N, hT⟩ := hci
  have hM := mm_met (D := D) (A := A) hm.2.2.2.2.2.2 hcat hc.2.2.2.2.2.2.2.2.2.2.2.2.2.2 hcall (avr := .ref b :: ar.reverse) ⟨hb0, hva⟩ hW
  have hpre := mm_pre (avr := .ref b :: ar.reverse) hc hP hD hS
  refine mm_goes (va_runV (C := (mm_yn k').cls) (b := b) ⟨hc.1, hc.2.1, hc.2.2.1, hc.2.2.2.2.2.1, hc.2.2.2.2.2.2.1⟩ hM ⟨mm_callB hc hm hl, hc.2.2.2.2.2.2.1 _ hi, hc.2.2.2.2.2.2.1 _ hse⟩ ⟨hpre.1, ?_, hpre.2⟩ rfl (by rw [hva.len, hn]) hL.1.1 (by rw [List.reverse_reverse]) (by rw [va2n.cats]; simpa using hw) hd ⟨by omega, by omega⟩) hS ?_
  · exact va_recv hc.2.2.2.2.2.2.2.1 hP hT g1
  intro δ ws' H1 locs1 vr q1 q2 q3 q4 q5
  refine mm_Wmono (fun t h => h.ext (δ := δ) (by omega) (by omega)) (hr hc q1 q2 q3 q4 hL.mono ?_ (by omega) (by omega))
  cases v <;> cases vr <;> first | exact q5.elim | exact va2n.mono | exact ⟨q5, va2n.mono⟩
theorem mm_callI {k' idx n p0 : Nat} {as S0 : List Value} (hd : decode (mm_cb k) pc = .ok (.invokespecial idx, 3)) (hm : mm_okm k' n) (hl : Cond.methodLink (mm_yn k).cls idx (mm_yn k') ∈ mm_tb) (hi : Cond.instanceMethod (mm_yn k') ∈ mm_tb)
    (hy : (mm_yn k').name = "<init>") (hrt : mm_rt k' = none) (hst : S0 = as.reverse ++ .ref p0 :: S) (hn : as.length = n) (hcat : ((Value.ref p0 :: as).map fun v => v.category).sum ≤ mm_ml k') (hw : (S.map fun v => v.category).sum ≤ 8)
    (hcall : mm_Call l X k' d (.ref p0 :: as) σ mc1 ms1 (.inl none) σ1) (hr : mm_Run l X k (d + 1) (pc + 3) L S σ1 mc ms o σ') : mm_Run l X k (d + 1) pc L S0 σ (mc1 + mc) (ms1 + ms) o σ' := by
  intro p e R s m args below meth c D A cI cL φ hc H locs cells slots ρ ws ls st hW hP hD hS hL hV h1 h2
  subst hst
  obtain ⟨ar, rest, rfl, va1, va2⟩ := hV.split
  obtain ⟨_, rest, rfl, hb0, va2n⟩ := va2.cons
  obtain ⟨b, hb, rfl⟩ := id hb0
  have hva := va1.rev
  rw [List.reverse_reverse] at hva
  have hM := mm_met (D := D) (A := A) hm.2.2.2.2.2.2 hcat hc.2.2.2.2.2.2.2.2.2.2.2.2.2.2 hcall (avr := .ref b :: ar.reverse) ⟨hb0, hva⟩ hW
  have hcb := mm_callB (mc1 := mc1) (ms1 := ms1) hc hm hl
  rw [hrt] at hcb
  refine mm_goes (va_runI (b := b) ⟨hc.1, hc.2.1, hc.2.2.1, hc.2.2.2.2.2.1, hc.2.2.2.2.2.2.1⟩ hM ⟨hcb, hy, hc.2.2.2.2.2.2.1 _ hi⟩ (mm_pre hc hP hD hS) rfl (by rw [hva.len, hn]) hL.1.1 (by rw [List.reverse_reverse]) (by rw [va2n.cats]; simpa using hw) hd ⟨by omega, by omega⟩) hS ?_
  intro δ ws' H1 locs1 vr q1 q2 q3 q4 q5
  refine mm_Wmono (fun t h => h.ext (δ := δ) (by omega) (by omega)) (hr hc q1 q2 q3 q4 hL.mono ?_ (by omega) (by omega))
  cases vr <;> first | exact q5.elim | exact va2n.mono
/-! private members of a nest mate -/
theorem mm_callBN {p : Program} {e : Env} {R : Room} {s : State} {m : MethodId} {args : Array Value} {meth : Method} {c : Code} {D : va_G} {A : Nat → Prop} {cI cL : ClassId} {φ : List Nat} {k' idx n : Nat} {host : String} (hc : mm_Cx l k (d + 1) X φ p e R s m args meth c D A cI cL)
    (hm : mm_okm k' n) (hl : Cond.methodLinkNest (mm_yn k).cls idx (mm_yn k') host ∈ mm_tb) : va_CN R s args (mm_yn k).cls idx (mm_yn k') host (mm_cb k') (mm_ml k') (mm_rt k') mm_tb (mm_rm d mc1 ms1) mc1 ms1 n := by
  obtain ⟨a1, a2, a3, a4, a5, a6, a7, a8, a9, a10, a11, a12, a13⟩ := hc
  obtain ⟨m1, m2, m3, m4, m5, m6, -⟩ := hm
  refine ⟨⟨rfl, rfl, by rw [mm_rm_f]; omega, by rw [mm_rm_l]; exact mm_ar m6 a12, fun w h a' U hU => mm_wm (List.mem_filter.mp h).2 hU (a7 w h), m1⟩, a7 _ m1, a7 _ m2, ⟨m3, m4⟩, fun sig hs => ?_, a7 _ hl⟩
  rw [hs] at m5
  exact (Option.some.inj m5).symm
theorem mm_callSN {k' idx n : Nat} {as S0 : List Value} {v : Option Value} {host : String} (hd : decode (mm_cb k) pc = .ok (.invokestatic idx, 3)) (hm : mm_okm k' n) (hl : Cond.methodLinkNest (mm_yn k).cls idx (mm_yn k') host ∈ mm_tb) (hs : Cond.static (mm_yn k') ∈ mm_tb)
    (hst : S0 = as.reverse ++ S) (hn : as.length = n) (hcat : (as.map fun v => v.category).sum ≤ mm_ml k') (hw : (S.map fun v => v.category).sum ≤ 8)
    (hcall : mm_Call l X k' d as σ mc1 ms1 (.inl v) σ1) (hr : mm_Run l X k (d + 1) (pc + 3) L (v.toList ++ S) σ1 mc ms o σ') : mm_Run l X k (d + 1) pc L S0 σ (mc1 + mc) (ms1 + ms) o σ' := by
  intro p e R s m args below meth c D A cI cL φ hc H locs cells slots ρ ws ls st hW hP hD hS hL hV h1 h2
  subst hst
  obtain ⟨ar, rest, rfl, va1, va2⟩ := hV.split
  have hva := va1.rev
  rw [List.reverse_reverse] at hva
  have hM := mm_met (D := D) (A := A) hm.2.2.2.2.2.2 hcat hc.2.2.2.2.2.2.2.2.2.2.2.2.2.2 hcall hva hW
  refine mm_goes (va_runSN ⟨hc.1, hc.2.1, hc.2.2.1, hc.2.2.2.2.2.1, hc.2.2.2.2.2.2.1⟩ hM ⟨mm_callBN hc hm hl, hc.2.2.2.2.2.2.1 _ hs, trivial⟩ (mm_pre hc hP hD hS) rfl (by rw [hva.len, hn]) hL.1.1 (by rw [List.reverse_reverse]) (by rw [va2.cats]; simpa using hw) hd ⟨by omega, by omega⟩) hS ?_
  intro δ ws' H1 locs1 vr q1 q2 q3 q4 q5
  refine mm_Wmono (fun t h => h.ext (δ := δ) (by omega) (by omega)) (hr hc q1 q2 q3 q4 hL.mono ?_ (by omega) (by omega))
  cases v <;> cases vr <;> first | exact q5.elim | exact va2.mono | exact ⟨q5, va2.mono⟩
end MMC
end
section
/-! ===== exceptions: thrown, handed on, caught (launches without stack traces) ===== -/
theorem mm_isRef {args : Array Value} {s : State} {C n d : String} {A : Nat → Prop} (h : va_Zq C n d A s s.heap) : (Cond.isRef (.static C n d)).before args s = true := by
  have key : ∀ v : Value, (v = .null ∨ ∃ t, v = .ref t) → va_Z C n d v A s s.heap → (Cond.isRef (.static C n d)).before args s = true := by
    intro v hv hz
    obtain ⟨cf, kf, fi, f, a, cell, h1, h2, h3, h4, h5, h6, h7, h8⟩ := hz
    have hev : (Term.static C n d).eval args s none [] s = some v := by
      simp [Term.eval, State.fieldNamed?, h1, h2, h4, h5, h6, h7]
    rcases hv with rfl | ⟨t, rfl⟩ <;> simp [Cond.before, Cond.holds, Cond.value, hev]
  rcases h with h | ⟨t, h⟩
  · exact key _ (Or.inl rfl) h
  · exact key _ (Or.inr ⟨t, rfl⟩) h
/-- the walk goes on as if it had begun here -/
theorem mm_rebase {p : Program} {l : Launch} {e : Env} {R : Room} {s : State} {m : MethodId} {args : Array Value} {below : List Frame} {meth : Method} {c : Code} {T : State} {locs : List Loc} {cells slots n1 n2 : Nat}
    (Y : Stand p l e R s m args below meth c T locs cells slots) (h1 : cells + n1 ≤ R.cells) (h2 : slots + n2 ≤ R.slots) :
    Stand p l e { R with cells := n1, slots := n2 } (T.setFrames (.invoking m args :: below)) m args below meth c T [] 0 0 := by
  obtain ⟨g₀, hfr⟩ := Y.frames_eq
  have hcur : T.cur < T.threads.size := State.cur_lt_of_frames hfr
  have hF : (T.setFrames (.invoking m args :: below)).frames = .invoking m args :: below := State.frames_setFrames _ hcur
  have hlim : e.platform.stackLimits (T.setFrames (.invoking m args :: below)).me = e.platform.stackLimits s.me := by rw [State.stackLimits_setFrames]; exact Y.limits
  have hbyt : (T.setFrames (.invoking m args :: below)).me.stackBytes = s.me.stackBytes := by rw [State.stackBytes_setFrames]; exact Y.bytes
  have hloc : (T.setFrames (.invoking m args :: below)).localsInUse = s.localsInUse := by
    rw [State.localsInUse_invoking hF (show (T.setFrames _).vm.method? m = some meth from Y.method') Y.code, State.localsInUse_invoking Y.frames Y.method Y.code]
  obtain ⟨th, hth, hthf⟩ := State.frames_cons hfr
  refine ⟨Y.admits, Y.cas, Y.clock, hF, ?_, ?_, Y.method', Y.code, Y.here, Y.tail, State.WarmedH.refl _, ?_, ?_, ?_⟩
  · have hr := Y.room
    have hcA := Y.cellsAbove h1
    have hsA := Y.slotsAbove h2
    have hbk := Y.book
    simp only [State.hasRoom, Bool.and_eq_true, decide_eq_true_eq] at hr ⊢
    refine ⟨⟨⟨⟨?_, ?_, ?_, ?_, ?_, ?_⟩, hcA⟩, hsA⟩, hbk⟩
    · rw [hloc]; exact hr.1.1.1.1
    · rw [hF, ← Y.frames]; exact hr.1.1.1.2.1
    · rw [hlim, hF, ← Y.frames]; exact hr.1.1.1.2.2.1
    · rw [hloc]; exact hr.1.1.1.2.2.2.1
    · rw [hloc, hlim]; exact hr.1.1.1.2.2.2.2.1
    · rw [hbyt]; exact hr.1.1.1.2.2.2.2.2
  · have hh := Y.hears
    rcases below with _ | ⟨y, r⟩
    · simp only [State.hears] at hh ⊢
      rw [show (T.setFrames _).vm = T.vm from rfl, Y.method']
      rw [Y.method] at hh
      exact hh
    · cases y
      case java g =>
        simp only [State.hears, State.code?_eq] at hh ⊢
        rw [show (T.setFrames _).vm = T.vm from rfl, Y.warmed.alike.method?]
        exact hh
      case native g => rfl
      case proc g => rfl
      all_goals
        simp only [State.hears] at hh ⊢
        rw [show (T.setFrames _).vm = T.vm from rfl, Y.method']
        rw [Y.method] at hh
        exact hh
  · rw [State.stackLimits_setFrames]
  · rw [State.stackBytes_setFrames]
  · have hq := (State.sameButNew.refl (T.setFrames (.invoking m args :: below)) (State.frames_cons hF).choose_spec.1).setFrames T.frames (State.cur_lt_of_frames hF)
    rw [State.setFrames_setFrames, State.setFrames_self hth] at hq
    exact hq
section MMT
variable {l : Launch} {X : Nat × (Nat → Int32)} {k d pc : Nat} {L S : List Value} {σ σ1 σ' : mm_S} {mc ms mc1 ms1 : Nat} {o : mm_O}
theorem mm_throw {E text : String} {ix isx ic : Nat} {names : List String} (hd0 : decode (mm_cb k) pc = .ok (.new ix, 3)) (hd3 : decode (mm_cb k) (pc + 3) = .ok (.dup, 1)) (hd4 : decode (mm_cb k) (pc + 4) = .ok (.ldc isx, 2)) (hd6 : decode (mm_cb k) (pc + 6) = .ok (.invokespecial ic, 3)) (hd9 : decode (mm_cb k) (pc + 9) = .ok (.athrow, 1))
    (w1 : Cond.classLink (mm_yn k).cls ix E ∈ mm_tb) (w2 : Cond.instantiable E 6 ∈ mm_tb) (w3 : Cond.initialized E ∈ mm_tb) (w4 : Cond.stringRef (mm_yn k).cls isx text ∈ mm_tb)
    (w5 : ∀ w ∈ Bundle.ownAtoms (mm_yn k).cls ic E names, w ∈ mm_tb ∨ w = .isRef (.static Bundle.tN "UNASSIGNED_STACK" Bundle.steD) ∨ w = .isRef (.static Bundle.tN "SUPPRESSED_SENTINEL" Bundle.listD) ∨ w = .laysStatic Bundle.tN "UNASSIGNED_STACK" Bundle.steD ∨ w = .laysStatic Bundle.tN "SUPPRESSED_SENTINEL" Bundle.listD)
    (hE : Bundle.fit E = true) (hN : ∀ n ∈ names, Bundle.fit n = true) (hl : names.length ≤ 4) (hh : mm_ht k = []) : mm_Run l X k d pc L [] σ 1 6 (.inr E) σ := by
  intro p e R s m args below meth c D A cI cL φ hc H locs cells slots ρ ws ls st hW hP hD hS hL hV h1 h2
  cases st with
  | cons _ _ => exact hV.elim
  | nil =>
  intro T hT Y
  have Y0 := mm_rebase Y h1 h2
  generalize hs0 : T.setFrames (.invoking m args :: below) = s0 at Y0
  have hheap0 : s0.heap = H := by rw [← hs0]; exact hT
  have hvm0 : s0.vm = T.vm := by rw [← hs0]; rfl
  have hts : ∀ w ∈ mm_tb, w.before args s0 = true := fun w h => mm_wm (List.mem_filter.mp h).2 (by rw [hvm0]; exact Y.warmed) (hc.2.2.2.2.2.2.1 w h)
  have hal : s.vm.Alike s0.vm := by rw [hvm0]; exact Y.warmed.alike
  have hown : s0.vm.findClass (mm_yn k).cls = some m.cls := by rw [hal.findClass]; exact hc.2.2.2.2.2.1
  have hz := (hc.2.2.2.2.2.2.2.2.2.1).move hS hal hheap0
  have hb := hc.2.1
  have htab : c.exceptionTable.toList = [] := by
    have := hc.2.2.2.2.2.2.2.2.2.2.2.2.2.1
    rw [hh] at this
    simpa using this
  have key : W p l e { R with cells := 1, slots := 6 } s0 m args below meth c H [] 0 0 (fun U => U.status = .running ∧ Ended U below (.threw H.size) ∧ s0.WarmedH U.vm ∧ s0.sameButNew ({ U with vm := s0.vm } : State) [] 1 6 ∧ ∃ ce, U.heap[H.size]? = some ce ∧ ce.vm = .none ∧ s0.vm.findClass E = some ce.cls) (F0 m pc ls []) := by
    refine W.newc (n := 6) hc.1 hb hown (hts _ w1) (hts _ w2) (hts _ w3) rfl hd0 (Nat.le_refl _) (Nat.le_refl _) fun cC kC f1 f2 f3 f4 => ?_
    refine lv_dup hc.1 hb hd3 rfl ?_
    intro T1 hT1 Y1
    obtain ⟨kk, cf, i, a', -, -, -, -, -, hev⟩ := Cond.stringRef_spec hown (hts _ w4)
    have st1 := Y1.ldcString hc.1 hown (hts _ w4) hev (g := F0 m (pc + 3 + 1) ls (.ref H.size :: .ref H.size :: [])) rfl (by rw [hb]; exact hd4)
    obtain ⟨U, u1, u2, u3, u4, u5, ce, u6, u7⟩ := Y1.ctorThrowS hc.1 (hc.2.2.2.2.2.2.2.2.2.2.2.2.2.2 e Y.admits) (own := (mm_yn k).cls) (cls := E) (names := names) (ic := ic) hown hE hN
      (fun w hw => by
        rcases w5 w hw with h | rfl | rfl | rfl | rfl
        · exact hts _ h
        · exact mm_isRef hz.2.2.2.1
        · exact mm_isRef hz.2.2.2.2.1
        · exact hz.2.2.2.2.2.2.1.use
        · exact hz.2.2.2.2.2.2.2.use)
      (fun x hx => by cases hx)
      (a := H.size) f1 f2 (by rw [hT1]; simp) (by rw [hheap0]; exact Nat.le_refl _) (msg := .ref a') rfl (g := F0 m (pc + 6) ls (.ref a' :: .ref H.size :: .ref H.size :: [])) rfl (hL.1.1.trans hc.2.2.1.symm) rfl rfl rfl (by rw [hb]; exact hd6) (by rw [hb]; exact hd9) (by rw [htab]; intro x hx; cases hx)
      (by have := hc.2.2.2.2.2.2.2.2.2.2.1; show _ < R.frames; omega) (by have := hc.2.2.2.2.2.2.2.2.2.2.2.1; show _ ≤ R.locals; simp [Value.category]; omega) hc.2.2.2.2.1
    exact ⟨U, st1 U u1, u2, u3, u4, u5, ce, u6, u7.vm, u7.cls⟩
  obtain ⟨U, u1, u2, u3, u4, u5, ce, u6, u7, u8⟩ := key T hT Y0
  have hsame : s.sameButNew ({ U with vm := s.vm } : State) locs (cells + 1) (slots + 6) := by
    have q1 : T.sameButNew ({ U with vm := T.vm } : State) [] 1 6 := by
      obtain ⟨e1, e2⟩ := u5
      subst hs0
      rw [State.setFrames_setFrames] at e1
      exact ⟨e1, e2⟩
    have q2 := Y.same.trans (q1.setVm s.vm)
    rw [List.append_nil] at q2
    exact q2
  have hkeep : ∀ q, q < H.size → U.heap[q]? = H[q]? := by
    intro q hq
    obtain ⟨c', c1, c2, c3, c4⟩ := u5.2.2.2.2.2 q _ (by rw [hheap0]; exact Array.getElem?_eq_getElem hq)
    have c1' : U.heap[q]? = some c' := c1
    rw [c1', Array.getElem?_eq_getElem hq]
    congr 1
    rw [c2]
    have : c'.slots = (H[q]).slots := by
      apply Array.ext_getElem?
      intro i
      exact c4 i (by simp)
    rw [this]
  have hsz : H.size ≤ U.heap.size := by have := u5.2.1; rw [hheap0] at this; exact this
  refine ⟨U, u1, .threw H.size, [], ws, locs, u2, u3, ?_, ?_, hD, ?_, ?_, hsame, H.size, ce, rfl, u6, u7, ?_⟩
  · rw [List.append_nil]; exact hW
  · intro i q hq
    exact (hP i q hq).kept (hkeep _ (hP i q hq).lt)
  · exact ⟨Nat.le_trans hS.1 hsz, fun q q1 q2 => by rw [hkeep q (Nat.lt_of_lt_of_le q1 hS.1)]; exact hS.2.1 q q1 q2, hS.2.2⟩
  · have : T.WarmedH U.vm := by subst hs0; exact u4
    exact State.WarmedH.trans Y.warmed this
  · rw [← hal.findClass]; exact u8
end MMT
end
section
/-! ===== calls that throw: handed on; caught ===== -/
section MMH
variable {l : Launch} {X : Nat × (Nat → Int32)} {k d pc : Nat} {L S : List Value} {σ σ1 σ' : mm_S} {mc ms mc1 ms1 : Nat} {o : mm_O}
def mm_PreT (R : Room) (mc ms : Nat) (Pc : Array Value → State → Prop) : Pt → Array Value → Prop := fun B a => B.cells + mc ≤ R.cells ∧ B.slots + ms ≤ R.slots ∧ Pc a B.U
def mm_PostT (Qc : Array Value → State → Outcome → State → Prop) (mc ms : Nat) (free : Addr → Prop) : Pt → Array Value → Addr → Pt → Prop := fun B a x C =>
  ∃ (g : JFrame) (mk : MethodId) (t : State) (Lc : List Loc), C.U.heap = t.heap ∧ C.U.vm = t.vm ∧ Qc a (B.U.calling g mk a) (.threw x) t ∧ C.locs = B.locs ++ Lc ∧ (∀ q ∈ Lc, free q.base) ∧ C.cells = B.cells + mc ∧ C.slots = B.slots + ms
theorem mm_backT {p : Program} {e : Env} {R : Room} {s : State} {m : MethodId} {args : Array Value} {below : List Frame} {meth : Method} {c : Code} {D : va_G} {A : Nat → Prop} {cI cL : ClassId} {φ ρ : List Nat} {k' n : Nat} {as avr : List Value} {ws : va_W} {E : String}
    (hc : mm_Cx l k (d + 1) X φ p e R s m args meth c D A cI cL) (hm : mm_okm k' n) (hcat : (as.map fun v => v.category).sum ≤ mm_ml k') (hcall : mm_Call l X k' d as σ mc1 ms1 (.inr E) σ1) (hv : mm_Vs φ ρ as avr) (hW : mm_W φ ρ cI cL σ ws) :
    BackT l R p e below s args (mm_yn k') 3 8 (mm_PreT R mc1 ms1 (mm_P X φ D A cI cL ws avr)) (mm_PostT (mm_QO φ ρ D A cI cL (.inr E) σ1) mc1 ms1 A) := by
  obtain ⟨m1, m2, m3, m4, m5, m6, m7⟩ := hm
  obtain ⟨a1, a2, a3, a4, a5, a6, a7, a8, a9, a10, a11, a12, a13, a14, a15⟩ := hc
  have hM := mm_free (D := D) (A := A) m7 hcat a15 hcall hv hW
  have hwd : ∀ w ∈ mm_tb, ∀ (a' : Array Value) (U : State), s.WarmedH U.vm → w.before a' U = true := fun w h a' U hU => mm_wm (List.mem_filter.mp h).2 hU (a7 w h)
  refine BackT.of_free (bytes := mm_cb k') (maxL := mm_ml k') (ret := mm_rt k') (E := fun _ _ _ _ Lc k n => k = mc1 ∧ n = ms1 ∧ ∀ q ∈ Lc, A q.base) hM (by show (mm_rm d mc1 ms1).frames + 1 ≤ _; rw [mm_rm_f]; omega) (by show 8 + (mm_ml k' + 11) + (mm_rm d mc1 ms1).locals ≤ _; rw [mm_rm_l]; exact mm_ar m6 a12) ?_ ?_ (fun _ _ _ _ _ _ _ _ _ => trivial) ?_ ?_
  · intro m meth c B a Y hp
    exact ⟨atoms_intro fun w hw => hwd w hw _ _ Y.warmed, hwd _ m1 _ _ Y.warmed, hwd _ m2 _ _ Y.warmed, hp.1, hp.2.1⟩
  · intro m meth c B a g mk Y hp
    exact mm_P.blind _ _ _ _ hp.2.2
  · intro a st oc t ⟨q, Lc, z1, z2, z3⟩
    refine ⟨Lc, mc1, ms1, ⟨?_, z1, z2⟩, rfl, rfl, z3⟩
    obtain ⟨δ, ws', -, -, -, -, x, ce, hx, -⟩ := q
    exact ⟨x, hx⟩
  · intro m meth c B a g mk v t Lc kc n Y hp hq hF ⟨e1, e2, e3⟩
    subst e1; subst e2
    exact ⟨g, mk, t, Lc, rfl, rfl, hq.1, rfl, e3, rfl, rfl⟩
/-- the state behind a call that has thrown -/
def mm_Thrown (l : Launch) (X : Nat × (Nat → Int32)) (k d pc : Nat) (L S : List Value) (σ : mm_S) (mc ms : Nat) (E : String) (σ1 : mm_S) : Prop :=
  ∀ ⦃p : Program⦄ ⦃e : Env⦄ ⦃R : Room⦄ ⦃s : State⦄ ⦃m : MethodId⦄ ⦃args : Array Value⦄ ⦃below : List Frame⦄ ⦃meth : Method⦄ ⦃c : Code⦄ ⦃D : va_G⦄ ⦃A : Nat → Prop⦄ ⦃cI cL : ClassId⦄ ⦃φ : List Nat⦄,
    mm_Cx l k d X φ p e R s m args meth c D A cI cL →
    ∀ ⦃H : Heap⦄ ⦃locs : List Loc⦄ ⦃cells slots : Nat⦄ ⦃ρ : List Nat⦄ ⦃ws : va_W⦄ ⦃ls : Array Slot⦄ ⦃st : List Value⦄,
      mm_W φ ρ cI cL σ ws → va_P D mm_cl ws H → va_D A ws → va_S A s.heap H locs → mm_L φ ρ L ls (mm_ml k) → mm_Vs φ ρ S st → cells + mc ≤ R.cells → slots + ms ≤ R.slots →
      ∀ T : State, T.heap = H → Stand p l e R s m args below meth c T locs cells slots →
        ∃ (x : Addr) (T' : State) (locs' : List Loc) (δ : List Nat) (ws' : va_W) (ce : Cell) (rest : List Value), Stand p l e R s m args below meth c T' locs' (cells + mc) (slots + ms) ∧ mm_W φ (ρ ++ δ) cI cL σ1 ws' ∧ va_P D mm_cl ws' T'.heap ∧ va_D A ws' ∧ va_S A s.heap T'.heap locs' ∧
          T'.heap[x]? = some ce ∧ ce.vm = .none ∧ s.vm.findClass E = some ce.cls ∧ Steps p.tables e below (T.setTop (F0 m pc ls st)) ((T'.setTop (F0 m pc ls rest)).pushFrame (.throwing x))
theorem mm_thrown_out {E : String} (h : mm_Thrown l X k d pc L S σ mc ms E σ1) (hh : mm_ht k = []) : mm_Run l X k d pc L S σ mc ms (.inr E) σ1 := by
  intro p e R s m args below meth c D A cI cL φ hc H locs cells slots ρ ws ls st hW hP hD hS hL hV h1 h2 T hT Y
  obtain ⟨x, T', locs', δ, ws', ce, rest, Y', q1, q2, q3, q4, q5, q6, q7, q8⟩ := h hc hW hP hD hS hL hV h1 h2 T hT Y
  have htab : c.exceptionTable.toList = [] := by
    have := hc.2.2.2.2.2.2.2.2.2.2.2.2.2.1
    rw [hh] at this
    simpa using this
  obtain ⟨z1, z2, z3, z4, z5⟩ := Y'.leaveThrown x (g := F0 m pc ls rest) rfl rfl rfl (by rw [htab]; intro y hy; cases hy) hc.2.2.2.2.1
  exact ⟨_, q8.trans z1, .threw x, δ, ws', locs', z2, z3, q1, q2, q3, q4, z4, z5, x, ce, rfl, q5, q6, q7⟩
theorem mm_callST {k' idx n : Nat} {as S0 : List Value} {E : String} (hd : decode (mm_cb k) pc = .ok (.invokestatic idx, 3)) (hm : mm_okm k' n) (hl : Cond.methodLink (mm_yn k).cls idx (mm_yn k') ∈ mm_tb) (hs : Cond.static (mm_yn k') ∈ mm_tb)
    (hst : S0 = as.reverse ++ S) (hn : as.length = n) (hcat : (as.map fun v => v.category).sum ≤ mm_ml k') (hw : (S.map fun v => v.category).sum ≤ 8)
    (hcall : mm_Call l X k' d as σ mc ms (.inr E) σ1) : mm_Thrown l X k (d + 1) pc L S0 σ mc ms E σ1 := by
  intro p e R s m args below meth c D A cI cL φ hc H locs cells slots ρ ws ls st hW hP hD hS hL hV h1 h2 T hT Y
  subst hst
  obtain ⟨ar, rest, rfl, va1, va2⟩ := hV.split
  have hva := va1.rev
  rw [List.reverse_reverse] at hva
  have hK := mm_backT (below := below) hc hm hcat hcall hva hW
  have hts := hc.2.2.2.2.2.2.1
  obtain ⟨m1, m2, m3, m4, m5, m6, m7⟩ := id hm
  obtain ⟨mk, hnamed⟩ := Cond.code_named (hts _ m1)
  obtain ⟨methM, cM, hmethM, -, -, -, -, -, -, hsigM⟩ := Cond.code_spec hnamed (hts _ m1)
  have hpre := mm_pre (avr := ar.reverse) hc hP hD hS
  obtain ⟨x, vm₁, B, hW₁, Y', ⟨g', mk', t, Lc, b1, b2, ⟨δ, ws', w1, w2, w3, w4, x', ce, w5, w6, w7, w8⟩, b3, b4, b5, b6⟩, hst⟩ :=
    Y.staticThrows hc.1 hc.2.2.2.2.2.1 (hts _ hl) (hts _ hs) (hts _ m2) hnamed hmethM hsigM ⟨m3, m4⟩ hK (g := F0 m pc ls (ar ++ rest)) rfl (hL.1.1.trans hc.2.2.1.symm) (Steps.refl _) (argsL := ar.reverse) (rest := rest)
      (fun sig hsig => by rw [hva.len, hn]; rw [hsig] at m5; exact (Option.some.inj m5).symm) (by rw [List.reverse_reverse]) (by show 2 * 0 + _ ≤ 8; rw [va2.cats]; simpa using hw) (by rw [hc.2.1]; exact hd)
      (fun vm₁ hW₁ => ⟨h1, h2, hpre.2 (T.setVm vm₁) hT hW₁⟩)
  cases w5
  obtain ⟨w9, w10⟩ := w4
  have hTh : ((T.setVm vm₁).calling g' mk' ar.reverse.toArray).heap = H := hT
  have w8' : s.vm.findClass E = some ce.cls := by
    have : ((T.setVm vm₁).calling g' mk' ar.reverse.toArray).vm.findClass E = some ce.cls := w8
    rw [show ((T.setVm vm₁).calling g' mk' ar.reverse.toArray).vm = vm₁ from rfl] at this
    rw [← hW₁.alike.findClass]; exact this
  simp only [Pt.U, Pt.locs, Pt.cells, Pt.slots] at b1 b2 b3 b5 b6 Y' hst w9 w10
  rw [hTh] at w9 w10
  refine ⟨x, B.1, locs ++ Lc, δ, ws', ce, rest, ?_, w1, by rw [b1]; exact w2, w3, ?_, by rw [b1]; exact w6, w7, w8', hst⟩
  · rw [← b3, ← b5, ← b6]; exact Y'
  · exact ⟨Nat.le_trans hS.1 (by rw [b1]; exact w9), fun q q1 q2 => by rw [b1, w10 q (Nat.lt_of_lt_of_le q1 hS.1) q2]; exact hS.2.1 q q1 q2, fun q hq => by
      rcases List.mem_append.mp hq with hq | hq
      · exact hS.2.2 q hq
      · exact b4 q hq⟩
theorem mm_callVT {k' idx n p0 ci : Nat} {rs : List Value} {as S0 : List Value} {E : String} (hd : decode (mm_cb k) pc = .ok (.invokevirtual idx, 3)) (hm : mm_okm k' n) (hl : Cond.methodLink (mm_yn k).cls idx (mm_yn k') ∈ mm_tb) (hi : Cond.instanceMethod (mm_yn k') ∈ mm_tb)
    (hse : Cond.selects (mm_yn k').cls (mm_yn k') (mm_yn k') ∈ mm_tb) (hkd : mm_kd σ.1 p0 = (2, ci, rs)) (hci : ∃ T N, mm_cl[ci]? = some ((mm_yn k').cls, T, N))
    (hst : S0 = as.reverse ++ .ref p0 :: S) (hn : as.length = n) (hcat : ((Value.ref p0 :: as).map fun v => v.category).sum ≤ mm_ml k') (hw : (S.map fun v => v.category).sum ≤ 8)
    (hcall : mm_Call l X k' d (.ref p0 :: as) σ mc ms (.inr E) σ1) : mm_Thrown l X k (d + 1) pc L S0 σ mc ms E σ1 := by
  intro p e R s m args below meth c D A cI cL φ hc H locs cells slots ρ ws ls st hW hP hD hS hL hV h1 h2 T hT Y
  subst hst
  obtain ⟨ar, rest0, rfl, va1, va2⟩ := hV.split
  obtain ⟨_, rest, rfl, hb0, va2n⟩ := va2.cons
  obtain ⟨b, hb, rfl⟩ := id hb0
  have hva := va1.rev
  rw [List.reverse_reverse] at hva
  obtain ⟨Ec, g1, fs, e1, -⟩ := hW.get hkd (by simp) hb
  subst e1
  obtain ⟨TT, N, hTT⟩ := hci
  obtain ⟨cellB, hcB, hoB, hclB⟩ := va_recv hc.2.2.2.2.2.2.2.1 hP hTT g1
  have hK := mm_backT (below := below) hc hm hcat hcall (avr := .ref b :: ar.reverse) ⟨hb0, hva⟩ hW
  have hts := hc.2.2.2.2.2.2.1
  obtain ⟨m1, m2, m3, m4, m5, m6, m7⟩ := id hm
  have hpre := mm_pre (avr := .ref b :: ar.reverse) hc hP hD hS
  obtain ⟨mk, methM, hnamed, hmethM, hstM, habM⟩ := Cond.instanceMethod_spec (hts _ hi)
  obtain ⟨methM', cM, hmethM', -, -, -, -, -, -, hsigM⟩ := Cond.code_spec hnamed (hts _ m1)
  cases hmethM.symm.trans hmethM'
  obtain ⟨c2, r2, m2', q1, q2, q3, q4, kP, hkP, hkPi⟩ := Cond.selects_spec (hts _ hse)
  cases hclB.symm.trans q1
  cases (State.methodFound?_of_named hnamed ⟨m3, m4⟩).symm.trans q2
  cases hnamed.symm.trans q3
  have hselP : selectMethod e.platform s.vm cellB.cls mk = .method mk := by rw [Launch.admits_selectMethod Y.admits]; exact q4
  have hlen : ar.reverse.length = methM.sig.parameters.length := by
    rw [hva.len, hn]; rw [hsigM] at m5; exact (Option.some.inj m5).symm
  obtain ⟨vm₁, X₁, hstep₁⟩ := Y.invokevirtual hc.1 hc.2.2.2.2.2.1 (hts _ hl) hnamed hmethM hstM hkP hkPi ⟨m3, m4⟩ (a := b) (cell := cellB) (by rw [hT]; exact hcB)
    (fun z h => by rw [h] at hoB; cases hoB) hselP hmethM habM hkP hkPi (g := F0 m pc ls (ar ++ .ref b :: rest)) rfl (argsL := ar.reverse) (rest := rest) hlen (by rw [List.reverse_reverse]) (by rw [hc.2.1]; exact hd)
  obtain ⟨x, B, Y', ⟨g', mk', t, Lc, b1, b2, ⟨δ, ws', w1, w2, w3, w4, x', ce, w5, w6, w7, w8⟩, b3, b4, b5, b6⟩, hsteps⟩ :=
    hK m meth c ⟨T.setVm vm₁, locs, cells, slots⟩ (F0 m pc ls rest) (.invokevirtual idx) mk (Value.ref b :: ar.reverse).toArray X₁ rfl (hL.1.1.trans hc.2.2.1.symm) (by rw [hc.2.1]; exact hd) (by show 2 * 0 + _ ≤ 8; rw [va2n.cats]; simpa using hw) (X₁.named hnamed) ⟨h1, h2, hpre.2 (T.setVm vm₁) hT X₁.warmed⟩
  cases w5
  obtain ⟨w9, w10⟩ := w4
  have hTh : ((T.setVm vm₁).calling g' mk' (Value.ref b :: ar.reverse).toArray).heap = H := hT
  have w8' : s.vm.findClass E = some ce.cls := by
    have : ((T.setVm vm₁).calling g' mk' (Value.ref b :: ar.reverse).toArray).vm.findClass E = some ce.cls := w8
    rw [show ((T.setVm vm₁).calling g' mk' (Value.ref b :: ar.reverse).toArray).vm = vm₁ from rfl] at this
    rw [← X₁.warmed.alike.findClass]; exact this
  simp only [Pt.U, Pt.locs, Pt.cells, Pt.slots] at b1 b2 b3 b5 b6 Y' hsteps w9 w10
  rw [hTh] at w9 w10
  refine ⟨x, B.1, locs ++ Lc, δ, ws', ce, rest, ?_, w1, by rw [b1]; exact w2, w3, ?_, by rw [b1]; exact w6, w7, w8', ?_⟩
  · rw [← b3, ← b5, ← b6]; exact Y'
  · exact ⟨Nat.le_trans hS.1 (by rw [b1]; exact w9), fun q q1 q2 => by rw [b1, w10 q (Nat.lt_of_lt_of_le q1 hS.1) q2]; exact hS.2.1 q q1 q2, fun q hq => by
      rcases List.mem_append.mp hq with hq | hq
      · exact hS.2.2 q hq
      · exact b4 q hq⟩
  · exact hstep₁ _ fun acts => by rw [doInvoke_state]; exact hsteps
theorem mm_caught {i : Nat} {pre rest : List (Nat × Nat × Nat × Nat)} {sp ep hp ct : Nat} {mc2 ms2 : Nat} (h : mm_Thrown l X k d pc L S σ mc ms (mm_ex i) σ1) (hi : i < 3) (hsplit : mm_ht k = pre ++ (sp, ep, hp, ct) :: rest)
    (hpass : ∀ y ∈ pre, y.2.2.2 ≠ 0 ∧ ∃ j, j < 3 ∧ i ≠ j ∧ Cond.classLink (mm_yn k).cls y.2.2.2 (mm_ex j) ∈ mm_tb) (hx : sp ≤ pc ∧ pc < ep) (h0 : ct ≠ 0) (hlink : Cond.classLink (mm_yn k).cls ct (mm_ex i) ∈ mm_tb) (hcast : Cond.castable (mm_ex i) (mm_ex i) ∈ mm_tb)
    (hr : mm_Run l X k d hp L [.null] σ1 mc2 ms2 o σ') : mm_Run l X k d pc L S σ (mc + mc2) (ms + ms2) o σ' := by
  intro p e R s m args below meth c D A cI cL φ hc H locs cells slots ρ ws ls st hW hP hD hS hL hV h1 h2 T hT Y
  obtain ⟨x, T', locs', δ, ws', ce, rest', Y', q1, q2, q3, q4, q5, q6, q7, q8⟩ := h hc hW hP hD hS hL hV (by omega) (by omega) T hT Y
  have hts := hc.2.2.2.2.2.2.1
  have hown := hc.2.2.2.2.2.1
  have hpl : e.platform.magicAccessors = ({} : Platform).magicAccessors := by rw [Y.admits.platform]
  have htab := hc.2.2.2.2.2.2.2.2.2.2.2.2.2.1
  rw [hsplit] at htab
  obtain ⟨pre', l2, t1, t2, t3⟩ := List.map_eq_append_iff.mp htab
  obtain ⟨x0, rest0, t4, t5, t6⟩ := List.map_eq_cons_iff.mp t3
  subst t4
  have hself : s.vm.assignable ce.cls ce.cls = true := by
    obtain ⟨c1, c2, z1, z2, z3⟩ := Cond.castable_spec (hts _ hcast)
    cases q7.symm.trans z1
    cases q7.symm.trans z2
    exact z3
  have hx0 : x0.startPc = sp ∧ x0.endPc = ep ∧ x0.handlerPc = hp ∧ x0.catchType = ct := by
    simp only [Prod.mk.injEq] at t5
    exact t5
  obtain ⟨z1, z2⟩ := Y'.catches_of_link hown (x := x0) (by rw [hx0.2.2.2]; exact h0) (name := mm_ex i) (by rw [hx0.2.2.2]; exact hts _ hlink) q7 hself
  have hpa : ∀ y ∈ pre', RowPassed e.platform s m.cls (F0 m pc ls rest').pc ce.cls y := by
    intro y hy
    obtain ⟨y1, j, y2, y3, y4⟩ := hpass (y.startPc, y.endPc, y.handlerPc, y.catchType) (by rw [← t2]; exact List.mem_map_of_mem hy)
    obtain ⟨c', hc', hcl⟩ := Cond.classLink_spec hown (hts _ y4) e.platform hpl
    obtain ⟨cA, cB, n1, n2, n3⟩ := hc.2.2.2.2.2.2.2.2.2.1.2.2.2.2.2.1 i j hi y2 y3
    cases q7.symm.trans n1
    cases hc'.symm.trans n2
    exact Or.inr ⟨y1, c', hcl, n3⟩
  obtain ⟨vm', Y2, st2⟩ := Y'.thenCaughtThrough x (g := F0 m pc ls rest') rfl q8 q5 (by rw [q6]; rfl) z2 pre' x0 rest0 t1 hpa (by simp [covers, hx0.1, hx0.2.1, hx.1, hx.2]) z1
  have hgo := hr hc (H := T'.heap) (below := below) (cells := cells + mc) (slots := slots + ms) (st := [.ref x]) q1 q2 q3 q4 hL.mono ⟨⟨x, rfl⟩, trivial⟩ (by omega) (by omega)
  obtain ⟨tt, y1, y2⟩ := hgo (T'.setVm vm') rfl Y2
  refine ⟨tt, st2.trans ?_, mm_Q.ext (δ := δ) y2 (by omega) (by omega)⟩
  rw [hx0.2.2.1]
  exact y1
end MMH
end
section
/-! ===== constants, switches, making cells, constructors, methods with handlers ===== -/
section MMN
variable {l : Launch} {X : Nat × (Nat → Int32)} {k d pc : Nat} {L S : List Value} {σ σ1 σ' : mm_S} {mc ms mc1 ms1 : Nat} {o : mm_O}
theorem mm_ldc2 {idx : Nat} {v : Int64} (hd : decode (mm_cb k) pc = .ok (.ldc2_w idx, 3)) (hw : Cond.constantLong (mm_yn k).cls idx v ∈ mm_tb) (hr : mm_Run l X k d (pc + 3) L (.long v :: S) σ mc ms o σ') : mm_Run l X k d pc L S σ mc ms o σ' := by
  refine mm_simple (fun hc hL hS kk => ?_) hr
  exact W.ldc2 hc.1 hc.2.1 hc.2.2.2.2.2.1 (hc.2.2.2.2.2.2.1 _ hw) rfl hd (kk _ _ hL ⟨rfl, hS⟩)
theorem mm_tableIn {dflt lo hi : Int} {offs : Array Int} {len : Nat} {x : Int32} {off : Int} {tgt : Nat} (hd : decode (mm_cb k) pc = .ok (.tableswitch dflt lo hi offs, len)) (h1 : ¬ x.toInt < lo) (h2 : ¬ hi < x.toInt) (ho : offs[(x.toInt - lo).toNat]? = some off) (ht : (pc : Int) + off = (tgt : Int))
    (hr : mm_Run l X k d tgt L S σ mc ms o σ') : mm_Run l X k d pc L (.int x :: S) σ mc ms o σ' := by
  refine mm_simple (fun hc hL hS kk => ?_) hr
  obtain ⟨_, st, rfl, rfl, hS1⟩ := hS.cons
  exact lv_tableIn hc.1 hc.2.1 hd h1 h2 ho ht (kk _ _ hL hS1)
theorem mm_tableOut {dflt lo hi : Int} {offs : Array Int} {len : Nat} {x : Int32} {tgt : Nat} (hd : decode (mm_cb k) pc = .ok (.tableswitch dflt lo hi offs, len)) (h : x.toInt < lo ∨ hi < x.toInt) (ht : (pc : Int) + dflt = (tgt : Int))
    (hr : mm_Run l X k d tgt L S σ mc ms o σ') : mm_Run l X k d pc L (.int x :: S) σ mc ms o σ' := by
  refine mm_simple (fun hc hL hS kk => ?_) hr
  obtain ⟨_, st, rfl, rfl, hS1⟩ := hS.cons
  exact lv_tableOut hc.1 hc.2.1 hd h ht (kk _ _ hL hS1)
theorem mm_lookup {dflt : Int} {ps : Array (Int × Int)} {len : Nat} {x : Int32} {off : Int} {tgt : Nat} (hd : decode (mm_cb k) pc = .ok (.lookupswitch dflt ps, len)) (hp : (ps.toList.zip (ps.toList.drop 1)).all (fun (a, next) => a.1 < next.1) = true) (ho : Op.lookupswitch.offset ps.toList dflt x.toInt = off) (ht : (pc : Int) + off = (tgt : Int))
    (hr : mm_Run l X k d tgt L S σ mc ms o σ') : mm_Run l X k d pc L (.int x :: S) σ mc ms o σ' := by
  refine mm_simple (fun hc hL hS kk => ?_) hr
  obtain ⟨_, st, rfl, rfl, hS1⟩ := hS.cons
  exact lv_lookup hc.1 hc.2.1 hd hp ho ht (kk _ _ hL hS1)
/-! cells that are made -/
theorem mm_C.mono {φ ρ δ : List Nat} {cI cL : ClassId} {M : mm_M} {p : Nat} {kd : mm_K} {E : va_E} (h : mm_C φ ρ cI cL M p kd E) : mm_C φ (ρ ++ δ) cI cL M p kd E := by
  obtain ⟨t, n, rs⟩ := kd
  match t, h with
  | 0, h => exact h
  | 1, h => exact h
  | 2, h =>
    obtain ⟨fs, e, f1, f2⟩ := h
    refine ⟨fs, e, f1, fun j t ht => ?_⟩
    obtain ⟨w, g1, g2⟩ := f2 j t ht
    refine ⟨w, g1, ?_⟩
    match t, g2 with
    | 0, g2 => exact g2
    | 1, g2 => exact g2
    | t + 2, g2 => exact fun hn => (g2 hn).mono
  | t + 3, h => exact h.elim
theorem mm_W.push {φ ρ : List Nat} {cI cL : ClassId} {Λ : List mm_K} {M M' : mm_M} {ws : va_W} {q : Nat} {kd : mm_K} {E : va_E} (h : mm_W φ ρ cI cL (Λ, M) ws) (hoff : ∀ p, p ≠ Λ.length → M'.1 p = M.1 p ∧ M'.2 p = M.2 p) (hC : mm_C φ (ρ ++ [q]) cI cL M' Λ.length kd E) :
    mm_W φ (ρ ++ [q]) cI cL (Λ ++ [kd], M') (ws ++ [(q, E)]) := by
  obtain ⟨h1, h2, h3⟩ := h
  dsimp only at h1 h2 h3
  refine ⟨by simp [h1], by simp [h2], fun p kd1 hp => ?_⟩
  by_cases hlt : p < Λ.length
  · have hp' : Λ[p]? = some kd1 := by
      have : (Λ ++ [kd])[p]? = Λ[p]? := List.getElem?_append_left hlt
      exact this.symm.trans hp
    obtain ⟨a, E1, g1, g2, g3⟩ := h3 p kd1 hp'
    refine ⟨a, E1, ?_, ?_, (g3.off (hoff p (by omega)).1 (hoff p (by omega)).2).mono⟩
    · rw [List.getElem?_append_left (by omega)]; exact g1
    · rw [List.getElem?_append_left (by omega)]; exact g2
  · have hlen : p < (Λ ++ [kd]).length := (List.getElem?_eq_some_iff.mp hp).1
    have hpe : p = Λ.length := by simp at hlen; omega
    subst hpe
    have hk : kd1 = kd := by simpa using hp.symm
    subst hk
    exact ⟨q, E, by simp [← h2], by simp [← h1], hC⟩
theorem mm_row_ne {α : Type} {f : Nat → Nat → α} {p q : Nat} {g : Nat → α} (h : q ≠ p) : mm_row f p g q = f q := by
  funext j; simp [mm_row, h]
theorem mm_row_eq {α : Type} {f : Nat → Nat → α} {p : Nat} {g : Nat → α} : mm_row f p g p = g := by
  funext j; simp [mm_row]
theorem mm_newi {n : Int32} {N : Nat} (hd : decode (mm_cb k) pc = .ok (.newarray .int, 2)) (hw : Cond.arrayClass .int ∈ mm_tb) (hn : ¬ n < 0) (hN : n.toNatClampNeg = N) (hb : N ≤ 100000)
    (hr : mm_Run l X k d (pc + 2) L (.ref σ.1.length :: S) (σ.1 ++ [(0, N, [])], mm_row σ.2.1 σ.1.length (fun _ => 0), σ.2.2) mc ms o σ') : mm_Run l X k d pc L (.int n :: S) σ (1 + mc) (N + ms) o σ' := by
  intro pp e R s m args below meth c D A cI cL φ hc H locs cells slots ρ ws ls st hW hP hD hS hL hV h1 h2
  obtain ⟨_, st, rfl, rfl, hV1⟩ := hV.cons
  refine va_newa (atype := .int) (ty := .int) (a0 := (N, .inl (fun _ => 0))) hc.1 hc.2.1 (hc.2.2.2.2.2.2.1 _ hw) rfl hc.2.2.2.2.2.2.2.1 hP hD hS hc.2.2.2.2.2.2.2.2.1 (fun cA => rfl) hn hN (by show N * 4 ≤ 536870912; omega) (by omega) (by omega) hd ?_
  intro q cA H1 z1 z2 z3 z4
  have hcA : cA = cI := by
    have e1 := (z1.2 2 (cA, .int) rfl).2
    have e2 := (hc.2.2.2.2.2.2.2.1.2 0 (cI, .int) rfl).2
    exact Option.some.inj (e1.symm.trans e2)
  subst hcA
  refine mm_Wmono (fun t h => h.ext (δ := [q]) (by omega) (by omega)) (hr hc (hW.push (Λ := σ.1) (M := σ.2) (q := q) (fun p hp => ⟨mm_row_ne hp, rfl⟩) ?_) z2 z3 z4 hL.mono ⟨?_, hV1.mono⟩ (by omega) (by omega))
  · show _ = _
    simp only [mm_row_eq]
  · exact ⟨q, by simp [← hW.2.1], rfl⟩
theorem mm_newl {n : Int32} {N : Nat} (hd : decode (mm_cb k) pc = .ok (.newarray .long, 2)) (hw : Cond.arrayClass .long ∈ mm_tb) (hn : ¬ n < 0) (hN : n.toNatClampNeg = N) (hb : N ≤ 100000)
    (hr : mm_Run l X k d (pc + 2) L (.ref σ.1.length :: S) (σ.1 ++ [(1, N, [])], σ.2.1, mm_row σ.2.2 σ.1.length (fun _ => 0)) mc ms o σ') : mm_Run l X k d pc L (.int n :: S) σ (1 + mc) (N + ms) o σ' := by
  intro pp e R s m args below meth c D A cI cL φ hc H locs cells slots ρ ws ls st hW hP hD hS hL hV h1 h2
  obtain ⟨_, st, rfl, rfl, hV1⟩ := hV.cons
  refine va_newa (atype := .long) (ty := .long) (a0 := (N, .inr (.inl (fun _ => 0)))) hc.1 hc.2.1 (hc.2.2.2.2.2.2.1 _ hw) rfl hc.2.2.2.2.2.2.2.1 hP hD hS hc.2.2.2.2.2.2.2.2.1 (fun cA => rfl) hn hN (by show N * 8 ≤ 536870912; omega) (by omega) (by omega) hd ?_
  intro q cA H1 z1 z2 z3 z4
  have hcA : cA = cL := by
    have e1 := (z1.2 2 (cA, .long) rfl).2
    have e2 := (hc.2.2.2.2.2.2.2.1.2 1 (cL, .long) rfl).2
    exact Option.some.inj (e1.symm.trans e2)
  subst hcA
  refine mm_Wmono (fun t h => h.ext (δ := [q]) (by omega) (by omega)) (hr hc (hW.push (Λ := σ.1) (M := σ.2) (q := q) (fun p hp => ⟨rfl, mm_row_ne hp⟩) ?_) z2 z3 z4 hL.mono ⟨?_, hV1.mono⟩ (by omega) (by omega))
  · show _ = _
    simp only [mm_row_eq]
  · exact ⟨q, by simp [← hW.2.1], rfl⟩
theorem mm_nth_rep : ∀ (n j : Nat), mm_nth (List.replicate n .null) j = .null
  | 0, _ => rfl
  | _ + 1, 0 => rfl
  | n + 1, j + 1 => mm_nth_rep n j
def mm_df : Nat → Value
  | 0 => .int 0
  | 1 => .long 0
  | _ => .null
theorem mm_new {idx ci : Nat} {C : String} {T : u_T} {N : Nat} (hd : decode (mm_cb k) pc = .ok (.new idx, 3)) (hc0 : mm_okc ci) (hci : mm_cl[ci]? = some (C, T, N)) (w1 : Cond.classLink (mm_yn k).cls idx C ∈ mm_tb) (w2 : Cond.instantiable C N ∈ mm_tb) (w3 : Cond.initialized C ∈ mm_tb)
    (hr : mm_Run l X k d (pc + 3) L (.ref σ.1.length :: S) (σ.1 ++ [(2, ci, List.replicate N .null)], mm_row σ.2.1 σ.1.length (fun _ => 0), mm_row σ.2.2 σ.1.length (fun _ => 0)) mc ms o σ') : mm_Run l X k d pc L S σ (1 + mc) (N + ms) o σ' := by
  intro pp e R s m args below meth c D A cI cL φ hc H locs cells slots ρ ws ls st hW hP hD hS hL hV h1 h2
  have hts := hc.2.2.2.2.2.2.1
  obtain ⟨C', T', N', c1, c2, c3, ⟨ty0, c4⟩, c5⟩ := hc0
  cases Option.some.inj (c1.symm.trans hci)
  refine va_new (fs := (mm_fk ci).map mm_df) hc.1 hc.2.1 hts c3 ty0 (fun j hj => (c4 j hj).1) hc.2.2.2.2.2.1 (hts _ w1) (hts _ w2) (hts _ w3) hc.2.2.2.2.2.2.2.1 hP hD hS hc.2.2.2.2.2.2.2.2.1 hci (fun j hj => ?_) (by omega) (by omega) hd ?_
  · obtain ⟨-, h4, h5⟩ := c4 j hj
    unfold vp_V
    rw [List.getD_eq_getElem?_getD, List.getElem?_map, h4]
    generalize ty0 j = ty at h5
    cases ty <;> first | rfl | (exact absurd h5 (by simp [mm_tk]))
  intro q H1 z2 z3 z4
  refine mm_Wmono (fun t h => h.ext (δ := [q]) (by omega) (by omega)) (hr hc (hW.push (Λ := σ.1) (M := σ.2) (q := q) (fun p hp => ⟨mm_row_ne hp, mm_row_ne hp⟩) ?_) z2 z3 z4 hL.mono ⟨?_, hV.mono⟩ (by omega) (by omega))
  · refine ⟨_, rfl, by simp, fun j t ht => ⟨mm_df t, by simp [ht], ?_⟩⟩
    match t with
    | 0 => show Value.int 0 = .int (mm_row σ.2.1 σ.1.length (fun _ => 0) σ.1.length j); rw [mm_row_eq]
    | 1 => show Value.long 0 = .long (mm_row σ.2.2 σ.1.length (fun _ => 0) σ.1.length j); rw [mm_row_eq]
    | t + 2 =>
      intro hn
      exact absurd (mm_nth_rep N j) hn
  · exact ⟨q, by simp [← hW.2.1], rfl⟩
theorem mm_objinit {idx p0 : Nat} (hd : decode (mm_cb k) pc = .ok (.invokespecial idx, 3)) (w1 : Cond.methodLink (mm_yn k).cls idx Lib.objectInit ∈ mm_tb) (w2 : Cond.instanceMethod Lib.objectInit ∈ mm_tb) (w3 : Cond.code Lib.objectInit ⟨#[0xb1]⟩ 1 none ∈ mm_tb) (hw : (S.map fun v => v.category).sum ≤ 8)
    (hr : mm_Run l X k d (pc + 3) L S σ mc ms o σ') : mm_Run l X k d pc L (.ref p0 :: S) σ mc ms o σ' := by
  refine mm_simple (fun hc hL hS kk => ?_) hr
  obtain ⟨_, st, rfl, ⟨a, ha, rfl⟩, hS1⟩ := hS.cons
  have hts := hc.2.2.2.2.2.2.1
  refine W.objInit hc.1 hc.2.1 hc.2.2.2.2.2.1 (hts _ w1) (hts _ w2) (hts _ w3) rfl (hL.1.1.trans hc.2.2.1.symm) rfl hd (by have := hc.2.2.2.2.2.2.2.2.2.2.1; omega) ?_ (kk _ _ hL hS1)
  have := hc.2.2.2.2.2.2.2.2.2.2.2.1
  rw [hS1.cats]
  show 2 * 0 + _ + 12 ≤ _
  omega
theorem mm_callIN {k' idx n p0 : Nat} {as S0 : List Value} {host : String} (hd : decode (mm_cb k) pc = .ok (.invokespecial idx, 3)) (hm : mm_okm k' n) (hl : Cond.methodLinkNest (mm_yn k).cls idx (mm_yn k') host ∈ mm_tb) (hi : Cond.instanceMethod (mm_yn k') ∈ mm_tb)
    (hy : (mm_yn k').name = "<init>") (hrt : mm_rt k' = none) (hst : S0 = as.reverse ++ .ref p0 :: S) (hn : as.length = n) (hcat : ((Value.ref p0 :: as).map fun v => v.category).sum ≤ mm_ml k') (hw : (S.map fun v => v.category).sum ≤ 8)
    (hcall : mm_Call l X k' d (.ref p0 :: as) σ mc1 ms1 (.inl none) σ1) (hr : mm_Run l X k (d + 1) (pc + 3) L S σ1 mc ms o σ') : mm_Run l X k (d + 1) pc L S0 σ (mc1 + mc) (ms1 + ms) o σ' := by
  intro p e R s m args below meth c D A cI cL φ hc H locs cells slots ρ ws ls st hW hP hD hS hL hV h1 h2
  subst hst
  obtain ⟨ar, rest0, rfl, va1, va2⟩ := hV.split
  obtain ⟨_, rest, rfl, hb0, va2n⟩ := va2.cons
  obtain ⟨b, hb, rfl⟩ := id hb0
  have hva := va1.rev
  rw [List.reverse_reverse] at hva
  have hM := mm_met (D := D) (A := A) hm.2.2.2.2.2.2 hcat hc.2.2.2.2.2.2.2.2.2.2.2.2.2.2 hcall (avr := .ref b :: ar.reverse) ⟨hb0, hva⟩ hW
  have hcb := mm_callBN (mc1 := mc1) (ms1 := ms1) hc hm hl
  rw [hrt] at hcb
  refine mm_goes (va_runIN (b := b) ⟨hc.1, hc.2.1, hc.2.2.1, hc.2.2.2.2.2.1, hc.2.2.2.2.2.2.1⟩ hM ⟨hcb, hy, hc.2.2.2.2.2.2.1 _ hi⟩ (mm_pre hc hP hD hS) rfl (by rw [hva.len, hn]) hL.1.1 (by rw [List.reverse_reverse]) (by rw [va2n.cats]; simpa using hw) hd ⟨by omega, by omega⟩) hS ?_
  intro δ ws' H1 locs1 vr q1 q2 q3 q4 q5
  refine mm_Wmono (fun t h => h.ext (δ := δ) (by omega) (by omega)) (hr hc q1 q2 q3 q4 hL.mono ?_ (by omega) (by omega))
  cases vr <;> first | exact q5.elim | exact va2n.mono
/-- a static method with handlers -/
theorem mm_callSW {k' idx n : Nat} {as S0 : List Value} {v : Option Value} (hd : decode (mm_cb k) pc = .ok (.invokestatic idx, 3)) (m1 : Cond.codeWith (mm_yn k') (mm_cb k') (mm_ml k') (mm_rt k') (mm_ht k') ∈ mm_tb) (m2 : Cond.initialized (mm_yn k').cls ∈ mm_tb) (m3 : (mm_yn k').cls ≠ "java/lang/invoke/MethodHandle" ∧ (mm_yn k').cls ≠ "java/lang/invoke/VarHandle")
    (m5 : (parseMethodDescriptor (mm_yn k').desc).map (fun d => d.parameters.length) = some n) (m6 : mm_ml k' ≤ 60) (m7 : mm_is k') (hl : Cond.methodLink (mm_yn k).cls idx (mm_yn k') ∈ mm_tb) (hs : Cond.static (mm_yn k') ∈ mm_tb)
    (hst : S0 = as.reverse ++ S) (hn : as.length = n) (hcat : (as.map fun v => v.category).sum ≤ mm_ml k') (hw : (S.map fun v => v.category).sum ≤ 8)
    (hcall : mm_Call l X k' d as σ mc1 ms1 (.inl v) σ1) (hr : mm_Run l X k (d + 1) (pc + 3) L (v.toList ++ S) σ1 mc ms o σ') : mm_Run l X k (d + 1) pc L S0 σ (mc1 + mc) (ms1 + ms) o σ' := by
  intro p e R s m args below meth c D A cI cL φ hc H locs cells slots ρ ws ls st hW hP hD hS hL hV h1 h2
  subst hst
  obtain ⟨ar, rest, rfl, va1, va2⟩ := hV.split
  have hva := va1.rev
  rw [List.reverse_reverse] at hva
  have hM := mm_met (D := D) (A := A) m7 hcat hc.2.2.2.2.2.2.2.2.2.2.2.2.2.2 hcall hva hW
  have hts := hc.2.2.2.2.2.2.1
  have hpre := mm_pre (avr := ar.reverse) hc hP hD hS
  have a11 := hc.2.2.2.2.2.2.2.2.2.2.1
  have a12 := hc.2.2.2.2.2.2.2.2.2.2.2.1
  have hwd : ∀ w ∈ mm_tb, ∀ (a' : Array Value) (U : State), s.WarmedH U.vm → w.before a' U = true := fun w h a' U hU => mm_wm (List.mem_filter.mp h).2 hU (hts w h)
  have hK : Back l R p e below s args (mm_yn k') 3 8 (PreOf R mc1 ms1 (mm_P X φ D A cI cL ws ar.reverse)) (PostOf (mm_QO φ ρ D A cI cL (.inl v) σ1) mc1 ms1 A) :=
    va_backW (bytes := mm_cb k') (maxL := mm_ml k') (ret := mm_rt k') (hh := mm_ht k') hM hpre.1 rfl rfl (by rw [mm_rm_f]; omega) (by rw [mm_rm_l]; exact mm_ar m6 a12) hwd m1 (fun a' U hU => hwd _ m2 a' U hU)
  obtain ⟨mk, methM, cM, hnamed, hmethM, -, -, -, -, -, -, hsigM⟩ := Cond.codeWith_spec (hts _ m1)
  have hstatic : methM.isStatic = true := Cond.static_spec hnamed hmethM (hts _ hs)
  obtain ⟨kP, hkP, -⟩ := className_of_methodNamed hnamed
  have hinitP : kP.init = .initialized := Cond.initialized_spec (findClass_of_methodNamed hnamed) hkP (hts _ m2)
  have hlen : ar.reverse.length = methM.sig.parameters.length := by
    rw [hva.len, hn]; rw [hsigM] at m5; exact (Option.some.inj m5).symm
  have hrun : va_Run p l e R s m args below meth c H locs cells slots mc1 ms1 (F0 m pc ls (ar ++ rest)) rest (mm_QO φ ρ D A cI cL (.inl v) σ1 ar.reverse.toArray) A := by
    intro T hT Y
    obtain ⟨vm₁, X₁, hstep₁⟩ := Y.invokestatic hc.1 hc.2.2.2.2.2.1 (hts _ hl) hnamed hmethM hstatic hkP hinitP m3 (g := F0 m pc ls (ar ++ rest)) rfl (argsL := ar.reverse) (rest := rest) hlen (by rw [List.reverse_reverse]) (by rw [hc.2.1]; exact hd)
    obtain ⟨v0, B, X', ⟨g', mk', t, Lc, b1, b2, b3, b4, b5, b6, b7⟩, hsteps⟩ := hK m meth c ⟨T.setVm vm₁, locs, cells, slots⟩ (F0 m pc ls rest) (.invokestatic idx) mk ar.reverse.toArray X₁ rfl (hL.1.1.trans hc.2.2.1.symm) (by rw [hc.2.1]; exact hd) (by show 2 * 0 + _ ≤ 8; rw [va2.cats]; simpa using hw) (X₁.named hnamed) ⟨by show cells + mc1 ≤ _; omega, by show slots + ms1 ≤ _; omega, hpre.2 (T.setVm vm₁) hT X₁.warmed⟩
    simp only [Pt.U, Pt.locs, Pt.cells, Pt.slots] at b1 b2 b4 b6 b7 X' hsteps
    refine ⟨v0, (T.setVm vm₁).calling g' mk' ar.reverse.toArray, t, B.1, Lc, hT, ?_, b5, b1, b2, b3, fun target h => hstep₁ _ fun acts => by rw [doInvoke_state]; exact hsteps.trans h⟩
    rw [← b4, ← b6, ← b7]; exact X'
  refine mm_goes hrun hS ?_
  intro δ ws' H1 locs1 vr q1 q2 q3 q4 q5
  refine mm_Wmono (fun t h => h.ext (δ := δ) (by omega) (by omega)) (hr hc q1 q2 q3 q4 hL.mono ?_ (by omega) (by omega))
  cases v <;> cases vr <;> first | exact q5.elim | exact va2.mono | exact ⟨q5, va2.mono⟩
end MMN
end
section
/-! ===== facts of the tables ===== -/
theorem mm_places {ws big : List Cond} (ps : List Nat) (h : ws = ps.filterMap (fun i => big[i]?)) : ∀ w ∈ ws, w ∈ big := by
  intro w hw
  rw [h] at hw
  obtain ⟨i, -, hi⟩ := List.mem_filterMap.mp hw
  exact List.mem_of_getElem? hi
theorem mm_in {w : Cond} (i : Nat) (h : tables_1[i]? = some w) (hw : mm_gw w = true) : w ∈ mm_tb := List.mem_filter.mpr ⟨List.mem_append_right _ (List.mem_of_getElem? h), hw⟩
theorem mm_ins {w : Cond} (i : Nat) (h : (k2_sels lw_privs)[i]? = some w) (hw : mm_gw w = true) : w ∈ mm_tb := List.mem_filter.mpr ⟨List.mem_append_left _ (List.mem_of_getElem? h), hw⟩
def mm_ty0 : Nat → FieldType := fun j => [(.object "LazyTester$Types"), (.object "LazyTester$DepthTable"), (.object "LazyTester$SizeTable"), (.object "LazyTester$Row"), (.object "LazyTester$Value"), (.object "LazyTester$SizedValues"), (.object "LazyTester$Pile"), (.object "LazyTester$Refining"), .int, .long].getD j .int
theorem okc0 : mm_okc 0 := ⟨_, _, _, rfl, rfl, fun w h => List.mem_filter.mpr ⟨List.mem_append_right _ (mm_places [193, 195, 197, 199, 201, 203, 205, 207, 209, 211] (by decide +kernel) w h), List.all_eq_true.mp (by decide +kernel : (u_ws _ _ _).all mm_gw = true) w h⟩, ⟨mm_ty0, by decide +kernel⟩, by decide +kernel⟩
def mm_ty1 : Nat → FieldType := fun j => [(.array .int), (.array .int), (.array .int)].getD j .int
theorem okc1 : mm_okc 1 := ⟨_, _, _, rfl, rfl, fun w h => List.mem_filter.mpr ⟨List.mem_append_right _ (mm_places [38, 40, 42] (by decide +kernel) w h), List.all_eq_true.mp (by decide +kernel : (u_ws _ _ _).all mm_gw = true) w h⟩, ⟨mm_ty1, by decide +kernel⟩, by decide +kernel⟩
def mm_ty2 : Nat → FieldType := fun j => [(.object "LazyTester$Types"), (.array .long), (.array .long)].getD j .int
theorem okc2 : mm_okc 2 := ⟨_, _, _, rfl, rfl, fun w h => List.mem_filter.mpr ⟨List.mem_append_right _ (mm_places [55, 57, 59] (by decide +kernel) w h), List.all_eq_true.mp (by decide +kernel : (u_ws _ _ _).all mm_gw = true) w h⟩, ⟨mm_ty2, by decide +kernel⟩, by decide +kernel⟩
def mm_ty3 : Nat → FieldType := fun j => [(.object "LazyTester$Types"), (.array .long), (.array .long)].getD j .int
theorem okc3 : mm_okc 3 := ⟨_, _, _, rfl, rfl, fun w h => List.mem_filter.mpr ⟨List.mem_append_right _ (mm_places [72, 74, 76] (by decide +kernel) w h), List.all_eq_true.mp (by decide +kernel : (u_ws _ _ _).all mm_gw = true) w h⟩, ⟨mm_ty3, by decide +kernel⟩, by decide +kernel⟩
def mm_ty4 : Nat → FieldType := fun j => [(.array .int), .int].getD j .int
theorem okc4 : mm_okc 4 := ⟨_, _, _, rfl, rfl, fun w h => List.mem_filter.mpr ⟨List.mem_append_right _ (mm_places [87, 89] (by decide +kernel) w h), List.all_eq_true.mp (by decide +kernel : (u_ws _ _ _).all mm_gw = true) w h⟩, ⟨mm_ty4, by decide +kernel⟩, by decide +kernel⟩
def mm_ty5 : Nat → FieldType := fun j => [(.object "LazyTester$Types"), (.object "LazyTester$DepthTable"), (.array .int), (.array .int), (.array .int)].getD j .int
theorem okc5 : mm_okc 5 := ⟨_, _, _, rfl, rfl, fun w h => List.mem_filter.mpr ⟨List.mem_append_right _ (mm_places [103, 105, 107, 109, 111] (by decide +kernel) w h), List.all_eq_true.mp (by decide +kernel : (u_ws _ _ _).all mm_gw = true) w h⟩, ⟨mm_ty5, by decide +kernel⟩, by decide +kernel⟩
def mm_ty6 : Nat → FieldType := fun j => [(.object "LazyTester$Types"), (.object "LazyTester$SizeTable"), (.object "LazyTester$Row"), (.array .int)].getD j .int
theorem okc6 : mm_okc 6 := ⟨_, _, _, rfl, rfl, fun w h => List.mem_filter.mpr ⟨List.mem_append_right _ (mm_places [124, 126, 128, 130] (by decide +kernel) w h), List.all_eq_true.mp (by decide +kernel : (u_ws _ _ _).all mm_gw = true) w h⟩, ⟨mm_ty6, by decide +kernel⟩, by decide +kernel⟩
def mm_ty7 : Nat → FieldType := fun j => [(.array .int), (.array .int), (.array .int), (.array .int), .int, .int].getD j .int
theorem okc7 : mm_okc 7 := ⟨_, _, _, rfl, rfl, fun w h => List.mem_filter.mpr ⟨List.mem_append_right _ (mm_places [145, 147, 149, 151, 153, 155] (by decide +kernel) w h), List.all_eq_true.mp (by decide +kernel : (u_ws _ _ _).all mm_gw = true) w h⟩, ⟨mm_ty7, by decide +kernel⟩, by decide +kernel⟩
def mm_ty8 : Nat → FieldType := fun j => [(.object "LazyTester$Value"), (.object "LazyTester$Pile"), (.array .int), .int, .int, .long].getD j .int
theorem okc8 : mm_okc 8 := ⟨_, _, _, rfl, rfl, fun w h => List.mem_filter.mpr ⟨List.mem_append_right _ (mm_places [170, 172, 174, 176, 178, 180] (by decide +kernel) w h), List.all_eq_true.mp (by decide +kernel : (u_ws _ _ _).all mm_gw = true) w h⟩, ⟨mm_ty8, by decide +kernel⟩, by decide +kernel⟩
def mm_ty9 : Nat → FieldType := fun j => [.int, (.array .int), (.array .int), (.array .int), (.array .long), (.array .long), (.array .int), (.array .int), .int, (.array .int), .int, (.array .int), (.array .int), (.array .long), .int, (.array .int), (.array .int), (.array .int), (.array .int), .int, (.array .int), .int, (.array .int), (.array .int), .int, .int, .long].getD j .int
theorem okc9 : mm_okc 9 := ⟨_, _, _, rfl, rfl, fun w h => List.mem_filter.mpr ⟨List.mem_append_right _ (mm_places [738, 740, 742, 744, 746, 748, 750, 752, 754, 756, 758, 760, 762, 764, 766, 768, 770, 772, 774, 776, 778, 780, 782, 784, 786, 788, 790] (by decide +kernel) w h), List.all_eq_true.mp (by decide +kernel : (u_ws _ _ _).all mm_gw = true) w h⟩, ⟨mm_ty9, by decide +kernel⟩, by decide +kernel⟩
theorem cw0 : Cond.code (mm_yn 0) (mm_cb 0) (mm_ml 0) (mm_rt 0) ∈ mm_tb := mm_in 25 (by decide +kernel) rfl
theorem okm0 : mm_okm 0 0 := ⟨cw0, mm_in 1 (by decide +kernel) rfl, by decide +kernel, by decide +kernel, by decide +kernel, by decide +kernel, mm_is_of (by decide +kernel) cw0 rfl⟩
theorem cw1 : Cond.code (mm_yn 1) (mm_cb 1) (mm_ml 1) (mm_rt 1) ∈ mm_tb := mm_in 33 (by decide +kernel) rfl
theorem okm1 : mm_okm 1 0 := ⟨cw1, mm_in 2 (by decide +kernel) rfl, by decide +kernel, by decide +kernel, by decide +kernel, by decide +kernel, mm_is_of (by decide +kernel) cw1 rfl⟩
theorem cw2 : Cond.code (mm_yn 2) (mm_cb 2) (mm_ml 2) (mm_rt 2) ∈ mm_tb := mm_in 50 (by decide +kernel) rfl
theorem okm2 : mm_okm 2 1 := ⟨cw2, mm_in 3 (by decide +kernel) rfl, by decide +kernel, by decide +kernel, by decide +kernel, by decide +kernel, mm_is_of (by decide +kernel) cw2 rfl⟩
theorem cw3 : Cond.code (mm_yn 3) (mm_cb 3) (mm_ml 3) (mm_rt 3) ∈ mm_tb := mm_in 67 (by decide +kernel) rfl
theorem okm3 : mm_okm 3 1 := ⟨cw3, mm_in 4 (by decide +kernel) rfl, by decide +kernel, by decide +kernel, by decide +kernel, by decide +kernel, mm_is_of (by decide +kernel) cw3 rfl⟩
theorem cw4 : Cond.code (mm_yn 4) (mm_cb 4) (mm_ml 4) (mm_rt 4) ∈ mm_tb := mm_in 83 (by decide +kernel) rfl
theorem okm4 : mm_okm 4 0 := ⟨cw4, mm_in 5 (by decide +kernel) rfl, by decide +kernel, by decide +kernel, by decide +kernel, by decide +kernel, mm_is_of (by decide +kernel) cw4 rfl⟩
theorem cw5 : Cond.code (mm_yn 5) (mm_cb 5) (mm_ml 5) (mm_rt 5) ∈ mm_tb := mm_in 96 (by decide +kernel) rfl
theorem okm5 : mm_okm 5 2 := ⟨cw5, mm_in 6 (by decide +kernel) rfl, by decide +kernel, by decide +kernel, by decide +kernel, by decide +kernel, mm_is_of (by decide +kernel) cw5 rfl⟩
theorem cw6 : Cond.code (mm_yn 6) (mm_cb 6) (mm_ml 6) (mm_rt 6) ∈ mm_tb := mm_in 118 (by decide +kernel) rfl
theorem okm6 : mm_okm 6 3 := ⟨cw6, mm_in 7 (by decide +kernel) rfl, by decide +kernel, by decide +kernel, by decide +kernel, by decide +kernel, mm_is_of (by decide +kernel) cw6 rfl⟩
theorem cw7 : Cond.code (mm_yn 7) (mm_cb 7) (mm_ml 7) (mm_rt 7) ∈ mm_tb := mm_in 137 (by decide +kernel) rfl
theorem okm7 : mm_okm 7 0 := ⟨cw7, mm_in 8 (by decide +kernel) rfl, by decide +kernel, by decide +kernel, by decide +kernel, by decide +kernel, mm_is_of (by decide +kernel) cw7 rfl⟩
theorem cw8 : Cond.code (mm_yn 8) (mm_cb 8) (mm_ml 8) (mm_rt 8) ∈ mm_tb := mm_in 162 (by decide +kernel) rfl
theorem okm8 : mm_okm 8 2 := ⟨cw8, mm_in 9 (by decide +kernel) rfl, by decide +kernel, by decide +kernel, by decide +kernel, by decide +kernel, mm_is_of (by decide +kernel) cw8 rfl⟩
theorem cw9 : Cond.code (mm_yn 9) (mm_cb 9) (mm_ml 9) (mm_rt 9) ∈ mm_tb := mm_in 217 (by decide +kernel) rfl
theorem okm9 : mm_okm 9 1 := ⟨cw9, mm_in 1 (by decide +kernel) rfl, by decide +kernel, by decide +kernel, by decide +kernel, by decide +kernel, mm_is_of (by decide +kernel) cw9 rfl⟩
theorem cw10 : Cond.code (mm_yn 10) (mm_cb 10) (mm_ml 10) (mm_rt 10) ∈ mm_tb := mm_in 221 (by decide +kernel) rfl
theorem okm10 : mm_okm 10 1 := ⟨cw10, mm_in 5 (by decide +kernel) rfl, by decide +kernel, by decide +kernel, by decide +kernel, by decide +kernel, mm_is_of (by decide +kernel) cw10 rfl⟩
theorem cw11 : Cond.code (mm_yn 11) (mm_cb 11) (mm_ml 11) (mm_rt 11) ∈ mm_tb := mm_in 225 (by decide +kernel) rfl
theorem okm11 : mm_okm 11 0 := ⟨cw11, mm_in 1 (by decide +kernel) rfl, by decide +kernel, by decide +kernel, by decide +kernel, by decide +kernel, mm_is_of (by decide +kernel) cw11 rfl⟩
theorem cw12 : Cond.code (mm_yn 12) (mm_cb 12) (mm_ml 12) (mm_rt 12) ∈ mm_tb := mm_in 229 (by decide +kernel) rfl
theorem okm12 : mm_okm 12 0 := ⟨cw12, mm_in 8 (by decide +kernel) rfl, by decide +kernel, by decide +kernel, by decide +kernel, by decide +kernel, mm_is_of (by decide +kernel) cw12 rfl⟩
theorem cw13 : Cond.code (mm_yn 13) (mm_cb 13) (mm_ml 13) (mm_rt 13) ∈ mm_tb := mm_in 233 (by decide +kernel) rfl
theorem okm13 : mm_okm 13 0 := ⟨cw13, mm_in 1 (by decide +kernel) rfl, by decide +kernel, by decide +kernel, by decide +kernel, by decide +kernel, mm_is_of (by decide +kernel) cw13 rfl⟩
theorem cw14 : Cond.code (mm_yn 14) (mm_cb 14) (mm_ml 14) (mm_rt 14) ∈ mm_tb := mm_in 237 (by decide +kernel) rfl
theorem okm14 : mm_okm 14 0 := ⟨cw14, mm_in 1 (by decide +kernel) rfl, by decide +kernel, by decide +kernel, by decide +kernel, by decide +kernel, mm_is_of (by decide +kernel) cw14 rfl⟩
theorem cw15 : Cond.codeWith (mm_yn 15) (mm_cb 15) (mm_ml 15) (mm_rt 15) (mm_ht 15) ∈ mm_tb := mm_in 240 (by decide +kernel) rfl
theorem isw15 : mm_is 15 := mm_is_ofW (by decide +kernel) cw15
theorem cw16 : Cond.code (mm_yn 16) (mm_cb 16) (mm_ml 16) (mm_rt 16) ∈ mm_tb := mm_in 247 (by decide +kernel) rfl
theorem okm16 : mm_okm 16 5 := ⟨cw16, mm_in 1 (by decide +kernel) rfl, by decide +kernel, by decide +kernel, by decide +kernel, by decide +kernel, mm_is_of (by decide +kernel) cw16 rfl⟩
theorem cw17 : Cond.code (mm_yn 17) (mm_cb 17) (mm_ml 17) (mm_rt 17) ∈ mm_tb := mm_in 250 (by decide +kernel) rfl
theorem okm17 : mm_okm 17 1 := ⟨cw17, mm_in 1 (by decide +kernel) rfl, by decide +kernel, by decide +kernel, by decide +kernel, by decide +kernel, mm_is_of (by decide +kernel) cw17 rfl⟩
theorem cw18 : Cond.code (mm_yn 18) (mm_cb 18) (mm_ml 18) (mm_rt 18) ∈ mm_tb := mm_in 337 (by decide +kernel) rfl
theorem okm18 : mm_okm 18 4 := ⟨cw18, mm_in 1 (by decide +kernel) rfl, by decide +kernel, by decide +kernel, by decide +kernel, by decide +kernel, mm_is_of (by decide +kernel) cw18 rfl⟩
theorem cw19 : Cond.code (mm_yn 19) (mm_cb 19) (mm_ml 19) (mm_rt 19) ∈ mm_tb := mm_in 342 (by decide +kernel) rfl
theorem okm19 : mm_okm 19 1 := ⟨cw19, mm_in 2 (by decide +kernel) rfl, by decide +kernel, by decide +kernel, by decide +kernel, by decide +kernel, mm_is_of (by decide +kernel) cw19 rfl⟩
theorem cw20 : Cond.code (mm_yn 20) (mm_cb 20) (mm_ml 20) (mm_rt 20) ∈ mm_tb := mm_in 362 (by decide +kernel) rfl
theorem okm20 : mm_okm 20 5 := ⟨cw20, mm_in 2 (by decide +kernel) rfl, by decide +kernel, by decide +kernel, by decide +kernel, by decide +kernel, mm_is_of (by decide +kernel) cw20 rfl⟩
theorem cw21 : Cond.code (mm_yn 21) (mm_cb 21) (mm_ml 21) (mm_rt 21) ∈ mm_tb := mm_in 365 (by decide +kernel) rfl
theorem okm21 : mm_okm 21 2 := ⟨cw21, mm_in 2 (by decide +kernel) rfl, by decide +kernel, by decide +kernel, by decide +kernel, by decide +kernel, mm_is_of (by decide +kernel) cw21 rfl⟩
theorem cw22 : Cond.code (mm_yn 22) (mm_cb 22) (mm_ml 22) (mm_rt 22) ∈ mm_tb := mm_in 369 (by decide +kernel) rfl
theorem okm22 : mm_okm 22 0 := ⟨cw22, mm_in 3 (by decide +kernel) rfl, by decide +kernel, by decide +kernel, by decide +kernel, by decide +kernel, mm_is_of (by decide +kernel) cw22 rfl⟩
theorem cw23 : Cond.code (mm_yn 23) (mm_cb 23) (mm_ml 23) (mm_rt 23) ∈ mm_tb := mm_in 373 (by decide +kernel) rfl
theorem okm23 : mm_okm 23 2 := ⟨cw23, mm_in 3 (by decide +kernel) rfl, by decide +kernel, by decide +kernel, by decide +kernel, by decide +kernel, mm_is_of (by decide +kernel) cw23 rfl⟩
theorem cw24 : Cond.code (mm_yn 24) (mm_cb 24) (mm_ml 24) (mm_rt 24) ∈ mm_tb := mm_in 379 (by decide +kernel) rfl
theorem okm24 : mm_okm 24 1 := ⟨cw24, mm_in 2 (by decide +kernel) rfl, by decide +kernel, by decide +kernel, by decide +kernel, by decide +kernel, mm_is_of (by decide +kernel) cw24 rfl⟩
theorem cw25 : Cond.code (mm_yn 25) (mm_cb 25) (mm_ml 25) (mm_rt 25) ∈ mm_tb := mm_in 383 (by decide +kernel) rfl
theorem okm25 : mm_okm 25 3 := ⟨cw25, mm_in 3 (by decide +kernel) rfl, by decide +kernel, by decide +kernel, by decide +kernel, by decide +kernel, mm_is_of (by decide +kernel) cw25 rfl⟩
theorem cw26 : Cond.code (mm_yn 26) (mm_cb 26) (mm_ml 26) (mm_rt 26) ∈ mm_tb := mm_in 387 (by decide +kernel) rfl
theorem okm26 : mm_okm 26 2 := ⟨cw26, mm_in 2 (by decide +kernel) rfl, by decide +kernel, by decide +kernel, by decide +kernel, by decide +kernel, mm_is_of (by decide +kernel) cw26 rfl⟩
theorem cw27 : Cond.code (mm_yn 27) (mm_cb 27) (mm_ml 27) (mm_rt 27) ∈ mm_tb := mm_in 391 (by decide +kernel) rfl
theorem okm27 : mm_okm 27 2 := ⟨cw27, mm_in 3 (by decide +kernel) rfl, by decide +kernel, by decide +kernel, by decide +kernel, by decide +kernel, mm_is_of (by decide +kernel) cw27 rfl⟩
theorem cw28 : Cond.code (mm_yn 28) (mm_cb 28) (mm_ml 28) (mm_rt 28) ∈ mm_tb := mm_in 394 (by decide +kernel) rfl
theorem okm28 : mm_okm 28 2 := ⟨cw28, mm_in 1 (by decide +kernel) rfl, by decide +kernel, by decide +kernel, by decide +kernel, by decide +kernel, mm_is_of (by decide +kernel) cw28 rfl⟩
theorem cw29 : Cond.code (mm_yn 29) (mm_cb 29) (mm_ml 29) (mm_rt 29) ∈ mm_tb := mm_in 398 (by decide +kernel) rfl
theorem okm29 : mm_okm 29 2 := ⟨cw29, mm_in 1 (by decide +kernel) rfl, by decide +kernel, by decide +kernel, by decide +kernel, by decide +kernel, mm_is_of (by decide +kernel) cw29 rfl⟩
theorem cw30 : Cond.code (mm_yn 30) (mm_cb 30) (mm_ml 30) (mm_rt 30) ∈ mm_tb := mm_in 405 (by decide +kernel) rfl
theorem okm30 : mm_okm 30 0 := ⟨cw30, mm_in 4 (by decide +kernel) rfl, by decide +kernel, by decide +kernel, by decide +kernel, by decide +kernel, mm_is_of (by decide +kernel) cw30 rfl⟩
theorem cw31 : Cond.code (mm_yn 31) (mm_cb 31) (mm_ml 31) (mm_rt 31) ∈ mm_tb := mm_in 409 (by decide +kernel) rfl
theorem okm31 : mm_okm 31 2 := ⟨cw31, mm_in 4 (by decide +kernel) rfl, by decide +kernel, by decide +kernel, by decide +kernel, by decide +kernel, mm_is_of (by decide +kernel) cw31 rfl⟩
theorem cw32 : Cond.code (mm_yn 32) (mm_cb 32) (mm_ml 32) (mm_rt 32) ∈ mm_tb := mm_in 416 (by decide +kernel) rfl
theorem okm32 : mm_okm 32 3 := ⟨cw32, mm_in 4 (by decide +kernel) rfl, by decide +kernel, by decide +kernel, by decide +kernel, by decide +kernel, mm_is_of (by decide +kernel) cw32 rfl⟩
theorem cw33 : Cond.code (mm_yn 33) (mm_cb 33) (mm_ml 33) (mm_rt 33) ∈ mm_tb := mm_in 421 (by decide +kernel) rfl
theorem okm33 : mm_okm 33 2 := ⟨cw33, mm_in 4 (by decide +kernel) rfl, by decide +kernel, by decide +kernel, by decide +kernel, by decide +kernel, mm_is_of (by decide +kernel) cw33 rfl⟩
theorem cw34 : Cond.code (mm_yn 34) (mm_cb 34) (mm_ml 34) (mm_rt 34) ∈ mm_tb := mm_in 425 (by decide +kernel) rfl
theorem okm34 : mm_okm 34 3 := ⟨cw34, mm_in 4 (by decide +kernel) rfl, by decide +kernel, by decide +kernel, by decide +kernel, by decide +kernel, mm_is_of (by decide +kernel) cw34 rfl⟩
theorem cw35 : Cond.codeWith (mm_yn 35) (mm_cb 35) (mm_ml 35) (mm_rt 35) (mm_ht 35) ∈ mm_tb := mm_in 428 (by decide +kernel) rfl
theorem isw35 : mm_is 35 := mm_is_ofW (by decide +kernel) cw35
theorem cw36 : Cond.code (mm_yn 36) (mm_cb 36) (mm_ml 36) (mm_rt 36) ∈ mm_tb := mm_in 432 (by decide +kernel) rfl
theorem okm36 : mm_okm 36 2 := ⟨cw36, mm_in 1 (by decide +kernel) rfl, by decide +kernel, by decide +kernel, by decide +kernel, by decide +kernel, mm_is_of (by decide +kernel) cw36 rfl⟩
theorem cw37 : Cond.code (mm_yn 37) (mm_cb 37) (mm_ml 37) (mm_rt 37) ∈ mm_tb := mm_in 435 (by decide +kernel) rfl
theorem okm37 : mm_okm 37 1 := ⟨cw37, mm_in 1 (by decide +kernel) rfl, by decide +kernel, by decide +kernel, by decide +kernel, by decide +kernel, mm_is_of (by decide +kernel) cw37 rfl⟩
theorem cw38 : Cond.codeWith (mm_yn 38) (mm_cb 38) (mm_ml 38) (mm_rt 38) (mm_ht 38) ∈ mm_tb := mm_in 440 (by decide +kernel) rfl
theorem isw38 : mm_is 38 := mm_is_ofW (by decide +kernel) cw38
theorem cw39 : Cond.code (mm_yn 39) (mm_cb 39) (mm_ml 39) (mm_rt 39) ∈ mm_tb := mm_in 444 (by decide +kernel) rfl
theorem okm39 : mm_okm 39 3 := ⟨cw39, mm_in 1 (by decide +kernel) rfl, by decide +kernel, by decide +kernel, by decide +kernel, by decide +kernel, mm_is_of (by decide +kernel) cw39 rfl⟩
theorem cw40 : Cond.code (mm_yn 40) (mm_cb 40) (mm_ml 40) (mm_rt 40) ∈ mm_tb := mm_in 447 (by decide +kernel) rfl
theorem okm40 : mm_okm 40 2 := ⟨cw40, mm_in 1 (by decide +kernel) rfl, by decide +kernel, by decide +kernel, by decide +kernel, by decide +kernel, mm_is_of (by decide +kernel) cw40 rfl⟩
theorem cw41 : Cond.code (mm_yn 41) (mm_cb 41) (mm_ml 41) (mm_rt 41) ∈ mm_tb := mm_in 452 (by decide +kernel) rfl
theorem okm41 : mm_okm 41 3 := ⟨cw41, mm_in 6 (by decide +kernel) rfl, by decide +kernel, by decide +kernel, by decide +kernel, by decide +kernel, mm_is_of (by decide +kernel) cw41 rfl⟩
theorem cw42 : Cond.code (mm_yn 42) (mm_cb 42) (mm_ml 42) (mm_rt 42) ∈ mm_tb := mm_in 456 (by decide +kernel) rfl
theorem okm42 : mm_okm 42 3 := ⟨cw42, mm_in 6 (by decide +kernel) rfl, by decide +kernel, by decide +kernel, by decide +kernel, by decide +kernel, mm_is_of (by decide +kernel) cw42 rfl⟩
theorem cw43 : Cond.code (mm_yn 43) (mm_cb 43) (mm_ml 43) (mm_rt 43) ∈ mm_tb := mm_in 462 (by decide +kernel) rfl
theorem okm43 : mm_okm 43 2 := ⟨cw43, mm_in 3 (by decide +kernel) rfl, by decide +kernel, by decide +kernel, by decide +kernel, by decide +kernel, mm_is_of (by decide +kernel) cw43 rfl⟩
theorem cw44 : Cond.code (mm_yn 44) (mm_cb 44) (mm_ml 44) (mm_rt 44) ∈ mm_tb := mm_in 466 (by decide +kernel) rfl
theorem okm44 : mm_okm 44 2 := ⟨cw44, mm_in 6 (by decide +kernel) rfl, by decide +kernel, by decide +kernel, by decide +kernel, by decide +kernel, mm_is_of (by decide +kernel) cw44 rfl⟩
theorem cw45 : Cond.code (mm_yn 45) (mm_cb 45) (mm_ml 45) (mm_rt 45) ∈ mm_tb := mm_in 470 (by decide +kernel) rfl
theorem okm45 : mm_okm 45 2 := ⟨cw45, mm_in 18 (by decide +kernel) rfl, by decide +kernel, by decide +kernel, by decide +kernel, by decide +kernel, mm_is_of (by decide +kernel) cw45 rfl⟩
theorem cw46 : Cond.code (mm_yn 46) (mm_cb 46) (mm_ml 46) (mm_rt 46) ∈ mm_tb := mm_in 475 (by decide +kernel) rfl
theorem okm46 : mm_okm 46 1 := ⟨cw46, mm_in 6 (by decide +kernel) rfl, by decide +kernel, by decide +kernel, by decide +kernel, by decide +kernel, mm_is_of (by decide +kernel) cw46 rfl⟩
theorem cw47 : Cond.code (mm_yn 47) (mm_cb 47) (mm_ml 47) (mm_rt 47) ∈ mm_tb := mm_in 480 (by decide +kernel) rfl
theorem okm47 : mm_okm 47 1 := ⟨cw47, mm_in 6 (by decide +kernel) rfl, by decide +kernel, by decide +kernel, by decide +kernel, by decide +kernel, mm_is_of (by decide +kernel) cw47 rfl⟩
theorem cw48 : Cond.code (mm_yn 48) (mm_cb 48) (mm_ml 48) (mm_rt 48) ∈ mm_tb := mm_in 484 (by decide +kernel) rfl
theorem okm48 : mm_okm 48 0 := ⟨cw48, mm_in 5 (by decide +kernel) rfl, by decide +kernel, by decide +kernel, by decide +kernel, by decide +kernel, mm_is_of (by decide +kernel) cw48 rfl⟩
theorem cw49 : Cond.code (mm_yn 49) (mm_cb 49) (mm_ml 49) (mm_rt 49) ∈ mm_tb := mm_in 488 (by decide +kernel) rfl
theorem okm49 : mm_okm 49 3 := ⟨cw49, mm_in 6 (by decide +kernel) rfl, by decide +kernel, by decide +kernel, by decide +kernel, by decide +kernel, mm_is_of (by decide +kernel) cw49 rfl⟩
theorem cw50 : Cond.code (mm_yn 50) (mm_cb 50) (mm_ml 50) (mm_rt 50) ∈ mm_tb := mm_in 492 (by decide +kernel) rfl
theorem okm50 : mm_okm 50 1 := ⟨cw50, mm_in 5 (by decide +kernel) rfl, by decide +kernel, by decide +kernel, by decide +kernel, by decide +kernel, mm_is_of (by decide +kernel) cw50 rfl⟩
theorem cw51 : Cond.code (mm_yn 51) (mm_cb 51) (mm_ml 51) (mm_rt 51) ∈ mm_tb := mm_in 496 (by decide +kernel) rfl
theorem okm51 : mm_okm 51 0 := ⟨cw51, mm_in 5 (by decide +kernel) rfl, by decide +kernel, by decide +kernel, by decide +kernel, by decide +kernel, mm_is_of (by decide +kernel) cw51 rfl⟩
theorem cw52 : Cond.codeWith (mm_yn 52) (mm_cb 52) (mm_ml 52) (mm_rt 52) (mm_ht 52) ∈ mm_tb := mm_in 499 (by decide +kernel) rfl
theorem isw52 : mm_is 52 := mm_is_ofW (by decide +kernel) cw52
theorem cw53 : Cond.code (mm_yn 53) (mm_cb 53) (mm_ml 53) (mm_rt 53) ∈ mm_tb := mm_in 503 (by decide +kernel) rfl
theorem okm53 : mm_okm 53 2 := ⟨cw53, mm_in 1 (by decide +kernel) rfl, by decide +kernel, by decide +kernel, by decide +kernel, by decide +kernel, mm_is_of (by decide +kernel) cw53 rfl⟩
theorem cw54 : Cond.code (mm_yn 54) (mm_cb 54) (mm_ml 54) (mm_rt 54) ∈ mm_tb := mm_in 506 (by decide +kernel) rfl
theorem okm54 : mm_okm 54 1 := ⟨cw54, mm_in 1 (by decide +kernel) rfl, by decide +kernel, by decide +kernel, by decide +kernel, by decide +kernel, mm_is_of (by decide +kernel) cw54 rfl⟩
theorem cw55 : Cond.codeWith (mm_yn 55) (mm_cb 55) (mm_ml 55) (mm_rt 55) (mm_ht 55) ∈ mm_tb := mm_in 511 (by decide +kernel) rfl
theorem isw55 : mm_is 55 := mm_is_ofW (by decide +kernel) cw55
theorem cw56 : Cond.code (mm_yn 56) (mm_cb 56) (mm_ml 56) (mm_rt 56) ∈ mm_tb := mm_in 515 (by decide +kernel) rfl
theorem okm56 : mm_okm 56 3 := ⟨cw56, mm_in 1 (by decide +kernel) rfl, by decide +kernel, by decide +kernel, by decide +kernel, by decide +kernel, mm_is_of (by decide +kernel) cw56 rfl⟩
theorem cw57 : Cond.code (mm_yn 57) (mm_cb 57) (mm_ml 57) (mm_rt 57) ∈ mm_tb := mm_in 519 (by decide +kernel) rfl
theorem okm57 : mm_okm 57 3 := ⟨cw57, mm_in 7 (by decide +kernel) rfl, by decide +kernel, by decide +kernel, by decide +kernel, by decide +kernel, mm_is_of (by decide +kernel) cw57 rfl⟩
theorem cw58 : Cond.code (mm_yn 58) (mm_cb 58) (mm_ml 58) (mm_rt 58) ∈ mm_tb := mm_in 524 (by decide +kernel) rfl
theorem okm58 : mm_okm 58 3 := ⟨cw58, mm_in 7 (by decide +kernel) rfl, by decide +kernel, by decide +kernel, by decide +kernel, by decide +kernel, mm_is_of (by decide +kernel) cw58 rfl⟩
theorem cw59 : Cond.code (mm_yn 59) (mm_cb 59) (mm_ml 59) (mm_rt 59) ∈ mm_tb := mm_in 532 (by decide +kernel) rfl
theorem okm59 : mm_okm 59 3 := ⟨cw59, mm_in 7 (by decide +kernel) rfl, by decide +kernel, by decide +kernel, by decide +kernel, by decide +kernel, mm_is_of (by decide +kernel) cw59 rfl⟩
theorem cw60 : Cond.code (mm_yn 60) (mm_cb 60) (mm_ml 60) (mm_rt 60) ∈ mm_tb := mm_in 536 (by decide +kernel) rfl
theorem okm60 : mm_okm 60 3 := ⟨cw60, mm_in 7 (by decide +kernel) rfl, by decide +kernel, by decide +kernel, by decide +kernel, by decide +kernel, mm_is_of (by decide +kernel) cw60 rfl⟩
theorem cw61 : Cond.code (mm_yn 61) (mm_cb 61) (mm_ml 61) (mm_rt 61) ∈ mm_tb := mm_in 542 (by decide +kernel) rfl
theorem okm61 : mm_okm 61 4 := ⟨cw61, mm_in 7 (by decide +kernel) rfl, by decide +kernel, by decide +kernel, by decide +kernel, by decide +kernel, mm_is_of (by decide +kernel) cw61 rfl⟩
theorem cw62 : Cond.code (mm_yn 62) (mm_cb 62) (mm_ml 62) (mm_rt 62) ∈ mm_tb := mm_in 547 (by decide +kernel) rfl
theorem okm62 : mm_okm 62 3 := ⟨cw62, mm_in 7 (by decide +kernel) rfl, by decide +kernel, by decide +kernel, by decide +kernel, by decide +kernel, mm_is_of (by decide +kernel) cw62 rfl⟩
theorem cw63 : Cond.codeWith (mm_yn 63) (mm_cb 63) (mm_ml 63) (mm_rt 63) (mm_ht 63) ∈ mm_tb := mm_in 550 (by decide +kernel) rfl
theorem isw63 : mm_is 63 := mm_is_ofW (by decide +kernel) cw63
theorem cw64 : Cond.code (mm_yn 64) (mm_cb 64) (mm_ml 64) (mm_rt 64) ∈ mm_tb := mm_in 554 (by decide +kernel) rfl
theorem okm64 : mm_okm 64 2 := ⟨cw64, mm_in 1 (by decide +kernel) rfl, by decide +kernel, by decide +kernel, by decide +kernel, by decide +kernel, mm_is_of (by decide +kernel) cw64 rfl⟩
theorem cw65 : Cond.code (mm_yn 65) (mm_cb 65) (mm_ml 65) (mm_rt 65) ∈ mm_tb := mm_in 557 (by decide +kernel) rfl
theorem okm65 : mm_okm 65 1 := ⟨cw65, mm_in 1 (by decide +kernel) rfl, by decide +kernel, by decide +kernel, by decide +kernel, by decide +kernel, mm_is_of (by decide +kernel) cw65 rfl⟩
theorem cw66 : Cond.code (mm_yn 66) (mm_cb 66) (mm_ml 66) (mm_rt 66) ∈ mm_tb := mm_in 560 (by decide +kernel) rfl
theorem okm66 : mm_okm 66 1 := ⟨cw66, mm_in 18 (by decide +kernel) rfl, by decide +kernel, by decide +kernel, by decide +kernel, by decide +kernel, mm_is_of (by decide +kernel) cw66 rfl⟩
theorem cw67 : Cond.code (mm_yn 67) (mm_cb 67) (mm_ml 67) (mm_rt 67) ∈ mm_tb := mm_in 566 (by decide +kernel) rfl
theorem okm67 : mm_okm 67 0 := ⟨cw67, mm_in 1 (by decide +kernel) rfl, by decide +kernel, by decide +kernel, by decide +kernel, by decide +kernel, mm_is_of (by decide +kernel) cw67 rfl⟩
theorem cw68 : Cond.code (mm_yn 68) (mm_cb 68) (mm_ml 68) (mm_rt 68) ∈ mm_tb := mm_in 570 (by decide +kernel) rfl
theorem okm68 : mm_okm 68 0 := ⟨cw68, mm_in 8 (by decide +kernel) rfl, by decide +kernel, by decide +kernel, by decide +kernel, by decide +kernel, mm_is_of (by decide +kernel) cw68 rfl⟩
theorem cw69 : Cond.code (mm_yn 69) (mm_cb 69) (mm_ml 69) (mm_rt 69) ∈ mm_tb := mm_in 575 (by decide +kernel) rfl
theorem okm69 : mm_okm 69 3 := ⟨cw69, mm_in 8 (by decide +kernel) rfl, by decide +kernel, by decide +kernel, by decide +kernel, by decide +kernel, mm_is_of (by decide +kernel) cw69 rfl⟩
theorem cw70 : Cond.codeWith (mm_yn 70) (mm_cb 70) (mm_ml 70) (mm_rt 70) (mm_ht 70) ∈ mm_tb := mm_in 578 (by decide +kernel) rfl
theorem isw70 : mm_is 70 := mm_is_ofW (by decide +kernel) cw70
theorem cw71 : Cond.code (mm_yn 71) (mm_cb 71) (mm_ml 71) (mm_rt 71) ∈ mm_tb := mm_in 582 (by decide +kernel) rfl
theorem okm71 : mm_okm 71 2 := ⟨cw71, mm_in 1 (by decide +kernel) rfl, by decide +kernel, by decide +kernel, by decide +kernel, by decide +kernel, mm_is_of (by decide +kernel) cw71 rfl⟩
theorem cw72 : Cond.codeWith (mm_yn 72) (mm_cb 72) (mm_ml 72) (mm_rt 72) (mm_ht 72) ∈ mm_tb := mm_in 585 (by decide +kernel) rfl
theorem isw72 : mm_is 72 := mm_is_ofW (by decide +kernel) cw72
theorem cw73 : Cond.code (mm_yn 73) (mm_cb 73) (mm_ml 73) (mm_rt 73) ∈ mm_tb := mm_in 589 (by decide +kernel) rfl
theorem okm73 : mm_okm 73 1 := ⟨cw73, mm_in 1 (by decide +kernel) rfl, by decide +kernel, by decide +kernel, by decide +kernel, by decide +kernel, mm_is_of (by decide +kernel) cw73 rfl⟩
theorem cw74 : Cond.code (mm_yn 74) (mm_cb 74) (mm_ml 74) (mm_rt 74) ∈ mm_tb := mm_in 594 (by decide +kernel) rfl
theorem okm74 : mm_okm 74 0 := ⟨cw74, mm_in 8 (by decide +kernel) rfl, by decide +kernel, by decide +kernel, by decide +kernel, by decide +kernel, mm_is_of (by decide +kernel) cw74 rfl⟩
theorem cw75 : Cond.code (mm_yn 75) (mm_cb 75) (mm_ml 75) (mm_rt 75) ∈ mm_tb := mm_in 597 (by decide +kernel) rfl
theorem okm75 : mm_okm 75 1 := ⟨cw75, mm_in 8 (by decide +kernel) rfl, by decide +kernel, by decide +kernel, by decide +kernel, by decide +kernel, mm_is_of (by decide +kernel) cw75 rfl⟩
theorem cw76 : Cond.code (mm_yn 76) (mm_cb 76) (mm_ml 76) (mm_rt 76) ∈ mm_tb := mm_in 602 (by decide +kernel) rfl
theorem okm76 : mm_okm 76 1 := ⟨cw76, mm_in 8 (by decide +kernel) rfl, by decide +kernel, by decide +kernel, by decide +kernel, by decide +kernel, mm_is_of (by decide +kernel) cw76 rfl⟩
theorem cw77 : Cond.codeWith (mm_yn 77) (mm_cb 77) (mm_ml 77) (mm_rt 77) (mm_ht 77) ∈ mm_tb := mm_in 607 (by decide +kernel) rfl
theorem isw77 : mm_is 77 := mm_is_ofW (by decide +kernel) cw77
theorem cw78 : Cond.code (mm_yn 78) (mm_cb 78) (mm_ml 78) (mm_rt 78) ∈ mm_tb := mm_in 611 (by decide +kernel) rfl
theorem okm78 : mm_okm 78 2 := ⟨cw78, mm_in 1 (by decide +kernel) rfl, by decide +kernel, by decide +kernel, by decide +kernel, by decide +kernel, mm_is_of (by decide +kernel) cw78 rfl⟩
theorem cw79 : Cond.code (mm_yn 79) (mm_cb 79) (mm_ml 79) (mm_rt 79) ∈ mm_tb := mm_in 615 (by decide +kernel) rfl
theorem okm79 : mm_okm 79 0 := ⟨cw79, mm_in 1 (by decide +kernel) rfl, by decide +kernel, by decide +kernel, by decide +kernel, by decide +kernel, mm_is_of (by decide +kernel) cw79 rfl⟩
theorem cw80 : Cond.code (mm_yn 80) (mm_cb 80) (mm_ml 80) (mm_rt 80) ∈ mm_tb := mm_in 622 (by decide +kernel) rfl
theorem okm80 : mm_okm 80 3 := ⟨cw80, mm_in 1 (by decide +kernel) rfl, by decide +kernel, by decide +kernel, by decide +kernel, by decide +kernel, mm_is_of (by decide +kernel) cw80 rfl⟩
theorem cw81 : Cond.code (mm_yn 81) (mm_cb 81) (mm_ml 81) (mm_rt 81) ∈ mm_tb := mm_in 626 (by decide +kernel) rfl
theorem okm81 : mm_okm 81 1 := ⟨cw81, mm_in 8 (by decide +kernel) rfl, by decide +kernel, by decide +kernel, by decide +kernel, by decide +kernel, mm_is_of (by decide +kernel) cw81 rfl⟩
theorem cw82 : Cond.code (mm_yn 82) (mm_cb 82) (mm_ml 82) (mm_rt 82) ∈ mm_tb := mm_in 630 (by decide +kernel) rfl
theorem okm82 : mm_okm 82 2 := ⟨cw82, mm_in 8 (by decide +kernel) rfl, by decide +kernel, by decide +kernel, by decide +kernel, by decide +kernel, mm_is_of (by decide +kernel) cw82 rfl⟩
theorem cw83 : Cond.code (mm_yn 83) (mm_cb 83) (mm_ml 83) (mm_rt 83) ∈ mm_tb := mm_in 634 (by decide +kernel) rfl
theorem okm83 : mm_okm 83 2 := ⟨cw83, mm_in 6 (by decide +kernel) rfl, by decide +kernel, by decide +kernel, by decide +kernel, by decide +kernel, mm_is_of (by decide +kernel) cw83 rfl⟩
theorem cw84 : Cond.code (mm_yn 84) (mm_cb 84) (mm_ml 84) (mm_rt 84) ∈ mm_tb := mm_in 638 (by decide +kernel) rfl
theorem okm84 : mm_okm 84 1 := ⟨cw84, mm_in 6 (by decide +kernel) rfl, by decide +kernel, by decide +kernel, by decide +kernel, by decide +kernel, mm_is_of (by decide +kernel) cw84 rfl⟩
theorem cw85 : Cond.code (mm_yn 85) (mm_cb 85) (mm_ml 85) (mm_rt 85) ∈ mm_tb := mm_in 641 (by decide +kernel) rfl
theorem okm85 : mm_okm 85 1 := ⟨cw85, mm_in 18 (by decide +kernel) rfl, by decide +kernel, by decide +kernel, by decide +kernel, by decide +kernel, mm_is_of (by decide +kernel) cw85 rfl⟩
theorem cw86 : Cond.code (mm_yn 86) (mm_cb 86) (mm_ml 86) (mm_rt 86) ∈ mm_tb := mm_in 645 (by decide +kernel) rfl
theorem okm86 : mm_okm 86 2 := ⟨cw86, mm_in 6 (by decide +kernel) rfl, by decide +kernel, by decide +kernel, by decide +kernel, by decide +kernel, mm_is_of (by decide +kernel) cw86 rfl⟩
theorem cw87 : Cond.code (mm_yn 87) (mm_cb 87) (mm_ml 87) (mm_rt 87) ∈ mm_tb := mm_in 649 (by decide +kernel) rfl
theorem okm87 : mm_okm 87 3 := ⟨cw87, mm_in 6 (by decide +kernel) rfl, by decide +kernel, by decide +kernel, by decide +kernel, by decide +kernel, mm_is_of (by decide +kernel) cw87 rfl⟩
theorem cw88 : Cond.code (mm_yn 88) (mm_cb 88) (mm_ml 88) (mm_rt 88) ∈ mm_tb := mm_in 652 (by decide +kernel) rfl
theorem okm88 : mm_okm 88 1 := ⟨cw88, mm_in 8 (by decide +kernel) rfl, by decide +kernel, by decide +kernel, by decide +kernel, by decide +kernel, mm_is_of (by decide +kernel) cw88 rfl⟩
theorem cw89 : Cond.codeWith (mm_yn 89) (mm_cb 89) (mm_ml 89) (mm_rt 89) (mm_ht 89) ∈ mm_tb := mm_in 655 (by decide +kernel) rfl
theorem isw89 : mm_is 89 := mm_is_ofW (by decide +kernel) cw89
theorem cw90 : Cond.code (mm_yn 90) (mm_cb 90) (mm_ml 90) (mm_rt 90) ∈ mm_tb := mm_in 659 (by decide +kernel) rfl
theorem okm90 : mm_okm 90 2 := ⟨cw90, mm_in 1 (by decide +kernel) rfl, by decide +kernel, by decide +kernel, by decide +kernel, by decide +kernel, mm_is_of (by decide +kernel) cw90 rfl⟩
theorem cw91 : Cond.code (mm_yn 91) (mm_cb 91) (mm_ml 91) (mm_rt 91) ∈ mm_tb := mm_in 663 (by decide +kernel) rfl
theorem okm91 : mm_okm 91 2 := ⟨cw91, mm_in 9 (by decide +kernel) rfl, by decide +kernel, by decide +kernel, by decide +kernel, by decide +kernel, mm_is_of (by decide +kernel) cw91 rfl⟩
theorem cw92 : Cond.code (mm_yn 92) (mm_cb 92) (mm_ml 92) (mm_rt 92) ∈ mm_tb := mm_in 667 (by decide +kernel) rfl
theorem okm92 : mm_okm 92 1 := ⟨cw92, mm_in 6 (by decide +kernel) rfl, by decide +kernel, by decide +kernel, by decide +kernel, by decide +kernel, mm_is_of (by decide +kernel) cw92 rfl⟩
theorem cw93 : Cond.code (mm_yn 93) (mm_cb 93) (mm_ml 93) (mm_rt 93) ∈ mm_tb := mm_in 672 (by decide +kernel) rfl
theorem okm93 : mm_okm 93 1 := ⟨cw93, mm_in 6 (by decide +kernel) rfl, by decide +kernel, by decide +kernel, by decide +kernel, by decide +kernel, mm_is_of (by decide +kernel) cw93 rfl⟩
theorem cw94 : Cond.code (mm_yn 94) (mm_cb 94) (mm_ml 94) (mm_rt 94) ∈ mm_tb := mm_in 676 (by decide +kernel) rfl
theorem okm94 : mm_okm 94 2 := ⟨cw94, mm_in 6 (by decide +kernel) rfl, by decide +kernel, by decide +kernel, by decide +kernel, by decide +kernel, mm_is_of (by decide +kernel) cw94 rfl⟩
theorem cw95 : Cond.code (mm_yn 95) (mm_cb 95) (mm_ml 95) (mm_rt 95) ∈ mm_tb := mm_in 685 (by decide +kernel) rfl
theorem okm95 : mm_okm 95 1 := ⟨cw95, mm_in 9 (by decide +kernel) rfl, by decide +kernel, by decide +kernel, by decide +kernel, by decide +kernel, mm_is_of (by decide +kernel) cw95 rfl⟩
theorem cw96 : Cond.code (mm_yn 96) (mm_cb 96) (mm_ml 96) (mm_rt 96) ∈ mm_tb := mm_in 689 (by decide +kernel) rfl
theorem okm96 : mm_okm 96 2 := ⟨cw96, mm_in 6 (by decide +kernel) rfl, by decide +kernel, by decide +kernel, by decide +kernel, by decide +kernel, mm_is_of (by decide +kernel) cw96 rfl⟩
theorem cw97 : Cond.code (mm_yn 97) (mm_cb 97) (mm_ml 97) (mm_rt 97) ∈ mm_tb := mm_in 697 (by decide +kernel) rfl
theorem okm97 : mm_okm 97 0 := ⟨cw97, mm_in 9 (by decide +kernel) rfl, by decide +kernel, by decide +kernel, by decide +kernel, by decide +kernel, mm_is_of (by decide +kernel) cw97 rfl⟩
theorem cw98 : Cond.code (mm_yn 98) (mm_cb 98) (mm_ml 98) (mm_rt 98) ∈ mm_tb := mm_in 701 (by decide +kernel) rfl
theorem okm98 : mm_okm 98 0 := ⟨cw98, mm_in 9 (by decide +kernel) rfl, by decide +kernel, by decide +kernel, by decide +kernel, by decide +kernel, mm_is_of (by decide +kernel) cw98 rfl⟩
theorem cw99 : Cond.code (mm_yn 99) (mm_cb 99) (mm_ml 99) (mm_rt 99) ∈ mm_tb := mm_in 709 (by decide +kernel) rfl
theorem okm99 : mm_okm 99 0 := ⟨cw99, mm_in 10 (by decide +kernel) rfl, by decide +kernel, by decide +kernel, by decide +kernel, by decide +kernel, mm_is_of (by decide +kernel) cw99 rfl⟩
theorem cw100 : Cond.code (mm_yn 100) (mm_cb 100) (mm_ml 100) (mm_rt 100) ∈ mm_tb := mm_in 796 (by decide +kernel) rfl
theorem okm100 : mm_okm 100 0 := ⟨cw100, mm_in 10 (by decide +kernel) rfl, by decide +kernel, by decide +kernel, by decide +kernel, by decide +kernel, mm_is_of (by decide +kernel) cw100 rfl⟩
theorem cw101 : Cond.code (mm_yn 101) (mm_cb 101) (mm_ml 101) (mm_rt 101) ∈ mm_tb := mm_in 800 (by decide +kernel) rfl
theorem okm101 : mm_okm 101 5 := ⟨cw101, mm_in 10 (by decide +kernel) rfl, by decide +kernel, by decide +kernel, by decide +kernel, by decide +kernel, mm_is_of (by decide +kernel) cw101 rfl⟩
theorem cw102 : Cond.code (mm_yn 102) (mm_cb 102) (mm_ml 102) (mm_rt 102) ∈ mm_tb := mm_in 803 (by decide +kernel) rfl
theorem okm102 : mm_okm 102 1 := ⟨cw102, mm_in 10 (by decide +kernel) rfl, by decide +kernel, by decide +kernel, by decide +kernel, by decide +kernel, mm_is_of (by decide +kernel) cw102 rfl⟩
theorem cw103 : Cond.code (mm_yn 103) (mm_cb 103) (mm_ml 103) (mm_rt 103) ∈ mm_tb := mm_in 807 (by decide +kernel) rfl
theorem okm103 : mm_okm 103 2 := ⟨cw103, mm_in 10 (by decide +kernel) rfl, by decide +kernel, by decide +kernel, by decide +kernel, by decide +kernel, mm_is_of (by decide +kernel) cw103 rfl⟩
theorem cw104 : Cond.code (mm_yn 104) (mm_cb 104) (mm_ml 104) (mm_rt 104) ∈ mm_tb := mm_in 810 (by decide +kernel) rfl
theorem okm104 : mm_okm 104 2 := ⟨cw104, mm_in 10 (by decide +kernel) rfl, by decide +kernel, by decide +kernel, by decide +kernel, by decide +kernel, mm_is_of (by decide +kernel) cw104 rfl⟩
theorem cw105 : Cond.code (mm_yn 105) (mm_cb 105) (mm_ml 105) (mm_rt 105) ∈ mm_tb := mm_in 814 (by decide +kernel) rfl
theorem okm105 : mm_okm 105 0 := ⟨cw105, mm_in 10 (by decide +kernel) rfl, by decide +kernel, by decide +kernel, by decide +kernel, by decide +kernel, mm_is_of (by decide +kernel) cw105 rfl⟩
theorem cw106 : Cond.code (mm_yn 106) (mm_cb 106) (mm_ml 106) (mm_rt 106) ∈ mm_tb := mm_in 818 (by decide +kernel) rfl
theorem okm106 : mm_okm 106 3 := ⟨cw106, mm_in 10 (by decide +kernel) rfl, by decide +kernel, by decide +kernel, by decide +kernel, by decide +kernel, mm_is_of (by decide +kernel) cw106 rfl⟩
theorem cw107 : Cond.code (mm_yn 107) (mm_cb 107) (mm_ml 107) (mm_rt 107) ∈ mm_tb := mm_in 822 (by decide +kernel) rfl
theorem okm107 : mm_okm 107 3 := ⟨cw107, mm_in 10 (by decide +kernel) rfl, by decide +kernel, by decide +kernel, by decide +kernel, by decide +kernel, mm_is_of (by decide +kernel) cw107 rfl⟩
theorem cw108 : Cond.code (mm_yn 108) (mm_cb 108) (mm_ml 108) (mm_rt 108) ∈ mm_tb := mm_in 825 (by decide +kernel) rfl
theorem okm108 : mm_okm 108 2 := ⟨cw108, mm_in 10 (by decide +kernel) rfl, by decide +kernel, by decide +kernel, by decide +kernel, by decide +kernel, mm_is_of (by decide +kernel) cw108 rfl⟩
theorem cw109 : Cond.code (mm_yn 109) (mm_cb 109) (mm_ml 109) (mm_rt 109) ∈ mm_tb := mm_in 829 (by decide +kernel) rfl
theorem okm109 : mm_okm 109 2 := ⟨cw109, mm_in 10 (by decide +kernel) rfl, by decide +kernel, by decide +kernel, by decide +kernel, by decide +kernel, mm_is_of (by decide +kernel) cw109 rfl⟩
theorem cw110 : Cond.code (mm_yn 110) (mm_cb 110) (mm_ml 110) (mm_rt 110) ∈ mm_tb := mm_in 833 (by decide +kernel) rfl
theorem okm110 : mm_okm 110 2 := ⟨cw110, mm_in 10 (by decide +kernel) rfl, by decide +kernel, by decide +kernel, by decide +kernel, by decide +kernel, mm_is_of (by decide +kernel) cw110 rfl⟩
theorem cw111 : Cond.code (mm_yn 111) (mm_cb 111) (mm_ml 111) (mm_rt 111) ∈ mm_tb := mm_in 836 (by decide +kernel) rfl
theorem okm111 : mm_okm 111 2 := ⟨cw111, mm_in 10 (by decide +kernel) rfl, by decide +kernel, by decide +kernel, by decide +kernel, by decide +kernel, mm_is_of (by decide +kernel) cw111 rfl⟩
theorem cw112 : Cond.code (mm_yn 112) (mm_cb 112) (mm_ml 112) (mm_rt 112) ∈ mm_tb := mm_in 840 (by decide +kernel) rfl
theorem okm112 : mm_okm 112 0 := ⟨cw112, mm_in 10 (by decide +kernel) rfl, by decide +kernel, by decide +kernel, by decide +kernel, by decide +kernel, mm_is_of (by decide +kernel) cw112 rfl⟩
theorem cw113 : Cond.code (mm_yn 113) (mm_cb 113) (mm_ml 113) (mm_rt 113) ∈ mm_tb := mm_in 844 (by decide +kernel) rfl
theorem okm113 : mm_okm 113 3 := ⟨cw113, mm_in 10 (by decide +kernel) rfl, by decide +kernel, by decide +kernel, by decide +kernel, by decide +kernel, mm_is_of (by decide +kernel) cw113 rfl⟩
theorem cw114 : Cond.code (mm_yn 114) (mm_cb 114) (mm_ml 114) (mm_rt 114) ∈ mm_tb := mm_in 848 (by decide +kernel) rfl
theorem okm114 : mm_okm 114 5 := ⟨cw114, mm_in 10 (by decide +kernel) rfl, by decide +kernel, by decide +kernel, by decide +kernel, by decide +kernel, mm_is_of (by decide +kernel) cw114 rfl⟩
theorem cw115 : Cond.code (mm_yn 115) (mm_cb 115) (mm_ml 115) (mm_rt 115) ∈ mm_tb := mm_in 852 (by decide +kernel) rfl
theorem okm115 : mm_okm 115 2 := ⟨cw115, mm_in 10 (by decide +kernel) rfl, by decide +kernel, by decide +kernel, by decide +kernel, by decide +kernel, mm_is_of (by decide +kernel) cw115 rfl⟩
theorem cw116 : Cond.code (mm_yn 116) (mm_cb 116) (mm_ml 116) (mm_rt 116) ∈ mm_tb := mm_in 856 (by decide +kernel) rfl
theorem okm116 : mm_okm 116 3 := ⟨cw116, mm_in 10 (by decide +kernel) rfl, by decide +kernel, by decide +kernel, by decide +kernel, by decide +kernel, mm_is_of (by decide +kernel) cw116 rfl⟩
theorem cw117 : Cond.code (mm_yn 117) (mm_cb 117) (mm_ml 117) (mm_rt 117) ∈ mm_tb := mm_in 860 (by decide +kernel) rfl
theorem okm117 : mm_okm 117 3 := ⟨cw117, mm_in 10 (by decide +kernel) rfl, by decide +kernel, by decide +kernel, by decide +kernel, by decide +kernel, mm_is_of (by decide +kernel) cw117 rfl⟩
theorem cw118 : Cond.code (mm_yn 118) (mm_cb 118) (mm_ml 118) (mm_rt 118) ∈ mm_tb := mm_in 864 (by decide +kernel) rfl
theorem okm118 : mm_okm 118 0 := ⟨cw118, mm_in 10 (by decide +kernel) rfl, by decide +kernel, by decide +kernel, by decide +kernel, by decide +kernel, mm_is_of (by decide +kernel) cw118 rfl⟩
theorem cw119 : Cond.code (mm_yn 119) (mm_cb 119) (mm_ml 119) (mm_rt 119) ∈ mm_tb := mm_in 868 (by decide +kernel) rfl
theorem okm119 : mm_okm 119 3 := ⟨cw119, mm_in 10 (by decide +kernel) rfl, by decide +kernel, by decide +kernel, by decide +kernel, by decide +kernel, mm_is_of (by decide +kernel) cw119 rfl⟩
theorem cw120 : Cond.code (mm_yn 120) (mm_cb 120) (mm_ml 120) (mm_rt 120) ∈ mm_tb := mm_in 871 (by decide +kernel) rfl
theorem okm120 : mm_okm 120 1 := ⟨cw120, mm_in 10 (by decide +kernel) rfl, by decide +kernel, by decide +kernel, by decide +kernel, by decide +kernel, mm_is_of (by decide +kernel) cw120 rfl⟩
theorem cw121 : Cond.code (mm_yn 121) (mm_cb 121) (mm_ml 121) (mm_rt 121) ∈ mm_tb := mm_in 875 (by decide +kernel) rfl
theorem okm121 : mm_okm 121 4 := ⟨cw121, mm_in 10 (by decide +kernel) rfl, by decide +kernel, by decide +kernel, by decide +kernel, by decide +kernel, mm_is_of (by decide +kernel) cw121 rfl⟩
theorem cw122 : Cond.code (mm_yn 122) (mm_cb 122) (mm_ml 122) (mm_rt 122) ∈ mm_tb := mm_in 879 (by decide +kernel) rfl
theorem okm122 : mm_okm 122 0 := ⟨cw122, mm_in 10 (by decide +kernel) rfl, by decide +kernel, by decide +kernel, by decide +kernel, by decide +kernel, mm_is_of (by decide +kernel) cw122 rfl⟩
theorem cw123 : Cond.code (mm_yn 123) (mm_cb 123) (mm_ml 123) (mm_rt 123) ∈ mm_tb := mm_in 883 (by decide +kernel) rfl
theorem okm123 : mm_okm 123 3 := ⟨cw123, mm_in 10 (by decide +kernel) rfl, by decide +kernel, by decide +kernel, by decide +kernel, by decide +kernel, mm_is_of (by decide +kernel) cw123 rfl⟩
theorem cw124 : Cond.code (mm_yn 124) (mm_cb 124) (mm_ml 124) (mm_rt 124) ∈ mm_tb := mm_in 887 (by decide +kernel) rfl
theorem okm124 : mm_okm 124 3 := ⟨cw124, mm_in 10 (by decide +kernel) rfl, by decide +kernel, by decide +kernel, by decide +kernel, by decide +kernel, mm_is_of (by decide +kernel) cw124 rfl⟩
theorem cw125 : Cond.code (mm_yn 125) (mm_cb 125) (mm_ml 125) (mm_rt 125) ∈ mm_tb := mm_in 891 (by decide +kernel) rfl
theorem okm125 : mm_okm 125 1 := ⟨cw125, mm_in 10 (by decide +kernel) rfl, by decide +kernel, by decide +kernel, by decide +kernel, by decide +kernel, mm_is_of (by decide +kernel) cw125 rfl⟩
theorem cw126 : Cond.code (mm_yn 126) (mm_cb 126) (mm_ml 126) (mm_rt 126) ∈ mm_tb := mm_in 895 (by decide +kernel) rfl
theorem okm126 : mm_okm 126 2 := ⟨cw126, mm_in 10 (by decide +kernel) rfl, by decide +kernel, by decide +kernel, by decide +kernel, by decide +kernel, mm_is_of (by decide +kernel) cw126 rfl⟩
theorem cw127 : Cond.code (mm_yn 127) (mm_cb 127) (mm_ml 127) (mm_rt 127) ∈ mm_tb := mm_in 898 (by decide +kernel) rfl
theorem okm127 : mm_okm 127 1 := ⟨cw127, mm_in 10 (by decide +kernel) rfl, by decide +kernel, by decide +kernel, by decide +kernel, by decide +kernel, mm_is_of (by decide +kernel) cw127 rfl⟩
theorem cw128 : Cond.code (mm_yn 128) (mm_cb 128) (mm_ml 128) (mm_rt 128) ∈ mm_tb := mm_in 902 (by decide +kernel) rfl
theorem okm128 : mm_okm 128 3 := ⟨cw128, mm_in 10 (by decide +kernel) rfl, by decide +kernel, by decide +kernel, by decide +kernel, by decide +kernel, mm_is_of (by decide +kernel) cw128 rfl⟩
theorem cw129 : Cond.code (mm_yn 129) (mm_cb 129) (mm_ml 129) (mm_rt 129) ∈ mm_tb := mm_in 906 (by decide +kernel) rfl
theorem okm129 : mm_okm 129 2 := ⟨cw129, mm_in 10 (by decide +kernel) rfl, by decide +kernel, by decide +kernel, by decide +kernel, by decide +kernel, mm_is_of (by decide +kernel) cw129 rfl⟩
theorem cw130 : Cond.code (mm_yn 130) (mm_cb 130) (mm_ml 130) (mm_rt 130) ∈ mm_tb := mm_in 910 (by decide +kernel) rfl
theorem okm130 : mm_okm 130 1 := ⟨cw130, mm_in 10 (by decide +kernel) rfl, by decide +kernel, by decide +kernel, by decide +kernel, by decide +kernel, mm_is_of (by decide +kernel) cw130 rfl⟩
theorem cw131 : Cond.code (mm_yn 131) (mm_cb 131) (mm_ml 131) (mm_rt 131) ∈ mm_tb := mm_in 914 (by decide +kernel) rfl
theorem okm131 : mm_okm 131 0 := ⟨cw131, mm_in 10 (by decide +kernel) rfl, by decide +kernel, by decide +kernel, by decide +kernel, by decide +kernel, mm_is_of (by decide +kernel) cw131 rfl⟩
theorem cw132 : Cond.code (mm_yn 132) (mm_cb 132) (mm_ml 132) (mm_rt 132) ∈ mm_tb := mm_in 918 (by decide +kernel) rfl
theorem okm132 : mm_okm 132 2 := ⟨cw132, mm_in 10 (by decide +kernel) rfl, by decide +kernel, by decide +kernel, by decide +kernel, by decide +kernel, mm_is_of (by decide +kernel) cw132 rfl⟩
theorem cw133 : Cond.code (mm_yn 133) (mm_cb 133) (mm_ml 133) (mm_rt 133) ∈ mm_tb := mm_in 923 (by decide +kernel) rfl
theorem okm133 : mm_okm 133 0 := ⟨cw133, mm_in 10 (by decide +kernel) rfl, by decide +kernel, by decide +kernel, by decide +kernel, by decide +kernel, mm_is_of (by decide +kernel) cw133 rfl⟩
theorem cw134 : Cond.code (mm_yn 134) (mm_cb 134) (mm_ml 134) (mm_rt 134) ∈ mm_tb := mm_in 927 (by decide +kernel) rfl
theorem okm134 : mm_okm 134 2 := ⟨cw134, mm_in 10 (by decide +kernel) rfl, by decide +kernel, by decide +kernel, by decide +kernel, by decide +kernel, mm_is_of (by decide +kernel) cw134 rfl⟩
theorem cw135 : Cond.code (mm_yn 135) (mm_cb 135) (mm_ml 135) (mm_rt 135) ∈ mm_tb := mm_in 931 (by decide +kernel) rfl
theorem okm135 : mm_okm 135 1 := ⟨cw135, mm_in 10 (by decide +kernel) rfl, by decide +kernel, by decide +kernel, by decide +kernel, by decide +kernel, mm_is_of (by decide +kernel) cw135 rfl⟩
theorem cw136 : Cond.code (mm_yn 136) (mm_cb 136) (mm_ml 136) (mm_rt 136) ∈ mm_tb := mm_in 934 (by decide +kernel) rfl
theorem okm136 : mm_okm 136 2 := ⟨cw136, mm_in 10 (by decide +kernel) rfl, by decide +kernel, by decide +kernel, by decide +kernel, by decide +kernel, mm_is_of (by decide +kernel) cw136 rfl⟩
theorem cw137 : Cond.code (mm_yn 137) (mm_cb 137) (mm_ml 137) (mm_rt 137) ∈ mm_tb := mm_in 938 (by decide +kernel) rfl
theorem okm137 : mm_okm 137 2 := ⟨cw137, mm_in 10 (by decide +kernel) rfl, by decide +kernel, by decide +kernel, by decide +kernel, by decide +kernel, mm_is_of (by decide +kernel) cw137 rfl⟩
theorem cw138 : Cond.code (mm_yn 138) (mm_cb 138) (mm_ml 138) (mm_rt 138) ∈ mm_tb := mm_in 942 (by decide +kernel) rfl
theorem okm138 : mm_okm 138 2 := ⟨cw138, mm_in 10 (by decide +kernel) rfl, by decide +kernel, by decide +kernel, by decide +kernel, by decide +kernel, mm_is_of (by decide +kernel) cw138 rfl⟩
theorem cw139 : Cond.code (mm_yn 139) (mm_cb 139) (mm_ml 139) (mm_rt 139) ∈ mm_tb := mm_in 946 (by decide +kernel) rfl
theorem okm139 : mm_okm 139 0 := ⟨cw139, mm_in 10 (by decide +kernel) rfl, by decide +kernel, by decide +kernel, by decide +kernel, by decide +kernel, mm_is_of (by decide +kernel) cw139 rfl⟩
theorem cw140 : Cond.code (mm_yn 140) (mm_cb 140) (mm_ml 140) (mm_rt 140) ∈ mm_tb := mm_in 950 (by decide +kernel) rfl
theorem okm140 : mm_okm 140 0 := ⟨cw140, mm_in 10 (by decide +kernel) rfl, by decide +kernel, by decide +kernel, by decide +kernel, by decide +kernel, mm_is_of (by decide +kernel) cw140 rfl⟩
theorem cw141 : Cond.code (mm_yn 141) (mm_cb 141) (mm_ml 141) (mm_rt 141) ∈ mm_tb := mm_in 954 (by decide +kernel) rfl
theorem okm141 : mm_okm 141 0 := ⟨cw141, mm_in 10 (by decide +kernel) rfl, by decide +kernel, by decide +kernel, by decide +kernel, by decide +kernel, mm_is_of (by decide +kernel) cw141 rfl⟩
theorem cw142 : Cond.code (mm_yn 142) (mm_cb 142) (mm_ml 142) (mm_rt 142) ∈ mm_tb := mm_in 958 (by decide +kernel) rfl
theorem okm142 : mm_okm 142 0 := ⟨cw142, mm_in 10 (by decide +kernel) rfl, by decide +kernel, by decide +kernel, by decide +kernel, by decide +kernel, mm_is_of (by decide +kernel) cw142 rfl⟩
theorem cw143 : Cond.code (mm_yn 143) (mm_cb 143) (mm_ml 143) (mm_rt 143) ∈ mm_tb := mm_in 962 (by decide +kernel) rfl
theorem okm143 : mm_okm 143 0 := ⟨cw143, mm_in 10 (by decide +kernel) rfl, by decide +kernel, by decide +kernel, by decide +kernel, by decide +kernel, mm_is_of (by decide +kernel) cw143 rfl⟩
theorem cw144 : Cond.code (mm_yn 144) (mm_cb 144) (mm_ml 144) (mm_rt 144) ∈ mm_tb := mm_in 966 (by decide +kernel) rfl
theorem okm144 : mm_okm 144 0 := ⟨cw144, mm_in 10 (by decide +kernel) rfl, by decide +kernel, by decide +kernel, by decide +kernel, by decide +kernel, mm_is_of (by decide +kernel) cw144 rfl⟩
end
section
/-! ===== the same rules in the forms that the printed blocks use ===== -/
section MMF
variable {l : Launch} {X : Nat × (Nat → Int32)} {k d pc : Nat} {L S : List Value} {σ σ1 σ' : mm_S} {mc ms : Nat} {o : mm_O}
theorem mm_ic {n : Int} {v : Int32} (hd : decode (mm_cb k) pc = .ok (.iconst n, 1)) (hv : Int32.ofInt n = v) (hr : mm_Run l X k d (pc + 1) L (.int v :: S) σ mc ms o σ') : mm_Run l X k d pc L S σ mc ms o σ' := by
  subst hv; exact mm_iconst hd hr
theorem mm_bi {n : Int} {v : Int32} (hd : decode (mm_cb k) pc = .ok (.bipush n, 2)) (hv : (Int8.ofInt n).toInt32 = v) (hr : mm_Run l X k d (pc + 2) L (.int v :: S) σ mc ms o σ') : mm_Run l X k d pc L S σ mc ms o σ' := by
  subst hv; exact mm_bipush hd hr
theorem mm_si {n : Int} {v : Int32} (hd : decode (mm_cb k) pc = .ok (.sipush n, 3)) (hv : (Int16.ofInt n).toInt32 = v) (hr : mm_Run l X k d (pc + 3) L (.int v :: S) σ mc ms o σ') : mm_Run l X k d pc L S σ mc ms o σ' := by
  subst hv; exact mm_sipush hd hr
theorem mm_lc {n : Fin 2} {v : Int64} (hd : decode (mm_cb k) pc = .ok (.lconst n, 1)) (hv : Int64.ofNat (n : Nat) = v) (hr : mm_Run l X k d (pc + 1) L (.long v :: S) σ mc ms o σ') : mm_Run l X k d pc L S σ mc ms o σ' := by
  subst hv; exact mm_lconst hd hr
theorem mm_ii {i : Nat} {n : Int} {x c : Int32} (hd : decode (mm_cb k) pc = .ok (.iinc i n, 3)) (hn : Int32.ofInt n = c) (hl : mm_nth L i = .int x) (hi : i < mm_ml k) (hr : mm_Run l X k d (pc + 3) (mm_st1 i (.int (x + c)) L) S σ mc ms o σ') : mm_Run l X k d pc L S σ mc ms o σ' := by
  subst hn; exact mm_iinc hd hl hi hr
theorem mm_minl {idx : Nat} {x y : Int64} (hd : decode (mm_cb k) pc = .ok (.invokestatic idx, 3)) (w1 : Cond.methodLink (mm_yn k).cls idx Lib.MathLoose.min_long.x ∈ mm_tb) (w2 : Cond.static Lib.MathLoose.min_long.x ∈ mm_tb) (w3 : Cond.initialized "java/lang/Math" ∈ mm_tb) (w4 : Cond.code Lib.MathLoose.min_long.x Lib.MathLoose.min_long.code 4 (some .long) ∈ mm_tb)
    (hw : (S.map fun v => v.category).sum ≤ 8) (hr : mm_Run l X k d (pc + 3) L (.long (if y < x then y else x) :: S) σ mc ms o σ') : mm_Run l X k d pc L (.long y :: .long x :: S) σ mc ms o σ' := by
  intro p e R s m args below meth c D A cI cL φ hc H locs cells slots ρ ws ls st hW hP hD hS hL hV h1 h2
  obtain ⟨_, st, rfl, rfl, hV1⟩ := hV.cons
  obtain ⟨_, st, rfl, rfl, hV2⟩ := hV1.cons
  have hts := hc.2.2.2.2.2.2.1
  have a11 := hc.2.2.2.2.2.2.2.2.2.2.1
  have a12 := hc.2.2.2.2.2.2.2.2.2.2.2.1
  exact va_mmin_long hc.1 hc.2.1 (hc.2.2.1.trans hL.1.1.symm) hc.2.2.2.2.2.1 (hts _ w1) (hts _ w2) (hts _ w3) (hts _ w4) (by omega) (by rw [hV2.cats]; omega) (by omega) (by omega) hd (hr hc hW hP hD hS hL ⟨rfl, hV2⟩ h1 h2)
theorem mm_callS0 {k' idx n : Nat} {as S0 : List Value} {v : Option Value} (hd : decode (mm_cb k) pc = .ok (.invokestatic idx, 3)) (hm : mm_okm k' n) (hl : Cond.methodLink (mm_yn k).cls idx (mm_yn k') ∈ mm_tb) (hs : Cond.static (mm_yn k') ∈ mm_tb)
    (hst : S0 = as.reverse ++ S) (hn : as.length = n) (hcat : (as.map fun v => v.category).sum ≤ mm_ml k') (hw : (S.map fun v => v.category).sum ≤ 8)
    (hcall : mm_Call l X k' d as σ 0 0 (.inl v) σ1) (hr : mm_Run l X k (d + 1) (pc + 3) L (v.toList ++ S) σ1 mc ms o σ') : mm_Run l X k (d + 1) pc L S0 σ mc ms o σ' := by
  have h : mm_Run l X k (d + 1) pc L S0 σ (0 + mc) (0 + ms) o σ' := mm_callS hd hm hl hs hst hn hcat hw hcall hr
  rw [Nat.zero_add, Nat.zero_add] at h
  exact h
theorem mm_callSN0 {k' idx n : Nat} {as S0 : List Value} {v : Option Value} {host : String} (hd : decode (mm_cb k) pc = .ok (.invokestatic idx, 3)) (hm : mm_okm k' n) (hl : Cond.methodLinkNest (mm_yn k).cls idx (mm_yn k') host ∈ mm_tb) (hs : Cond.static (mm_yn k') ∈ mm_tb)
    (hst : S0 = as.reverse ++ S) (hn : as.length = n) (hcat : (as.map fun v => v.category).sum ≤ mm_ml k') (hw : (S.map fun v => v.category).sum ≤ 8)
    (hcall : mm_Call l X k' d as σ 0 0 (.inl v) σ1) (hr : mm_Run l X k (d + 1) (pc + 3) L (v.toList ++ S) σ1 mc ms o σ') : mm_Run l X k (d + 1) pc L S0 σ mc ms o σ' := by
  have h : mm_Run l X k (d + 1) pc L S0 σ (0 + mc) (0 + ms) o σ' := mm_callSN hd hm hl hs hst hn hcat hw hcall hr
  rw [Nat.zero_add, Nat.zero_add] at h
  exact h
theorem mm_callV0 {k' idx n p0 ci : Nat} {rs : List Value} {as S0 : List Value} {v : Option Value} (hd : decode (mm_cb k) pc = .ok (.invokevirtual idx, 3)) (hm : mm_okm k' n) (hl : Cond.methodLink (mm_yn k).cls idx (mm_yn k') ∈ mm_tb) (hi : Cond.instanceMethod (mm_yn k') ∈ mm_tb)
    (hse : Cond.selects (mm_yn k').cls (mm_yn k') (mm_yn k') ∈ mm_tb) (hkd : mm_kd σ.1 p0 = (2, ci, rs)) (hci : ∃ T N, mm_cl[ci]? = some ((mm_yn k').cls, T, N))
    (hst : S0 = as.reverse ++ .ref p0 :: S) (hn : as.length = n) (hcat : ((Value.ref p0 :: as).map fun v => v.category).sum ≤ mm_ml k') (hw : (S.map fun v => v.category).sum ≤ 8)
    (hcall : mm_Call l X k' d (.ref p0 :: as) σ 0 0 (.inl v) σ1) (hr : mm_Run l X k (d + 1) (pc + 3) L (v.toList ++ S) σ1 mc ms o σ') : mm_Run l X k (d + 1) pc L S0 σ mc ms o σ' := by
  have h : mm_Run l X k (d + 1) pc L S0 σ (0 + mc) (0 + ms) o σ' := mm_callV hd hm hl hi hse hkd hci hst hn hcat hw hcall hr
  rw [Nat.zero_add, Nat.zero_add] at h
  exact h
end MMF
end
section
/-! ===== links ===== -/
def mm_Λ : List mm_K := [(2, 0, [.ref 1, .ref 5, .ref 8, .ref 11, .ref 13, .ref 17, .ref 19, .ref 24, .null, .null]), (2, 1, [.ref 2, .ref 3, .ref 4]), (0, 6, []), (0, 24, []), (0, 72, []), (2, 2, [.ref 1, .ref 6, .ref 7]), (1, 30, []), (1, 120, []), (2, 3, [.ref 1, .ref 9, .ref 10]), (1, 78, []), (1, 1248, []), (2, 4, [.ref 12, .null]), (0, 121, []), (2, 5, [.ref 1, .ref 5, .ref 14, .ref 15, .ref 16]), (0, 256, []), (0, 256, []), (0, 256, []), (2, 6, [.ref 1, .ref 8, .ref 11, .ref 18]), (0, 39, []), (2, 7, [.ref 20, .ref 21, .ref 22, .ref 23, .null, .null]), (0, 20, []), (0, 20, []), (0, 20, []), (0, 20, []), (2, 8, [.ref 13, .ref 19, .ref 25, .null, .null, .null]), (0, 121, []), (2, 9, [.null, .ref 27, .ref 28, .ref 29, .ref 30, .ref 31, .ref 32, .ref 33, .null, .ref 34, .null, .ref 35, .ref 36, .ref 37, .null, .ref 38, .ref 39, .ref 40, .ref 41, .null, .ref 42, .null, .ref 43, .ref 44, .null, .null, .null]), (0, 6, []), (0, 24, []), (0, 72, []), (1, 36, []), (1, 78, []), (0, 256, []), (0, 256, []), (0, 256, []), (0, 512, []), (0, 512, []), (1, 512, []), (0, 20, []), (0, 20, []), (0, 20, []), (0, 20, []), (0, 20, []), (0, 256, []), (0, 256, []), (1, 1, [])]
theorem oi0_1 : Cond.methodLink (mm_yn 0).cls 1 Lib.objectInit ∈ mm_tb := mm_in 26 (by decide +kernel) rfl
theorem ln0_9 : Cond.methodLinkNest (mm_yn 0).cls 9 (mm_yn 1) "LazyTester" ∈ mm_tb := mm_in 31 (by decide +kernel) rfl
theorem im1 : Cond.instanceMethod (mm_yn 1) ∈ mm_tb := mm_in 32 (by decide +kernel) rfl
theorem fk0_10 : mm_okf 0 10 0 0 := ⟨_, _, _, rfl, by decide +kernel, mm_in 183 (by decide +kernel) rfl⟩
theorem fp0_10 : mm_okp 0 0 0 := fun C T N h => by
  cases h
  exact Or.inr ⟨rfl, rfl, rfl⟩
theorem ln0_18 : Cond.methodLink (mm_yn 0).cls 18 (mm_yn 2) ∈ mm_tb := mm_in 48 (by decide +kernel) rfl
theorem im2 : Cond.instanceMethod (mm_yn 2) ∈ mm_tb := mm_in 49 (by decide +kernel) rfl
theorem fk0_21 : mm_okf 0 21 0 1 := ⟨_, _, _, rfl, by decide +kernel, mm_in 184 (by decide +kernel) rfl⟩
theorem fp0_21 : mm_okp 0 0 1 := fun C T N h => by
  cases h
  exact Or.inr ⟨rfl, rfl, rfl⟩
theorem ln0_27 : Cond.methodLink (mm_yn 0).cls 27 (mm_yn 3) ∈ mm_tb := mm_in 65 (by decide +kernel) rfl
theorem im3 : Cond.instanceMethod (mm_yn 3) ∈ mm_tb := mm_in 66 (by decide +kernel) rfl
theorem fk0_28 : mm_okf 0 28 0 2 := ⟨_, _, _, rfl, by decide +kernel, mm_in 185 (by decide +kernel) rfl⟩
theorem fp0_28 : mm_okp 0 0 2 := fun C T N h => by
  cases h
  exact Or.inr ⟨rfl, rfl, rfl⟩
theorem ln0_34 : Cond.methodLinkNest (mm_yn 0).cls 34 (mm_yn 4) "LazyTester" ∈ mm_tb := mm_in 81 (by decide +kernel) rfl
theorem im4 : Cond.instanceMethod (mm_yn 4) ∈ mm_tb := mm_in 82 (by decide +kernel) rfl
theorem fk0_35 : mm_okf 0 35 0 3 := ⟨_, _, _, rfl, by decide +kernel, mm_in 186 (by decide +kernel) rfl⟩
theorem fp0_35 : mm_okp 0 0 3 := fun C T N h => by
  cases h
  exact Or.inr ⟨rfl, rfl, rfl⟩
theorem ln0_41 : Cond.methodLink (mm_yn 0).cls 41 (mm_yn 5) ∈ mm_tb := mm_in 94 (by decide +kernel) rfl
theorem im5 : Cond.instanceMethod (mm_yn 5) ∈ mm_tb := mm_in 95 (by decide +kernel) rfl
theorem fk0_44 : mm_okf 0 44 0 4 := ⟨_, _, _, rfl, by decide +kernel, mm_in 187 (by decide +kernel) rfl⟩
theorem fp0_44 : mm_okp 0 0 4 := fun C T N h => by
  cases h
  exact Or.inr ⟨rfl, rfl, rfl⟩
theorem ln0_50 : Cond.methodLink (mm_yn 0).cls 50 (mm_yn 6) ∈ mm_tb := mm_in 116 (by decide +kernel) rfl
theorem im6 : Cond.instanceMethod (mm_yn 6) ∈ mm_tb := mm_in 117 (by decide +kernel) rfl
theorem fk0_53 : mm_okf 0 53 0 5 := ⟨_, _, _, rfl, by decide +kernel, mm_in 188 (by decide +kernel) rfl⟩
theorem fp0_53 : mm_okp 0 0 5 := fun C T N h => by
  cases h
  exact Or.inr ⟨rfl, rfl, rfl⟩
theorem ln0_59 : Cond.methodLinkNest (mm_yn 0).cls 59 (mm_yn 7) "LazyTester" ∈ mm_tb := mm_in 135 (by decide +kernel) rfl
theorem im7 : Cond.instanceMethod (mm_yn 7) ∈ mm_tb := mm_in 136 (by decide +kernel) rfl
theorem fk0_60 : mm_okf 0 60 0 6 := ⟨_, _, _, rfl, by decide +kernel, mm_in 189 (by decide +kernel) rfl⟩
theorem fp0_60 : mm_okp 0 0 6 := fun C T N h => by
  cases h
  exact Or.inr ⟨rfl, rfl, rfl⟩
theorem ln0_66 : Cond.methodLink (mm_yn 0).cls 66 (mm_yn 8) ∈ mm_tb := mm_in 160 (by decide +kernel) rfl
theorem im8 : Cond.instanceMethod (mm_yn 8) ∈ mm_tb := mm_in 161 (by decide +kernel) rfl
theorem fk0_69 : mm_okf 0 69 0 7 := ⟨_, _, _, rfl, by decide +kernel, mm_in 190 (by decide +kernel) rfl⟩
theorem fp0_69 : mm_okp 0 0 7 := fun C T N h => by
  cases h
  exact Or.inr ⟨rfl, rfl, rfl⟩
theorem ci0 : Int32.ofInt 0 = 0 := by decide +kernel
theorem fk0_73 : mm_okf 0 73 0 8 := ⟨_, _, _, rfl, by decide +kernel, mm_in 191 (by decide +kernel) rfl⟩
theorem fp0_73 : mm_okp 0 0 8 := fun C T N h => by
  cases h
  exact Or.inl rfl
theorem fk0_77 : mm_okf 0 77 0 9 := ⟨_, _, _, rfl, by decide +kernel, mm_in 192 (by decide +kernel) rfl⟩
theorem fp0_77 : mm_okp 0 0 9 := fun C T N h => by
  cases h
  exact Or.inl rfl
theorem oi1_3 : Cond.methodLink (mm_yn 1).cls 3 Lib.objectInit ∈ mm_tb := mm_in 34 (by decide +kernel) rfl
theorem cb6 : (Int8.ofInt 6).toInt32 = 6 := by decide +kernel
theorem fk1_9 : mm_okf 1 9 1 0 := ⟨_, _, _, rfl, by decide +kernel, mm_in 35 (by decide +kernel) rfl⟩
theorem fp1_9 : mm_okp 1 1 0 := fun C T N h => by
  cases h
  exact Or.inr ⟨rfl, rfl, rfl⟩
theorem cb24 : (Int8.ofInt 24).toInt32 = 24 := by decide +kernel
theorem fk1_15 : mm_okf 1 15 1 1 := ⟨_, _, _, rfl, by decide +kernel, mm_in 36 (by decide +kernel) rfl⟩
theorem fp1_15 : mm_okp 1 1 1 := fun C T N h => by
  cases h
  exact Or.inr ⟨rfl, rfl, rfl⟩
theorem cb72 : (Int8.ofInt 72).toInt32 = 72 := by decide +kernel
theorem fk1_18 : mm_okf 1 18 1 2 := ⟨_, _, _, rfl, by decide +kernel, mm_in 37 (by decide +kernel) rfl⟩
theorem fp1_18 : mm_okp 1 1 2 := fun C T N h => by
  cases h
  exact Or.inr ⟨rfl, rfl, rfl⟩
theorem oi2_3 : Cond.methodLink (mm_yn 2).cls 3 Lib.objectInit ∈ mm_tb := mm_in 51 (by decide +kernel) rfl
theorem cb30 : (Int8.ofInt 30).toInt32 = 30 := by decide +kernel
theorem fk2_11 : mm_okf 2 11 2 1 := ⟨_, _, _, rfl, by decide +kernel, mm_in 53 (by decide +kernel) rfl⟩
theorem fp2_11 : mm_okp 2 2 1 := fun C T N h => by
  cases h
  exact Or.inr ⟨rfl, rfl, rfl⟩
theorem cb120 : (Int8.ofInt 120).toInt32 = 120 := by decide +kernel
theorem fk2_15 : mm_okf 2 15 2 2 := ⟨_, _, _, rfl, by decide +kernel, mm_in 54 (by decide +kernel) rfl⟩
theorem fp2_15 : mm_okp 2 2 2 := fun C T N h => by
  cases h
  exact Or.inr ⟨rfl, rfl, rfl⟩
theorem fk2_18 : mm_okf 2 18 2 0 := ⟨_, _, _, rfl, by decide +kernel, mm_in 52 (by decide +kernel) rfl⟩
theorem fp2_18 : mm_okp 2 2 0 := fun C T N h => by
  cases h
  exact Or.inr ⟨rfl, rfl, rfl⟩
theorem oi3_3 : Cond.methodLink (mm_yn 3).cls 3 Lib.objectInit ∈ mm_tb := mm_in 68 (by decide +kernel) rfl
theorem cb78 : (Int8.ofInt 78).toInt32 = 78 := by decide +kernel
theorem fk3_11 : mm_okf 3 11 3 1 := ⟨_, _, _, rfl, by decide +kernel, mm_in 70 (by decide +kernel) rfl⟩
theorem fp3_11 : mm_okp 3 3 1 := fun C T N h => by
  cases h
  exact Or.inr ⟨rfl, rfl, rfl⟩
theorem cs1248 : (Int16.ofInt 1248).toInt32 = 1248 := by decide +kernel
theorem fk3_15 : mm_okf 3 15 3 2 := ⟨_, _, _, rfl, by decide +kernel, mm_in 71 (by decide +kernel) rfl⟩
theorem fp3_15 : mm_okp 3 3 2 := fun C T N h => by
  cases h
  exact Or.inr ⟨rfl, rfl, rfl⟩
theorem fk3_18 : mm_okf 3 18 3 0 := ⟨_, _, _, rfl, by decide +kernel, mm_in 69 (by decide +kernel) rfl⟩
theorem fp3_18 : mm_okp 3 3 0 := fun C T N h => by
  cases h
  exact Or.inr ⟨rfl, rfl, rfl⟩
theorem oi4_3 : Cond.methodLink (mm_yn 4).cls 3 Lib.objectInit ∈ mm_tb := mm_in 84 (by decide +kernel) rfl
theorem cb121 : (Int8.ofInt 121).toInt32 = 121 := by decide +kernel
theorem fk4_9 : mm_okf 4 9 4 0 := ⟨_, _, _, rfl, by decide +kernel, mm_in 85 (by decide +kernel) rfl⟩
theorem fp4_9 : mm_okp 4 4 0 := fun C T N h => by
  cases h
  exact Or.inr ⟨rfl, rfl, rfl⟩
theorem fk4_15 : mm_okf 4 15 4 1 := ⟨_, _, _, rfl, by decide +kernel, mm_in 86 (by decide +kernel) rfl⟩
theorem fp4_15 : mm_okp 4 4 1 := fun C T N h => by
  cases h
  exact Or.inl rfl
theorem oi5_3 : Cond.methodLink (mm_yn 5).cls 3 Lib.objectInit ∈ mm_tb := mm_in 97 (by decide +kernel) rfl
theorem cs256 : (Int16.ofInt 256).toInt32 = 256 := by decide +kernel
theorem fk5_9 : mm_okf 5 9 5 2 := ⟨_, _, _, rfl, by decide +kernel, mm_in 100 (by decide +kernel) rfl⟩
theorem fp5_9 : mm_okp 5 5 2 := fun C T N h => by
  cases h
  exact Or.inr ⟨rfl, rfl, rfl⟩
theorem fk5_15 : mm_okf 5 15 5 3 := ⟨_, _, _, rfl, by decide +kernel, mm_in 101 (by decide +kernel) rfl⟩
theorem fp5_15 : mm_okp 5 5 3 := fun C T N h => by
  cases h
  exact Or.inr ⟨rfl, rfl, rfl⟩
theorem fk5_18 : mm_okf 5 18 5 4 := ⟨_, _, _, rfl, by decide +kernel, mm_in 102 (by decide +kernel) rfl⟩
theorem fp5_18 : mm_okp 5 5 4 := fun C T N h => by
  cases h
  exact Or.inr ⟨rfl, rfl, rfl⟩
theorem fk5_21 : mm_okf 5 21 5 0 := ⟨_, _, _, rfl, by decide +kernel, mm_in 98 (by decide +kernel) rfl⟩
theorem fp5_21 : mm_okp 5 5 0 := fun C T N h => by
  cases h
  exact Or.inr ⟨rfl, rfl, rfl⟩
theorem fk5_25 : mm_okf 5 25 5 1 := ⟨_, _, _, rfl, by decide +kernel, mm_in 99 (by decide +kernel) rfl⟩
theorem fp5_25 : mm_okp 5 5 1 := fun C T N h => by
  cases h
  exact Or.inr ⟨rfl, rfl, rfl⟩
theorem oi6_3 : Cond.methodLink (mm_yn 6).cls 3 Lib.objectInit ∈ mm_tb := mm_in 119 (by decide +kernel) rfl
theorem cb39 : (Int8.ofInt 39).toInt32 = 39 := by decide +kernel
theorem fk6_9 : mm_okf 6 9 6 3 := ⟨_, _, _, rfl, by decide +kernel, mm_in 123 (by decide +kernel) rfl⟩
theorem fp6_9 : mm_okp 6 6 3 := fun C T N h => by
  cases h
  exact Or.inr ⟨rfl, rfl, rfl⟩
theorem fk6_15 : mm_okf 6 15 6 0 := ⟨_, _, _, rfl, by decide +kernel, mm_in 120 (by decide +kernel) rfl⟩
theorem fp6_15 : mm_okp 6 6 0 := fun C T N h => by
  cases h
  exact Or.inr ⟨rfl, rfl, rfl⟩
theorem fk6_19 : mm_okf 6 19 6 1 := ⟨_, _, _, rfl, by decide +kernel, mm_in 121 (by decide +kernel) rfl⟩
theorem fp6_19 : mm_okp 6 6 1 := fun C T N h => by
  cases h
  exact Or.inr ⟨rfl, rfl, rfl⟩
theorem fk6_23 : mm_okf 6 23 6 2 := ⟨_, _, _, rfl, by decide +kernel, mm_in 122 (by decide +kernel) rfl⟩
theorem fp6_23 : mm_okp 6 6 2 := fun C T N h => by
  cases h
  exact Or.inr ⟨rfl, rfl, rfl⟩
theorem oi7_3 : Cond.methodLink (mm_yn 7).cls 3 Lib.objectInit ∈ mm_tb := mm_in 138 (by decide +kernel) rfl
theorem cb20 : (Int8.ofInt 20).toInt32 = 20 := by decide +kernel
theorem fk7_9 : mm_okf 7 9 7 0 := ⟨_, _, _, rfl, by decide +kernel, mm_in 139 (by decide +kernel) rfl⟩
theorem fp7_9 : mm_okp 7 7 0 := fun C T N h => by
  cases h
  exact Or.inr ⟨rfl, rfl, rfl⟩
theorem fk7_15 : mm_okf 7 15 7 1 := ⟨_, _, _, rfl, by decide +kernel, mm_in 140 (by decide +kernel) rfl⟩
theorem fp7_15 : mm_okp 7 7 1 := fun C T N h => by
  cases h
  exact Or.inr ⟨rfl, rfl, rfl⟩
theorem fk7_18 : mm_okf 7 18 7 2 := ⟨_, _, _, rfl, by decide +kernel, mm_in 141 (by decide +kernel) rfl⟩
theorem fp7_18 : mm_okp 7 7 2 := fun C T N h => by
  cases h
  exact Or.inr ⟨rfl, rfl, rfl⟩
theorem fk7_21 : mm_okf 7 21 7 3 := ⟨_, _, _, rfl, by decide +kernel, mm_in 142 (by decide +kernel) rfl⟩
theorem fp7_21 : mm_okp 7 7 3 := fun C T N h => by
  cases h
  exact Or.inr ⟨rfl, rfl, rfl⟩
theorem fk7_24 : mm_okf 7 24 7 4 := ⟨_, _, _, rfl, by decide +kernel, mm_in 143 (by decide +kernel) rfl⟩
theorem fp7_24 : mm_okp 7 7 4 := fun C T N h => by
  cases h
  exact Or.inl rfl
theorem fk7_28 : mm_okf 7 28 7 5 := ⟨_, _, _, rfl, by decide +kernel, mm_in 144 (by decide +kernel) rfl⟩
theorem fp7_28 : mm_okp 7 7 5 := fun C T N h => by
  cases h
  exact Or.inl rfl
theorem oi8_3 : Cond.methodLink (mm_yn 8).cls 3 Lib.objectInit ∈ mm_tb := mm_in 163 (by decide +kernel) rfl
theorem fk8_9 : mm_okf 8 9 8 2 := ⟨_, _, _, rfl, by decide +kernel, mm_in 166 (by decide +kernel) rfl⟩
theorem fp8_9 : mm_okp 8 8 2 := fun C T N h => by
  cases h
  exact Or.inr ⟨rfl, rfl, rfl⟩
theorem fk8_15 : mm_okf 8 15 8 3 := ⟨_, _, _, rfl, by decide +kernel, mm_in 167 (by decide +kernel) rfl⟩
theorem fp8_15 : mm_okp 8 8 3 := fun C T N h => by
  cases h
  exact Or.inl rfl
theorem fk8_19 : mm_okf 8 19 8 4 := ⟨_, _, _, rfl, by decide +kernel, mm_in 168 (by decide +kernel) rfl⟩
theorem fp8_19 : mm_okp 8 8 4 := fun C T N h => by
  cases h
  exact Or.inl rfl
theorem fk8_22 : mm_okf 8 22 8 5 := ⟨_, _, _, rfl, by decide +kernel, mm_in 169 (by decide +kernel) rfl⟩
theorem fp8_22 : mm_okp 8 8 5 := fun C T N h => by
  cases h
  exact Or.inl rfl
theorem fk8_26 : mm_okf 8 26 8 0 := ⟨_, _, _, rfl, by decide +kernel, mm_in 164 (by decide +kernel) rfl⟩
theorem fp8_26 : mm_okp 8 8 0 := fun C T N h => by
  cases h
  exact Or.inr ⟨rfl, rfl, rfl⟩
theorem fk8_30 : mm_okf 8 30 8 1 := ⟨_, _, _, rfl, by decide +kernel, mm_in 165 (by decide +kernel) rfl⟩
theorem fp8_30 : mm_okp 8 8 1 := fun C T N h => by
  cases h
  exact Or.inr ⟨rfl, rfl, rfl⟩
theorem fk9_35 : mm_okf 9 35 0 3 := ⟨_, _, _, rfl, by decide +kernel, mm_in 186 (by decide +kernel) rfl⟩
theorem ln9_143 : Cond.methodLink (mm_yn 9).cls 143 (mm_yn 10) ∈ mm_tb := mm_in 218 (by decide +kernel) rfl
theorem im10 : Cond.instanceMethod (mm_yn 10) ∈ mm_tb := mm_in 219 (by decide +kernel) rfl
theorem se10 : Cond.selects (mm_yn 10).cls (mm_yn 10) (mm_yn 10) ∈ mm_tb := mm_in 220 (by decide +kernel) rfl
theorem fk10_15 : mm_okf 10 15 4 1 := ⟨_, _, _, rfl, by decide +kernel, mm_in 86 (by decide +kernel) rfl⟩
theorem cim1 : Int32.ofInt (-1) = (-1) := by decide +kernel
theorem fk10_9 : mm_okf 10 9 4 0 := ⟨_, _, _, rfl, by decide +kernel, mm_in 85 (by decide +kernel) rfl⟩
theorem fk11_60 : mm_okf 11 60 0 6 := ⟨_, _, _, rfl, by decide +kernel, mm_in 189 (by decide +kernel) rfl⟩
theorem ln11_171 : Cond.methodLink (mm_yn 11).cls 171 (mm_yn 12) ∈ mm_tb := mm_in 226 (by decide +kernel) rfl
theorem im12 : Cond.instanceMethod (mm_yn 12) ∈ mm_tb := mm_in 227 (by decide +kernel) rfl
theorem se12 : Cond.selects (mm_yn 12).cls (mm_yn 12) (mm_yn 12) ∈ mm_tb := mm_in 228 (by decide +kernel) rfl
theorem fk12_24 : mm_okf 12 24 7 4 := ⟨_, _, _, rfl, by decide +kernel, mm_in 143 (by decide +kernel) rfl⟩
theorem fp12_24 : mm_okp 12 7 4 := fun C T N h => by
  cases h
  exact Or.inl rfl
theorem fk12_28 : mm_okf 12 28 7 5 := ⟨_, _, _, rfl, by decide +kernel, mm_in 144 (by decide +kernel) rfl⟩
theorem fp12_28 : mm_okp 12 7 5 := fun C T N h => by
  cases h
  exact Or.inl rfl
theorem fk13_73 : mm_okf 13 73 0 8 := ⟨_, _, _, rfl, by decide +kernel, mm_in 191 (by decide +kernel) rfl⟩
theorem fk14_77 : mm_okf 14 77 0 9 := ⟨_, _, _, rfl, by decide +kernel, mm_in 192 (by decide +kernel) rfl⟩
theorem ln15_7 : Cond.methodLink (mm_yn 15).cls 7 (mm_yn 16) ∈ mm_tb := mm_in 244 (by decide +kernel) rfl
theorem im16 : Cond.instanceMethod (mm_yn 16) ∈ mm_tb := mm_in 245 (by decide +kernel) rfl
theorem se16 : Cond.selects (mm_yn 16).cls (mm_yn 16) (mm_yn 16) ∈ mm_tb := mm_in 246 (by decide +kernel) rfl
theorem ci1 : Int32.ofInt 1 = 1 := by decide +kernel
theorem ci2 : Int32.ofInt 2 = 2 := by decide +kernel
theorem ci3 : Int32.ofInt 3 = 3 := by decide +kernel
theorem ln16_81 : Cond.methodLink (mm_yn 16).cls 81 (mm_yn 17) ∈ mm_tb := mm_in 248 (by decide +kernel) rfl
theorem st17 : Cond.static (mm_yn 17) ∈ mm_tb := mm_in 249 (by decide +kernel) rfl
theorem ln16_92 : Cond.methodLink (mm_yn 16).cls 92 (mm_yn 18) ∈ mm_tb := mm_in 335 (by decide +kernel) rfl
theorem st18 : Cond.static (mm_yn 18) ∈ mm_tb := mm_in 336 (by decide +kernel) rfl
theorem fk16_10 : mm_okf 16 10 0 0 := ⟨_, _, _, rfl, by decide +kernel, mm_in 183 (by decide +kernel) rfl⟩
theorem ln16_96 : Cond.methodLink (mm_yn 16).cls 96 (mm_yn 19) ∈ mm_tb := mm_in 339 (by decide +kernel) rfl
theorem im19 : Cond.instanceMethod (mm_yn 19) ∈ mm_tb := mm_in 340 (by decide +kernel) rfl
theorem se19 : Cond.selects (mm_yn 19).cls (mm_yn 19) (mm_yn 19) ∈ mm_tb := mm_in 341 (by decide +kernel) rfl
theorem ci4 : Int32.ofInt 4 = 4 := by decide +kernel
theorem ln16_105 : Cond.methodLink (mm_yn 16).cls 105 (mm_yn 20) ∈ mm_tb := mm_in 359 (by decide +kernel) rfl
theorem im20 : Cond.instanceMethod (mm_yn 20) ∈ mm_tb := mm_in 360 (by decide +kernel) rfl
theorem se20 : Cond.selects (mm_yn 20).cls (mm_yn 20) (mm_yn 20) ∈ mm_tb := mm_in 361 (by decide +kernel) rfl
theorem fk16_21 : mm_okf 16 21 0 1 := ⟨_, _, _, rfl, by decide +kernel, mm_in 184 (by decide +kernel) rfl⟩
theorem ln16_109 : Cond.methodLink (mm_yn 16).cls 109 (mm_yn 22) ∈ mm_tb := mm_in 366 (by decide +kernel) rfl
theorem im22 : Cond.instanceMethod (mm_yn 22) ∈ mm_tb := mm_in 367 (by decide +kernel) rfl
theorem se22 : Cond.selects (mm_yn 22).cls (mm_yn 22) (mm_yn 22) ∈ mm_tb := mm_in 368 (by decide +kernel) rfl
theorem fk16_28 : mm_okf 16 28 0 2 := ⟨_, _, _, rfl, by decide +kernel, mm_in 185 (by decide +kernel) rfl⟩
theorem ln16_112 : Cond.methodLink (mm_yn 16).cls 112 (mm_yn 30) ∈ mm_tb := mm_in 402 (by decide +kernel) rfl
theorem im30 : Cond.instanceMethod (mm_yn 30) ∈ mm_tb := mm_in 403 (by decide +kernel) rfl
theorem se30 : Cond.selects (mm_yn 30).cls (mm_yn 30) (mm_yn 30) ∈ mm_tb := mm_in 404 (by decide +kernel) rfl
theorem ln18_81 : Cond.methodLink (mm_yn 18).cls 81 (mm_yn 17) ∈ mm_tb := mm_in 248 (by decide +kernel) rfl
theorem fk19_9 : mm_okf 19 9 1 0 := ⟨_, _, _, rfl, by decide +kernel, mm_in 35 (by decide +kernel) rfl⟩
theorem fk20_9 : mm_okf 20 9 1 0 := ⟨_, _, _, rfl, by decide +kernel, mm_in 35 (by decide +kernel) rfl⟩
theorem ln20_21 : Cond.methodLink (mm_yn 20).cls 21 (mm_yn 21) ∈ mm_tb := mm_in 363 (by decide +kernel) rfl
theorem st21 : Cond.static (mm_yn 21) ∈ mm_tb := mm_in 364 (by decide +kernel) rfl
theorem fk20_15 : mm_okf 20 15 1 1 := ⟨_, _, _, rfl, by decide +kernel, mm_in 36 (by decide +kernel) rfl⟩
theorem fk20_18 : mm_okf 20 18 1 2 := ⟨_, _, _, rfl, by decide +kernel, mm_in 37 (by decide +kernel) rfl⟩
theorem ci5 : Int32.ofInt 5 = 5 := by decide +kernel
theorem ln22_22 : Cond.methodLink (mm_yn 22).cls 22 (mm_yn 23) ∈ mm_tb := mm_in 370 (by decide +kernel) rfl
theorem im23 : Cond.instanceMethod (mm_yn 23) ∈ mm_tb := mm_in 372 (by decide +kernel) rfl
theorem se23 : Cond.selects (mm_yn 23).cls (mm_yn 23) (mm_yn 23) ∈ mm_tb := mm_ins 1 (by decide +kernel) rfl
theorem fk23_18 : mm_okf 23 18 2 0 := ⟨_, _, _, rfl, by decide +kernel, mm_in 52 (by decide +kernel) rfl⟩
theorem ln23_26 : Cond.methodLink (mm_yn 23).cls 26 (mm_yn 19) ∈ mm_tb := mm_in 374 (by decide +kernel) rfl
theorem ln23_32 : Cond.methodLink (mm_yn 23).cls 32 (mm_yn 21) ∈ mm_tb := mm_in 375 (by decide +kernel) rfl
theorem ln23_36 : Cond.methodLink (mm_yn 23).cls 36 (mm_yn 24) ∈ mm_tb := mm_in 376 (by decide +kernel) rfl
theorem im24 : Cond.instanceMethod (mm_yn 24) ∈ mm_tb := mm_in 377 (by decide +kernel) rfl
theorem se24 : Cond.selects (mm_yn 24).cls (mm_yn 24) (mm_yn 24) ∈ mm_tb := mm_in 378 (by decide +kernel) rfl
theorem ln23_39 : Cond.methodLink (mm_yn 23).cls 39 (mm_yn 25) ∈ mm_tb := mm_in 380 (by decide +kernel) rfl
theorem im25 : Cond.instanceMethod (mm_yn 25) ∈ mm_tb := mm_in 381 (by decide +kernel) rfl
theorem se25 : Cond.selects (mm_yn 25).cls (mm_yn 25) (mm_yn 25) ∈ mm_tb := mm_in 382 (by decide +kernel) rfl
theorem fk23_15 : mm_okf 23 15 2 2 := ⟨_, _, _, rfl, by decide +kernel, mm_in 54 (by decide +kernel) rfl⟩
theorem ln23_43 : Cond.methodLinkNest (mm_yn 23).cls 43 (mm_yn 29) "LazyTester" ∈ mm_tb := mm_in 396 (by decide +kernel) rfl
theorem st29 : Cond.static (mm_yn 29) ∈ mm_tb := mm_in 397 (by decide +kernel) rfl
theorem fk23_11 : mm_okf 23 11 2 1 := ⟨_, _, _, rfl, by decide +kernel, mm_in 53 (by decide +kernel) rfl⟩
theorem fk24_15 : mm_okf 24 15 1 1 := ⟨_, _, _, rfl, by decide +kernel, mm_in 36 (by decide +kernel) rfl⟩
theorem fk25_18 : mm_okf 25 18 2 0 := ⟨_, _, _, rfl, by decide +kernel, mm_in 52 (by decide +kernel) rfl⟩
theorem ln25_36 : Cond.methodLink (mm_yn 25).cls 36 (mm_yn 24) ∈ mm_tb := mm_in 376 (by decide +kernel) rfl
theorem ln25_47 : Cond.methodLink (mm_yn 25).cls 47 (mm_yn 26) ∈ mm_tb := mm_in 384 (by decide +kernel) rfl
theorem im26 : Cond.instanceMethod (mm_yn 26) ∈ mm_tb := mm_in 385 (by decide +kernel) rfl
theorem se26 : Cond.selects (mm_yn 26).cls (mm_yn 26) (mm_yn 26) ∈ mm_tb := mm_in 386 (by decide +kernel) rfl
theorem ln25_50 : Cond.methodLink (mm_yn 25).cls 50 (mm_yn 27) ∈ mm_tb := mm_in 388 (by decide +kernel) rfl
theorem im27 : Cond.instanceMethod (mm_yn 27) ∈ mm_tb := mm_in 389 (by decide +kernel) rfl
theorem se27 : Cond.selects (mm_yn 27).cls (mm_yn 27) (mm_yn 27) ∈ mm_tb := mm_in 390 (by decide +kernel) rfl
theorem ln25_54 : Cond.methodLinkNest (mm_yn 25).cls 54 (mm_yn 28) "LazyTester" ∈ mm_tb := mm_in 392 (by decide +kernel) rfl
theorem st28 : Cond.static (mm_yn 28) ∈ mm_tb := mm_in 393 (by decide +kernel) rfl
theorem fk26_18 : mm_okf 26 18 1 2 := ⟨_, _, _, rfl, by decide +kernel, mm_in 37 (by decide +kernel) rfl⟩
theorem fk27_11 : mm_okf 27 11 2 1 := ⟨_, _, _, rfl, by decide +kernel, mm_in 53 (by decide +kernel) rfl⟩
theorem kl28_238 : Cond.constantLong (mm_yn 28).cls 238 1000000000000000 ∈ mm_tb := mm_in 395 (by decide +kernel) rfl
theorem kl29_238 : Cond.constantLong (mm_yn 29).cls 238 1000000000000000 ∈ mm_tb := mm_in 395 (by decide +kernel) rfl
theorem mi29_240 : Cond.methodLink (mm_yn 29).cls 240 Lib.MathLoose.min_long.x ∈ mm_tb := mm_in 399 (by decide +kernel) rfl
theorem cb12 : (Int8.ofInt 12).toInt32 = 12 := by decide +kernel
theorem ln30_22 : Cond.methodLink (mm_yn 30).cls 22 (mm_yn 31) ∈ mm_tb := mm_in 406 (by decide +kernel) rfl
theorem im31 : Cond.instanceMethod (mm_yn 31) ∈ mm_tb := mm_in 408 (by decide +kernel) rfl
theorem se31 : Cond.selects (mm_yn 31).cls (mm_yn 31) (mm_yn 31) ∈ mm_tb := mm_ins 2 (by decide +kernel) rfl
theorem fk31_18 : mm_okf 31 18 3 0 := ⟨_, _, _, rfl, by decide +kernel, mm_in 69 (by decide +kernel) rfl⟩
theorem ln31_26 : Cond.methodLink (mm_yn 31).cls 26 (mm_yn 19) ∈ mm_tb := mm_in 410 (by decide +kernel) rfl
theorem ln31_32 : Cond.methodLink (mm_yn 31).cls 32 (mm_yn 21) ∈ mm_tb := mm_in 411 (by decide +kernel) rfl
theorem ln31_36 : Cond.methodLink (mm_yn 31).cls 36 (mm_yn 24) ∈ mm_tb := mm_in 412 (by decide +kernel) rfl
theorem fk31_15 : mm_okf 31 15 3 2 := ⟨_, _, _, rfl, by decide +kernel, mm_in 71 (by decide +kernel) rfl⟩
theorem cb13 : (Int8.ofInt 13).toInt32 = 13 := by decide +kernel
theorem ln31_39 : Cond.methodLink (mm_yn 31).cls 39 (mm_yn 32) ∈ mm_tb := mm_in 413 (by decide +kernel) rfl
theorem im32 : Cond.instanceMethod (mm_yn 32) ∈ mm_tb := mm_in 415 (by decide +kernel) rfl
theorem se32 : Cond.selects (mm_yn 32).cls (mm_yn 32) (mm_yn 32) ∈ mm_tb := mm_ins 3 (by decide +kernel) rfl
theorem ln31_43 : Cond.methodLink (mm_yn 31).cls 43 (mm_yn 34) ∈ mm_tb := mm_in 422 (by decide +kernel) rfl
theorem im34 : Cond.instanceMethod (mm_yn 34) ∈ mm_tb := mm_in 423 (by decide +kernel) rfl
theorem se34 : Cond.selects (mm_yn 34).cls (mm_yn 34) (mm_yn 34) ∈ mm_tb := mm_in 424 (by decide +kernel) rfl
theorem fk31_11 : mm_okf 31 11 3 1 := ⟨_, _, _, rfl, by decide +kernel, mm_in 70 (by decide +kernel) rfl⟩
theorem fk32_18 : mm_okf 32 18 3 0 := ⟨_, _, _, rfl, by decide +kernel, mm_in 69 (by decide +kernel) rfl⟩
theorem ln32_36 : Cond.methodLink (mm_yn 32).cls 36 (mm_yn 24) ∈ mm_tb := mm_in 412 (by decide +kernel) rfl
theorem ln32_46 : Cond.methodLink (mm_yn 32).cls 46 (mm_yn 26) ∈ mm_tb := mm_in 417 (by decide +kernel) rfl
theorem ln32_49 : Cond.methodLink (mm_yn 32).cls 49 (mm_yn 33) ∈ mm_tb := mm_in 418 (by decide +kernel) rfl
theorem im33 : Cond.instanceMethod (mm_yn 33) ∈ mm_tb := mm_in 419 (by decide +kernel) rfl
theorem se33 : Cond.selects (mm_yn 33).cls (mm_yn 33) (mm_yn 33) ∈ mm_tb := mm_in 420 (by decide +kernel) rfl
theorem ln32_43 : Cond.methodLink (mm_yn 32).cls 43 (mm_yn 34) ∈ mm_tb := mm_in 422 (by decide +kernel) rfl
theorem fk33_11 : mm_okf 33 11 3 1 := ⟨_, _, _, rfl, by decide +kernel, mm_in 70 (by decide +kernel) rfl⟩
theorem fk34_15 : mm_okf 34 15 3 2 := ⟨_, _, _, rfl, by decide +kernel, mm_in 71 (by decide +kernel) rfl⟩
theorem ln35_19 : Cond.methodLink (mm_yn 35).cls 19 (mm_yn 36) ∈ mm_tb := mm_in 429 (by decide +kernel) rfl
theorem im36 : Cond.instanceMethod (mm_yn 36) ∈ mm_tb := mm_in 430 (by decide +kernel) rfl
theorem se36 : Cond.selects (mm_yn 36).cls (mm_yn 36) (mm_yn 36) ∈ mm_tb := mm_in 431 (by decide +kernel) rfl
theorem ln36_81 : Cond.methodLink (mm_yn 36).cls 81 (mm_yn 17) ∈ mm_tb := mm_in 248 (by decide +kernel) rfl
theorem ln36_113 : Cond.methodLink (mm_yn 36).cls 113 (mm_yn 37) ∈ mm_tb := mm_in 433 (by decide +kernel) rfl
theorem st37 : Cond.static (mm_yn 37) ∈ mm_tb := mm_in 434 (by decide +kernel) rfl
theorem fk36_21 : mm_okf 36 21 0 1 := ⟨_, _, _, rfl, by decide +kernel, mm_in 184 (by decide +kernel) rfl⟩
theorem ln36_116 : Cond.methodLink (mm_yn 36).cls 116 (mm_yn 27) ∈ mm_tb := mm_in 437 (by decide +kernel) rfl
theorem ln38_23 : Cond.methodLink (mm_yn 38).cls 23 (mm_yn 39) ∈ mm_tb := mm_in 441 (by decide +kernel) rfl
theorem im39 : Cond.instanceMethod (mm_yn 39) ∈ mm_tb := mm_in 442 (by decide +kernel) rfl
theorem se39 : Cond.selects (mm_yn 39).cls (mm_yn 39) (mm_yn 39) ∈ mm_tb := mm_in 443 (by decide +kernel) rfl
theorem ln39_81 : Cond.methodLink (mm_yn 39).cls 81 (mm_yn 17) ∈ mm_tb := mm_in 248 (by decide +kernel) rfl
theorem ln39_113 : Cond.methodLink (mm_yn 39).cls 113 (mm_yn 37) ∈ mm_tb := mm_in 433 (by decide +kernel) rfl
theorem fk39_21 : mm_okf 39 21 0 1 := ⟨_, _, _, rfl, by decide +kernel, mm_in 184 (by decide +kernel) rfl⟩
theorem ln39_116 : Cond.methodLink (mm_yn 39).cls 116 (mm_yn 27) ∈ mm_tb := mm_in 437 (by decide +kernel) rfl
theorem ln39_120 : Cond.methodLink (mm_yn 39).cls 120 (mm_yn 40) ∈ mm_tb := mm_in 445 (by decide +kernel) rfl
theorem st40 : Cond.static (mm_yn 40) ∈ mm_tb := mm_in 446 (by decide +kernel) rfl
theorem fk39_44 : mm_okf 39 44 0 4 := ⟨_, _, _, rfl, by decide +kernel, mm_in 187 (by decide +kernel) rfl⟩
theorem ln39_124 : Cond.methodLink (mm_yn 39).cls 124 (mm_yn 41) ∈ mm_tb := mm_in 449 (by decide +kernel) rfl
theorem im41 : Cond.instanceMethod (mm_yn 41) ∈ mm_tb := mm_in 450 (by decide +kernel) rfl
theorem se41 : Cond.selects (mm_yn 41).cls (mm_yn 41) (mm_yn 41) ∈ mm_tb := mm_in 451 (by decide +kernel) rfl
theorem fk39_35 : mm_okf 39 35 0 3 := ⟨_, _, _, rfl, by decide +kernel, mm_in 186 (by decide +kernel) rfl⟩
theorem ln39_128 : Cond.methodLink (mm_yn 39).cls 128 (mm_yn 47) ∈ mm_tb := mm_in 477 (by decide +kernel) rfl
theorem im47 : Cond.instanceMethod (mm_yn 47) ∈ mm_tb := mm_in 478 (by decide +kernel) rfl
theorem se47 : Cond.selects (mm_yn 47).cls (mm_yn 47) (mm_yn 47) ∈ mm_tb := mm_in 479 (by decide +kernel) rfl
theorem ln39_132 : Cond.methodLink (mm_yn 39).cls 132 (mm_yn 51) ∈ mm_tb := mm_in 493 (by decide +kernel) rfl
theorem im51 : Cond.instanceMethod (mm_yn 51) ∈ mm_tb := mm_in 494 (by decide +kernel) rfl
theorem se51 : Cond.selects (mm_yn 51).cls (mm_yn 51) (mm_yn 51) ∈ mm_tb := mm_in 495 (by decide +kernel) rfl
theorem fk41_9 : mm_okf 41 9 5 2 := ⟨_, _, _, rfl, by decide +kernel, mm_in 100 (by decide +kernel) rfl⟩
theorem ln41_33 : Cond.methodLink (mm_yn 41).cls 33 (mm_yn 42) ∈ mm_tb := mm_in 453 (by decide +kernel) rfl
theorem im42 : Cond.instanceMethod (mm_yn 42) ∈ mm_tb := mm_in 455 (by decide +kernel) rfl
theorem se42 : Cond.selects (mm_yn 42).cls (mm_yn 42) (mm_yn 42) ∈ mm_tb := mm_ins 4 (by decide +kernel) rfl
theorem fk42_9 : mm_okf 42 9 5 2 := ⟨_, _, _, rfl, by decide +kernel, mm_in 100 (by decide +kernel) rfl⟩
theorem fk42_21 : mm_okf 42 21 5 0 := ⟨_, _, _, rfl, by decide +kernel, mm_in 98 (by decide +kernel) rfl⟩
theorem ln42_37 : Cond.methodLink (mm_yn 42).cls 37 (mm_yn 19) ∈ mm_tb := mm_in 457 (by decide +kernel) rfl
theorem fk42_25 : mm_okf 42 25 5 1 := ⟨_, _, _, rfl, by decide +kernel, mm_in 99 (by decide +kernel) rfl⟩
theorem ln42_43 : Cond.methodLink (mm_yn 42).cls 43 (mm_yn 21) ∈ mm_tb := mm_in 458 (by decide +kernel) rfl
theorem ln42_47 : Cond.methodLink (mm_yn 42).cls 47 (mm_yn 43) ∈ mm_tb := mm_in 459 (by decide +kernel) rfl
theorem im43 : Cond.instanceMethod (mm_yn 43) ∈ mm_tb := mm_in 460 (by decide +kernel) rfl
theorem se43 : Cond.selects (mm_yn 43).cls (mm_yn 43) (mm_yn 43) ∈ mm_tb := mm_in 461 (by decide +kernel) rfl
theorem ln42_53 : Cond.methodLink (mm_yn 42).cls 53 (mm_yn 44) ∈ mm_tb := mm_in 463 (by decide +kernel) rfl
theorem im44 : Cond.instanceMethod (mm_yn 44) ∈ mm_tb := mm_in 465 (by decide +kernel) rfl
theorem se44 : Cond.selects (mm_yn 44).cls (mm_yn 44) (mm_yn 44) ∈ mm_tb := mm_ins 5 (by decide +kernel) rfl
theorem fk42_18 : mm_okf 42 18 5 4 := ⟨_, _, _, rfl, by decide +kernel, mm_in 102 (by decide +kernel) rfl⟩
theorem ln42_57 : Cond.methodLink (mm_yn 42).cls 57 (mm_yn 25) ∈ mm_tb := mm_in 476 (by decide +kernel) rfl
theorem ln42_61 : Cond.methodLink (mm_yn 42).cls 61 (mm_yn 45) ∈ mm_tb := mm_in 468 (by decide +kernel) rfl
theorem st45 : Cond.static (mm_yn 45) ∈ mm_tb := mm_in 469 (by decide +kernel) rfl
theorem ln42_33 : Cond.methodLink (mm_yn 42).cls 33 (mm_yn 42) ∈ mm_tb := mm_in 453 (by decide +kernel) rfl
theorem fk43_15 : mm_okf 43 15 2 2 := ⟨_, _, _, rfl, by decide +kernel, mm_in 54 (by decide +kernel) rfl⟩
theorem fk44_9 : mm_okf 44 9 5 2 := ⟨_, _, _, rfl, by decide +kernel, mm_in 100 (by decide +kernel) rfl⟩
theorem ln44_43 : Cond.methodLink (mm_yn 44).cls 43 (mm_yn 21) ∈ mm_tb := mm_in 458 (by decide +kernel) rfl
theorem fk44_15 : mm_okf 44 15 5 3 := ⟨_, _, _, rfl, by decide +kernel, mm_in 101 (by decide +kernel) rfl⟩
theorem fk44_18 : mm_okf 44 18 5 4 := ⟨_, _, _, rfl, by decide +kernel, mm_in 102 (by decide +kernel) rfl⟩
theorem fk44_21 : mm_okf 44 21 5 0 := ⟨_, _, _, rfl, by decide +kernel, mm_in 98 (by decide +kernel) rfl⟩
theorem ln44_66 : Cond.methodLink (mm_yn 44).cls 66 (mm_yn 24) ∈ mm_tb := mm_in 467 (by decide +kernel) rfl
theorem ln44_61 : Cond.methodLink (mm_yn 44).cls 61 (mm_yn 45) ∈ mm_tb := mm_in 468 (by decide +kernel) rfl
theorem ln44_69 : Cond.methodLink (mm_yn 44).cls 69 (mm_yn 26) ∈ mm_tb := mm_in 471 (by decide +kernel) rfl
theorem ln44_29 : Cond.methodLink (mm_yn 44).cls 29 (mm_yn 46) ∈ mm_tb := mm_in 472 (by decide +kernel) rfl
theorem im46 : Cond.instanceMethod (mm_yn 46) ∈ mm_tb := mm_in 474 (by decide +kernel) rfl
theorem se46 : Cond.selects (mm_yn 46).cls (mm_yn 46) (mm_yn 46) ∈ mm_tb := mm_ins 6 (by decide +kernel) rfl
theorem fk46_15 : mm_okf 46 15 5 3 := ⟨_, _, _, rfl, by decide +kernel, mm_in 101 (by decide +kernel) rfl⟩
theorem cbm2 : (Int8.ofInt (-2)).toInt32 = (-2) := by decide +kernel
theorem fk46_18 : mm_okf 46 18 5 4 := ⟨_, _, _, rfl, by decide +kernel, mm_in 102 (by decide +kernel) rfl⟩
theorem ln47_85 : Cond.methodLink (mm_yn 47).cls 85 (mm_yn 48) ∈ mm_tb := mm_in 481 (by decide +kernel) rfl
theorem im48 : Cond.instanceMethod (mm_yn 48) ∈ mm_tb := mm_in 482 (by decide +kernel) rfl
theorem se48 : Cond.selects (mm_yn 48).cls (mm_yn 48) (mm_yn 48) ∈ mm_tb := mm_in 483 (by decide +kernel) rfl
theorem ln47_90 : Cond.methodLink (mm_yn 47).cls 90 (mm_yn 49) ∈ mm_tb := mm_in 485 (by decide +kernel) rfl
theorem im49 : Cond.instanceMethod (mm_yn 49) ∈ mm_tb := mm_in 487 (by decide +kernel) rfl
theorem se49 : Cond.selects (mm_yn 49).cls (mm_yn 49) (mm_yn 49) ∈ mm_tb := mm_ins 7 (by decide +kernel) rfl
theorem fk48_15 : mm_okf 48 15 4 1 := ⟨_, _, _, rfl, by decide +kernel, mm_in 86 (by decide +kernel) rfl⟩
theorem fp48_15 : mm_okp 48 4 1 := fun C T N h => by
  cases h
  exact Or.inl rfl
theorem fk49_15 : mm_okf 49 15 5 3 := ⟨_, _, _, rfl, by decide +kernel, mm_in 101 (by decide +kernel) rfl⟩
theorem ln49_94 : Cond.methodLink (mm_yn 49).cls 94 (mm_yn 50) ∈ mm_tb := mm_in 489 (by decide +kernel) rfl
theorem im50 : Cond.instanceMethod (mm_yn 50) ∈ mm_tb := mm_in 490 (by decide +kernel) rfl
theorem se50 : Cond.selects (mm_yn 50).cls (mm_yn 50) (mm_yn 50) ∈ mm_tb := mm_in 491 (by decide +kernel) rfl
theorem fk49_18 : mm_okf 49 18 5 4 := ⟨_, _, _, rfl, by decide +kernel, mm_in 102 (by decide +kernel) rfl⟩
theorem ln49_61 : Cond.methodLink (mm_yn 49).cls 61 (mm_yn 45) ∈ mm_tb := mm_in 468 (by decide +kernel) rfl
theorem ln49_90 : Cond.methodLink (mm_yn 49).cls 90 (mm_yn 49) ∈ mm_tb := mm_in 485 (by decide +kernel) rfl
theorem fk50_15 : mm_okf 50 15 4 1 := ⟨_, _, _, rfl, by decide +kernel, mm_in 86 (by decide +kernel) rfl⟩
theorem fk50_9 : mm_okf 50 9 4 0 := ⟨_, _, _, rfl, by decide +kernel, mm_in 85 (by decide +kernel) rfl⟩
theorem fp50_15 : mm_okp 50 4 1 := fun C T N h => by
  cases h
  exact Or.inl rfl
theorem fk51_15 : mm_okf 51 15 4 1 := ⟨_, _, _, rfl, by decide +kernel, mm_in 86 (by decide +kernel) rfl⟩
theorem ln52_27 : Cond.methodLink (mm_yn 52).cls 27 (mm_yn 53) ∈ mm_tb := mm_in 500 (by decide +kernel) rfl
theorem im53 : Cond.instanceMethod (mm_yn 53) ∈ mm_tb := mm_in 501 (by decide +kernel) rfl
theorem se53 : Cond.selects (mm_yn 53).cls (mm_yn 53) (mm_yn 53) ∈ mm_tb := mm_in 502 (by decide +kernel) rfl
theorem ln53_81 : Cond.methodLink (mm_yn 53).cls 81 (mm_yn 17) ∈ mm_tb := mm_in 248 (by decide +kernel) rfl
theorem ln53_136 : Cond.methodLink (mm_yn 53).cls 136 (mm_yn 54) ∈ mm_tb := mm_in 504 (by decide +kernel) rfl
theorem st54 : Cond.static (mm_yn 54) ∈ mm_tb := mm_in 505 (by decide +kernel) rfl
theorem fk53_28 : mm_okf 53 28 0 2 := ⟨_, _, _, rfl, by decide +kernel, mm_in 185 (by decide +kernel) rfl⟩
theorem ln53_139 : Cond.methodLink (mm_yn 53).cls 139 (mm_yn 33) ∈ mm_tb := mm_in 508 (by decide +kernel) rfl
theorem ln55_30 : Cond.methodLink (mm_yn 55).cls 30 (mm_yn 56) ∈ mm_tb := mm_in 512 (by decide +kernel) rfl
theorem im56 : Cond.instanceMethod (mm_yn 56) ∈ mm_tb := mm_in 513 (by decide +kernel) rfl
theorem se56 : Cond.selects (mm_yn 56).cls (mm_yn 56) (mm_yn 56) ∈ mm_tb := mm_in 514 (by decide +kernel) rfl
theorem ln56_81 : Cond.methodLink (mm_yn 56).cls 81 (mm_yn 17) ∈ mm_tb := mm_in 248 (by decide +kernel) rfl
theorem ln56_136 : Cond.methodLink (mm_yn 56).cls 136 (mm_yn 54) ∈ mm_tb := mm_in 504 (by decide +kernel) rfl
theorem fk56_28 : mm_okf 56 28 0 2 := ⟨_, _, _, rfl, by decide +kernel, mm_in 185 (by decide +kernel) rfl⟩
theorem ln56_139 : Cond.methodLink (mm_yn 56).cls 139 (mm_yn 33) ∈ mm_tb := mm_in 508 (by decide +kernel) rfl
theorem ln56_120 : Cond.methodLink (mm_yn 56).cls 120 (mm_yn 40) ∈ mm_tb := mm_in 445 (by decide +kernel) rfl
theorem fk56_53 : mm_okf 56 53 0 5 := ⟨_, _, _, rfl, by decide +kernel, mm_in 188 (by decide +kernel) rfl⟩
theorem ln56_140 : Cond.methodLink (mm_yn 56).cls 140 (mm_yn 57) ∈ mm_tb := mm_in 516 (by decide +kernel) rfl
theorem im57 : Cond.instanceMethod (mm_yn 57) ∈ mm_tb := mm_in 517 (by decide +kernel) rfl
theorem se57 : Cond.selects (mm_yn 57).cls (mm_yn 57) (mm_yn 57) ∈ mm_tb := mm_in 518 (by decide +kernel) rfl
theorem fk56_35 : mm_okf 56 35 0 3 := ⟨_, _, _, rfl, by decide +kernel, mm_in 186 (by decide +kernel) rfl⟩
theorem ln56_132 : Cond.methodLink (mm_yn 56).cls 132 (mm_yn 51) ∈ mm_tb := mm_in 493 (by decide +kernel) rfl
theorem fk57_23 : mm_okf 57 23 6 2 := ⟨_, _, _, rfl, by decide +kernel, mm_in 122 (by decide +kernel) rfl⟩
theorem ln57_27 : Cond.methodLink (mm_yn 57).cls 27 (mm_yn 48) ∈ mm_tb := mm_in 520 (by decide +kernel) rfl
theorem ln57_32 : Cond.methodLink (mm_yn 57).cls 32 (mm_yn 58) ∈ mm_tb := mm_in 521 (by decide +kernel) rfl
theorem im58 : Cond.instanceMethod (mm_yn 58) ∈ mm_tb := mm_in 523 (by decide +kernel) rfl
theorem se58 : Cond.selects (mm_yn 58).cls (mm_yn 58) (mm_yn 58) ∈ mm_tb := mm_ins 8 (by decide +kernel) rfl
theorem fk58_15 : mm_okf 58 15 6 0 := ⟨_, _, _, rfl, by decide +kernel, mm_in 120 (by decide +kernel) rfl⟩
theorem ln58_36 : Cond.methodLink (mm_yn 58).cls 36 (mm_yn 19) ∈ mm_tb := mm_in 525 (by decide +kernel) rfl
theorem fk58_19 : mm_okf 58 19 6 1 := ⟨_, _, _, rfl, by decide +kernel, mm_in 121 (by decide +kernel) rfl⟩
theorem ln58_42 : Cond.methodLink (mm_yn 58).cls 42 (mm_yn 21) ∈ mm_tb := mm_in 526 (by decide +kernel) rfl
theorem ln58_46 : Cond.methodLink (mm_yn 58).cls 46 (mm_yn 34) ∈ mm_tb := mm_in 527 (by decide +kernel) rfl
theorem fk58_23 : mm_okf 58 23 6 2 := ⟨_, _, _, rfl, by decide +kernel, mm_in 122 (by decide +kernel) rfl⟩
theorem ln58_52 : Cond.methodLink (mm_yn 58).cls 52 (mm_yn 50) ∈ mm_tb := mm_in 528 (by decide +kernel) rfl
theorem ln58_56 : Cond.methodLink (mm_yn 58).cls 56 (mm_yn 59) ∈ mm_tb := mm_in 529 (by decide +kernel) rfl
theorem im59 : Cond.instanceMethod (mm_yn 59) ∈ mm_tb := mm_in 531 (by decide +kernel) rfl
theorem se59 : Cond.selects (mm_yn 59).cls (mm_yn 59) (mm_yn 59) ∈ mm_tb := mm_ins 9 (by decide +kernel) rfl
theorem ln59_59 : Cond.methodLink (mm_yn 59).cls 59 (mm_yn 60) ∈ mm_tb := mm_in 533 (by decide +kernel) rfl
theorem im60 : Cond.instanceMethod (mm_yn 60) ∈ mm_tb := mm_in 535 (by decide +kernel) rfl
theorem se60 : Cond.selects (mm_yn 60).cls (mm_yn 60) (mm_yn 60) ∈ mm_tb := mm_ins 10 (by decide +kernel) rfl
theorem fk59_15 : mm_okf 59 15 6 0 := ⟨_, _, _, rfl, by decide +kernel, mm_in 120 (by decide +kernel) rfl⟩
theorem ln59_63 : Cond.methodLink (mm_yn 59).cls 63 (mm_yn 24) ∈ mm_tb := mm_in 537 (by decide +kernel) rfl
theorem ln59_66 : Cond.methodLink (mm_yn 59).cls 66 (mm_yn 62) ∈ mm_tb := mm_in 544 (by decide +kernel) rfl
theorem im62 : Cond.instanceMethod (mm_yn 62) ∈ mm_tb := mm_in 546 (by decide +kernel) rfl
theorem se62 : Cond.selects (mm_yn 62).cls (mm_yn 62) (mm_yn 62) ∈ mm_tb := mm_ins 12 (by decide +kernel) rfl
theorem ln59_69 : Cond.methodLink (mm_yn 59).cls 69 (mm_yn 26) ∈ mm_tb := mm_in 538 (by decide +kernel) rfl
theorem fk59_9 : mm_okf 59 9 6 3 := ⟨_, _, _, rfl, by decide +kernel, mm_in 123 (by decide +kernel) rfl⟩
theorem ln59_32 : Cond.methodLink (mm_yn 59).cls 32 (mm_yn 58) ∈ mm_tb := mm_in 521 (by decide +kernel) rfl
theorem fk60_15 : mm_okf 60 15 6 0 := ⟨_, _, _, rfl, by decide +kernel, mm_in 120 (by decide +kernel) rfl⟩
theorem ln60_63 : Cond.methodLink (mm_yn 60).cls 63 (mm_yn 24) ∈ mm_tb := mm_in 537 (by decide +kernel) rfl
theorem ln60_69 : Cond.methodLink (mm_yn 60).cls 69 (mm_yn 26) ∈ mm_tb := mm_in 538 (by decide +kernel) rfl
theorem ln60_72 : Cond.methodLink (mm_yn 60).cls 72 (mm_yn 61) ∈ mm_tb := mm_in 539 (by decide +kernel) rfl
theorem im61 : Cond.instanceMethod (mm_yn 61) ∈ mm_tb := mm_in 541 (by decide +kernel) rfl
theorem se61 : Cond.selects (mm_yn 61).cls (mm_yn 61) (mm_yn 61) ∈ mm_tb := mm_ins 11 (by decide +kernel) rfl
theorem fk60_9 : mm_okf 60 9 6 3 := ⟨_, _, _, rfl, by decide +kernel, mm_in 123 (by decide +kernel) rfl⟩
theorem fk60_19 : mm_okf 60 19 6 1 := ⟨_, _, _, rfl, by decide +kernel, mm_in 121 (by decide +kernel) rfl⟩
theorem ln60_76 : Cond.methodLink (mm_yn 60).cls 76 (mm_yn 33) ∈ mm_tb := mm_in 543 (by decide +kernel) rfl
theorem fk61_19 : mm_okf 61 19 6 1 := ⟨_, _, _, rfl, by decide +kernel, mm_in 121 (by decide +kernel) rfl⟩
theorem fk61_15 : mm_okf 61 15 6 0 := ⟨_, _, _, rfl, by decide +kernel, mm_in 120 (by decide +kernel) rfl⟩
theorem ln61_69 : Cond.methodLink (mm_yn 61).cls 69 (mm_yn 26) ∈ mm_tb := mm_in 538 (by decide +kernel) rfl
theorem ln61_76 : Cond.methodLink (mm_yn 61).cls 76 (mm_yn 33) ∈ mm_tb := mm_in 543 (by decide +kernel) rfl
theorem ln61_46 : Cond.methodLink (mm_yn 61).cls 46 (mm_yn 34) ∈ mm_tb := mm_in 527 (by decide +kernel) rfl
theorem fk62_15 : mm_okf 62 15 6 0 := ⟨_, _, _, rfl, by decide +kernel, mm_in 120 (by decide +kernel) rfl⟩
theorem ln62_63 : Cond.methodLink (mm_yn 62).cls 63 (mm_yn 24) ∈ mm_tb := mm_in 537 (by decide +kernel) rfl
theorem fk62_19 : mm_okf 62 19 6 1 := ⟨_, _, _, rfl, by decide +kernel, mm_in 121 (by decide +kernel) rfl⟩
theorem ln62_69 : Cond.methodLink (mm_yn 62).cls 69 (mm_yn 26) ∈ mm_tb := mm_in 538 (by decide +kernel) rfl
theorem fk62_9 : mm_okf 62 9 6 3 := ⟨_, _, _, rfl, by decide +kernel, mm_in 123 (by decide +kernel) rfl⟩
theorem ln62_76 : Cond.methodLink (mm_yn 62).cls 76 (mm_yn 33) ∈ mm_tb := mm_in 543 (by decide +kernel) rfl
theorem ln63_33 : Cond.methodLink (mm_yn 63).cls 33 (mm_yn 64) ∈ mm_tb := mm_in 551 (by decide +kernel) rfl
theorem im64 : Cond.instanceMethod (mm_yn 64) ∈ mm_tb := mm_in 552 (by decide +kernel) rfl
theorem se64 : Cond.selects (mm_yn 64).cls (mm_yn 64) (mm_yn 64) ∈ mm_tb := mm_in 553 (by decide +kernel) rfl
theorem ln64_146 : Cond.methodLink (mm_yn 64).cls 146 (mm_yn 65) ∈ mm_tb := mm_in 555 (by decide +kernel) rfl
theorem st65 : Cond.static (mm_yn 65) ∈ mm_tb := mm_in 556 (by decide +kernel) rfl
theorem ln64_151 : Cond.methodLink (mm_yn 64).cls 151 (mm_yn 67) ∈ mm_tb := mm_in 563 (by decide +kernel) rfl
theorem im67 : Cond.instanceMethod (mm_yn 67) ∈ mm_tb := mm_in 565 (by decide +kernel) rfl
theorem se67 : Cond.selects (mm_yn 67).cls (mm_yn 67) (mm_yn 67) ∈ mm_tb := mm_ins 13 (by decide +kernel) rfl
theorem fk64_60 : mm_okf 64 60 0 6 := ⟨_, _, _, rfl, by decide +kernel, mm_in 189 (by decide +kernel) rfl⟩
theorem ln64_154 : Cond.methodLink (mm_yn 64).cls 154 (mm_yn 69) ∈ mm_tb := mm_in 572 (by decide +kernel) rfl
theorem im69 : Cond.instanceMethod (mm_yn 69) ∈ mm_tb := mm_in 573 (by decide +kernel) rfl
theorem se69 : Cond.selects (mm_yn 69).cls (mm_yn 69) (mm_yn 69) ∈ mm_tb := mm_in 574 (by decide +kernel) rfl
theorem ln65_223 : Cond.methodLink (mm_yn 65).cls 223 (mm_yn 66) ∈ mm_tb := mm_in 558 (by decide +kernel) rfl
theorem st66 : Cond.static (mm_yn 66) ∈ mm_tb := mm_in 559 (by decide +kernel) rfl
theorem fk67_60 : mm_okf 67 60 0 6 := ⟨_, _, _, rfl, by decide +kernel, mm_in 189 (by decide +kernel) rfl⟩
theorem ln67_231 : Cond.methodLink (mm_yn 67).cls 231 (mm_yn 68) ∈ mm_tb := mm_in 567 (by decide +kernel) rfl
theorem im68 : Cond.instanceMethod (mm_yn 68) ∈ mm_tb := mm_in 568 (by decide +kernel) rfl
theorem se68 : Cond.selects (mm_yn 68).cls (mm_yn 68) (mm_yn 68) ∈ mm_tb := mm_in 569 (by decide +kernel) rfl
theorem fk68_24 : mm_okf 68 24 7 4 := ⟨_, _, _, rfl, by decide +kernel, mm_in 143 (by decide +kernel) rfl⟩
theorem fk69_9 : mm_okf 69 9 7 0 := ⟨_, _, _, rfl, by decide +kernel, mm_in 139 (by decide +kernel) rfl⟩
theorem fk69_24 : mm_okf 69 24 7 4 := ⟨_, _, _, rfl, by decide +kernel, mm_in 143 (by decide +kernel) rfl⟩
theorem fk69_15 : mm_okf 69 15 7 1 := ⟨_, _, _, rfl, by decide +kernel, mm_in 140 (by decide +kernel) rfl⟩
theorem fk69_18 : mm_okf 69 18 7 2 := ⟨_, _, _, rfl, by decide +kernel, mm_in 141 (by decide +kernel) rfl⟩
theorem fk69_21 : mm_okf 69 21 7 3 := ⟨_, _, _, rfl, by decide +kernel, mm_in 142 (by decide +kernel) rfl⟩
theorem fk69_28 : mm_okf 69 28 7 5 := ⟨_, _, _, rfl, by decide +kernel, mm_in 144 (by decide +kernel) rfl⟩
theorem fp69_24 : mm_okp 69 7 4 := fun C T N h => by
  cases h
  exact Or.inl rfl
theorem fp69_28 : mm_okp 69 7 5 := fun C T N h => by
  cases h
  exact Or.inl rfl
theorem ln70_37 : Cond.methodLink (mm_yn 70).cls 37 (mm_yn 71) ∈ mm_tb := mm_in 579 (by decide +kernel) rfl
theorem im71 : Cond.instanceMethod (mm_yn 71) ∈ mm_tb := mm_in 580 (by decide +kernel) rfl
theorem se71 : Cond.selects (mm_yn 71).cls (mm_yn 71) (mm_yn 71) ∈ mm_tb := mm_in 581 (by decide +kernel) rfl
theorem ln71_146 : Cond.methodLink (mm_yn 71).cls 146 (mm_yn 65) ∈ mm_tb := mm_in 555 (by decide +kernel) rfl
theorem ln71_151 : Cond.methodLink (mm_yn 71).cls 151 (mm_yn 67) ∈ mm_tb := mm_in 563 (by decide +kernel) rfl
theorem fk71_60 : mm_okf 71 60 0 6 := ⟨_, _, _, rfl, by decide +kernel, mm_in 189 (by decide +kernel) rfl⟩
theorem ln71_154 : Cond.methodLink (mm_yn 71).cls 154 (mm_yn 69) ∈ mm_tb := mm_in 572 (by decide +kernel) rfl
theorem ln72_40 : Cond.methodLink (mm_yn 72).cls 40 (mm_yn 73) ∈ mm_tb := mm_in 586 (by decide +kernel) rfl
theorem im73 : Cond.instanceMethod (mm_yn 73) ∈ mm_tb := mm_in 587 (by decide +kernel) rfl
theorem se73 : Cond.selects (mm_yn 73).cls (mm_yn 73) (mm_yn 73) ∈ mm_tb := mm_in 588 (by decide +kernel) rfl
theorem fk73_60 : mm_okf 73 60 0 6 := ⟨_, _, _, rfl, by decide +kernel, mm_in 189 (by decide +kernel) rfl⟩
theorem ln73_160 : Cond.methodLink (mm_yn 73).cls 160 (mm_yn 74) ∈ mm_tb := mm_in 591 (by decide +kernel) rfl
theorem im74 : Cond.instanceMethod (mm_yn 74) ∈ mm_tb := mm_in 592 (by decide +kernel) rfl
theorem se74 : Cond.selects (mm_yn 74).cls (mm_yn 74) (mm_yn 74) ∈ mm_tb := mm_in 593 (by decide +kernel) rfl
theorem ln73_163 : Cond.methodLink (mm_yn 73).cls 163 (mm_yn 75) ∈ mm_tb := mm_in 595 (by decide +kernel) rfl
theorem st75 : Cond.static (mm_yn 75) ∈ mm_tb := mm_in 596 (by decide +kernel) rfl
theorem ln73_151 : Cond.methodLink (mm_yn 73).cls 151 (mm_yn 67) ∈ mm_tb := mm_in 563 (by decide +kernel) rfl
theorem ln73_168 : Cond.methodLink (mm_yn 73).cls 168 (mm_yn 76) ∈ mm_tb := mm_in 599 (by decide +kernel) rfl
theorem im76 : Cond.instanceMethod (mm_yn 76) ∈ mm_tb := mm_in 600 (by decide +kernel) rfl
theorem se76 : Cond.selects (mm_yn 76).cls (mm_yn 76) (mm_yn 76) ∈ mm_tb := mm_in 601 (by decide +kernel) rfl
theorem fk74_28 : mm_okf 74 28 7 5 := ⟨_, _, _, rfl, by decide +kernel, mm_in 144 (by decide +kernel) rfl⟩
theorem fk76_21 : mm_okf 76 21 7 3 := ⟨_, _, _, rfl, by decide +kernel, mm_in 142 (by decide +kernel) rfl⟩
theorem fk76_28 : mm_okf 76 28 7 5 := ⟨_, _, _, rfl, by decide +kernel, mm_in 144 (by decide +kernel) rfl⟩
theorem ln76_31 : Cond.methodLink (mm_yn 76).cls 31 (mm_yn 75) ∈ mm_tb := mm_in 603 (by decide +kernel) rfl
theorem fp76_28 : mm_okp 76 7 5 := fun C T N h => by
  cases h
  exact Or.inl rfl
theorem ln76_35 : Cond.methodLink (mm_yn 76).cls 35 (mm_yn 69) ∈ mm_tb := mm_in 604 (by decide +kernel) rfl
theorem ln77_44 : Cond.methodLink (mm_yn 77).cls 44 (mm_yn 78) ∈ mm_tb := mm_in 608 (by decide +kernel) rfl
theorem im78 : Cond.instanceMethod (mm_yn 78) ∈ mm_tb := mm_in 609 (by decide +kernel) rfl
theorem se78 : Cond.selects (mm_yn 78).cls (mm_yn 78) (mm_yn 78) ∈ mm_tb := mm_in 610 (by decide +kernel) rfl
theorem ln78_81 : Cond.methodLink (mm_yn 78).cls 81 (mm_yn 17) ∈ mm_tb := mm_in 248 (by decide +kernel) rfl
theorem ln78_113 : Cond.methodLink (mm_yn 78).cls 113 (mm_yn 37) ∈ mm_tb := mm_in 433 (by decide +kernel) rfl
theorem ln78_174 : Cond.methodLink (mm_yn 78).cls 174 (mm_yn 79) ∈ mm_tb := mm_in 612 (by decide +kernel) rfl
theorem im79 : Cond.instanceMethod (mm_yn 79) ∈ mm_tb := mm_in 614 (by decide +kernel) rfl
theorem se79 : Cond.selects (mm_yn 79).cls (mm_yn 79) (mm_yn 79) ∈ mm_tb := mm_ins 14 (by decide +kernel) rfl
theorem fk78_21 : mm_okf 78 21 0 1 := ⟨_, _, _, rfl, by decide +kernel, mm_in 184 (by decide +kernel) rfl⟩
theorem ln78_116 : Cond.methodLink (mm_yn 78).cls 116 (mm_yn 27) ∈ mm_tb := mm_in 437 (by decide +kernel) rfl
theorem kl78_177 : Cond.constantLong (mm_yn 78).cls 177 1000 ∈ mm_tb := mm_in 617 (by decide +kernel) rfl
theorem ln78_181 : Cond.methodLink (mm_yn 78).cls 181 (mm_yn 80) ∈ mm_tb := mm_in 619 (by decide +kernel) rfl
theorem im80 : Cond.instanceMethod (mm_yn 80) ∈ mm_tb := mm_in 621 (by decide +kernel) rfl
theorem se80 : Cond.selects (mm_yn 80).cls (mm_yn 80) (mm_yn 80) ∈ mm_tb := mm_ins 15 (by decide +kernel) rfl
theorem fk78_73 : mm_okf 78 73 0 8 := ⟨_, _, _, rfl, by decide +kernel, mm_in 191 (by decide +kernel) rfl⟩
theorem fp78_73 : mm_okp 78 0 8 := fun C T N h => by
  cases h
  exact Or.inl rfl
theorem fk78_77 : mm_okf 78 77 0 9 := ⟨_, _, _, rfl, by decide +kernel, mm_in 192 (by decide +kernel) rfl⟩
theorem fp78_77 : mm_okp 78 0 9 := fun C T N h => by
  cases h
  exact Or.inl rfl
theorem fk78_44 : mm_okf 78 44 0 4 := ⟨_, _, _, rfl, by decide +kernel, mm_in 187 (by decide +kernel) rfl⟩
theorem fk78_35 : mm_okf 78 35 0 3 := ⟨_, _, _, rfl, by decide +kernel, mm_in 186 (by decide +kernel) rfl⟩
theorem ln78_128 : Cond.methodLink (mm_yn 78).cls 128 (mm_yn 47) ∈ mm_tb := mm_in 477 (by decide +kernel) rfl
theorem fk79_60 : mm_okf 79 60 0 6 := ⟨_, _, _, rfl, by decide +kernel, mm_in 189 (by decide +kernel) rfl⟩
theorem ln79_160 : Cond.methodLink (mm_yn 79).cls 160 (mm_yn 74) ∈ mm_tb := mm_in 591 (by decide +kernel) rfl
theorem fk80_44 : mm_okf 80 44 0 4 := ⟨_, _, _, rfl, by decide +kernel, mm_in 187 (by decide +kernel) rfl⟩
theorem ln80_124 : Cond.methodLink (mm_yn 80).cls 124 (mm_yn 41) ∈ mm_tb := mm_in 449 (by decide +kernel) rfl
theorem fk80_60 : mm_okf 80 60 0 6 := ⟨_, _, _, rfl, by decide +kernel, mm_in 189 (by decide +kernel) rfl⟩
theorem ln80_206 : Cond.methodLink (mm_yn 80).cls 206 (mm_yn 81) ∈ mm_tb := mm_in 623 (by decide +kernel) rfl
theorem im81 : Cond.instanceMethod (mm_yn 81) ∈ mm_tb := mm_in 624 (by decide +kernel) rfl
theorem se81 : Cond.selects (mm_yn 81).cls (mm_yn 81) (mm_yn 81) ∈ mm_tb := mm_in 625 (by decide +kernel) rfl
theorem fk81_21 : mm_okf 81 21 7 3 := ⟨_, _, _, rfl, by decide +kernel, mm_in 142 (by decide +kernel) rfl⟩
theorem fk81_28 : mm_okf 81 28 7 5 := ⟨_, _, _, rfl, by decide +kernel, mm_in 144 (by decide +kernel) rfl⟩
theorem ln81_39 : Cond.methodLink (mm_yn 81).cls 39 (mm_yn 82) ∈ mm_tb := mm_in 627 (by decide +kernel) rfl
theorem im82 : Cond.instanceMethod (mm_yn 82) ∈ mm_tb := mm_in 629 (by decide +kernel) rfl
theorem se82 : Cond.selects (mm_yn 82).cls (mm_yn 82) (mm_yn 82) ∈ mm_tb := mm_ins 16 (by decide +kernel) rfl
theorem fk82_15 : mm_okf 82 15 7 1 := ⟨_, _, _, rfl, by decide +kernel, mm_in 140 (by decide +kernel) rfl⟩
theorem fk82_18 : mm_okf 82 18 7 2 := ⟨_, _, _, rfl, by decide +kernel, mm_in 141 (by decide +kernel) rfl⟩
theorem fk82_9 : mm_okf 82 9 7 0 := ⟨_, _, _, rfl, by decide +kernel, mm_in 139 (by decide +kernel) rfl⟩
theorem ln82_43 : Cond.methodLink (mm_yn 82).cls 43 (mm_yn 83) ∈ mm_tb := mm_in 631 (by decide +kernel) rfl
theorem im83 : Cond.instanceMethod (mm_yn 83) ∈ mm_tb := mm_in 632 (by decide +kernel) rfl
theorem se83 : Cond.selects (mm_yn 83).cls (mm_yn 83) (mm_yn 83) ∈ mm_tb := mm_in 633 (by decide +kernel) rfl
theorem ln82_49 : Cond.methodLink (mm_yn 82).cls 49 (mm_yn 86) ∈ mm_tb := mm_in 642 (by decide +kernel) rfl
theorem im86 : Cond.instanceMethod (mm_yn 86) ∈ mm_tb := mm_in 643 (by decide +kernel) rfl
theorem se86 : Cond.selects (mm_yn 86).cls (mm_yn 86) (mm_yn 86) ∈ mm_tb := mm_in 644 (by decide +kernel) rfl
theorem ln82_39 : Cond.methodLink (mm_yn 82).cls 39 (mm_yn 82) ∈ mm_tb := mm_in 627 (by decide +kernel) rfl
theorem ln82_52 : Cond.methodLink (mm_yn 82).cls 52 (mm_yn 88) ∈ mm_tb := mm_in 650 (by decide +kernel) rfl
theorem st88 : Cond.static (mm_yn 88) ∈ mm_tb := mm_in 651 (by decide +kernel) rfl
theorem ln83_97 : Cond.methodLink (mm_yn 83).cls 97 (mm_yn 84) ∈ mm_tb := mm_in 635 (by decide +kernel) rfl
theorem im84 : Cond.instanceMethod (mm_yn 84) ∈ mm_tb := mm_in 637 (by decide +kernel) rfl
theorem se84 : Cond.selects (mm_yn 84).cls (mm_yn 84) (mm_yn 84) ∈ mm_tb := mm_ins 17 (by decide +kernel) rfl
theorem fk83_15 : mm_okf 83 15 5 3 := ⟨_, _, _, rfl, by decide +kernel, mm_in 101 (by decide +kernel) rfl⟩
theorem ln84_72 : Cond.methodLink (mm_yn 84).cls 72 (mm_yn 85) ∈ mm_tb := mm_in 639 (by decide +kernel) rfl
theorem st85 : Cond.static (mm_yn 85) ∈ mm_tb := mm_in 640 (by decide +kernel) rfl
theorem fk84_15 : mm_okf 84 15 5 3 := ⟨_, _, _, rfl, by decide +kernel, mm_in 101 (by decide +kernel) rfl⟩
theorem fk84_18 : mm_okf 84 18 5 4 := ⟨_, _, _, rfl, by decide +kernel, mm_in 102 (by decide +kernel) rfl⟩
theorem ln86_97 : Cond.methodLink (mm_yn 86).cls 97 (mm_yn 84) ∈ mm_tb := mm_in 635 (by decide +kernel) rfl
theorem ln86_100 : Cond.methodLink (mm_yn 86).cls 100 (mm_yn 87) ∈ mm_tb := mm_in 646 (by decide +kernel) rfl
theorem im87 : Cond.instanceMethod (mm_yn 87) ∈ mm_tb := mm_in 648 (by decide +kernel) rfl
theorem se87 : Cond.selects (mm_yn 87).cls (mm_yn 87) (mm_yn 87) ∈ mm_tb := mm_ins 18 (by decide +kernel) rfl
theorem fk87_15 : mm_okf 87 15 5 3 := ⟨_, _, _, rfl, by decide +kernel, mm_in 101 (by decide +kernel) rfl⟩
theorem fk87_18 : mm_okf 87 18 5 4 := ⟨_, _, _, rfl, by decide +kernel, mm_in 102 (by decide +kernel) rfl⟩
theorem ln87_61 : Cond.methodLink (mm_yn 87).cls 61 (mm_yn 45) ∈ mm_tb := mm_in 468 (by decide +kernel) rfl
theorem ln87_100 : Cond.methodLink (mm_yn 87).cls 100 (mm_yn 87) ∈ mm_tb := mm_in 646 (by decide +kernel) rfl
theorem ln89_47 : Cond.methodLink (mm_yn 89).cls 47 (mm_yn 90) ∈ mm_tb := mm_in 656 (by decide +kernel) rfl
theorem im90 : Cond.instanceMethod (mm_yn 90) ∈ mm_tb := mm_in 657 (by decide +kernel) rfl
theorem se90 : Cond.selects (mm_yn 90).cls (mm_yn 90) (mm_yn 90) ∈ mm_tb := mm_in 658 (by decide +kernel) rfl
theorem ln90_81 : Cond.methodLink (mm_yn 90).cls 81 (mm_yn 17) ∈ mm_tb := mm_in 248 (by decide +kernel) rfl
theorem ln90_113 : Cond.methodLink (mm_yn 90).cls 113 (mm_yn 37) ∈ mm_tb := mm_in 433 (by decide +kernel) rfl
theorem ln90_174 : Cond.methodLink (mm_yn 90).cls 174 (mm_yn 79) ∈ mm_tb := mm_in 612 (by decide +kernel) rfl
theorem fk90_69 : mm_okf 90 69 0 7 := ⟨_, _, _, rfl, by decide +kernel, mm_in 190 (by decide +kernel) rfl⟩
theorem ln90_184 : Cond.methodLink (mm_yn 90).cls 184 (mm_yn 91) ∈ mm_tb := mm_in 660 (by decide +kernel) rfl
theorem im91 : Cond.instanceMethod (mm_yn 91) ∈ mm_tb := mm_in 661 (by decide +kernel) rfl
theorem se91 : Cond.selects (mm_yn 91).cls (mm_yn 91) (mm_yn 91) ∈ mm_tb := mm_in 662 (by decide +kernel) rfl
theorem ln90_188 : Cond.methodLink (mm_yn 90).cls 188 (mm_yn 97) ∈ mm_tb := mm_in 694 (by decide +kernel) rfl
theorem im97 : Cond.instanceMethod (mm_yn 97) ∈ mm_tb := mm_in 695 (by decide +kernel) rfl
theorem se97 : Cond.selects (mm_yn 97).cls (mm_yn 97) (mm_yn 97) ∈ mm_tb := mm_in 696 (by decide +kernel) rfl
theorem fk90_73 : mm_okf 90 73 0 8 := ⟨_, _, _, rfl, by decide +kernel, mm_in 191 (by decide +kernel) rfl⟩
theorem fp90_73 : mm_okp 90 0 8 := fun C T N h => by
  cases h
  exact Or.inl rfl
theorem ln90_191 : Cond.methodLink (mm_yn 90).cls 191 (mm_yn 98) ∈ mm_tb := mm_in 698 (by decide +kernel) rfl
theorem im98 : Cond.instanceMethod (mm_yn 98) ∈ mm_tb := mm_in 699 (by decide +kernel) rfl
theorem se98 : Cond.selects (mm_yn 98).cls (mm_yn 98) (mm_yn 98) ∈ mm_tb := mm_in 700 (by decide +kernel) rfl
theorem fk90_77 : mm_okf 90 77 0 9 := ⟨_, _, _, rfl, by decide +kernel, mm_in 192 (by decide +kernel) rfl⟩
theorem fp90_77 : mm_okp 90 0 9 := fun C T N h => by
  cases h
  exact Or.inl rfl
theorem gs90_195 : Cond.fieldLink (mm_yn 90).cls 195 mm_oc (mm_on 2) mm_od ∈ mm_tb := mm_in 702 (by decide +kernel) rfl
theorem gs90_203 : Cond.fieldLink (mm_yn 90).cls 203 mm_oc (mm_on 1) mm_od ∈ mm_tb := mm_in 704 (by decide +kernel) rfl
theorem fk90_44 : mm_okf 90 44 0 4 := ⟨_, _, _, rfl, by decide +kernel, mm_in 187 (by decide +kernel) rfl⟩
theorem fk90_35 : mm_okf 90 35 0 3 := ⟨_, _, _, rfl, by decide +kernel, mm_in 186 (by decide +kernel) rfl⟩
theorem ln90_128 : Cond.methodLink (mm_yn 90).cls 128 (mm_yn 47) ∈ mm_tb := mm_in 477 (by decide +kernel) rfl
theorem fk91_26 : mm_okf 91 26 8 0 := ⟨_, _, _, rfl, by decide +kernel, mm_in 164 (by decide +kernel) rfl⟩
theorem ln91_34 : Cond.methodLink (mm_yn 91).cls 34 (mm_yn 92) ∈ mm_tb := mm_in 664 (by decide +kernel) rfl
theorem im92 : Cond.instanceMethod (mm_yn 92) ∈ mm_tb := mm_in 665 (by decide +kernel) rfl
theorem se92 : Cond.selects (mm_yn 92).cls (mm_yn 92) (mm_yn 92) ∈ mm_tb := mm_in 666 (by decide +kernel) rfl
theorem fk91_15 : mm_okf 91 15 8 3 := ⟨_, _, _, rfl, by decide +kernel, mm_in 167 (by decide +kernel) rfl⟩
theorem fp91_15 : mm_okp 91 8 3 := fun C T N h => by
  cases h
  exact Or.inl rfl
theorem fk91_19 : mm_okf 91 19 8 4 := ⟨_, _, _, rfl, by decide +kernel, mm_in 168 (by decide +kernel) rfl⟩
theorem fp91_19 : mm_okp 91 8 4 := fun C T N h => by
  cases h
  exact Or.inl rfl
theorem fk91_22 : mm_okf 91 22 8 5 := ⟨_, _, _, rfl, by decide +kernel, mm_in 169 (by decide +kernel) rfl⟩
theorem fp91_22 : mm_okp 91 8 5 := fun C T N h => by
  cases h
  exact Or.inl rfl
theorem cs2000 : (Int16.ofInt 2000).toInt32 = 2000 := by decide +kernel
theorem fk91_30 : mm_okf 91 30 8 1 := ⟨_, _, _, rfl, by decide +kernel, mm_in 165 (by decide +kernel) rfl⟩
theorem ln91_40 : Cond.methodLink (mm_yn 91).cls 40 (mm_yn 81) ∈ mm_tb := mm_in 668 (by decide +kernel) rfl
theorem ln91_46 : Cond.methodLink (mm_yn 91).cls 46 (mm_yn 93) ∈ mm_tb := mm_in 669 (by decide +kernel) rfl
theorem im93 : Cond.instanceMethod (mm_yn 93) ∈ mm_tb := mm_in 670 (by decide +kernel) rfl
theorem se93 : Cond.selects (mm_yn 93).cls (mm_yn 93) (mm_yn 93) ∈ mm_tb := mm_in 671 (by decide +kernel) rfl
theorem ln91_50 : Cond.methodLinkNest (mm_yn 91).cls 50 (mm_yn 29) "LazyTester" ∈ mm_tb := mm_in 679 (by decide +kernel) rfl
theorem gs91_54 : Cond.fieldLink (mm_yn 91).cls 54 mm_oc (mm_on 1) mm_od ∈ mm_tb := mm_in 680 (by decide +kernel) rfl
theorem fk91_9 : mm_okf 91 9 8 2 := ⟨_, _, _, rfl, by decide +kernel, mm_in 166 (by decide +kernel) rfl⟩
theorem ln91_60 : Cond.methodLink (mm_yn 91).cls 60 (mm_yn 95) ∈ mm_tb := mm_in 682 (by decide +kernel) rfl
theorem im95 : Cond.instanceMethod (mm_yn 95) ∈ mm_tb := mm_in 684 (by decide +kernel) rfl
theorem se95 : Cond.selects (mm_yn 95).cls (mm_yn 95) (mm_yn 95) ∈ mm_tb := mm_ins 20 (by decide +kernel) rfl
theorem gs91_64 : Cond.fieldLink (mm_yn 91).cls 64 mm_oc (mm_on 2) mm_od ∈ mm_tb := mm_in 690 (by decide +kernel) rfl
theorem gs91_67 : Cond.fieldLink (mm_yn 91).cls 67 mm_oc (mm_on 0) mm_od ∈ mm_tb := mm_in 692 (by decide +kernel) rfl
theorem fk92_9 : mm_okf 92 9 5 2 := ⟨_, _, _, rfl, by decide +kernel, mm_in 100 (by decide +kernel) rfl⟩
theorem ln92_29 : Cond.methodLink (mm_yn 92).cls 29 (mm_yn 46) ∈ mm_tb := mm_in 472 (by decide +kernel) rfl
theorem ln93_75 : Cond.methodLink (mm_yn 93).cls 75 (mm_yn 94) ∈ mm_tb := mm_in 673 (by decide +kernel) rfl
theorem im94 : Cond.instanceMethod (mm_yn 94) ∈ mm_tb := mm_in 675 (by decide +kernel) rfl
theorem se94 : Cond.selects (mm_yn 94).cls (mm_yn 94) (mm_yn 94) ∈ mm_tb := mm_ins 19 (by decide +kernel) rfl
theorem fk94_15 : mm_okf 94 15 5 3 := ⟨_, _, _, rfl, by decide +kernel, mm_in 101 (by decide +kernel) rfl⟩
theorem fk94_25 : mm_okf 94 25 5 1 := ⟨_, _, _, rfl, by decide +kernel, mm_in 99 (by decide +kernel) rfl⟩
theorem fk94_9 : mm_okf 94 9 5 2 := ⟨_, _, _, rfl, by decide +kernel, mm_in 100 (by decide +kernel) rfl⟩
theorem ln94_78 : Cond.methodLink (mm_yn 94).cls 78 (mm_yn 27) ∈ mm_tb := mm_in 677 (by decide +kernel) rfl
theorem fk94_18 : mm_okf 94 18 5 4 := ⟨_, _, _, rfl, by decide +kernel, mm_in 102 (by decide +kernel) rfl⟩
theorem ln94_61 : Cond.methodLink (mm_yn 94).cls 61 (mm_yn 45) ∈ mm_tb := mm_in 468 (by decide +kernel) rfl
theorem ln94_75 : Cond.methodLink (mm_yn 94).cls 75 (mm_yn 94) ∈ mm_tb := mm_in 673 (by decide +kernel) rfl
theorem ln94_81 : Cond.methodLinkNest (mm_yn 94).cls 81 (mm_yn 28) "LazyTester" ∈ mm_tb := mm_in 678 (by decide +kernel) rfl
theorem fk95_15 : mm_okf 95 15 8 3 := ⟨_, _, _, rfl, by decide +kernel, mm_in 167 (by decide +kernel) rfl⟩
theorem fk95_26 : mm_okf 95 26 8 0 := ⟨_, _, _, rfl, by decide +kernel, mm_in 164 (by decide +kernel) rfl⟩
theorem fk95_9 : mm_okf 95 9 8 2 := ⟨_, _, _, rfl, by decide +kernel, mm_in 166 (by decide +kernel) rfl⟩
theorem ln95_70 : Cond.methodLink (mm_yn 95).cls 70 (mm_yn 96) ∈ mm_tb := mm_in 686 (by decide +kernel) rfl
theorem im96 : Cond.instanceMethod (mm_yn 96) ∈ mm_tb := mm_in 687 (by decide +kernel) rfl
theorem se96 : Cond.selects (mm_yn 96).cls (mm_yn 96) (mm_yn 96) ∈ mm_tb := mm_in 688 (by decide +kernel) rfl
theorem fp95_15 : mm_okp 95 8 3 := fun C T N h => by
  cases h
  exact Or.inl rfl
theorem fk96_9 : mm_okf 96 9 5 2 := ⟨_, _, _, rfl, by decide +kernel, mm_in 100 (by decide +kernel) rfl⟩
theorem ln96_72 : Cond.methodLink (mm_yn 96).cls 72 (mm_yn 85) ∈ mm_tb := mm_in 639 (by decide +kernel) rfl
theorem fk96_15 : mm_okf 96 15 5 3 := ⟨_, _, _, rfl, by decide +kernel, mm_in 101 (by decide +kernel) rfl⟩
theorem fk96_21 : mm_okf 96 21 5 0 := ⟨_, _, _, rfl, by decide +kernel, mm_in 98 (by decide +kernel) rfl⟩
theorem ln96_37 : Cond.methodLink (mm_yn 96).cls 37 (mm_yn 19) ∈ mm_tb := mm_in 457 (by decide +kernel) rfl
theorem ln96_43 : Cond.methodLink (mm_yn 96).cls 43 (mm_yn 21) ∈ mm_tb := mm_in 458 (by decide +kernel) rfl
theorem ln96_66 : Cond.methodLink (mm_yn 96).cls 66 (mm_yn 24) ∈ mm_tb := mm_in 467 (by decide +kernel) rfl
theorem ln96_53 : Cond.methodLink (mm_yn 96).cls 53 (mm_yn 44) ∈ mm_tb := mm_in 463 (by decide +kernel) rfl
theorem ln96_29 : Cond.methodLink (mm_yn 96).cls 29 (mm_yn 46) ∈ mm_tb := mm_in 472 (by decide +kernel) rfl
theorem fk97_19 : mm_okf 97 19 8 4 := ⟨_, _, _, rfl, by decide +kernel, mm_in 168 (by decide +kernel) rfl⟩
theorem fk98_22 : mm_okf 98 22 8 5 := ⟨_, _, _, rfl, by decide +kernel, mm_in 169 (by decide +kernel) rfl⟩
theorem oi99_1 : Cond.methodLink (mm_yn 99).cls 1 Lib.objectInit ∈ mm_tb := mm_in 710 (by decide +kernel) rfl
theorem fk99_7 : mm_okf 99 7 9 1 := ⟨_, _, _, rfl, by decide +kernel, mm_in 712 (by decide +kernel) rfl⟩
theorem fp99_7 : mm_okp 99 9 1 := fun C T N h => by
  cases h
  exact Or.inl rfl
theorem fk99_13 : mm_okf 99 13 9 2 := ⟨_, _, _, rfl, by decide +kernel, mm_in 713 (by decide +kernel) rfl⟩
theorem fp99_13 : mm_okp 99 9 2 := fun C T N h => by
  cases h
  exact Or.inl rfl
theorem fk99_16 : mm_okf 99 16 9 3 := ⟨_, _, _, rfl, by decide +kernel, mm_in 714 (by decide +kernel) rfl⟩
theorem fp99_16 : mm_okp 99 9 3 := fun C T N h => by
  cases h
  exact Or.inl rfl
theorem cb36 : (Int8.ofInt 36).toInt32 = 36 := by decide +kernel
theorem fk99_19 : mm_okf 99 19 9 4 := ⟨_, _, _, rfl, by decide +kernel, mm_in 715 (by decide +kernel) rfl⟩
theorem fp99_19 : mm_okp 99 9 4 := fun C T N h => by
  cases h
  exact Or.inl rfl
theorem fk99_23 : mm_okf 99 23 9 5 := ⟨_, _, _, rfl, by decide +kernel, mm_in 716 (by decide +kernel) rfl⟩
theorem fp99_23 : mm_okp 99 9 5 := fun C T N h => by
  cases h
  exact Or.inl rfl
theorem fk99_26 : mm_okf 99 26 9 6 := ⟨_, _, _, rfl, by decide +kernel, mm_in 717 (by decide +kernel) rfl⟩
theorem fp99_26 : mm_okp 99 9 6 := fun C T N h => by
  cases h
  exact Or.inl rfl
theorem fk99_29 : mm_okf 99 29 9 7 := ⟨_, _, _, rfl, by decide +kernel, mm_in 718 (by decide +kernel) rfl⟩
theorem fp99_29 : mm_okp 99 9 7 := fun C T N h => by
  cases h
  exact Or.inl rfl
theorem fk99_32 : mm_okf 99 32 9 9 := ⟨_, _, _, rfl, by decide +kernel, mm_in 720 (by decide +kernel) rfl⟩
theorem fp99_32 : mm_okp 99 9 9 := fun C T N h => by
  cases h
  exact Or.inl rfl
theorem cs512 : (Int16.ofInt 512).toInt32 = 512 := by decide +kernel
theorem fk99_35 : mm_okf 99 35 9 11 := ⟨_, _, _, rfl, by decide +kernel, mm_in 722 (by decide +kernel) rfl⟩
theorem fp99_35 : mm_okp 99 9 11 := fun C T N h => by
  cases h
  exact Or.inl rfl
theorem fk99_38 : mm_okf 99 38 9 12 := ⟨_, _, _, rfl, by decide +kernel, mm_in 723 (by decide +kernel) rfl⟩
theorem fp99_38 : mm_okp 99 9 12 := fun C T N h => by
  cases h
  exact Or.inl rfl
theorem fk99_41 : mm_okf 99 41 9 13 := ⟨_, _, _, rfl, by decide +kernel, mm_in 724 (by decide +kernel) rfl⟩
theorem fp99_41 : mm_okp 99 9 13 := fun C T N h => by
  cases h
  exact Or.inl rfl
theorem fk99_44 : mm_okf 99 44 9 15 := ⟨_, _, _, rfl, by decide +kernel, mm_in 726 (by decide +kernel) rfl⟩
theorem fp99_44 : mm_okp 99 9 15 := fun C T N h => by
  cases h
  exact Or.inl rfl
theorem fk99_47 : mm_okf 99 47 9 16 := ⟨_, _, _, rfl, by decide +kernel, mm_in 727 (by decide +kernel) rfl⟩
theorem fp99_47 : mm_okp 99 9 16 := fun C T N h => by
  cases h
  exact Or.inl rfl
theorem fk99_50 : mm_okf 99 50 9 17 := ⟨_, _, _, rfl, by decide +kernel, mm_in 728 (by decide +kernel) rfl⟩
theorem fp99_50 : mm_okp 99 9 17 := fun C T N h => by
  cases h
  exact Or.inl rfl
theorem fk99_53 : mm_okf 99 53 9 18 := ⟨_, _, _, rfl, by decide +kernel, mm_in 729 (by decide +kernel) rfl⟩
theorem fp99_53 : mm_okp 99 9 18 := fun C T N h => by
  cases h
  exact Or.inl rfl
theorem fk99_56 : mm_okf 99 56 9 20 := ⟨_, _, _, rfl, by decide +kernel, mm_in 731 (by decide +kernel) rfl⟩
theorem fp99_56 : mm_okp 99 9 20 := fun C T N h => by
  cases h
  exact Or.inl rfl
theorem fk99_59 : mm_okf 99 59 9 22 := ⟨_, _, _, rfl, by decide +kernel, mm_in 733 (by decide +kernel) rfl⟩
theorem fp99_59 : mm_okp 99 9 22 := fun C T N h => by
  cases h
  exact Or.inl rfl
theorem fk99_62 : mm_okf 99 62 9 23 := ⟨_, _, _, rfl, by decide +kernel, mm_in 734 (by decide +kernel) rfl⟩
theorem fp99_62 : mm_okp 99 9 23 := fun C T N h => by
  cases h
  exact Or.inl rfl
theorem fk100_65 : mm_okf 100 65 9 0 := ⟨_, _, _, rfl, by decide +kernel, mm_in 711 (by decide +kernel) rfl⟩
theorem ln101_69 : Cond.methodLink (mm_yn 101).cls 69 (mm_yn 102) ∈ mm_tb := mm_in 801 (by decide +kernel) rfl
theorem st102 : Cond.static (mm_yn 102) ∈ mm_tb := mm_in 802 (by decide +kernel) rfl
theorem fk101_65 : mm_okf 101 65 9 0 := ⟨_, _, _, rfl, by decide +kernel, mm_in 711 (by decide +kernel) rfl⟩
theorem fp101_65 : mm_okp 101 9 0 := fun C T N h => by
  cases h
  exact Or.inl rfl
theorem fk101_7 : mm_okf 101 7 9 1 := ⟨_, _, _, rfl, by decide +kernel, mm_in 712 (by decide +kernel) rfl⟩
theorem fk101_13 : mm_okf 101 13 9 2 := ⟨_, _, _, rfl, by decide +kernel, mm_in 713 (by decide +kernel) rfl⟩
theorem fk101_16 : mm_okf 101 16 9 3 := ⟨_, _, _, rfl, by decide +kernel, mm_in 714 (by decide +kernel) rfl⟩
theorem ln103_101 : Cond.methodLink (mm_yn 103).cls 101 (mm_yn 104) ∈ mm_tb := mm_in 808 (by decide +kernel) rfl
theorem st104 : Cond.static (mm_yn 104) ∈ mm_tb := mm_in 809 (by decide +kernel) rfl
theorem fk103_65 : mm_okf 103 65 9 0 := ⟨_, _, _, rfl, by decide +kernel, mm_in 711 (by decide +kernel) rfl⟩
theorem fp103_65 : mm_okp 103 9 0 := fun C T N h => by
  cases h
  exact Or.inl rfl
theorem ln103_105 : Cond.methodLink (mm_yn 103).cls 105 (mm_yn 105) ∈ mm_tb := mm_in 811 (by decide +kernel) rfl
theorem im105 : Cond.instanceMethod (mm_yn 105) ∈ mm_tb := mm_in 813 (by decide +kernel) rfl
theorem se105 : Cond.selects (mm_yn 105).cls (mm_yn 105) (mm_yn 105) ∈ mm_tb := mm_ins 21 (by decide +kernel) rfl
theorem fk103_19 : mm_okf 103 19 9 4 := ⟨_, _, _, rfl, by decide +kernel, mm_in 715 (by decide +kernel) rfl⟩
theorem ln104_69 : Cond.methodLink (mm_yn 104).cls 69 (mm_yn 102) ∈ mm_tb := mm_in 801 (by decide +kernel) rfl
theorem fk105_19 : mm_okf 105 19 9 4 := ⟨_, _, _, rfl, by decide +kernel, mm_in 715 (by decide +kernel) rfl⟩
theorem fk105_7 : mm_okf 105 7 9 1 := ⟨_, _, _, rfl, by decide +kernel, mm_in 712 (by decide +kernel) rfl⟩
theorem ln105_83 : Cond.methodLink (mm_yn 105).cls 83 (mm_yn 106) ∈ mm_tb := mm_in 815 (by decide +kernel) rfl
theorem im106 : Cond.instanceMethod (mm_yn 106) ∈ mm_tb := mm_in 817 (by decide +kernel) rfl
theorem se106 : Cond.selects (mm_yn 106).cls (mm_yn 106) (mm_yn 106) ∈ mm_tb := mm_ins 22 (by decide +kernel) rfl
theorem ln105_87 : Cond.methodLink (mm_yn 105).cls 87 (mm_yn 109) ∈ mm_tb := mm_in 827 (by decide +kernel) rfl
theorem st109 : Cond.static (mm_yn 109) ∈ mm_tb := mm_in 828 (by decide +kernel) rfl
theorem fk106_13 : mm_okf 106 13 9 2 := ⟨_, _, _, rfl, by decide +kernel, mm_in 713 (by decide +kernel) rfl⟩
theorem fk106_19 : mm_okf 106 19 9 4 := ⟨_, _, _, rfl, by decide +kernel, mm_in 715 (by decide +kernel) rfl⟩
theorem ln106_75 : Cond.methodLink (mm_yn 106).cls 75 (mm_yn 107) ∈ mm_tb := mm_in 819 (by decide +kernel) rfl
theorem im107 : Cond.instanceMethod (mm_yn 107) ∈ mm_tb := mm_in 821 (by decide +kernel) rfl
theorem se107 : Cond.selects (mm_yn 107).cls (mm_yn 107) (mm_yn 107) ∈ mm_tb := mm_ins 23 (by decide +kernel) rfl
theorem ln106_79 : Cond.methodLink (mm_yn 106).cls 79 (mm_yn 108) ∈ mm_tb := mm_in 823 (by decide +kernel) rfl
theorem st108 : Cond.static (mm_yn 108) ∈ mm_tb := mm_in 824 (by decide +kernel) rfl
theorem fk107_16 : mm_okf 107 16 9 3 := ⟨_, _, _, rfl, by decide +kernel, mm_in 714 (by decide +kernel) rfl⟩
theorem kl108_73 : Cond.constantLong (mm_yn 108).cls 73 1000000000000000 ∈ mm_tb := mm_in 826 (by decide +kernel) rfl
theorem kl109_73 : Cond.constantLong (mm_yn 109).cls 73 1000000000000000 ∈ mm_tb := mm_in 826 (by decide +kernel) rfl
theorem ln110_108 : Cond.methodLink (mm_yn 110).cls 108 (mm_yn 111) ∈ mm_tb := mm_in 834 (by decide +kernel) rfl
theorem st111 : Cond.static (mm_yn 111) ∈ mm_tb := mm_in 835 (by decide +kernel) rfl
theorem fk110_65 : mm_okf 110 65 9 0 := ⟨_, _, _, rfl, by decide +kernel, mm_in 711 (by decide +kernel) rfl⟩
theorem fp110_65 : mm_okp 110 9 0 := fun C T N h => by
  cases h
  exact Or.inl rfl
theorem ln110_111 : Cond.methodLink (mm_yn 110).cls 111 (mm_yn 112) ∈ mm_tb := mm_in 837 (by decide +kernel) rfl
theorem im112 : Cond.instanceMethod (mm_yn 112) ∈ mm_tb := mm_in 839 (by decide +kernel) rfl
theorem se112 : Cond.selects (mm_yn 112).cls (mm_yn 112) (mm_yn 112) ∈ mm_tb := mm_ins 24 (by decide +kernel) rfl
theorem fk110_23 : mm_okf 110 23 9 5 := ⟨_, _, _, rfl, by decide +kernel, mm_in 716 (by decide +kernel) rfl⟩
theorem ln111_69 : Cond.methodLink (mm_yn 111).cls 69 (mm_yn 102) ∈ mm_tb := mm_in 801 (by decide +kernel) rfl
theorem fk112_7 : mm_okf 112 7 9 1 := ⟨_, _, _, rfl, by decide +kernel, mm_in 712 (by decide +kernel) rfl⟩
theorem ln112_98 : Cond.methodLink (mm_yn 112).cls 98 (mm_yn 113) ∈ mm_tb := mm_in 841 (by decide +kernel) rfl
theorem im113 : Cond.instanceMethod (mm_yn 113) ∈ mm_tb := mm_in 843 (by decide +kernel) rfl
theorem se113 : Cond.selects (mm_yn 113).cls (mm_yn 113) (mm_yn 113) ∈ mm_tb := mm_ins 25 (by decide +kernel) rfl
theorem fk112_23 : mm_okf 112 23 9 5 := ⟨_, _, _, rfl, by decide +kernel, mm_in 716 (by decide +kernel) rfl⟩
theorem ln113_94 : Cond.methodLink (mm_yn 113).cls 94 (mm_yn 114) ∈ mm_tb := mm_in 845 (by decide +kernel) rfl
theorem im114 : Cond.instanceMethod (mm_yn 114) ∈ mm_tb := mm_in 847 (by decide +kernel) rfl
theorem se114 : Cond.selects (mm_yn 114).cls (mm_yn 114) (mm_yn 114) ∈ mm_tb := mm_ins 26 (by decide +kernel) rfl
theorem fk114_13 : mm_okf 114 13 9 2 := ⟨_, _, _, rfl, by decide +kernel, mm_in 713 (by decide +kernel) rfl⟩
theorem ln114_75 : Cond.methodLink (mm_yn 114).cls 75 (mm_yn 107) ∈ mm_tb := mm_in 819 (by decide +kernel) rfl
theorem ln114_90 : Cond.methodLink (mm_yn 114).cls 90 (mm_yn 115) ∈ mm_tb := mm_in 849 (by decide +kernel) rfl
theorem im115 : Cond.instanceMethod (mm_yn 115) ∈ mm_tb := mm_in 851 (by decide +kernel) rfl
theorem se115 : Cond.selects (mm_yn 115).cls (mm_yn 115) (mm_yn 115) ∈ mm_tb := mm_ins 27 (by decide +kernel) rfl
theorem fk115_23 : mm_okf 115 23 9 5 := ⟨_, _, _, rfl, by decide +kernel, mm_in 716 (by decide +kernel) rfl⟩
theorem ln116_101 : Cond.methodLink (mm_yn 116).cls 101 (mm_yn 104) ∈ mm_tb := mm_in 808 (by decide +kernel) rfl
theorem fk116_65 : mm_okf 116 65 9 0 := ⟨_, _, _, rfl, by decide +kernel, mm_in 711 (by decide +kernel) rfl⟩
theorem fp116_65 : mm_okp 116 9 0 := fun C T N h => by
  cases h
  exact Or.inl rfl
theorem ln116_105 : Cond.methodLink (mm_yn 116).cls 105 (mm_yn 105) ∈ mm_tb := mm_in 811 (by decide +kernel) rfl
theorem fk116_19 : mm_okf 116 19 9 4 := ⟨_, _, _, rfl, by decide +kernel, mm_in 715 (by decide +kernel) rfl⟩
theorem kl116_73 : Cond.constantLong (mm_yn 116).cls 73 1000000000000000 ∈ mm_tb := mm_in 826 (by decide +kernel) rfl
theorem ln116_135 : Cond.methodLink (mm_yn 116).cls 135 (mm_yn 117) ∈ mm_tb := mm_in 857 (by decide +kernel) rfl
theorem im117 : Cond.instanceMethod (mm_yn 117) ∈ mm_tb := mm_in 859 (by decide +kernel) rfl
theorem se117 : Cond.selects (mm_yn 117).cls (mm_yn 117) (mm_yn 117) ∈ mm_tb := mm_ins 28 (by decide +kernel) rfl
theorem ln116_138 : Cond.methodLink (mm_yn 116).cls 138 (mm_yn 122) ∈ mm_tb := mm_in 876 (by decide +kernel) rfl
theorem im122 : Cond.instanceMethod (mm_yn 122) ∈ mm_tb := mm_in 878 (by decide +kernel) rfl
theorem se122 : Cond.selects (mm_yn 122).cls (mm_yn 122) (mm_yn 122) ∈ mm_tb := mm_ins 32 (by decide +kernel) rfl
theorem fk116_132 : mm_okf 116 132 9 8 := ⟨_, _, _, rfl, by decide +kernel, mm_in 719 (by decide +kernel) rfl⟩
theorem ln117_121 : Cond.methodLink (mm_yn 117).cls 121 (mm_yn 118) ∈ mm_tb := mm_in 861 (by decide +kernel) rfl
theorem im118 : Cond.instanceMethod (mm_yn 118) ∈ mm_tb := mm_in 863 (by decide +kernel) rfl
theorem se118 : Cond.selects (mm_yn 118).cls (mm_yn 118) (mm_yn 118) ∈ mm_tb := mm_ins 29 (by decide +kernel) rfl
theorem fk117_114 : mm_okf 117 114 9 10 := ⟨_, _, _, rfl, by decide +kernel, mm_in 721 (by decide +kernel) rfl⟩
theorem fp117_114 : mm_okp 117 9 10 := fun C T N h => by
  cases h
  exact Or.inl rfl
theorem ln117_117 : Cond.methodLink (mm_yn 117).cls 117 (mm_yn 119) ∈ mm_tb := mm_in 865 (by decide +kernel) rfl
theorem im119 : Cond.instanceMethod (mm_yn 119) ∈ mm_tb := mm_in 867 (by decide +kernel) rfl
theorem se119 : Cond.selects (mm_yn 119).cls (mm_yn 119) (mm_yn 119) ∈ mm_tb := mm_ins 30 (by decide +kernel) rfl
theorem fk117_35 : mm_okf 117 35 9 11 := ⟨_, _, _, rfl, by decide +kernel, mm_in 722 (by decide +kernel) rfl⟩
theorem fk117_38 : mm_okf 117 38 9 12 := ⟨_, _, _, rfl, by decide +kernel, mm_in 723 (by decide +kernel) rfl⟩
theorem ln117_124 : Cond.methodLink (mm_yn 117).cls 124 (mm_yn 120) ∈ mm_tb := mm_in 869 (by decide +kernel) rfl
theorem st120 : Cond.static (mm_yn 120) ∈ mm_tb := mm_in 870 (by decide +kernel) rfl
theorem fk117_41 : mm_okf 117 41 9 13 := ⟨_, _, _, rfl, by decide +kernel, mm_in 724 (by decide +kernel) rfl⟩
theorem ln117_128 : Cond.methodLink (mm_yn 117).cls 128 (mm_yn 121) ∈ mm_tb := mm_in 872 (by decide +kernel) rfl
theorem im121 : Cond.instanceMethod (mm_yn 121) ∈ mm_tb := mm_in 874 (by decide +kernel) rfl
theorem se121 : Cond.selects (mm_yn 121).cls (mm_yn 121) (mm_yn 121) ∈ mm_tb := mm_ins 31 (by decide +kernel) rfl
theorem fk118_26 : mm_okf 118 26 9 6 := ⟨_, _, _, rfl, by decide +kernel, mm_in 717 (by decide +kernel) rfl⟩
theorem fk119_35 : mm_okf 119 35 9 11 := ⟨_, _, _, rfl, by decide +kernel, mm_in 722 (by decide +kernel) rfl⟩
theorem fk119_114 : mm_okf 119 114 9 10 := ⟨_, _, _, rfl, by decide +kernel, mm_in 721 (by decide +kernel) rfl⟩
theorem fk119_38 : mm_okf 119 38 9 12 := ⟨_, _, _, rfl, by decide +kernel, mm_in 723 (by decide +kernel) rfl⟩
theorem fk119_41 : mm_okf 119 41 9 13 := ⟨_, _, _, rfl, by decide +kernel, mm_in 724 (by decide +kernel) rfl⟩
theorem fp119_114 : mm_okp 119 9 10 := fun C T N h => by
  cases h
  exact Or.inl rfl
theorem ln121_83 : Cond.methodLink (mm_yn 121).cls 83 (mm_yn 106) ∈ mm_tb := mm_in 815 (by decide +kernel) rfl
theorem fk121_26 : mm_okf 121 26 9 6 := ⟨_, _, _, rfl, by decide +kernel, mm_in 717 (by decide +kernel) rfl⟩
theorem fk121_29 : mm_okf 121 29 9 7 := ⟨_, _, _, rfl, by decide +kernel, mm_in 718 (by decide +kernel) rfl⟩
theorem fk121_13 : mm_okf 121 13 9 2 := ⟨_, _, _, rfl, by decide +kernel, mm_in 713 (by decide +kernel) rfl⟩
theorem fk121_19 : mm_okf 121 19 9 4 := ⟨_, _, _, rfl, by decide +kernel, mm_in 715 (by decide +kernel) rfl⟩
theorem ln121_75 : Cond.methodLink (mm_yn 121).cls 75 (mm_yn 107) ∈ mm_tb := mm_in 819 (by decide +kernel) rfl
theorem ln121_117 : Cond.methodLink (mm_yn 121).cls 117 (mm_yn 119) ∈ mm_tb := mm_in 865 (by decide +kernel) rfl
theorem fk122_132 : mm_okf 122 132 9 8 := ⟨_, _, _, rfl, by decide +kernel, mm_in 719 (by decide +kernel) rfl⟩
theorem fp122_132 : mm_okp 122 9 8 := fun C T N h => by
  cases h
  exact Or.inl rfl
theorem fk122_114 : mm_okf 122 114 9 10 := ⟨_, _, _, rfl, by decide +kernel, mm_in 721 (by decide +kernel) rfl⟩
theorem fp122_114 : mm_okp 122 9 10 := fun C T N h => by
  cases h
  exact Or.inl rfl
theorem ln122_117 : Cond.methodLink (mm_yn 122).cls 117 (mm_yn 119) ∈ mm_tb := mm_in 865 (by decide +kernel) rfl
theorem fk122_35 : mm_okf 122 35 9 11 := ⟨_, _, _, rfl, by decide +kernel, mm_in 722 (by decide +kernel) rfl⟩
theorem fk122_32 : mm_okf 122 32 9 9 := ⟨_, _, _, rfl, by decide +kernel, mm_in 720 (by decide +kernel) rfl⟩
theorem fk122_26 : mm_okf 122 26 9 6 := ⟨_, _, _, rfl, by decide +kernel, mm_in 717 (by decide +kernel) rfl⟩
theorem fk122_13 : mm_okf 122 13 9 2 := ⟨_, _, _, rfl, by decide +kernel, mm_in 713 (by decide +kernel) rfl⟩
theorem fk122_29 : mm_okf 122 29 9 7 := ⟨_, _, _, rfl, by decide +kernel, mm_in 718 (by decide +kernel) rfl⟩
theorem ln123_108 : Cond.methodLink (mm_yn 123).cls 108 (mm_yn 111) ∈ mm_tb := mm_in 834 (by decide +kernel) rfl
theorem fk123_65 : mm_okf 123 65 9 0 := ⟨_, _, _, rfl, by decide +kernel, mm_in 711 (by decide +kernel) rfl⟩
theorem fp123_65 : mm_okp 123 9 0 := fun C T N h => by
  cases h
  exact Or.inl rfl
theorem ln123_111 : Cond.methodLink (mm_yn 123).cls 111 (mm_yn 112) ∈ mm_tb := mm_in 837 (by decide +kernel) rfl
theorem fk123_23 : mm_okf 123 23 9 5 := ⟨_, _, _, rfl, by decide +kernel, mm_in 716 (by decide +kernel) rfl⟩
theorem fk123_132 : mm_okf 123 132 9 8 := ⟨_, _, _, rfl, by decide +kernel, mm_in 719 (by decide +kernel) rfl⟩
theorem fp123_132 : mm_okp 123 9 8 := fun C T N h => by
  cases h
  exact Or.inl rfl
theorem fk123_114 : mm_okf 123 114 9 10 := ⟨_, _, _, rfl, by decide +kernel, mm_in 721 (by decide +kernel) rfl⟩
theorem fp123_114 : mm_okp 123 9 10 := fun C T N h => by
  cases h
  exact Or.inl rfl
theorem ln123_117 : Cond.methodLink (mm_yn 123).cls 117 (mm_yn 119) ∈ mm_tb := mm_in 865 (by decide +kernel) rfl
theorem fk123_35 : mm_okf 123 35 9 11 := ⟨_, _, _, rfl, by decide +kernel, mm_in 722 (by decide +kernel) rfl⟩
theorem fk123_38 : mm_okf 123 38 9 12 := ⟨_, _, _, rfl, by decide +kernel, mm_in 723 (by decide +kernel) rfl⟩
theorem fk123_41 : mm_okf 123 41 9 13 := ⟨_, _, _, rfl, by decide +kernel, mm_in 724 (by decide +kernel) rfl⟩
theorem ln123_141 : Cond.methodLink (mm_yn 123).cls 141 (mm_yn 124) ∈ mm_tb := mm_in 884 (by decide +kernel) rfl
theorem im124 : Cond.instanceMethod (mm_yn 124) ∈ mm_tb := mm_in 886 (by decide +kernel) rfl
theorem se124 : Cond.selects (mm_yn 124).cls (mm_yn 124) (mm_yn 124) ∈ mm_tb := mm_ins 33 (by decide +kernel) rfl
theorem ln124_98 : Cond.methodLink (mm_yn 124).cls 98 (mm_yn 113) ∈ mm_tb := mm_in 841 (by decide +kernel) rfl
theorem fk124_32 : mm_okf 124 32 9 9 := ⟨_, _, _, rfl, by decide +kernel, mm_in 720 (by decide +kernel) rfl⟩
theorem fk124_132 : mm_okf 124 132 9 8 := ⟨_, _, _, rfl, by decide +kernel, mm_in 719 (by decide +kernel) rfl⟩
theorem fp124_132 : mm_okp 124 9 8 := fun C T N h => by
  cases h
  exact Or.inl rfl
theorem ln124_94 : Cond.methodLink (mm_yn 124).cls 94 (mm_yn 114) ∈ mm_tb := mm_in 845 (by decide +kernel) rfl
theorem fk124_13 : mm_okf 124 13 9 2 := ⟨_, _, _, rfl, by decide +kernel, mm_in 713 (by decide +kernel) rfl⟩
theorem ln124_75 : Cond.methodLink (mm_yn 124).cls 75 (mm_yn 107) ∈ mm_tb := mm_in 819 (by decide +kernel) rfl
theorem ln124_90 : Cond.methodLink (mm_yn 124).cls 90 (mm_yn 115) ∈ mm_tb := mm_in 849 (by decide +kernel) rfl
theorem ln124_117 : Cond.methodLink (mm_yn 124).cls 117 (mm_yn 119) ∈ mm_tb := mm_in 865 (by decide +kernel) rfl
theorem fk125_65 : mm_okf 125 65 9 0 := ⟨_, _, _, rfl, by decide +kernel, mm_in 711 (by decide +kernel) rfl⟩
theorem fp125_65 : mm_okp 125 9 0 := fun C T N h => by
  cases h
  exact Or.inl rfl
theorem fk125_132 : mm_okf 125 132 9 8 := ⟨_, _, _, rfl, by decide +kernel, mm_in 719 (by decide +kernel) rfl⟩
theorem fk125_32 : mm_okf 125 32 9 9 := ⟨_, _, _, rfl, by decide +kernel, mm_in 720 (by decide +kernel) rfl⟩
theorem ln126_150 : Cond.methodLink (mm_yn 126).cls 150 (mm_yn 127) ∈ mm_tb := mm_in 896 (by decide +kernel) rfl
theorem st127 : Cond.static (mm_yn 127) ∈ mm_tb := mm_in 897 (by decide +kernel) rfl
theorem fk126_144 : mm_okf 126 144 9 14 := ⟨_, _, _, rfl, by decide +kernel, mm_in 725 (by decide +kernel) rfl⟩
theorem fk126_65 : mm_okf 126 65 9 0 := ⟨_, _, _, rfl, by decide +kernel, mm_in 711 (by decide +kernel) rfl⟩
theorem fp126_65 : mm_okp 126 9 0 := fun C T N h => by
  cases h
  exact Or.inl rfl
theorem ln126_153 : Cond.methodLink (mm_yn 126).cls 153 (mm_yn 128) ∈ mm_tb := mm_in 899 (by decide +kernel) rfl
theorem im128 : Cond.instanceMethod (mm_yn 128) ∈ mm_tb := mm_in 901 (by decide +kernel) rfl
theorem se128 : Cond.selects (mm_yn 128).cls (mm_yn 128) (mm_yn 128) ∈ mm_tb := mm_ins 34 (by decide +kernel) rfl
theorem ln127_124 : Cond.methodLink (mm_yn 127).cls 124 (mm_yn 120) ∈ mm_tb := mm_in 869 (by decide +kernel) rfl
theorem fk128_44 : mm_okf 128 44 9 15 := ⟨_, _, _, rfl, by decide +kernel, mm_in 726 (by decide +kernel) rfl⟩
theorem fk128_144 : mm_okf 128 144 9 14 := ⟨_, _, _, rfl, by decide +kernel, mm_in 725 (by decide +kernel) rfl⟩
theorem fk128_47 : mm_okf 128 47 9 16 := ⟨_, _, _, rfl, by decide +kernel, mm_in 727 (by decide +kernel) rfl⟩
theorem fk128_50 : mm_okf 128 50 9 17 := ⟨_, _, _, rfl, by decide +kernel, mm_in 728 (by decide +kernel) rfl⟩
theorem fk128_56 : mm_okf 128 56 9 20 := ⟨_, _, _, rfl, by decide +kernel, mm_in 731 (by decide +kernel) rfl⟩
theorem fk128_147 : mm_okf 128 147 9 19 := ⟨_, _, _, rfl, by decide +kernel, mm_in 730 (by decide +kernel) rfl⟩
theorem fp128_144 : mm_okp 128 9 14 := fun C T N h => by
  cases h
  exact Or.inl rfl
theorem fp128_147 : mm_okp 128 9 19 := fun C T N h => by
  cases h
  exact Or.inl rfl
theorem ln129_150 : Cond.methodLink (mm_yn 129).cls 150 (mm_yn 127) ∈ mm_tb := mm_in 896 (by decide +kernel) rfl
theorem fk129_144 : mm_okf 129 144 9 14 := ⟨_, _, _, rfl, by decide +kernel, mm_in 725 (by decide +kernel) rfl⟩
theorem fk129_65 : mm_okf 129 65 9 0 := ⟨_, _, _, rfl, by decide +kernel, mm_in 711 (by decide +kernel) rfl⟩
theorem fp129_65 : mm_okp 129 9 0 := fun C T N h => by
  cases h
  exact Or.inl rfl
theorem ln129_153 : Cond.methodLink (mm_yn 129).cls 153 (mm_yn 128) ∈ mm_tb := mm_in 899 (by decide +kernel) rfl
theorem fk130_147 : mm_okf 130 147 9 19 := ⟨_, _, _, rfl, by decide +kernel, mm_in 730 (by decide +kernel) rfl⟩
theorem fk130_144 : mm_okf 130 144 9 14 := ⟨_, _, _, rfl, by decide +kernel, mm_in 725 (by decide +kernel) rfl⟩
theorem fk130_65 : mm_okf 130 65 9 0 := ⟨_, _, _, rfl, by decide +kernel, mm_in 711 (by decide +kernel) rfl⟩
theorem fp130_65 : mm_okp 130 9 0 := fun C T N h => by
  cases h
  exact Or.inl rfl
theorem fk130_56 : mm_okf 130 56 9 20 := ⟨_, _, _, rfl, by decide +kernel, mm_in 731 (by decide +kernel) rfl⟩
theorem fp130_147 : mm_okp 130 9 19 := fun C T N h => by
  cases h
  exact Or.inl rfl
theorem ln130_153 : Cond.methodLink (mm_yn 130).cls 153 (mm_yn 128) ∈ mm_tb := mm_in 899 (by decide +kernel) rfl
theorem fk131_65 : mm_okf 131 65 9 0 := ⟨_, _, _, rfl, by decide +kernel, mm_in 711 (by decide +kernel) rfl⟩
theorem fp131_65 : mm_okp 131 9 0 := fun C T N h => by
  cases h
  exact Or.inl rfl
theorem fk131_147 : mm_okf 131 147 9 19 := ⟨_, _, _, rfl, by decide +kernel, mm_in 730 (by decide +kernel) rfl⟩
theorem fp131_147 : mm_okp 131 9 19 := fun C T N h => by
  cases h
  exact Or.inl rfl
theorem fk131_144 : mm_okf 131 144 9 14 := ⟨_, _, _, rfl, by decide +kernel, mm_in 725 (by decide +kernel) rfl⟩
theorem fp131_144 : mm_okp 131 9 14 := fun C T N h => by
  cases h
  exact Or.inl rfl
theorem ln132_101 : Cond.methodLink (mm_yn 132).cls 101 (mm_yn 104) ∈ mm_tb := mm_in 808 (by decide +kernel) rfl
theorem fk132_65 : mm_okf 132 65 9 0 := ⟨_, _, _, rfl, by decide +kernel, mm_in 711 (by decide +kernel) rfl⟩
theorem fp132_65 : mm_okp 132 9 0 := fun C T N h => by
  cases h
  exact Or.inl rfl
theorem ln132_105 : Cond.methodLink (mm_yn 132).cls 105 (mm_yn 105) ∈ mm_tb := mm_in 811 (by decide +kernel) rfl
theorem fk132_19 : mm_okf 132 19 9 4 := ⟨_, _, _, rfl, by decide +kernel, mm_in 715 (by decide +kernel) rfl⟩
theorem fk132_147 : mm_okf 132 147 9 19 := ⟨_, _, _, rfl, by decide +kernel, mm_in 730 (by decide +kernel) rfl⟩
theorem kl132_168 : Cond.constantLong (mm_yn 132).cls 168 1000 ∈ mm_tb := mm_in 919 (by decide +kernel) rfl
theorem fk132_170 : mm_okf 132 170 9 25 := ⟨_, _, _, rfl, by decide +kernel, mm_in 736 (by decide +kernel) rfl⟩
theorem fp132_170 : mm_okp 132 9 25 := fun C T N h => by
  cases h
  exact Or.inl rfl
theorem fk132_173 : mm_okf 132 173 9 26 := ⟨_, _, _, rfl, by decide +kernel, mm_in 737 (by decide +kernel) rfl⟩
theorem fp132_173 : mm_okp 132 9 26 := fun C T N h => by
  cases h
  exact Or.inl rfl
theorem ln132_135 : Cond.methodLink (mm_yn 132).cls 135 (mm_yn 117) ∈ mm_tb := mm_in 857 (by decide +kernel) rfl
theorem ln132_177 : Cond.methodLink (mm_yn 132).cls 177 (mm_yn 133) ∈ mm_tb := mm_in 920 (by decide +kernel) rfl
theorem im133 : Cond.instanceMethod (mm_yn 133) ∈ mm_tb := mm_in 922 (by decide +kernel) rfl
theorem se133 : Cond.selects (mm_yn 133).cls (mm_yn 133) (mm_yn 133) ∈ mm_tb := mm_ins 35 (by decide +kernel) rfl
theorem ln132_138 : Cond.methodLink (mm_yn 132).cls 138 (mm_yn 122) ∈ mm_tb := mm_in 876 (by decide +kernel) rfl
theorem fk133_56 : mm_okf 133 56 9 20 := ⟨_, _, _, rfl, by decide +kernel, mm_in 731 (by decide +kernel) rfl⟩
theorem fk133_147 : mm_okf 133 147 9 19 := ⟨_, _, _, rfl, by decide +kernel, mm_in 730 (by decide +kernel) rfl⟩
theorem fk133_44 : mm_okf 133 44 9 15 := ⟨_, _, _, rfl, by decide +kernel, mm_in 726 (by decide +kernel) rfl⟩
theorem fk133_53 : mm_okf 133 53 9 18 := ⟨_, _, _, rfl, by decide +kernel, mm_in 729 (by decide +kernel) rfl⟩
theorem fk133_47 : mm_okf 133 47 9 16 := ⟨_, _, _, rfl, by decide +kernel, mm_in 727 (by decide +kernel) rfl⟩
theorem fk133_50 : mm_okf 133 50 9 17 := ⟨_, _, _, rfl, by decide +kernel, mm_in 728 (by decide +kernel) rfl⟩
theorem ln133_162 : Cond.methodLink (mm_yn 133).cls 162 (mm_yn 134) ∈ mm_tb := mm_in 924 (by decide +kernel) rfl
theorem im134 : Cond.instanceMethod (mm_yn 134) ∈ mm_tb := mm_in 926 (by decide +kernel) rfl
theorem se134 : Cond.selects (mm_yn 134).cls (mm_yn 134) (mm_yn 134) ∈ mm_tb := mm_ins 36 (by decide +kernel) rfl
theorem ln133_165 : Cond.methodLink (mm_yn 133).cls 165 (mm_yn 137) ∈ mm_tb := mm_in 935 (by decide +kernel) rfl
theorem im137 : Cond.instanceMethod (mm_yn 137) ∈ mm_tb := mm_in 937 (by decide +kernel) rfl
theorem se137 : Cond.selects (mm_yn 137).cls (mm_yn 137) (mm_yn 137) ∈ mm_tb := mm_ins 38 (by decide +kernel) rfl
theorem ln134_159 : Cond.methodLink (mm_yn 134).cls 159 (mm_yn 135) ∈ mm_tb := mm_in 928 (by decide +kernel) rfl
theorem im135 : Cond.instanceMethod (mm_yn 135) ∈ mm_tb := mm_in 930 (by decide +kernel) rfl
theorem se135 : Cond.selects (mm_yn 135).cls (mm_yn 135) (mm_yn 135) ∈ mm_tb := mm_ins 37 (by decide +kernel) rfl
theorem fk134_26 : mm_okf 134 26 9 6 := ⟨_, _, _, rfl, by decide +kernel, mm_in 717 (by decide +kernel) rfl⟩
theorem ln135_124 : Cond.methodLink (mm_yn 135).cls 124 (mm_yn 120) ∈ mm_tb := mm_in 869 (by decide +kernel) rfl
theorem fk135_26 : mm_okf 135 26 9 6 := ⟨_, _, _, rfl, by decide +kernel, mm_in 717 (by decide +kernel) rfl⟩
theorem ln135_156 : Cond.methodLink (mm_yn 135).cls 156 (mm_yn 136) ∈ mm_tb := mm_in 932 (by decide +kernel) rfl
theorem st136 : Cond.static (mm_yn 136) ∈ mm_tb := mm_in 933 (by decide +kernel) rfl
theorem fk135_13 : mm_okf 135 13 9 2 := ⟨_, _, _, rfl, by decide +kernel, mm_in 713 (by decide +kernel) rfl⟩
theorem fk135_29 : mm_okf 135 29 9 7 := ⟨_, _, _, rfl, by decide +kernel, mm_in 718 (by decide +kernel) rfl⟩
theorem ln136_124 : Cond.methodLink (mm_yn 136).cls 124 (mm_yn 120) ∈ mm_tb := mm_in 869 (by decide +kernel) rfl
theorem ln137_159 : Cond.methodLink (mm_yn 137).cls 159 (mm_yn 135) ∈ mm_tb := mm_in 928 (by decide +kernel) rfl
theorem fk137_114 : mm_okf 137 114 9 10 := ⟨_, _, _, rfl, by decide +kernel, mm_in 721 (by decide +kernel) rfl⟩
theorem fp137_114 : mm_okp 137 9 10 := fun C T N h => by
  cases h
  exact Or.inl rfl
theorem ln137_117 : Cond.methodLink (mm_yn 137).cls 117 (mm_yn 119) ∈ mm_tb := mm_in 865 (by decide +kernel) rfl
theorem fk137_35 : mm_okf 137 35 9 11 := ⟨_, _, _, rfl, by decide +kernel, mm_in 722 (by decide +kernel) rfl⟩
theorem fk137_38 : mm_okf 137 38 9 12 := ⟨_, _, _, rfl, by decide +kernel, mm_in 723 (by decide +kernel) rfl⟩
theorem fk137_26 : mm_okf 137 26 9 6 := ⟨_, _, _, rfl, by decide +kernel, mm_in 717 (by decide +kernel) rfl⟩
theorem fk137_13 : mm_okf 137 13 9 2 := ⟨_, _, _, rfl, by decide +kernel, mm_in 713 (by decide +kernel) rfl⟩
theorem fk137_29 : mm_okf 137 29 9 7 := ⟨_, _, _, rfl, by decide +kernel, mm_in 718 (by decide +kernel) rfl⟩
theorem ln138_101 : Cond.methodLink (mm_yn 138).cls 101 (mm_yn 104) ∈ mm_tb := mm_in 808 (by decide +kernel) rfl
theorem fk138_65 : mm_okf 138 65 9 0 := ⟨_, _, _, rfl, by decide +kernel, mm_in 711 (by decide +kernel) rfl⟩
theorem fp138_65 : mm_okp 138 9 0 := fun C T N h => by
  cases h
  exact Or.inl rfl
theorem fk138_147 : mm_okf 138 147 9 19 := ⟨_, _, _, rfl, by decide +kernel, mm_in 730 (by decide +kernel) rfl⟩
theorem ln138_105 : Cond.methodLink (mm_yn 138).cls 105 (mm_yn 105) ∈ mm_tb := mm_in 811 (by decide +kernel) rfl
theorem ln138_121 : Cond.methodLink (mm_yn 138).cls 121 (mm_yn 118) ∈ mm_tb := mm_in 861 (by decide +kernel) rfl
theorem fk138_26 : mm_okf 138 26 9 6 := ⟨_, _, _, rfl, by decide +kernel, mm_in 717 (by decide +kernel) rfl⟩
theorem fk138_29 : mm_okf 138 29 9 7 := ⟨_, _, _, rfl, by decide +kernel, mm_in 718 (by decide +kernel) rfl⟩
theorem fk138_181 : mm_okf 138 181 9 24 := ⟨_, _, _, rfl, by decide +kernel, mm_in 735 (by decide +kernel) rfl⟩
theorem fp138_181 : mm_okp 138 9 24 := fun C T N h => by
  cases h
  exact Or.inl rfl
theorem fk138_184 : mm_okf 138 184 9 21 := ⟨_, _, _, rfl, by decide +kernel, mm_in 732 (by decide +kernel) rfl⟩
theorem fp138_184 : mm_okp 138 9 21 := fun C T N h => by
  cases h
  exact Or.inl rfl
theorem fk138_170 : mm_okf 138 170 9 25 := ⟨_, _, _, rfl, by decide +kernel, mm_in 736 (by decide +kernel) rfl⟩
theorem fp138_170 : mm_okp 138 9 25 := fun C T N h => by
  cases h
  exact Or.inl rfl
theorem fk138_173 : mm_okf 138 173 9 26 := ⟨_, _, _, rfl, by decide +kernel, mm_in 737 (by decide +kernel) rfl⟩
theorem fp138_173 : mm_okp 138 9 26 := fun C T N h => by
  cases h
  exact Or.inl rfl
theorem ln138_198 : Cond.methodLink (mm_yn 138).cls 198 (mm_yn 139) ∈ mm_tb := mm_in 943 (by decide +kernel) rfl
theorem im139 : Cond.instanceMethod (mm_yn 139) ∈ mm_tb := mm_in 945 (by decide +kernel) rfl
theorem se139 : Cond.selects (mm_yn 139).cls (mm_yn 139) (mm_yn 139) ∈ mm_tb := mm_ins 39 (by decide +kernel) rfl
theorem ln138_138 : Cond.methodLink (mm_yn 138).cls 138 (mm_yn 122) ∈ mm_tb := mm_in 876 (by decide +kernel) rfl
theorem fk139_170 : mm_okf 139 170 9 25 := ⟨_, _, _, rfl, by decide +kernel, mm_in 736 (by decide +kernel) rfl⟩
theorem fp139_170 : mm_okp 139 9 25 := fun C T N h => by
  cases h
  exact Or.inl rfl
theorem ln139_177 : Cond.methodLink (mm_yn 139).cls 177 (mm_yn 133) ∈ mm_tb := mm_in 920 (by decide +kernel) rfl
theorem ln139_191 : Cond.methodLink (mm_yn 139).cls 191 (mm_yn 140) ∈ mm_tb := mm_in 947 (by decide +kernel) rfl
theorem im140 : Cond.instanceMethod (mm_yn 140) ∈ mm_tb := mm_in 949 (by decide +kernel) rfl
theorem se140 : Cond.selects (mm_yn 140).cls (mm_yn 140) (mm_yn 140) ∈ mm_tb := mm_ins 40 (by decide +kernel) rfl
theorem fk139_173 : mm_okf 139 173 9 26 := ⟨_, _, _, rfl, by decide +kernel, mm_in 737 (by decide +kernel) rfl⟩
theorem ln139_87 : Cond.methodLink (mm_yn 139).cls 87 (mm_yn 109) ∈ mm_tb := mm_in 827 (by decide +kernel) rfl
theorem fp139_173 : mm_okp 139 9 26 := fun C T N h => by
  cases h
  exact Or.inl rfl
theorem fk139_59 : mm_okf 139 59 9 22 := ⟨_, _, _, rfl, by decide +kernel, mm_in 733 (by decide +kernel) rfl⟩
theorem fk139_184 : mm_okf 139 184 9 21 := ⟨_, _, _, rfl, by decide +kernel, mm_in 732 (by decide +kernel) rfl⟩
theorem fk139_62 : mm_okf 139 62 9 23 := ⟨_, _, _, rfl, by decide +kernel, mm_in 734 (by decide +kernel) rfl⟩
theorem fp139_184 : mm_okp 139 9 21 := fun C T N h => by
  cases h
  exact Or.inl rfl
theorem ln139_195 : Cond.methodLink (mm_yn 139).cls 195 (mm_yn 141) ∈ mm_tb := mm_in 951 (by decide +kernel) rfl
theorem im141 : Cond.instanceMethod (mm_yn 141) ∈ mm_tb := mm_in 953 (by decide +kernel) rfl
theorem se141 : Cond.selects (mm_yn 141).cls (mm_yn 141) (mm_yn 141) ∈ mm_tb := mm_ins 41 (by decide +kernel) rfl
theorem fk140_26 : mm_okf 140 26 9 6 := ⟨_, _, _, rfl, by decide +kernel, mm_in 717 (by decide +kernel) rfl⟩
theorem fk140_19 : mm_okf 140 19 9 4 := ⟨_, _, _, rfl, by decide +kernel, mm_in 715 (by decide +kernel) rfl⟩
theorem fk140_29 : mm_okf 140 29 9 7 := ⟨_, _, _, rfl, by decide +kernel, mm_in 718 (by decide +kernel) rfl⟩
theorem fk140_181 : mm_okf 140 181 9 24 := ⟨_, _, _, rfl, by decide +kernel, mm_in 735 (by decide +kernel) rfl⟩
theorem ln140_124 : Cond.methodLink (mm_yn 140).cls 124 (mm_yn 120) ∈ mm_tb := mm_in 869 (by decide +kernel) rfl
theorem ln140_79 : Cond.methodLink (mm_yn 140).cls 79 (mm_yn 108) ∈ mm_tb := mm_in 823 (by decide +kernel) rfl
theorem fk141_184 : mm_okf 141 184 9 21 := ⟨_, _, _, rfl, by decide +kernel, mm_in 732 (by decide +kernel) rfl⟩
theorem ln141_187 : Cond.methodLink (mm_yn 141).cls 187 (mm_yn 142) ∈ mm_tb := mm_in 955 (by decide +kernel) rfl
theorem im142 : Cond.instanceMethod (mm_yn 142) ∈ mm_tb := mm_in 957 (by decide +kernel) rfl
theorem se142 : Cond.selects (mm_yn 142).cls (mm_yn 142) (mm_yn 142) ∈ mm_tb := mm_ins 42 (by decide +kernel) rfl
theorem fk142_59 : mm_okf 142 59 9 22 := ⟨_, _, _, rfl, by decide +kernel, mm_in 733 (by decide +kernel) rfl⟩
theorem fk142_184 : mm_okf 142 184 9 21 := ⟨_, _, _, rfl, by decide +kernel, mm_in 732 (by decide +kernel) rfl⟩
theorem fk142_29 : mm_okf 142 29 9 7 := ⟨_, _, _, rfl, by decide +kernel, mm_in 718 (by decide +kernel) rfl⟩
theorem fk142_62 : mm_okf 142 62 9 23 := ⟨_, _, _, rfl, by decide +kernel, mm_in 734 (by decide +kernel) rfl⟩
theorem fk142_13 : mm_okf 142 13 9 2 := ⟨_, _, _, rfl, by decide +kernel, mm_in 713 (by decide +kernel) rfl⟩
theorem fk142_26 : mm_okf 142 26 9 6 := ⟨_, _, _, rfl, by decide +kernel, mm_in 717 (by decide +kernel) rfl⟩
theorem fk142_7 : mm_okf 142 7 9 1 := ⟨_, _, _, rfl, by decide +kernel, mm_in 712 (by decide +kernel) rfl⟩
theorem ln142_124 : Cond.methodLink (mm_yn 142).cls 124 (mm_yn 120) ∈ mm_tb := mm_in 869 (by decide +kernel) rfl
theorem fk142_181 : mm_okf 142 181 9 24 := ⟨_, _, _, rfl, by decide +kernel, mm_in 735 (by decide +kernel) rfl⟩
theorem fp142_184 : mm_okp 142 9 21 := fun C T N h => by
  cases h
  exact Or.inl rfl
theorem ln142_75 : Cond.methodLink (mm_yn 142).cls 75 (mm_yn 107) ∈ mm_tb := mm_in 819 (by decide +kernel) rfl
theorem fk143_65 : mm_okf 143 65 9 0 := ⟨_, _, _, rfl, by decide +kernel, mm_in 711 (by decide +kernel) rfl⟩
theorem fp143_65 : mm_okp 143 9 0 := fun C T N h => by
  cases h
  exact Or.inl rfl
theorem fk143_170 : mm_okf 143 170 9 25 := ⟨_, _, _, rfl, by decide +kernel, mm_in 736 (by decide +kernel) rfl⟩
theorem fk144_65 : mm_okf 144 65 9 0 := ⟨_, _, _, rfl, by decide +kernel, mm_in 711 (by decide +kernel) rfl⟩
theorem fp144_65 : mm_okp 144 9 0 := fun C T N h => by
  cases h
  exact Or.inl rfl
theorem fk144_173 : mm_okf 144 173 9 26 := ⟨_, _, _, rfl, by decide +kernel, mm_in 737 (by decide +kernel) rfl⟩
theorem ln145_51 : Cond.methodLink (mm_yn 145).cls 51 (mm_yn 0) ∈ mm_tb := mm_in 23 (by decide +kernel) rfl
theorem im0 : Cond.instanceMethod (mm_yn 0) ∈ mm_tb := mm_in 24 (by decide +kernel) rfl
theorem ln145_54 : Cond.methodLink (mm_yn 145).cls 54 (mm_yn 99) ∈ mm_tb := mm_in 707 (by decide +kernel) rfl
theorem im99 : Cond.instanceMethod (mm_yn 99) ∈ mm_tb := mm_in 708 (by decide +kernel) rfl
theorem cb15 : (Int8.ofInt 15).toInt32 = 15 := by decide +kernel
theorem ln145_55 : Cond.methodLink (mm_yn 145).cls 55 (mm_yn 15) ∈ mm_tb := mm_in 238 (by decide +kernel) rfl
theorem st15 : Cond.static (mm_yn 15) ∈ mm_tb := mm_in 239 (by decide +kernel) rfl
theorem ln145_60 : Cond.methodLink (mm_yn 145).cls 60 (mm_yn 101) ∈ mm_tb := mm_in 797 (by decide +kernel) rfl
theorem im101 : Cond.instanceMethod (mm_yn 101) ∈ mm_tb := mm_in 798 (by decide +kernel) rfl
theorem se101 : Cond.selects (mm_yn 101).cls (mm_yn 101) (mm_yn 101) ∈ mm_tb := mm_in 799 (by decide +kernel) rfl
theorem ln145_61 : Cond.methodLink (mm_yn 145).cls 61 (mm_yn 100) ∈ mm_tb := mm_in 793 (by decide +kernel) rfl
theorem im100 : Cond.instanceMethod (mm_yn 100) ∈ mm_tb := mm_in 794 (by decide +kernel) rfl
theorem se100 : Cond.selects (mm_yn 100).cls (mm_yn 100) (mm_yn 100) ∈ mm_tb := mm_in 795 (by decide +kernel) rfl
theorem ln145_65 : Cond.methodLink (mm_yn 145).cls 65 (mm_yn 35) ∈ mm_tb := mm_in 426 (by decide +kernel) rfl
theorem st35 : Cond.static (mm_yn 35) ∈ mm_tb := mm_in 427 (by decide +kernel) rfl
theorem ln145_68 : Cond.methodLink (mm_yn 145).cls 68 (mm_yn 103) ∈ mm_tb := mm_in 804 (by decide +kernel) rfl
theorem im103 : Cond.instanceMethod (mm_yn 103) ∈ mm_tb := mm_in 805 (by decide +kernel) rfl
theorem se103 : Cond.selects (mm_yn 103).cls (mm_yn 103) (mm_yn 103) ∈ mm_tb := mm_in 806 (by decide +kernel) rfl
theorem cb32 : (Int8.ofInt 32).toInt32 = 32 := by decide +kernel
theorem kl145_69 : Cond.constantLong (mm_yn 145).cls 69 4294967295 ∈ mm_tb := mm_in 967 (by decide +kernel) rfl
theorem ln145_71 : Cond.methodLink (mm_yn 145).cls 71 (mm_yn 38) ∈ mm_tb := mm_in 438 (by decide +kernel) rfl
theorem st38 : Cond.static (mm_yn 38) ∈ mm_tb := mm_in 439 (by decide +kernel) rfl
theorem ln145_74 : Cond.methodLink (mm_yn 145).cls 74 (mm_yn 116) ∈ mm_tb := mm_in 853 (by decide +kernel) rfl
theorem im116 : Cond.instanceMethod (mm_yn 116) ∈ mm_tb := mm_in 854 (by decide +kernel) rfl
theorem se116 : Cond.selects (mm_yn 116).cls (mm_yn 116) (mm_yn 116) ∈ mm_tb := mm_in 855 (by decide +kernel) rfl
theorem ln145_75 : Cond.methodLink (mm_yn 145).cls 75 (mm_yn 52) ∈ mm_tb := mm_in 497 (by decide +kernel) rfl
theorem st52 : Cond.static (mm_yn 52) ∈ mm_tb := mm_in 498 (by decide +kernel) rfl
theorem ln145_77 : Cond.methodLink (mm_yn 145).cls 77 (mm_yn 110) ∈ mm_tb := mm_in 830 (by decide +kernel) rfl
theorem im110 : Cond.instanceMethod (mm_yn 110) ∈ mm_tb := mm_in 831 (by decide +kernel) rfl
theorem se110 : Cond.selects (mm_yn 110).cls (mm_yn 110) (mm_yn 110) ∈ mm_tb := mm_in 832 (by decide +kernel) rfl
theorem ln145_78 : Cond.methodLink (mm_yn 145).cls 78 (mm_yn 55) ∈ mm_tb := mm_in 509 (by decide +kernel) rfl
theorem st55 : Cond.static (mm_yn 55) ∈ mm_tb := mm_in 510 (by decide +kernel) rfl
theorem ln145_80 : Cond.methodLink (mm_yn 145).cls 80 (mm_yn 123) ∈ mm_tb := mm_in 880 (by decide +kernel) rfl
theorem im123 : Cond.instanceMethod (mm_yn 123) ∈ mm_tb := mm_in 881 (by decide +kernel) rfl
theorem se123 : Cond.selects (mm_yn 123).cls (mm_yn 123) (mm_yn 123) ∈ mm_tb := mm_in 882 (by decide +kernel) rfl
theorem ln145_81 : Cond.methodLink (mm_yn 145).cls 81 (mm_yn 9) ∈ mm_tb := mm_in 214 (by decide +kernel) rfl
theorem im9 : Cond.instanceMethod (mm_yn 9) ∈ mm_tb := mm_in 215 (by decide +kernel) rfl
theorem se9 : Cond.selects (mm_yn 9).cls (mm_yn 9) (mm_yn 9) ∈ mm_tb := mm_in 216 (by decide +kernel) rfl
theorem ln145_84 : Cond.methodLink (mm_yn 145).cls 84 (mm_yn 125) ∈ mm_tb := mm_in 888 (by decide +kernel) rfl
theorem im125 : Cond.instanceMethod (mm_yn 125) ∈ mm_tb := mm_in 889 (by decide +kernel) rfl
theorem se125 : Cond.selects (mm_yn 125).cls (mm_yn 125) (mm_yn 125) ∈ mm_tb := mm_in 890 (by decide +kernel) rfl
theorem ln145_85 : Cond.methodLink (mm_yn 145).cls 85 (mm_yn 63) ∈ mm_tb := mm_in 548 (by decide +kernel) rfl
theorem st63 : Cond.static (mm_yn 63) ∈ mm_tb := mm_in 549 (by decide +kernel) rfl
theorem ln145_87 : Cond.methodLink (mm_yn 145).cls 87 (mm_yn 126) ∈ mm_tb := mm_in 892 (by decide +kernel) rfl
theorem im126 : Cond.instanceMethod (mm_yn 126) ∈ mm_tb := mm_in 893 (by decide +kernel) rfl
theorem se126 : Cond.selects (mm_yn 126).cls (mm_yn 126) (mm_yn 126) ∈ mm_tb := mm_in 894 (by decide +kernel) rfl
theorem ln145_88 : Cond.methodLink (mm_yn 145).cls 88 (mm_yn 70) ∈ mm_tb := mm_in 576 (by decide +kernel) rfl
theorem st70 : Cond.static (mm_yn 70) ∈ mm_tb := mm_in 577 (by decide +kernel) rfl
theorem ln145_90 : Cond.methodLink (mm_yn 145).cls 90 (mm_yn 129) ∈ mm_tb := mm_in 903 (by decide +kernel) rfl
theorem im129 : Cond.instanceMethod (mm_yn 129) ∈ mm_tb := mm_in 904 (by decide +kernel) rfl
theorem se129 : Cond.selects (mm_yn 129).cls (mm_yn 129) (mm_yn 129) ∈ mm_tb := mm_in 905 (by decide +kernel) rfl
theorem ln145_91 : Cond.methodLink (mm_yn 145).cls 91 (mm_yn 72) ∈ mm_tb := mm_in 583 (by decide +kernel) rfl
theorem st72 : Cond.static (mm_yn 72) ∈ mm_tb := mm_in 584 (by decide +kernel) rfl
theorem ln145_94 : Cond.methodLink (mm_yn 145).cls 94 (mm_yn 130) ∈ mm_tb := mm_in 907 (by decide +kernel) rfl
theorem im130 : Cond.instanceMethod (mm_yn 130) ∈ mm_tb := mm_in 908 (by decide +kernel) rfl
theorem se130 : Cond.selects (mm_yn 130).cls (mm_yn 130) (mm_yn 130) ∈ mm_tb := mm_in 909 (by decide +kernel) rfl
theorem ln145_95 : Cond.methodLink (mm_yn 145).cls 95 (mm_yn 11) ∈ mm_tb := mm_in 222 (by decide +kernel) rfl
theorem im11 : Cond.instanceMethod (mm_yn 11) ∈ mm_tb := mm_in 223 (by decide +kernel) rfl
theorem se11 : Cond.selects (mm_yn 11).cls (mm_yn 11) (mm_yn 11) ∈ mm_tb := mm_in 224 (by decide +kernel) rfl
theorem ln145_98 : Cond.methodLink (mm_yn 145).cls 98 (mm_yn 131) ∈ mm_tb := mm_in 911 (by decide +kernel) rfl
theorem im131 : Cond.instanceMethod (mm_yn 131) ∈ mm_tb := mm_in 912 (by decide +kernel) rfl
theorem se131 : Cond.selects (mm_yn 131).cls (mm_yn 131) (mm_yn 131) ∈ mm_tb := mm_in 913 (by decide +kernel) rfl
theorem ln145_99 : Cond.methodLink (mm_yn 145).cls 99 (mm_yn 77) ∈ mm_tb := mm_in 605 (by decide +kernel) rfl
theorem st77 : Cond.static (mm_yn 77) ∈ mm_tb := mm_in 606 (by decide +kernel) rfl
theorem ln145_101 : Cond.methodLink (mm_yn 145).cls 101 (mm_yn 132) ∈ mm_tb := mm_in 915 (by decide +kernel) rfl
theorem im132 : Cond.instanceMethod (mm_yn 132) ∈ mm_tb := mm_in 916 (by decide +kernel) rfl
theorem se132 : Cond.selects (mm_yn 132).cls (mm_yn 132) (mm_yn 132) ∈ mm_tb := mm_in 917 (by decide +kernel) rfl
theorem ln145_102 : Cond.methodLink (mm_yn 145).cls 102 (mm_yn 89) ∈ mm_tb := mm_in 653 (by decide +kernel) rfl
theorem st89 : Cond.static (mm_yn 89) ∈ mm_tb := mm_in 654 (by decide +kernel) rfl
theorem ln145_104 : Cond.methodLink (mm_yn 145).cls 104 (mm_yn 138) ∈ mm_tb := mm_in 939 (by decide +kernel) rfl
theorem im138 : Cond.instanceMethod (mm_yn 138) ∈ mm_tb := mm_in 940 (by decide +kernel) rfl
theorem se138 : Cond.selects (mm_yn 138).cls (mm_yn 138) (mm_yn 138) ∈ mm_tb := mm_in 941 (by decide +kernel) rfl
theorem ln145_105 : Cond.methodLink (mm_yn 145).cls 105 (mm_yn 13) ∈ mm_tb := mm_in 230 (by decide +kernel) rfl
theorem im13 : Cond.instanceMethod (mm_yn 13) ∈ mm_tb := mm_in 231 (by decide +kernel) rfl
theorem se13 : Cond.selects (mm_yn 13).cls (mm_yn 13) (mm_yn 13) ∈ mm_tb := mm_in 232 (by decide +kernel) rfl
theorem ln145_108 : Cond.methodLink (mm_yn 145).cls 108 (mm_yn 143) ∈ mm_tb := mm_in 959 (by decide +kernel) rfl
theorem im143 : Cond.instanceMethod (mm_yn 143) ∈ mm_tb := mm_in 960 (by decide +kernel) rfl
theorem se143 : Cond.selects (mm_yn 143).cls (mm_yn 143) (mm_yn 143) ∈ mm_tb := mm_in 961 (by decide +kernel) rfl
theorem ln145_109 : Cond.methodLink (mm_yn 145).cls 109 (mm_yn 14) ∈ mm_tb := mm_in 234 (by decide +kernel) rfl
theorem im14 : Cond.instanceMethod (mm_yn 14) ∈ mm_tb := mm_in 235 (by decide +kernel) rfl
theorem se14 : Cond.selects (mm_yn 14).cls (mm_yn 14) (mm_yn 14) ∈ mm_tb := mm_in 236 (by decide +kernel) rfl
theorem ln145_113 : Cond.methodLink (mm_yn 145).cls 113 (mm_yn 144) ∈ mm_tb := mm_in 963 (by decide +kernel) rfl
theorem im144 : Cond.instanceMethod (mm_yn 144) ∈ mm_tb := mm_in 964 (by decide +kernel) rfl
theorem se144 : Cond.selects (mm_yn 144).cls (mm_yn 144) (mm_yn 144) ∈ mm_tb := mm_in 965 (by decide +kernel) rfl
theorem ci6 : Int32.ofInt 6 = 6 := by decide +kernel
theorem lc0 : Int64.ofNat ((0 : Fin 2) : Nat) = 0 := by decide +kernel
theorem lc1 : Int64.ofNat ((1 : Fin 2) : Nat) = 1 := by decide +kernel
end
section
/-! ===== decoded ===== -/
theorem d0_0 : decode (mm_cb 0) 0 = .ok (.aload_n 0, 1) := by decide +kernel
theorem d0_1 : decode (mm_cb 0) 1 = .ok (.invokespecial 1, 3) := by decide +kernel
theorem d0_4 : decode (mm_cb 0) 4 = .ok (.aload_n 0, 1) := by decide +kernel
theorem d0_5 : decode (mm_cb 0) 5 = .ok (.new 7, 3) := by decide +kernel
theorem d0_8 : decode (mm_cb 0) 8 = .ok (.dup, 1) := by decide +kernel
theorem d0_9 : decode (mm_cb 0) 9 = .ok (.invokespecial 9, 3) := by decide +kernel
theorem d0_12 : decode (mm_cb 0) 12 = .ok (.putfield 10, 3) := by decide +kernel
theorem d0_15 : decode (mm_cb 0) 15 = .ok (.aload_n 0, 1) := by decide +kernel
theorem d0_16 : decode (mm_cb 0) 16 = .ok (.new 16, 3) := by decide +kernel
theorem d0_19 : decode (mm_cb 0) 19 = .ok (.dup, 1) := by decide +kernel
theorem d0_20 : decode (mm_cb 0) 20 = .ok (.aload_n 0, 1) := by decide +kernel
theorem d0_21 : decode (mm_cb 0) 21 = .ok (.getfield 10, 3) := by decide +kernel
theorem d0_24 : decode (mm_cb 0) 24 = .ok (.invokespecial 18, 3) := by decide +kernel
theorem d0_27 : decode (mm_cb 0) 27 = .ok (.putfield 21, 3) := by decide +kernel
theorem d0_30 : decode (mm_cb 0) 30 = .ok (.aload_n 0, 1) := by decide +kernel
theorem d0_31 : decode (mm_cb 0) 31 = .ok (.new 25, 3) := by decide +kernel
theorem d0_34 : decode (mm_cb 0) 34 = .ok (.dup, 1) := by decide +kernel
theorem d0_35 : decode (mm_cb 0) 35 = .ok (.aload_n 0, 1) := by decide +kernel
theorem d0_36 : decode (mm_cb 0) 36 = .ok (.getfield 10, 3) := by decide +kernel
theorem d0_39 : decode (mm_cb 0) 39 = .ok (.invokespecial 27, 3) := by decide +kernel
theorem d0_42 : decode (mm_cb 0) 42 = .ok (.putfield 28, 3) := by decide +kernel
theorem d0_45 : decode (mm_cb 0) 45 = .ok (.aload_n 0, 1) := by decide +kernel
theorem d0_46 : decode (mm_cb 0) 46 = .ok (.new 32, 3) := by decide +kernel
theorem d0_49 : decode (mm_cb 0) 49 = .ok (.dup, 1) := by decide +kernel
theorem d0_50 : decode (mm_cb 0) 50 = .ok (.invokespecial 34, 3) := by decide +kernel
theorem d0_53 : decode (mm_cb 0) 53 = .ok (.putfield 35, 3) := by decide +kernel
theorem d0_56 : decode (mm_cb 0) 56 = .ok (.aload_n 0, 1) := by decide +kernel
theorem d0_57 : decode (mm_cb 0) 57 = .ok (.new 39, 3) := by decide +kernel
theorem d0_60 : decode (mm_cb 0) 60 = .ok (.dup, 1) := by decide +kernel
theorem d0_61 : decode (mm_cb 0) 61 = .ok (.aload_n 0, 1) := by decide +kernel
theorem d0_62 : decode (mm_cb 0) 62 = .ok (.getfield 10, 3) := by decide +kernel
theorem d0_65 : decode (mm_cb 0) 65 = .ok (.aload_n 0, 1) := by decide +kernel
theorem d0_66 : decode (mm_cb 0) 66 = .ok (.getfield 21, 3) := by decide +kernel
theorem d0_69 : decode (mm_cb 0) 69 = .ok (.invokespecial 41, 3) := by decide +kernel
theorem d0_72 : decode (mm_cb 0) 72 = .ok (.putfield 44, 3) := by decide +kernel
theorem d0_75 : decode (mm_cb 0) 75 = .ok (.aload_n 0, 1) := by decide +kernel
theorem d0_76 : decode (mm_cb 0) 76 = .ok (.new 48, 3) := by decide +kernel
theorem d0_79 : decode (mm_cb 0) 79 = .ok (.dup, 1) := by decide +kernel
theorem d0_80 : decode (mm_cb 0) 80 = .ok (.aload_n 0, 1) := by decide +kernel
theorem d0_81 : decode (mm_cb 0) 81 = .ok (.getfield 10, 3) := by decide +kernel
theorem d0_84 : decode (mm_cb 0) 84 = .ok (.aload_n 0, 1) := by decide +kernel
theorem d0_85 : decode (mm_cb 0) 85 = .ok (.getfield 28, 3) := by decide +kernel
theorem d0_88 : decode (mm_cb 0) 88 = .ok (.aload_n 0, 1) := by decide +kernel
theorem d0_89 : decode (mm_cb 0) 89 = .ok (.getfield 35, 3) := by decide +kernel
theorem d0_92 : decode (mm_cb 0) 92 = .ok (.invokespecial 50, 3) := by decide +kernel
theorem d0_95 : decode (mm_cb 0) 95 = .ok (.putfield 53, 3) := by decide +kernel
theorem d0_98 : decode (mm_cb 0) 98 = .ok (.aload_n 0, 1) := by decide +kernel
theorem d0_99 : decode (mm_cb 0) 99 = .ok (.new 57, 3) := by decide +kernel
theorem d0_102 : decode (mm_cb 0) 102 = .ok (.dup, 1) := by decide +kernel
theorem d0_103 : decode (mm_cb 0) 103 = .ok (.invokespecial 59, 3) := by decide +kernel
theorem d0_106 : decode (mm_cb 0) 106 = .ok (.putfield 60, 3) := by decide +kernel
theorem d0_109 : decode (mm_cb 0) 109 = .ok (.aload_n 0, 1) := by decide +kernel
theorem d0_110 : decode (mm_cb 0) 110 = .ok (.new 64, 3) := by decide +kernel
theorem d0_113 : decode (mm_cb 0) 113 = .ok (.dup, 1) := by decide +kernel
theorem d0_114 : decode (mm_cb 0) 114 = .ok (.aload_n 0, 1) := by decide +kernel
theorem d0_115 : decode (mm_cb 0) 115 = .ok (.getfield 44, 3) := by decide +kernel
theorem d0_118 : decode (mm_cb 0) 118 = .ok (.aload_n 0, 1) := by decide +kernel
theorem d0_119 : decode (mm_cb 0) 119 = .ok (.getfield 60, 3) := by decide +kernel
theorem d0_122 : decode (mm_cb 0) 122 = .ok (.invokespecial 66, 3) := by decide +kernel
theorem d0_125 : decode (mm_cb 0) 125 = .ok (.putfield 69, 3) := by decide +kernel
theorem d0_128 : decode (mm_cb 0) 128 = .ok (.aload_n 0, 1) := by decide +kernel
theorem d0_129 : decode (mm_cb 0) 129 = .ok (.iconst 0, 1) := by decide +kernel
theorem d0_130 : decode (mm_cb 0) 130 = .ok (.putfield 73, 3) := by decide +kernel
theorem d0_133 : decode (mm_cb 0) 133 = .ok (.aload_n 0, 1) := by decide +kernel
theorem d0_134 : decode (mm_cb 0) 134 = .ok (.lconst 0, 1) := by decide +kernel
theorem d0_135 : decode (mm_cb 0) 135 = .ok (.putfield 77, 3) := by decide +kernel
theorem d0_138 : decode (mm_cb 0) 138 = .ok (.return_, 1) := by decide +kernel
theorem d1_0 : decode (mm_cb 1) 0 = .ok (.aload_n 0, 1) := by decide +kernel
theorem d1_1 : decode (mm_cb 1) 1 = .ok (.invokespecial 3, 3) := by decide +kernel
theorem d1_4 : decode (mm_cb 1) 4 = .ok (.aload_n 0, 1) := by decide +kernel
theorem d1_5 : decode (mm_cb 1) 5 = .ok (.bipush 6, 2) := by decide +kernel
theorem d1_7 : decode (mm_cb 1) 7 = .ok (.newarray .int, 2) := by decide +kernel
theorem d1_9 : decode (mm_cb 1) 9 = .ok (.putfield 9, 3) := by decide +kernel
theorem d1_12 : decode (mm_cb 1) 12 = .ok (.aload_n 0, 1) := by decide +kernel
theorem d1_13 : decode (mm_cb 1) 13 = .ok (.bipush 24, 2) := by decide +kernel
theorem d1_15 : decode (mm_cb 1) 15 = .ok (.newarray .int, 2) := by decide +kernel
theorem d1_17 : decode (mm_cb 1) 17 = .ok (.putfield 15, 3) := by decide +kernel
theorem d1_20 : decode (mm_cb 1) 20 = .ok (.aload_n 0, 1) := by decide +kernel
theorem d1_21 : decode (mm_cb 1) 21 = .ok (.bipush 72, 2) := by decide +kernel
theorem d1_23 : decode (mm_cb 1) 23 = .ok (.newarray .int, 2) := by decide +kernel
theorem d1_25 : decode (mm_cb 1) 25 = .ok (.putfield 18, 3) := by decide +kernel
theorem d1_28 : decode (mm_cb 1) 28 = .ok (.return_, 1) := by decide +kernel
theorem d2_0 : decode (mm_cb 2) 0 = .ok (.aload_n 0, 1) := by decide +kernel
theorem d2_1 : decode (mm_cb 2) 1 = .ok (.invokespecial 3, 3) := by decide +kernel
theorem d2_4 : decode (mm_cb 2) 4 = .ok (.aload_n 0, 1) := by decide +kernel
theorem d2_5 : decode (mm_cb 2) 5 = .ok (.bipush 30, 2) := by decide +kernel
theorem d2_7 : decode (mm_cb 2) 7 = .ok (.newarray .long, 2) := by decide +kernel
theorem d2_9 : decode (mm_cb 2) 9 = .ok (.putfield 11, 3) := by decide +kernel
theorem d2_12 : decode (mm_cb 2) 12 = .ok (.aload_n 0, 1) := by decide +kernel
theorem d2_13 : decode (mm_cb 2) 13 = .ok (.bipush 120, 2) := by decide +kernel
theorem d2_15 : decode (mm_cb 2) 15 = .ok (.newarray .long, 2) := by decide +kernel
theorem d2_17 : decode (mm_cb 2) 17 = .ok (.putfield 15, 3) := by decide +kernel
theorem d2_20 : decode (mm_cb 2) 20 = .ok (.aload_n 0, 1) := by decide +kernel
theorem d2_21 : decode (mm_cb 2) 21 = .ok (.aload_n 1, 1) := by decide +kernel
theorem d2_22 : decode (mm_cb 2) 22 = .ok (.putfield 18, 3) := by decide +kernel
theorem d2_25 : decode (mm_cb 2) 25 = .ok (.return_, 1) := by decide +kernel
theorem d3_0 : decode (mm_cb 3) 0 = .ok (.aload_n 0, 1) := by decide +kernel
theorem d3_1 : decode (mm_cb 3) 1 = .ok (.invokespecial 3, 3) := by decide +kernel
theorem d3_4 : decode (mm_cb 3) 4 = .ok (.aload_n 0, 1) := by decide +kernel
theorem d3_5 : decode (mm_cb 3) 5 = .ok (.bipush 78, 2) := by decide +kernel
theorem d3_7 : decode (mm_cb 3) 7 = .ok (.newarray .long, 2) := by decide +kernel
theorem d3_9 : decode (mm_cb 3) 9 = .ok (.putfield 11, 3) := by decide +kernel
theorem d3_12 : decode (mm_cb 3) 12 = .ok (.aload_n 0, 1) := by decide +kernel
theorem d3_13 : decode (mm_cb 3) 13 = .ok (.sipush 1248, 3) := by decide +kernel
theorem d3_16 : decode (mm_cb 3) 16 = .ok (.newarray .long, 2) := by decide +kernel
theorem d3_18 : decode (mm_cb 3) 18 = .ok (.putfield 15, 3) := by decide +kernel
theorem d3_21 : decode (mm_cb 3) 21 = .ok (.aload_n 0, 1) := by decide +kernel
theorem d3_22 : decode (mm_cb 3) 22 = .ok (.aload_n 1, 1) := by decide +kernel
theorem d3_23 : decode (mm_cb 3) 23 = .ok (.putfield 18, 3) := by decide +kernel
theorem d3_26 : decode (mm_cb 3) 26 = .ok (.return_, 1) := by decide +kernel
theorem d4_0 : decode (mm_cb 4) 0 = .ok (.aload_n 0, 1) := by decide +kernel
theorem d4_1 : decode (mm_cb 4) 1 = .ok (.invokespecial 3, 3) := by decide +kernel
theorem d4_4 : decode (mm_cb 4) 4 = .ok (.aload_n 0, 1) := by decide +kernel
theorem d4_5 : decode (mm_cb 4) 5 = .ok (.bipush 121, 2) := by decide +kernel
theorem d4_7 : decode (mm_cb 4) 7 = .ok (.newarray .int, 2) := by decide +kernel
theorem d4_9 : decode (mm_cb 4) 9 = .ok (.putfield 9, 3) := by decide +kernel
theorem d4_12 : decode (mm_cb 4) 12 = .ok (.aload_n 0, 1) := by decide +kernel
theorem d4_13 : decode (mm_cb 4) 13 = .ok (.iconst 0, 1) := by decide +kernel
theorem d4_14 : decode (mm_cb 4) 14 = .ok (.putfield 15, 3) := by decide +kernel
theorem d4_17 : decode (mm_cb 4) 17 = .ok (.return_, 1) := by decide +kernel
theorem d5_0 : decode (mm_cb 5) 0 = .ok (.aload_n 0, 1) := by decide +kernel
theorem d5_1 : decode (mm_cb 5) 1 = .ok (.invokespecial 3, 3) := by decide +kernel
theorem d5_4 : decode (mm_cb 5) 4 = .ok (.aload_n 0, 1) := by decide +kernel
theorem d5_5 : decode (mm_cb 5) 5 = .ok (.sipush 256, 3) := by decide +kernel
theorem d5_8 : decode (mm_cb 5) 8 = .ok (.newarray .int, 2) := by decide +kernel
theorem d5_10 : decode (mm_cb 5) 10 = .ok (.putfield 9, 3) := by decide +kernel
theorem d5_13 : decode (mm_cb 5) 13 = .ok (.aload_n 0, 1) := by decide +kernel
theorem d5_14 : decode (mm_cb 5) 14 = .ok (.sipush 256, 3) := by decide +kernel
theorem d5_17 : decode (mm_cb 5) 17 = .ok (.newarray .int, 2) := by decide +kernel
theorem d5_19 : decode (mm_cb 5) 19 = .ok (.putfield 15, 3) := by decide +kernel
theorem d5_22 : decode (mm_cb 5) 22 = .ok (.aload_n 0, 1) := by decide +kernel
theorem d5_23 : decode (mm_cb 5) 23 = .ok (.sipush 256, 3) := by decide +kernel
theorem d5_26 : decode (mm_cb 5) 26 = .ok (.newarray .int, 2) := by decide +kernel
theorem d5_28 : decode (mm_cb 5) 28 = .ok (.putfield 18, 3) := by decide +kernel
theorem d5_31 : decode (mm_cb 5) 31 = .ok (.aload_n 0, 1) := by decide +kernel
theorem d5_32 : decode (mm_cb 5) 32 = .ok (.aload_n 1, 1) := by decide +kernel
theorem d5_33 : decode (mm_cb 5) 33 = .ok (.putfield 21, 3) := by decide +kernel
theorem d5_36 : decode (mm_cb 5) 36 = .ok (.aload_n 0, 1) := by decide +kernel
theorem d5_37 : decode (mm_cb 5) 37 = .ok (.aload_n 2, 1) := by decide +kernel
theorem d5_38 : decode (mm_cb 5) 38 = .ok (.putfield 25, 3) := by decide +kernel
theorem d5_41 : decode (mm_cb 5) 41 = .ok (.return_, 1) := by decide +kernel
theorem d6_0 : decode (mm_cb 6) 0 = .ok (.aload_n 0, 1) := by decide +kernel
theorem d6_1 : decode (mm_cb 6) 1 = .ok (.invokespecial 3, 3) := by decide +kernel
theorem d6_4 : decode (mm_cb 6) 4 = .ok (.aload_n 0, 1) := by decide +kernel
theorem d6_5 : decode (mm_cb 6) 5 = .ok (.bipush 39, 2) := by decide +kernel
theorem d6_7 : decode (mm_cb 6) 7 = .ok (.newarray .int, 2) := by decide +kernel
theorem d6_9 : decode (mm_cb 6) 9 = .ok (.putfield 9, 3) := by decide +kernel
theorem d6_12 : decode (mm_cb 6) 12 = .ok (.aload_n 0, 1) := by decide +kernel
theorem d6_13 : decode (mm_cb 6) 13 = .ok (.aload_n 1, 1) := by decide +kernel
theorem d6_14 : decode (mm_cb 6) 14 = .ok (.putfield 15, 3) := by decide +kernel
theorem d6_17 : decode (mm_cb 6) 17 = .ok (.aload_n 0, 1) := by decide +kernel
theorem d6_18 : decode (mm_cb 6) 18 = .ok (.aload_n 2, 1) := by decide +kernel
theorem d6_19 : decode (mm_cb 6) 19 = .ok (.putfield 19, 3) := by decide +kernel
theorem d6_22 : decode (mm_cb 6) 22 = .ok (.aload_n 0, 1) := by decide +kernel
theorem d6_23 : decode (mm_cb 6) 23 = .ok (.aload_n 3, 1) := by decide +kernel
theorem d6_24 : decode (mm_cb 6) 24 = .ok (.putfield 23, 3) := by decide +kernel
theorem d6_27 : decode (mm_cb 6) 27 = .ok (.return_, 1) := by decide +kernel
theorem d7_0 : decode (mm_cb 7) 0 = .ok (.aload_n 0, 1) := by decide +kernel
theorem d7_1 : decode (mm_cb 7) 1 = .ok (.invokespecial 3, 3) := by decide +kernel
theorem d7_4 : decode (mm_cb 7) 4 = .ok (.aload_n 0, 1) := by decide +kernel
theorem d7_5 : decode (mm_cb 7) 5 = .ok (.bipush 20, 2) := by decide +kernel
theorem d7_7 : decode (mm_cb 7) 7 = .ok (.newarray .int, 2) := by decide +kernel
theorem d7_9 : decode (mm_cb 7) 9 = .ok (.putfield 9, 3) := by decide +kernel
theorem d7_12 : decode (mm_cb 7) 12 = .ok (.aload_n 0, 1) := by decide +kernel
theorem d7_13 : decode (mm_cb 7) 13 = .ok (.bipush 20, 2) := by decide +kernel
theorem d7_15 : decode (mm_cb 7) 15 = .ok (.newarray .int, 2) := by decide +kernel
theorem d7_17 : decode (mm_cb 7) 17 = .ok (.putfield 15, 3) := by decide +kernel
theorem d7_20 : decode (mm_cb 7) 20 = .ok (.aload_n 0, 1) := by decide +kernel
theorem d7_21 : decode (mm_cb 7) 21 = .ok (.bipush 20, 2) := by decide +kernel
theorem d7_23 : decode (mm_cb 7) 23 = .ok (.newarray .int, 2) := by decide +kernel
theorem d7_25 : decode (mm_cb 7) 25 = .ok (.putfield 18, 3) := by decide +kernel
theorem d7_28 : decode (mm_cb 7) 28 = .ok (.aload_n 0, 1) := by decide +kernel
theorem d7_29 : decode (mm_cb 7) 29 = .ok (.bipush 20, 2) := by decide +kernel
theorem d7_31 : decode (mm_cb 7) 31 = .ok (.newarray .int, 2) := by decide +kernel
theorem d7_33 : decode (mm_cb 7) 33 = .ok (.putfield 21, 3) := by decide +kernel
theorem d7_36 : decode (mm_cb 7) 36 = .ok (.aload_n 0, 1) := by decide +kernel
theorem d7_37 : decode (mm_cb 7) 37 = .ok (.iconst 0, 1) := by decide +kernel
theorem d7_38 : decode (mm_cb 7) 38 = .ok (.putfield 24, 3) := by decide +kernel
theorem d7_41 : decode (mm_cb 7) 41 = .ok (.aload_n 0, 1) := by decide +kernel
theorem d7_42 : decode (mm_cb 7) 42 = .ok (.iconst 0, 1) := by decide +kernel
theorem d7_43 : decode (mm_cb 7) 43 = .ok (.putfield 28, 3) := by decide +kernel
theorem d7_46 : decode (mm_cb 7) 46 = .ok (.return_, 1) := by decide +kernel
theorem d8_0 : decode (mm_cb 8) 0 = .ok (.aload_n 0, 1) := by decide +kernel
theorem d8_1 : decode (mm_cb 8) 1 = .ok (.invokespecial 3, 3) := by decide +kernel
theorem d8_4 : decode (mm_cb 8) 4 = .ok (.aload_n 0, 1) := by decide +kernel
theorem d8_5 : decode (mm_cb 8) 5 = .ok (.bipush 121, 2) := by decide +kernel
theorem d8_7 : decode (mm_cb 8) 7 = .ok (.newarray .int, 2) := by decide +kernel
theorem d8_9 : decode (mm_cb 8) 9 = .ok (.putfield 9, 3) := by decide +kernel
theorem d8_12 : decode (mm_cb 8) 12 = .ok (.aload_n 0, 1) := by decide +kernel
theorem d8_13 : decode (mm_cb 8) 13 = .ok (.iconst 0, 1) := by decide +kernel
theorem d8_14 : decode (mm_cb 8) 14 = .ok (.putfield 15, 3) := by decide +kernel
theorem d8_17 : decode (mm_cb 8) 17 = .ok (.aload_n 0, 1) := by decide +kernel
theorem d8_18 : decode (mm_cb 8) 18 = .ok (.iconst 0, 1) := by decide +kernel
theorem d8_19 : decode (mm_cb 8) 19 = .ok (.putfield 19, 3) := by decide +kernel
theorem d8_22 : decode (mm_cb 8) 22 = .ok (.aload_n 0, 1) := by decide +kernel
theorem d8_23 : decode (mm_cb 8) 23 = .ok (.lconst 0, 1) := by decide +kernel
theorem d8_24 : decode (mm_cb 8) 24 = .ok (.putfield 22, 3) := by decide +kernel
theorem d8_27 : decode (mm_cb 8) 27 = .ok (.aload_n 0, 1) := by decide +kernel
theorem d8_28 : decode (mm_cb 8) 28 = .ok (.aload_n 1, 1) := by decide +kernel
theorem d8_29 : decode (mm_cb 8) 29 = .ok (.putfield 26, 3) := by decide +kernel
theorem d8_32 : decode (mm_cb 8) 32 = .ok (.aload_n 0, 1) := by decide +kernel
theorem d8_33 : decode (mm_cb 8) 33 = .ok (.aload_n 2, 1) := by decide +kernel
theorem d8_34 : decode (mm_cb 8) 34 = .ok (.putfield 30, 3) := by decide +kernel
theorem d8_37 : decode (mm_cb 8) 37 = .ok (.return_, 1) := by decide +kernel
theorem d9_0 : decode (mm_cb 9) 0 = .ok (.aload_n 0, 1) := by decide +kernel
theorem d9_1 : decode (mm_cb 9) 1 = .ok (.getfield 35, 3) := by decide +kernel
theorem d9_4 : decode (mm_cb 9) 4 = .ok (.iload_n 1, 1) := by decide +kernel
theorem d9_5 : decode (mm_cb 9) 5 = .ok (.invokevirtual 143, 3) := by decide +kernel
theorem d9_8 : decode (mm_cb 9) 8 = .ok (.ireturn, 1) := by decide +kernel
theorem d10_0 : decode (mm_cb 10) 0 = .ok (.iload_n 1, 1) := by decide +kernel
theorem d10_1 : decode (mm_cb 10) 1 = .ok (.ifCond .lt 11, 3) := by decide +kernel
theorem d10_4 : decode (mm_cb 10) 4 = .ok (.iload_n 1, 1) := by decide +kernel
theorem d10_5 : decode (mm_cb 10) 5 = .ok (.aload_n 0, 1) := by decide +kernel
theorem d10_6 : decode (mm_cb 10) 6 = .ok (.getfield 15, 3) := by decide +kernel
theorem d10_9 : decode (mm_cb 10) 9 = .ok (.if_icmp .lt 7, 3) := by decide +kernel
theorem d10_12 : decode (mm_cb 10) 12 = .ok (.iconst (-1), 1) := by decide +kernel
theorem d10_13 : decode (mm_cb 10) 13 = .ok (.goto 9, 3) := by decide +kernel
theorem d10_16 : decode (mm_cb 10) 16 = .ok (.aload_n 0, 1) := by decide +kernel
theorem d10_17 : decode (mm_cb 10) 17 = .ok (.getfield 9, 3) := by decide +kernel
theorem d10_20 : decode (mm_cb 10) 20 = .ok (.iload_n 1, 1) := by decide +kernel
theorem d10_21 : decode (mm_cb 10) 21 = .ok (.iaload, 1) := by decide +kernel
theorem d10_22 : decode (mm_cb 10) 22 = .ok (.ireturn, 1) := by decide +kernel
theorem d11_0 : decode (mm_cb 11) 0 = .ok (.aload_n 0, 1) := by decide +kernel
theorem d11_1 : decode (mm_cb 11) 1 = .ok (.getfield 60, 3) := by decide +kernel
theorem d11_4 : decode (mm_cb 11) 4 = .ok (.invokevirtual 171, 3) := by decide +kernel
theorem d11_7 : decode (mm_cb 11) 7 = .ok (.return_, 1) := by decide +kernel
theorem d12_0 : decode (mm_cb 12) 0 = .ok (.aload_n 0, 1) := by decide +kernel
theorem d12_1 : decode (mm_cb 12) 1 = .ok (.iconst 0, 1) := by decide +kernel
theorem d12_2 : decode (mm_cb 12) 2 = .ok (.putfield 24, 3) := by decide +kernel
theorem d12_5 : decode (mm_cb 12) 5 = .ok (.aload_n 0, 1) := by decide +kernel
theorem d12_6 : decode (mm_cb 12) 6 = .ok (.iconst 0, 1) := by decide +kernel
theorem d12_7 : decode (mm_cb 12) 7 = .ok (.putfield 28, 3) := by decide +kernel
theorem d12_10 : decode (mm_cb 12) 10 = .ok (.return_, 1) := by decide +kernel
theorem d13_0 : decode (mm_cb 13) 0 = .ok (.aload_n 0, 1) := by decide +kernel
theorem d13_1 : decode (mm_cb 13) 1 = .ok (.getfield 73, 3) := by decide +kernel
theorem d13_4 : decode (mm_cb 13) 4 = .ok (.ireturn, 1) := by decide +kernel
theorem d14_0 : decode (mm_cb 14) 0 = .ok (.aload_n 0, 1) := by decide +kernel
theorem d14_1 : decode (mm_cb 14) 1 = .ok (.getfield 77, 3) := by decide +kernel
theorem d14_4 : decode (mm_cb 14) 4 = .ok (.lreturn, 1) := by decide +kernel
theorem d15_0 : decode (mm_cb 15) 0 = .ok (.aload 6, 2) := by decide +kernel
theorem d15_2 : decode (mm_cb 15) 2 = .ok (.iconst 0, 1) := by decide +kernel
theorem d15_3 : decode (mm_cb 15) 3 = .ok (.aload_n 0, 1) := by decide +kernel
theorem d15_4 : decode (mm_cb 15) 4 = .ok (.iload_n 1, 1) := by decide +kernel
theorem d15_5 : decode (mm_cb 15) 5 = .ok (.iload_n 2, 1) := by decide +kernel
theorem d15_6 : decode (mm_cb 15) 6 = .ok (.iload_n 3, 1) := by decide +kernel
theorem d15_7 : decode (mm_cb 15) 7 = .ok (.iload 4, 2) := by decide +kernel
theorem d15_9 : decode (mm_cb 15) 9 = .ok (.iload 5, 2) := by decide +kernel
theorem d15_11 : decode (mm_cb 15) 11 = .ok (.invokevirtual 7, 3) := by decide +kernel
theorem d15_14 : decode (mm_cb 15) 14 = .ok (.i2l, 1) := by decide +kernel
theorem d15_15 : decode (mm_cb 15) 15 = .ok (.lastore, 1) := by decide +kernel
theorem d15_16 : decode (mm_cb 15) 16 = .ok (.goto 15, 3) := by decide +kernel
theorem d15_19 : decode (mm_cb 15) 19 = .ok (.astore 7, 2) := by decide +kernel
theorem d15_21 : decode (mm_cb 15) 21 = .ok (.iconst 1, 1) := by decide +kernel
theorem d15_22 : decode (mm_cb 15) 22 = .ok (.ireturn, 1) := by decide +kernel
theorem d15_23 : decode (mm_cb 15) 23 = .ok (.astore 7, 2) := by decide +kernel
theorem d15_25 : decode (mm_cb 15) 25 = .ok (.iconst 2, 1) := by decide +kernel
theorem d15_26 : decode (mm_cb 15) 26 = .ok (.ireturn, 1) := by decide +kernel
theorem d15_27 : decode (mm_cb 15) 27 = .ok (.astore 7, 2) := by decide +kernel
theorem d15_29 : decode (mm_cb 15) 29 = .ok (.iconst 3, 1) := by decide +kernel
theorem d15_30 : decode (mm_cb 15) 30 = .ok (.ireturn, 1) := by decide +kernel
theorem d15_31 : decode (mm_cb 15) 31 = .ok (.iconst 0, 1) := by decide +kernel
theorem d15_32 : decode (mm_cb 15) 32 = .ok (.ireturn, 1) := by decide +kernel
theorem d16_0 : decode (mm_cb 16) 0 = .ok (.iload_n 1, 1) := by decide +kernel
theorem d16_1 : decode (mm_cb 16) 1 = .ok (.invokestatic 81, 3) := by decide +kernel
theorem d16_4 : decode (mm_cb 16) 4 = .ok (.iload_n 2, 1) := by decide +kernel
theorem d16_5 : decode (mm_cb 16) 5 = .ok (.ifCond .lt 8, 3) := by decide +kernel
theorem d16_8 : decode (mm_cb 16) 8 = .ok (.iload_n 2, 1) := by decide +kernel
theorem d16_9 : decode (mm_cb 16) 9 = .ok (.iconst 3, 1) := by decide +kernel
theorem d16_10 : decode (mm_cb 16) 10 = .ok (.if_icmp .le 13, 3) := by decide +kernel
theorem d16_13 : decode (mm_cb 16) 13 = .ok (.new 85, 3) := by decide +kernel
theorem d16_16 : decode (mm_cb 16) 16 = .ok (.dup, 1) := by decide +kernel
theorem d16_17 : decode (mm_cb 16) 17 = .ok (.ldc 87, 2) := by decide +kernel
theorem d16_19 : decode (mm_cb 16) 19 = .ok (.invokespecial 89, 3) := by decide +kernel
theorem d16_22 : decode (mm_cb 16) 22 = .ok (.athrow, 1) := by decide +kernel
theorem d16_23 : decode (mm_cb 16) 23 = .ok (.iload_n 2, 1) := by decide +kernel
theorem d16_24 : decode (mm_cb 16) 24 = .ok (.iload_n 3, 1) := by decide +kernel
theorem d16_25 : decode (mm_cb 16) 25 = .ok (.iload 4, 2) := by decide +kernel
theorem d16_27 : decode (mm_cb 16) 27 = .ok (.iload 5, 2) := by decide +kernel
theorem d16_29 : decode (mm_cb 16) 29 = .ok (.invokestatic 92, 3) := by decide +kernel
theorem d16_32 : decode (mm_cb 16) 32 = .ok (.aload_n 0, 1) := by decide +kernel
theorem d16_33 : decode (mm_cb 16) 33 = .ok (.getfield 10, 3) := by decide +kernel
theorem d16_36 : decode (mm_cb 16) 36 = .ok (.iload_n 1, 1) := by decide +kernel
theorem d16_37 : decode (mm_cb 16) 37 = .ok (.invokevirtual 96, 3) := by decide +kernel
theorem d16_40 : decode (mm_cb 16) 40 = .ok (.iconst 4, 1) := by decide +kernel
theorem d16_41 : decode (mm_cb 16) 41 = .ok (.if_icmp .lt 13, 3) := by decide +kernel
theorem d16_44 : decode (mm_cb 16) 44 = .ok (.new 100, 3) := by decide +kernel
theorem d16_47 : decode (mm_cb 16) 47 = .ok (.dup, 1) := by decide +kernel
theorem d16_48 : decode (mm_cb 16) 48 = .ok (.ldc 102, 2) := by decide +kernel
theorem d16_50 : decode (mm_cb 16) 50 = .ok (.invokespecial 104, 3) := by decide +kernel
theorem d16_53 : decode (mm_cb 16) 53 = .ok (.athrow, 1) := by decide +kernel
theorem d16_54 : decode (mm_cb 16) 54 = .ok (.aload_n 0, 1) := by decide +kernel
theorem d16_55 : decode (mm_cb 16) 55 = .ok (.getfield 10, 3) := by decide +kernel
theorem d16_58 : decode (mm_cb 16) 58 = .ok (.iload_n 1, 1) := by decide +kernel
theorem d16_59 : decode (mm_cb 16) 59 = .ok (.iload_n 2, 1) := by decide +kernel
theorem d16_60 : decode (mm_cb 16) 60 = .ok (.iload_n 3, 1) := by decide +kernel
theorem d16_61 : decode (mm_cb 16) 61 = .ok (.iload 4, 2) := by decide +kernel
theorem d16_63 : decode (mm_cb 16) 63 = .ok (.iload 5, 2) := by decide +kernel
theorem d16_65 : decode (mm_cb 16) 65 = .ok (.invokevirtual 105, 3) := by decide +kernel
theorem d16_68 : decode (mm_cb 16) 68 = .ok (.istore 6, 2) := by decide +kernel
theorem d16_70 : decode (mm_cb 16) 70 = .ok (.aload_n 0, 1) := by decide +kernel
theorem d16_71 : decode (mm_cb 16) 71 = .ok (.getfield 21, 3) := by decide +kernel
theorem d16_74 : decode (mm_cb 16) 74 = .ok (.invokevirtual 109, 3) := by decide +kernel
theorem d16_77 : decode (mm_cb 16) 77 = .ok (.aload_n 0, 1) := by decide +kernel
theorem d16_78 : decode (mm_cb 16) 78 = .ok (.getfield 28, 3) := by decide +kernel
theorem d16_81 : decode (mm_cb 16) 81 = .ok (.invokevirtual 112, 3) := by decide +kernel
theorem d16_84 : decode (mm_cb 16) 84 = .ok (.iload 6, 2) := by decide +kernel
theorem d16_86 : decode (mm_cb 16) 86 = .ok (.ireturn, 1) := by decide +kernel
theorem d17_0 : decode (mm_cb 17) 0 = .ok (.iload_n 0, 1) := by decide +kernel
theorem d17_1 : decode (mm_cb 17) 1 = .ok (.ifCond .lt 9, 3) := by decide +kernel
theorem d17_4 : decode (mm_cb 17) 4 = .ok (.iload_n 0, 1) := by decide +kernel
theorem d17_5 : decode (mm_cb 17) 5 = .ok (.bipush 6, 2) := by decide +kernel
theorem d17_7 : decode (mm_cb 17) 7 = .ok (.if_icmp .lt 13, 3) := by decide +kernel
theorem d17_10 : decode (mm_cb 17) 10 = .ok (.new 210, 3) := by decide +kernel
theorem d17_13 : decode (mm_cb 17) 13 = .ok (.dup, 1) := by decide +kernel
theorem d17_14 : decode (mm_cb 17) 14 = .ok (.ldc 212, 2) := by decide +kernel
theorem d17_16 : decode (mm_cb 17) 16 = .ok (.invokespecial 214, 3) := by decide +kernel
theorem d17_19 : decode (mm_cb 17) 19 = .ok (.athrow, 1) := by decide +kernel
theorem d17_20 : decode (mm_cb 17) 20 = .ok (.return_, 1) := by decide +kernel
theorem d18_0 : decode (mm_cb 18) 0 = .ok (.iload_n 0, 1) := by decide +kernel
theorem d18_1 : decode (mm_cb 18) 1 = .ok (.ifCond .le 7, 3) := by decide +kernel
theorem d18_4 : decode (mm_cb 18) 4 = .ok (.iload_n 1, 1) := by decide +kernel
theorem d18_5 : decode (mm_cb 18) 5 = .ok (.invokestatic 81, 3) := by decide +kernel
theorem d18_8 : decode (mm_cb 18) 8 = .ok (.iload_n 0, 1) := by decide +kernel
theorem d18_9 : decode (mm_cb 18) 9 = .ok (.iconst 1, 1) := by decide +kernel
theorem d18_10 : decode (mm_cb 18) 10 = .ok (.if_icmp .le 7, 3) := by decide +kernel
theorem d18_13 : decode (mm_cb 18) 13 = .ok (.iload_n 2, 1) := by decide +kernel
theorem d18_14 : decode (mm_cb 18) 14 = .ok (.invokestatic 81, 3) := by decide +kernel
theorem d18_17 : decode (mm_cb 18) 17 = .ok (.iload_n 0, 1) := by decide +kernel
theorem d18_18 : decode (mm_cb 18) 18 = .ok (.iconst 2, 1) := by decide +kernel
theorem d18_19 : decode (mm_cb 18) 19 = .ok (.if_icmp .le 7, 3) := by decide +kernel
theorem d18_22 : decode (mm_cb 18) 22 = .ok (.iload_n 3, 1) := by decide +kernel
theorem d18_23 : decode (mm_cb 18) 23 = .ok (.invokestatic 81, 3) := by decide +kernel
theorem d18_26 : decode (mm_cb 18) 26 = .ok (.iload_n 0, 1) := by decide +kernel
theorem d18_27 : decode (mm_cb 18) 27 = .ok (.iconst 1, 1) := by decide +kernel
theorem d18_28 : decode (mm_cb 18) 28 = .ok (.if_icmp .ge 8, 3) := by decide +kernel
theorem d18_31 : decode (mm_cb 18) 31 = .ok (.iload_n 1, 1) := by decide +kernel
theorem d18_32 : decode (mm_cb 18) 32 = .ok (.iconst (-1), 1) := by decide +kernel
theorem d18_33 : decode (mm_cb 18) 33 = .ok (.if_icmp .ne 23, 3) := by decide +kernel
theorem d18_36 : decode (mm_cb 18) 36 = .ok (.iload_n 0, 1) := by decide +kernel
theorem d18_37 : decode (mm_cb 18) 37 = .ok (.iconst 2, 1) := by decide +kernel
theorem d18_38 : decode (mm_cb 18) 38 = .ok (.if_icmp .ge 8, 3) := by decide +kernel
theorem d18_41 : decode (mm_cb 18) 41 = .ok (.iload_n 2, 1) := by decide +kernel
theorem d18_42 : decode (mm_cb 18) 42 = .ok (.iconst (-1), 1) := by decide +kernel
theorem d18_43 : decode (mm_cb 18) 43 = .ok (.if_icmp .ne 13, 3) := by decide +kernel
theorem d18_46 : decode (mm_cb 18) 46 = .ok (.iload_n 0, 1) := by decide +kernel
theorem d18_47 : decode (mm_cb 18) 47 = .ok (.iconst 3, 1) := by decide +kernel
theorem d18_48 : decode (mm_cb 18) 48 = .ok (.if_icmp .ge 18, 3) := by decide +kernel
theorem d18_51 : decode (mm_cb 18) 51 = .ok (.iload_n 3, 1) := by decide +kernel
theorem d18_52 : decode (mm_cb 18) 52 = .ok (.iconst (-1), 1) := by decide +kernel
theorem d18_53 : decode (mm_cb 18) 53 = .ok (.if_icmp .eq 13, 3) := by decide +kernel
theorem d18_56 : decode (mm_cb 18) 56 = .ok (.new 85, 3) := by decide +kernel
theorem d18_59 : decode (mm_cb 18) 59 = .ok (.dup, 1) := by decide +kernel
theorem d18_60 : decode (mm_cb 18) 60 = .ok (.ldc 215, 2) := by decide +kernel
theorem d18_62 : decode (mm_cb 18) 62 = .ok (.invokespecial 89, 3) := by decide +kernel
theorem d18_65 : decode (mm_cb 18) 65 = .ok (.athrow, 1) := by decide +kernel
theorem d18_66 : decode (mm_cb 18) 66 = .ok (.return_, 1) := by decide +kernel
theorem d19_0 : decode (mm_cb 19) 0 = .ok (.aload_n 0, 1) := by decide +kernel
theorem d19_1 : decode (mm_cb 19) 1 = .ok (.getfield 9, 3) := by decide +kernel
theorem d19_4 : decode (mm_cb 19) 4 = .ok (.iload_n 1, 1) := by decide +kernel
theorem d19_5 : decode (mm_cb 19) 5 = .ok (.iaload, 1) := by decide +kernel
theorem d19_6 : decode (mm_cb 19) 6 = .ok (.ireturn, 1) := by decide +kernel
theorem d20_0 : decode (mm_cb 20) 0 = .ok (.aload_n 0, 1) := by decide +kernel
theorem d20_1 : decode (mm_cb 20) 1 = .ok (.getfield 9, 3) := by decide +kernel
theorem d20_4 : decode (mm_cb 20) 4 = .ok (.iload_n 1, 1) := by decide +kernel
theorem d20_5 : decode (mm_cb 20) 5 = .ok (.iaload, 1) := by decide +kernel
theorem d20_6 : decode (mm_cb 20) 6 = .ok (.istore 6, 2) := by decide +kernel
theorem d20_8 : decode (mm_cb 20) 8 = .ok (.iload_n 1, 1) := by decide +kernel
theorem d20_9 : decode (mm_cb 20) 9 = .ok (.iload 6, 2) := by decide +kernel
theorem d20_11 : decode (mm_cb 20) 11 = .ok (.invokestatic 21, 3) := by decide +kernel
theorem d20_14 : decode (mm_cb 20) 14 = .ok (.istore 7, 2) := by decide +kernel
theorem d20_16 : decode (mm_cb 20) 16 = .ok (.aload_n 0, 1) := by decide +kernel
theorem d20_17 : decode (mm_cb 20) 17 = .ok (.getfield 15, 3) := by decide +kernel
theorem d20_20 : decode (mm_cb 20) 20 = .ok (.iload 7, 2) := by decide +kernel
theorem d20_22 : decode (mm_cb 20) 22 = .ok (.iload_n 2, 1) := by decide +kernel
theorem d20_23 : decode (mm_cb 20) 23 = .ok (.iastore, 1) := by decide +kernel
theorem d20_24 : decode (mm_cb 20) 24 = .ok (.aload_n 0, 1) := by decide +kernel
theorem d20_25 : decode (mm_cb 20) 25 = .ok (.getfield 18, 3) := by decide +kernel
theorem d20_28 : decode (mm_cb 20) 28 = .ok (.iload 7, 2) := by decide +kernel
theorem d20_30 : decode (mm_cb 20) 30 = .ok (.iconst 3, 1) := by decide +kernel
theorem d20_31 : decode (mm_cb 20) 31 = .ok (.imul, 1) := by decide +kernel
theorem d20_32 : decode (mm_cb 20) 32 = .ok (.iload_n 3, 1) := by decide +kernel
theorem d20_33 : decode (mm_cb 20) 33 = .ok (.iastore, 1) := by decide +kernel
theorem d20_34 : decode (mm_cb 20) 34 = .ok (.aload_n 0, 1) := by decide +kernel
theorem d20_35 : decode (mm_cb 20) 35 = .ok (.getfield 18, 3) := by decide +kernel
theorem d20_38 : decode (mm_cb 20) 38 = .ok (.iload 7, 2) := by decide +kernel
theorem d20_40 : decode (mm_cb 20) 40 = .ok (.iconst 3, 1) := by decide +kernel
theorem d20_41 : decode (mm_cb 20) 41 = .ok (.imul, 1) := by decide +kernel
theorem d20_42 : decode (mm_cb 20) 42 = .ok (.iconst 1, 1) := by decide +kernel
theorem d20_43 : decode (mm_cb 20) 43 = .ok (.iadd, 1) := by decide +kernel
theorem d20_44 : decode (mm_cb 20) 44 = .ok (.iload 4, 2) := by decide +kernel
theorem d20_46 : decode (mm_cb 20) 46 = .ok (.iastore, 1) := by decide +kernel
theorem d20_47 : decode (mm_cb 20) 47 = .ok (.aload_n 0, 1) := by decide +kernel
theorem d20_48 : decode (mm_cb 20) 48 = .ok (.getfield 18, 3) := by decide +kernel
theorem d20_51 : decode (mm_cb 20) 51 = .ok (.iload 7, 2) := by decide +kernel
theorem d20_53 : decode (mm_cb 20) 53 = .ok (.iconst 3, 1) := by decide +kernel
theorem d20_54 : decode (mm_cb 20) 54 = .ok (.imul, 1) := by decide +kernel
theorem d20_55 : decode (mm_cb 20) 55 = .ok (.iconst 2, 1) := by decide +kernel
theorem d20_56 : decode (mm_cb 20) 56 = .ok (.iadd, 1) := by decide +kernel
theorem d20_57 : decode (mm_cb 20) 57 = .ok (.iload 5, 2) := by decide +kernel
theorem d20_59 : decode (mm_cb 20) 59 = .ok (.iastore, 1) := by decide +kernel
theorem d20_60 : decode (mm_cb 20) 60 = .ok (.aload_n 0, 1) := by decide +kernel
theorem d20_61 : decode (mm_cb 20) 61 = .ok (.getfield 9, 3) := by decide +kernel
theorem d20_64 : decode (mm_cb 20) 64 = .ok (.iload_n 1, 1) := by decide +kernel
theorem d20_65 : decode (mm_cb 20) 65 = .ok (.iload 6, 2) := by decide +kernel
theorem d20_67 : decode (mm_cb 20) 67 = .ok (.iconst 1, 1) := by decide +kernel
theorem d20_68 : decode (mm_cb 20) 68 = .ok (.iadd, 1) := by decide +kernel
theorem d20_69 : decode (mm_cb 20) 69 = .ok (.iastore, 1) := by decide +kernel
theorem d20_70 : decode (mm_cb 20) 70 = .ok (.iload 6, 2) := by decide +kernel
theorem d20_72 : decode (mm_cb 20) 72 = .ok (.ireturn, 1) := by decide +kernel
theorem d21_0 : decode (mm_cb 21) 0 = .ok (.iload_n 0, 1) := by decide +kernel
theorem d21_1 : decode (mm_cb 21) 1 = .ok (.iconst 4, 1) := by decide +kernel
theorem d21_2 : decode (mm_cb 21) 2 = .ok (.imul, 1) := by decide +kernel
theorem d21_3 : decode (mm_cb 21) 3 = .ok (.iload_n 1, 1) := by decide +kernel
theorem d21_4 : decode (mm_cb 21) 4 = .ok (.iadd, 1) := by decide +kernel
theorem d21_5 : decode (mm_cb 21) 5 = .ok (.ireturn, 1) := by decide +kernel
theorem d22_0 : decode (mm_cb 22) 0 = .ok (.iconst 0, 1) := by decide +kernel
theorem d22_1 : decode (mm_cb 22) 1 = .ok (.istore_n 1, 1) := by decide +kernel
theorem d22_2 : decode (mm_cb 22) 2 = .ok (.iload_n 1, 1) := by decide +kernel
theorem d22_3 : decode (mm_cb 22) 3 = .ok (.iconst 5, 1) := by decide +kernel
theorem d22_4 : decode (mm_cb 22) 4 = .ok (.if_icmp .ge 29, 3) := by decide +kernel
theorem d22_7 : decode (mm_cb 22) 7 = .ok (.iconst 0, 1) := by decide +kernel
theorem d22_8 : decode (mm_cb 22) 8 = .ok (.istore_n 2, 1) := by decide +kernel
theorem d22_9 : decode (mm_cb 22) 9 = .ok (.iload_n 2, 1) := by decide +kernel
theorem d22_10 : decode (mm_cb 22) 10 = .ok (.bipush 6, 2) := by decide +kernel
theorem d22_12 : decode (mm_cb 22) 12 = .ok (.if_icmp .ge 15, 3) := by decide +kernel
theorem d22_15 : decode (mm_cb 22) 15 = .ok (.aload_n 0, 1) := by decide +kernel
theorem d22_16 : decode (mm_cb 22) 16 = .ok (.iload_n 2, 1) := by decide +kernel
theorem d22_17 : decode (mm_cb 22) 17 = .ok (.iload_n 1, 1) := by decide +kernel
theorem d22_18 : decode (mm_cb 22) 18 = .ok (.invokevirtual 22, 3) := by decide +kernel
theorem d22_21 : decode (mm_cb 22) 21 = .ok (.iinc 2 1, 3) := by decide +kernel
theorem d22_24 : decode (mm_cb 22) 24 = .ok (.goto (-15), 3) := by decide +kernel
theorem d22_27 : decode (mm_cb 22) 27 = .ok (.iinc 1 1, 3) := by decide +kernel
theorem d22_30 : decode (mm_cb 22) 30 = .ok (.goto (-28), 3) := by decide +kernel
theorem d22_33 : decode (mm_cb 22) 33 = .ok (.return_, 1) := by decide +kernel
theorem d23_0 : decode (mm_cb 23) 0 = .ok (.lconst 0, 1) := by decide +kernel
theorem d23_1 : decode (mm_cb 23) 1 = .ok (.lstore_n 3, 1) := by decide +kernel
theorem d23_2 : decode (mm_cb 23) 2 = .ok (.iconst 0, 1) := by decide +kernel
theorem d23_3 : decode (mm_cb 23) 3 = .ok (.istore 5, 2) := by decide +kernel
theorem d23_5 : decode (mm_cb 23) 5 = .ok (.iload 5, 2) := by decide +kernel
theorem d23_7 : decode (mm_cb 23) 7 = .ok (.aload_n 0, 1) := by decide +kernel
theorem d23_8 : decode (mm_cb 23) 8 = .ok (.getfield 18, 3) := by decide +kernel
theorem d23_11 : decode (mm_cb 23) 11 = .ok (.iload_n 1, 1) := by decide +kernel
theorem d23_12 : decode (mm_cb 23) 12 = .ok (.invokevirtual 26, 3) := by decide +kernel
theorem d23_15 : decode (mm_cb 23) 15 = .ok (.if_icmp .ge 67, 3) := by decide +kernel
theorem d23_18 : decode (mm_cb 23) 18 = .ok (.iload_n 1, 1) := by decide +kernel
theorem d23_19 : decode (mm_cb 23) 19 = .ok (.iload 5, 2) := by decide +kernel
theorem d23_21 : decode (mm_cb 23) 21 = .ok (.invokestatic 32, 3) := by decide +kernel
theorem d23_24 : decode (mm_cb 23) 24 = .ok (.istore 6, 2) := by decide +kernel
theorem d23_26 : decode (mm_cb 23) 26 = .ok (.aload_n 0, 1) := by decide +kernel
theorem d23_27 : decode (mm_cb 23) 27 = .ok (.getfield 18, 3) := by decide +kernel
theorem d23_30 : decode (mm_cb 23) 30 = .ok (.iload 6, 2) := by decide +kernel
theorem d23_32 : decode (mm_cb 23) 32 = .ok (.invokevirtual 36, 3) := by decide +kernel
theorem d23_35 : decode (mm_cb 23) 35 = .ok (.ifCond .le 11, 3) := by decide +kernel
theorem d23_38 : decode (mm_cb 23) 38 = .ok (.iload_n 2, 1) := by decide +kernel
theorem d23_39 : decode (mm_cb 23) 39 = .ok (.ifCond .ne 7, 3) := by decide +kernel
theorem d23_42 : decode (mm_cb 23) 42 = .ok (.lconst 0, 1) := by decide +kernel
theorem d23_43 : decode (mm_cb 23) 43 = .ok (.goto 11, 3) := by decide +kernel
theorem d23_46 : decode (mm_cb 23) 46 = .ok (.aload_n 0, 1) := by decide +kernel
theorem d23_47 : decode (mm_cb 23) 47 = .ok (.iload 6, 2) := by decide +kernel
theorem d23_49 : decode (mm_cb 23) 49 = .ok (.iconst 0, 1) := by decide +kernel
theorem d23_50 : decode (mm_cb 23) 50 = .ok (.iload_n 2, 1) := by decide +kernel
theorem d23_51 : decode (mm_cb 23) 51 = .ok (.invokevirtual 39, 3) := by decide +kernel
theorem d23_54 : decode (mm_cb 23) 54 = .ok (.lstore 7, 2) := by decide +kernel
theorem d23_56 : decode (mm_cb 23) 56 = .ok (.aload_n 0, 1) := by decide +kernel
theorem d23_57 : decode (mm_cb 23) 57 = .ok (.getfield 15, 3) := by decide +kernel
theorem d23_60 : decode (mm_cb 23) 60 = .ok (.iload 6, 2) := by decide +kernel
theorem d23_62 : decode (mm_cb 23) 62 = .ok (.iconst 5, 1) := by decide +kernel
theorem d23_63 : decode (mm_cb 23) 63 = .ok (.imul, 1) := by decide +kernel
theorem d23_64 : decode (mm_cb 23) 64 = .ok (.iload_n 2, 1) := by decide +kernel
theorem d23_65 : decode (mm_cb 23) 65 = .ok (.iadd, 1) := by decide +kernel
theorem d23_66 : decode (mm_cb 23) 66 = .ok (.lload 7, 2) := by decide +kernel
theorem d23_68 : decode (mm_cb 23) 68 = .ok (.lastore, 1) := by decide +kernel
theorem d23_69 : decode (mm_cb 23) 69 = .ok (.lload_n 3, 1) := by decide +kernel
theorem d23_70 : decode (mm_cb 23) 70 = .ok (.lload 7, 2) := by decide +kernel
theorem d23_72 : decode (mm_cb 23) 72 = .ok (.invokestatic 43, 3) := by decide +kernel
theorem d23_75 : decode (mm_cb 23) 75 = .ok (.lstore_n 3, 1) := by decide +kernel
theorem d23_76 : decode (mm_cb 23) 76 = .ok (.iinc 5 1, 3) := by decide +kernel
theorem d23_79 : decode (mm_cb 23) 79 = .ok (.goto (-74), 3) := by decide +kernel
theorem d23_82 : decode (mm_cb 23) 82 = .ok (.aload_n 0, 1) := by decide +kernel
theorem d23_83 : decode (mm_cb 23) 83 = .ok (.getfield 11, 3) := by decide +kernel
theorem d23_86 : decode (mm_cb 23) 86 = .ok (.iload_n 1, 1) := by decide +kernel
theorem d23_87 : decode (mm_cb 23) 87 = .ok (.iconst 5, 1) := by decide +kernel
theorem d23_88 : decode (mm_cb 23) 88 = .ok (.imul, 1) := by decide +kernel
theorem d23_89 : decode (mm_cb 23) 89 = .ok (.iload_n 2, 1) := by decide +kernel
theorem d23_90 : decode (mm_cb 23) 90 = .ok (.iadd, 1) := by decide +kernel
theorem d23_91 : decode (mm_cb 23) 91 = .ok (.lload_n 3, 1) := by decide +kernel
theorem d23_92 : decode (mm_cb 23) 92 = .ok (.lastore, 1) := by decide +kernel
theorem d23_93 : decode (mm_cb 23) 93 = .ok (.return_, 1) := by decide +kernel
theorem d24_0 : decode (mm_cb 24) 0 = .ok (.aload_n 0, 1) := by decide +kernel
theorem d24_1 : decode (mm_cb 24) 1 = .ok (.getfield 15, 3) := by decide +kernel
theorem d24_4 : decode (mm_cb 24) 4 = .ok (.iload_n 1, 1) := by decide +kernel
theorem d24_5 : decode (mm_cb 24) 5 = .ok (.iaload, 1) := by decide +kernel
theorem d24_6 : decode (mm_cb 24) 6 = .ok (.ireturn, 1) := by decide +kernel
theorem d25_0 : decode (mm_cb 25) 0 = .ok (.lconst 1, 1) := by decide +kernel
theorem d25_1 : decode (mm_cb 25) 1 = .ok (.lstore 4, 2) := by decide +kernel
theorem d25_3 : decode (mm_cb 25) 3 = .ok (.iload_n 2, 1) := by decide +kernel
theorem d25_4 : decode (mm_cb 25) 4 = .ok (.istore 6, 2) := by decide +kernel
theorem d25_6 : decode (mm_cb 25) 6 = .ok (.iload 6, 2) := by decide +kernel
theorem d25_8 : decode (mm_cb 25) 8 = .ok (.aload_n 0, 1) := by decide +kernel
theorem d25_9 : decode (mm_cb 25) 9 = .ok (.getfield 18, 3) := by decide +kernel
theorem d25_12 : decode (mm_cb 25) 12 = .ok (.iload_n 1, 1) := by decide +kernel
theorem d25_13 : decode (mm_cb 25) 13 = .ok (.invokevirtual 36, 3) := by decide +kernel
theorem d25_16 : decode (mm_cb 25) 16 = .ok (.if_icmp .ge 33, 3) := by decide +kernel
theorem d25_19 : decode (mm_cb 25) 19 = .ok (.lload 4, 2) := by decide +kernel
theorem d25_21 : decode (mm_cb 25) 21 = .ok (.aload_n 0, 1) := by decide +kernel
theorem d25_22 : decode (mm_cb 25) 22 = .ok (.aload_n 0, 1) := by decide +kernel
theorem d25_23 : decode (mm_cb 25) 23 = .ok (.getfield 18, 3) := by decide +kernel
theorem d25_26 : decode (mm_cb 25) 26 = .ok (.iload_n 1, 1) := by decide +kernel
theorem d25_27 : decode (mm_cb 25) 27 = .ok (.iload 6, 2) := by decide +kernel
theorem d25_29 : decode (mm_cb 25) 29 = .ok (.invokevirtual 47, 3) := by decide +kernel
theorem d25_32 : decode (mm_cb 25) 32 = .ok (.iload_n 3, 1) := by decide +kernel
theorem d25_33 : decode (mm_cb 25) 33 = .ok (.iconst 1, 1) := by decide +kernel
theorem d25_34 : decode (mm_cb 25) 34 = .ok (.isub, 1) := by decide +kernel
theorem d25_35 : decode (mm_cb 25) 35 = .ok (.invokevirtual 50, 3) := by decide +kernel
theorem d25_38 : decode (mm_cb 25) 38 = .ok (.invokestatic 54, 3) := by decide +kernel
theorem d25_41 : decode (mm_cb 25) 41 = .ok (.lstore 4, 2) := by decide +kernel
theorem d25_43 : decode (mm_cb 25) 43 = .ok (.iinc 6 1, 3) := by decide +kernel
theorem d25_46 : decode (mm_cb 25) 46 = .ok (.goto (-40), 3) := by decide +kernel
theorem d25_49 : decode (mm_cb 25) 49 = .ok (.lload 4, 2) := by decide +kernel
theorem d25_51 : decode (mm_cb 25) 51 = .ok (.lreturn, 1) := by decide +kernel
theorem d26_0 : decode (mm_cb 26) 0 = .ok (.aload_n 0, 1) := by decide +kernel
theorem d26_1 : decode (mm_cb 26) 1 = .ok (.getfield 18, 3) := by decide +kernel
theorem d26_4 : decode (mm_cb 26) 4 = .ok (.iload_n 1, 1) := by decide +kernel
theorem d26_5 : decode (mm_cb 26) 5 = .ok (.iconst 3, 1) := by decide +kernel
theorem d26_6 : decode (mm_cb 26) 6 = .ok (.imul, 1) := by decide +kernel
theorem d26_7 : decode (mm_cb 26) 7 = .ok (.iload_n 2, 1) := by decide +kernel
theorem d26_8 : decode (mm_cb 26) 8 = .ok (.iadd, 1) := by decide +kernel
theorem d26_9 : decode (mm_cb 26) 9 = .ok (.iaload, 1) := by decide +kernel
theorem d26_10 : decode (mm_cb 26) 10 = .ok (.ireturn, 1) := by decide +kernel
theorem d27_0 : decode (mm_cb 27) 0 = .ok (.aload_n 0, 1) := by decide +kernel
theorem d27_1 : decode (mm_cb 27) 1 = .ok (.getfield 11, 3) := by decide +kernel
theorem d27_4 : decode (mm_cb 27) 4 = .ok (.iload_n 1, 1) := by decide +kernel
theorem d27_5 : decode (mm_cb 27) 5 = .ok (.iconst 5, 1) := by decide +kernel
theorem d27_6 : decode (mm_cb 27) 6 = .ok (.imul, 1) := by decide +kernel
theorem d27_7 : decode (mm_cb 27) 7 = .ok (.iload_n 2, 1) := by decide +kernel
theorem d27_8 : decode (mm_cb 27) 8 = .ok (.iadd, 1) := by decide +kernel
theorem d27_9 : decode (mm_cb 27) 9 = .ok (.laload, 1) := by decide +kernel
theorem d27_10 : decode (mm_cb 27) 10 = .ok (.lreturn, 1) := by decide +kernel
theorem d28_0 : decode (mm_cb 28) 0 = .ok (.lload_n 2, 1) := by decide +kernel
theorem d28_1 : decode (mm_cb 28) 1 = .ok (.lconst 0, 1) := by decide +kernel
theorem d28_2 : decode (mm_cb 28) 2 = .ok (.lcmp, 1) := by decide +kernel
theorem d28_3 : decode (mm_cb 28) 3 = .ok (.ifCond .ne 5, 3) := by decide +kernel
theorem d28_6 : decode (mm_cb 28) 6 = .ok (.lconst 0, 1) := by decide +kernel
theorem d28_7 : decode (mm_cb 28) 7 = .ok (.lreturn, 1) := by decide +kernel
theorem d28_8 : decode (mm_cb 28) 8 = .ok (.lload_n 0, 1) := by decide +kernel
theorem d28_9 : decode (mm_cb 28) 9 = .ok (.ldc2_w 238, 3) := by decide +kernel
theorem d28_12 : decode (mm_cb 28) 12 = .ok (.lload_n 2, 1) := by decide +kernel
theorem d28_13 : decode (mm_cb 28) 13 = .ok (.ldiv, 1) := by decide +kernel
theorem d28_14 : decode (mm_cb 28) 14 = .ok (.lcmp, 1) := by decide +kernel
theorem d28_15 : decode (mm_cb 28) 15 = .ok (.ifCond .le 9, 3) := by decide +kernel
theorem d28_18 : decode (mm_cb 28) 18 = .ok (.ldc2_w 238, 3) := by decide +kernel
theorem d28_21 : decode (mm_cb 28) 21 = .ok (.goto 6, 3) := by decide +kernel
theorem d28_24 : decode (mm_cb 28) 24 = .ok (.lload_n 0, 1) := by decide +kernel
theorem d28_25 : decode (mm_cb 28) 25 = .ok (.lload_n 2, 1) := by decide +kernel
theorem d28_26 : decode (mm_cb 28) 26 = .ok (.lmul, 1) := by decide +kernel
theorem d28_27 : decode (mm_cb 28) 27 = .ok (.lreturn, 1) := by decide +kernel
theorem d29_0 : decode (mm_cb 29) 0 = .ok (.lload_n 0, 1) := by decide +kernel
theorem d29_1 : decode (mm_cb 29) 1 = .ok (.lload_n 2, 1) := by decide +kernel
theorem d29_2 : decode (mm_cb 29) 2 = .ok (.ladd, 1) := by decide +kernel
theorem d29_3 : decode (mm_cb 29) 3 = .ok (.ldc2_w 238, 3) := by decide +kernel
theorem d29_6 : decode (mm_cb 29) 6 = .ok (.invokestatic 240, 3) := by decide +kernel
theorem d29_9 : decode (mm_cb 29) 9 = .ok (.lreturn, 1) := by decide +kernel
theorem d30_0 : decode (mm_cb 30) 0 = .ok (.iconst 0, 1) := by decide +kernel
theorem d30_1 : decode (mm_cb 30) 1 = .ok (.istore_n 1, 1) := by decide +kernel
theorem d30_2 : decode (mm_cb 30) 2 = .ok (.iload_n 1, 1) := by decide +kernel
theorem d30_3 : decode (mm_cb 30) 3 = .ok (.bipush 12, 2) := by decide +kernel
theorem d30_5 : decode (mm_cb 30) 5 = .ok (.if_icmp .ge 29, 3) := by decide +kernel
theorem d30_8 : decode (mm_cb 30) 8 = .ok (.iconst 0, 1) := by decide +kernel
theorem d30_9 : decode (mm_cb 30) 9 = .ok (.istore_n 2, 1) := by decide +kernel
theorem d30_10 : decode (mm_cb 30) 10 = .ok (.iload_n 2, 1) := by decide +kernel
theorem d30_11 : decode (mm_cb 30) 11 = .ok (.bipush 6, 2) := by decide +kernel
theorem d30_13 : decode (mm_cb 30) 13 = .ok (.if_icmp .ge 15, 3) := by decide +kernel
theorem d30_16 : decode (mm_cb 30) 16 = .ok (.aload_n 0, 1) := by decide +kernel
theorem d30_17 : decode (mm_cb 30) 17 = .ok (.iload_n 2, 1) := by decide +kernel
theorem d30_18 : decode (mm_cb 30) 18 = .ok (.iload_n 1, 1) := by decide +kernel
theorem d30_19 : decode (mm_cb 30) 19 = .ok (.invokevirtual 22, 3) := by decide +kernel
theorem d30_22 : decode (mm_cb 30) 22 = .ok (.iinc 2 1, 3) := by decide +kernel
theorem d30_25 : decode (mm_cb 30) 25 = .ok (.goto (-15), 3) := by decide +kernel
theorem d30_28 : decode (mm_cb 30) 28 = .ok (.iinc 1 1, 3) := by decide +kernel
theorem d30_31 : decode (mm_cb 30) 31 = .ok (.goto (-29), 3) := by decide +kernel
theorem d30_34 : decode (mm_cb 30) 34 = .ok (.return_, 1) := by decide +kernel
theorem d31_0 : decode (mm_cb 31) 0 = .ok (.lconst 0, 1) := by decide +kernel
theorem d31_1 : decode (mm_cb 31) 1 = .ok (.lstore_n 3, 1) := by decide +kernel
theorem d31_2 : decode (mm_cb 31) 2 = .ok (.iconst 0, 1) := by decide +kernel
theorem d31_3 : decode (mm_cb 31) 3 = .ok (.istore 5, 2) := by decide +kernel
theorem d31_5 : decode (mm_cb 31) 5 = .ok (.iload 5, 2) := by decide +kernel
theorem d31_7 : decode (mm_cb 31) 7 = .ok (.aload_n 0, 1) := by decide +kernel
theorem d31_8 : decode (mm_cb 31) 8 = .ok (.getfield 18, 3) := by decide +kernel
theorem d31_11 : decode (mm_cb 31) 11 = .ok (.iload_n 1, 1) := by decide +kernel
theorem d31_12 : decode (mm_cb 31) 12 = .ok (.invokevirtual 26, 3) := by decide +kernel
theorem d31_15 : decode (mm_cb 31) 15 = .ok (.if_icmp .ge 76, 3) := by decide +kernel
theorem d31_18 : decode (mm_cb 31) 18 = .ok (.iload_n 1, 1) := by decide +kernel
theorem d31_19 : decode (mm_cb 31) 19 = .ok (.iload 5, 2) := by decide +kernel
theorem d31_21 : decode (mm_cb 31) 21 = .ok (.invokestatic 32, 3) := by decide +kernel
theorem d31_24 : decode (mm_cb 31) 24 = .ok (.istore 6, 2) := by decide +kernel
theorem d31_26 : decode (mm_cb 31) 26 = .ok (.aload_n 0, 1) := by decide +kernel
theorem d31_27 : decode (mm_cb 31) 27 = .ok (.getfield 18, 3) := by decide +kernel
theorem d31_30 : decode (mm_cb 31) 30 = .ok (.iload 6, 2) := by decide +kernel
theorem d31_32 : decode (mm_cb 31) 32 = .ok (.invokevirtual 36, 3) := by decide +kernel
theorem d31_35 : decode (mm_cb 31) 35 = .ok (.istore 7, 2) := by decide +kernel
theorem d31_37 : decode (mm_cb 31) 37 = .ok (.iload 7, 2) := by decide +kernel
theorem d31_39 : decode (mm_cb 31) 39 = .ok (.ifCond .lt 35, 3) := by decide +kernel
theorem d31_42 : decode (mm_cb 31) 42 = .ok (.aload_n 0, 1) := by decide +kernel
theorem d31_43 : decode (mm_cb 31) 43 = .ok (.getfield 15, 3) := by decide +kernel
theorem d31_46 : decode (mm_cb 31) 46 = .ok (.iload 6, 2) := by decide +kernel
theorem d31_48 : decode (mm_cb 31) 48 = .ok (.iconst 4, 1) := by decide +kernel
theorem d31_49 : decode (mm_cb 31) 49 = .ok (.imul, 1) := by decide +kernel
theorem d31_50 : decode (mm_cb 31) 50 = .ok (.iload 7, 2) := by decide +kernel
theorem d31_52 : decode (mm_cb 31) 52 = .ok (.iadd, 1) := by decide +kernel
theorem d31_53 : decode (mm_cb 31) 53 = .ok (.bipush 13, 2) := by decide +kernel
theorem d31_55 : decode (mm_cb 31) 55 = .ok (.imul, 1) := by decide +kernel
theorem d31_56 : decode (mm_cb 31) 56 = .ok (.iload_n 2, 1) := by decide +kernel
theorem d31_57 : decode (mm_cb 31) 57 = .ok (.iadd, 1) := by decide +kernel
theorem d31_58 : decode (mm_cb 31) 58 = .ok (.aload_n 0, 1) := by decide +kernel
theorem d31_59 : decode (mm_cb 31) 59 = .ok (.iload 6, 2) := by decide +kernel
theorem d31_61 : decode (mm_cb 31) 61 = .ok (.iload 7, 2) := by decide +kernel
theorem d31_63 : decode (mm_cb 31) 63 = .ok (.iload_n 2, 1) := by decide +kernel
theorem d31_64 : decode (mm_cb 31) 64 = .ok (.invokevirtual 39, 3) := by decide +kernel
theorem d31_67 : decode (mm_cb 31) 67 = .ok (.lastore, 1) := by decide +kernel
theorem d31_68 : decode (mm_cb 31) 68 = .ok (.iinc 7 (-1), 3) := by decide +kernel
theorem d31_71 : decode (mm_cb 31) 71 = .ok (.goto (-34), 3) := by decide +kernel
theorem d31_74 : decode (mm_cb 31) 74 = .ok (.lload_n 3, 1) := by decide +kernel
theorem d31_75 : decode (mm_cb 31) 75 = .ok (.aload_n 0, 1) := by decide +kernel
theorem d31_76 : decode (mm_cb 31) 76 = .ok (.iload 6, 2) := by decide +kernel
theorem d31_78 : decode (mm_cb 31) 78 = .ok (.iconst 0, 1) := by decide +kernel
theorem d31_79 : decode (mm_cb 31) 79 = .ok (.iload_n 2, 1) := by decide +kernel
theorem d31_80 : decode (mm_cb 31) 80 = .ok (.invokevirtual 43, 3) := by decide +kernel
theorem d31_83 : decode (mm_cb 31) 83 = .ok (.ladd, 1) := by decide +kernel
theorem d31_84 : decode (mm_cb 31) 84 = .ok (.lstore_n 3, 1) := by decide +kernel
theorem d31_85 : decode (mm_cb 31) 85 = .ok (.iinc 5 1, 3) := by decide +kernel
theorem d31_88 : decode (mm_cb 31) 88 = .ok (.goto (-83), 3) := by decide +kernel
theorem d31_91 : decode (mm_cb 31) 91 = .ok (.aload_n 0, 1) := by decide +kernel
theorem d31_92 : decode (mm_cb 31) 92 = .ok (.getfield 11, 3) := by decide +kernel
theorem d31_95 : decode (mm_cb 31) 95 = .ok (.iload_n 1, 1) := by decide +kernel
theorem d31_96 : decode (mm_cb 31) 96 = .ok (.bipush 13, 2) := by decide +kernel
theorem d31_98 : decode (mm_cb 31) 98 = .ok (.imul, 1) := by decide +kernel
theorem d31_99 : decode (mm_cb 31) 99 = .ok (.iload_n 2, 1) := by decide +kernel
theorem d31_100 : decode (mm_cb 31) 100 = .ok (.iadd, 1) := by decide +kernel
theorem d31_101 : decode (mm_cb 31) 101 = .ok (.iconst 1, 1) := by decide +kernel
theorem d31_102 : decode (mm_cb 31) 102 = .ok (.iadd, 1) := by decide +kernel
theorem d31_103 : decode (mm_cb 31) 103 = .ok (.lload_n 3, 1) := by decide +kernel
theorem d31_104 : decode (mm_cb 31) 104 = .ok (.lastore, 1) := by decide +kernel
theorem d31_105 : decode (mm_cb 31) 105 = .ok (.return_, 1) := by decide +kernel
theorem d32_0 : decode (mm_cb 32) 0 = .ok (.iload_n 2, 1) := by decide +kernel
theorem d32_1 : decode (mm_cb 32) 1 = .ok (.aload_n 0, 1) := by decide +kernel
theorem d32_2 : decode (mm_cb 32) 2 = .ok (.getfield 18, 3) := by decide +kernel
theorem d32_5 : decode (mm_cb 32) 5 = .ok (.iload_n 1, 1) := by decide +kernel
theorem d32_6 : decode (mm_cb 32) 6 = .ok (.invokevirtual 36, 3) := by decide +kernel
theorem d32_9 : decode (mm_cb 32) 9 = .ok (.if_icmp .ne 13, 3) := by decide +kernel
theorem d32_12 : decode (mm_cb 32) 12 = .ok (.iload_n 3, 1) := by decide +kernel
theorem d32_13 : decode (mm_cb 32) 13 = .ok (.ifCond .ne 7, 3) := by decide +kernel
theorem d32_16 : decode (mm_cb 32) 16 = .ok (.lconst 1, 1) := by decide +kernel
theorem d32_17 : decode (mm_cb 32) 17 = .ok (.goto 4, 3) := by decide +kernel
theorem d32_20 : decode (mm_cb 32) 20 = .ok (.lconst 0, 1) := by decide +kernel
theorem d32_21 : decode (mm_cb 32) 21 = .ok (.lreturn, 1) := by decide +kernel
theorem d32_22 : decode (mm_cb 32) 22 = .ok (.lconst 0, 1) := by decide +kernel
theorem d32_23 : decode (mm_cb 32) 23 = .ok (.lstore 4, 2) := by decide +kernel
theorem d32_25 : decode (mm_cb 32) 25 = .ok (.iconst 1, 1) := by decide +kernel
theorem d32_26 : decode (mm_cb 32) 26 = .ok (.istore 6, 2) := by decide +kernel
theorem d32_28 : decode (mm_cb 32) 28 = .ok (.iload 6, 2) := by decide +kernel
theorem d32_30 : decode (mm_cb 32) 30 = .ok (.iload_n 3, 1) := by decide +kernel
theorem d32_31 : decode (mm_cb 32) 31 = .ok (.if_icmp .gt 42, 3) := by decide +kernel
theorem d32_34 : decode (mm_cb 32) 34 = .ok (.lload 4, 2) := by decide +kernel
theorem d32_36 : decode (mm_cb 32) 36 = .ok (.aload_n 0, 1) := by decide +kernel
theorem d32_37 : decode (mm_cb 32) 37 = .ok (.aload_n 0, 1) := by decide +kernel
theorem d32_38 : decode (mm_cb 32) 38 = .ok (.getfield 18, 3) := by decide +kernel
theorem d32_41 : decode (mm_cb 32) 41 = .ok (.iload_n 1, 1) := by decide +kernel
theorem d32_42 : decode (mm_cb 32) 42 = .ok (.iload_n 2, 1) := by decide +kernel
theorem d32_43 : decode (mm_cb 32) 43 = .ok (.invokevirtual 46, 3) := by decide +kernel
theorem d32_46 : decode (mm_cb 32) 46 = .ok (.iload 6, 2) := by decide +kernel
theorem d32_48 : decode (mm_cb 32) 48 = .ok (.invokevirtual 49, 3) := by decide +kernel
theorem d32_51 : decode (mm_cb 32) 51 = .ok (.aload_n 0, 1) := by decide +kernel
theorem d32_52 : decode (mm_cb 32) 52 = .ok (.iload_n 1, 1) := by decide +kernel
theorem d32_53 : decode (mm_cb 32) 53 = .ok (.iload_n 2, 1) := by decide +kernel
theorem d32_54 : decode (mm_cb 32) 54 = .ok (.iconst 1, 1) := by decide +kernel
theorem d32_55 : decode (mm_cb 32) 55 = .ok (.iadd, 1) := by decide +kernel
theorem d32_56 : decode (mm_cb 32) 56 = .ok (.iload_n 3, 1) := by decide +kernel
theorem d32_57 : decode (mm_cb 32) 57 = .ok (.iload 6, 2) := by decide +kernel
theorem d32_59 : decode (mm_cb 32) 59 = .ok (.isub, 1) := by decide +kernel
theorem d32_60 : decode (mm_cb 32) 60 = .ok (.invokevirtual 43, 3) := by decide +kernel
theorem d32_63 : decode (mm_cb 32) 63 = .ok (.lmul, 1) := by decide +kernel
theorem d32_64 : decode (mm_cb 32) 64 = .ok (.ladd, 1) := by decide +kernel
theorem d32_65 : decode (mm_cb 32) 65 = .ok (.lstore 4, 2) := by decide +kernel
theorem d32_67 : decode (mm_cb 32) 67 = .ok (.iinc 6 1, 3) := by decide +kernel
theorem d32_70 : decode (mm_cb 32) 70 = .ok (.goto (-42), 3) := by decide +kernel
theorem d32_73 : decode (mm_cb 32) 73 = .ok (.lload 4, 2) := by decide +kernel
theorem d32_75 : decode (mm_cb 32) 75 = .ok (.lreturn, 1) := by decide +kernel
theorem d33_0 : decode (mm_cb 33) 0 = .ok (.aload_n 0, 1) := by decide +kernel
theorem d33_1 : decode (mm_cb 33) 1 = .ok (.getfield 11, 3) := by decide +kernel
theorem d33_4 : decode (mm_cb 33) 4 = .ok (.iload_n 1, 1) := by decide +kernel
theorem d33_5 : decode (mm_cb 33) 5 = .ok (.bipush 13, 2) := by decide +kernel
theorem d33_7 : decode (mm_cb 33) 7 = .ok (.imul, 1) := by decide +kernel
theorem d33_8 : decode (mm_cb 33) 8 = .ok (.iload_n 2, 1) := by decide +kernel
theorem d33_9 : decode (mm_cb 33) 9 = .ok (.iadd, 1) := by decide +kernel
theorem d33_10 : decode (mm_cb 33) 10 = .ok (.laload, 1) := by decide +kernel
theorem d33_11 : decode (mm_cb 33) 11 = .ok (.lreturn, 1) := by decide +kernel
theorem d34_0 : decode (mm_cb 34) 0 = .ok (.aload_n 0, 1) := by decide +kernel
theorem d34_1 : decode (mm_cb 34) 1 = .ok (.getfield 15, 3) := by decide +kernel
theorem d34_4 : decode (mm_cb 34) 4 = .ok (.iload_n 1, 1) := by decide +kernel
theorem d34_5 : decode (mm_cb 34) 5 = .ok (.iconst 4, 1) := by decide +kernel
theorem d34_6 : decode (mm_cb 34) 6 = .ok (.imul, 1) := by decide +kernel
theorem d34_7 : decode (mm_cb 34) 7 = .ok (.iload_n 2, 1) := by decide +kernel
theorem d34_8 : decode (mm_cb 34) 8 = .ok (.iadd, 1) := by decide +kernel
theorem d34_9 : decode (mm_cb 34) 9 = .ok (.bipush 13, 2) := by decide +kernel
theorem d34_11 : decode (mm_cb 34) 11 = .ok (.imul, 1) := by decide +kernel
theorem d34_12 : decode (mm_cb 34) 12 = .ok (.iload_n 3, 1) := by decide +kernel
theorem d34_13 : decode (mm_cb 34) 13 = .ok (.iadd, 1) := by decide +kernel
theorem d34_14 : decode (mm_cb 34) 14 = .ok (.laload, 1) := by decide +kernel
theorem d34_15 : decode (mm_cb 34) 15 = .ok (.lreturn, 1) := by decide +kernel
theorem d35_0 : decode (mm_cb 35) 0 = .ok (.aload_n 3, 1) := by decide +kernel
theorem d35_1 : decode (mm_cb 35) 1 = .ok (.iconst 0, 1) := by decide +kernel
theorem d35_2 : decode (mm_cb 35) 2 = .ok (.aload_n 0, 1) := by decide +kernel
theorem d35_3 : decode (mm_cb 35) 3 = .ok (.iload_n 1, 1) := by decide +kernel
theorem d35_4 : decode (mm_cb 35) 4 = .ok (.iload_n 2, 1) := by decide +kernel
theorem d35_5 : decode (mm_cb 35) 5 = .ok (.invokevirtual 19, 3) := by decide +kernel
theorem d35_8 : decode (mm_cb 35) 8 = .ok (.lastore, 1) := by decide +kernel
theorem d35_9 : decode (mm_cb 35) 9 = .ok (.goto 11, 3) := by decide +kernel
theorem d35_12 : decode (mm_cb 35) 12 = .ok (.astore 4, 2) := by decide +kernel
theorem d35_14 : decode (mm_cb 35) 14 = .ok (.iconst 1, 1) := by decide +kernel
theorem d35_15 : decode (mm_cb 35) 15 = .ok (.ireturn, 1) := by decide +kernel
theorem d35_16 : decode (mm_cb 35) 16 = .ok (.astore 4, 2) := by decide +kernel
theorem d35_18 : decode (mm_cb 35) 18 = .ok (.iconst 2, 1) := by decide +kernel
theorem d35_19 : decode (mm_cb 35) 19 = .ok (.ireturn, 1) := by decide +kernel
theorem d35_20 : decode (mm_cb 35) 20 = .ok (.iconst 0, 1) := by decide +kernel
theorem d35_21 : decode (mm_cb 35) 21 = .ok (.ireturn, 1) := by decide +kernel
theorem d36_0 : decode (mm_cb 36) 0 = .ok (.iload_n 1, 1) := by decide +kernel
theorem d36_1 : decode (mm_cb 36) 1 = .ok (.invokestatic 81, 3) := by decide +kernel
theorem d36_4 : decode (mm_cb 36) 4 = .ok (.iload_n 2, 1) := by decide +kernel
theorem d36_5 : decode (mm_cb 36) 5 = .ok (.invokestatic 113, 3) := by decide +kernel
theorem d36_8 : decode (mm_cb 36) 8 = .ok (.aload_n 0, 1) := by decide +kernel
theorem d36_9 : decode (mm_cb 36) 9 = .ok (.getfield 21, 3) := by decide +kernel
theorem d36_12 : decode (mm_cb 36) 12 = .ok (.iload_n 1, 1) := by decide +kernel
theorem d36_13 : decode (mm_cb 36) 13 = .ok (.iload_n 2, 1) := by decide +kernel
theorem d36_14 : decode (mm_cb 36) 14 = .ok (.invokevirtual 116, 3) := by decide +kernel
theorem d36_17 : decode (mm_cb 36) 17 = .ok (.lreturn, 1) := by decide +kernel
theorem d37_0 : decode (mm_cb 37) 0 = .ok (.iload_n 0, 1) := by decide +kernel
theorem d37_1 : decode (mm_cb 37) 1 = .ok (.ifCond .lt 8, 3) := by decide +kernel
theorem d37_4 : decode (mm_cb 37) 4 = .ok (.iload_n 0, 1) := by decide +kernel
theorem d37_5 : decode (mm_cb 37) 5 = .ok (.iconst 4, 1) := by decide +kernel
theorem d37_6 : decode (mm_cb 37) 6 = .ok (.if_icmp .le 13, 3) := by decide +kernel
theorem d37_9 : decode (mm_cb 37) 9 = .ok (.new 85, 3) := by decide +kernel
theorem d37_12 : decode (mm_cb 37) 12 = .ok (.dup, 1) := by decide +kernel
theorem d37_13 : decode (mm_cb 37) 13 = .ok (.ldc 217, 2) := by decide +kernel
theorem d37_15 : decode (mm_cb 37) 15 = .ok (.invokespecial 89, 3) := by decide +kernel
theorem d37_18 : decode (mm_cb 37) 18 = .ok (.athrow, 1) := by decide +kernel
theorem d37_19 : decode (mm_cb 37) 19 = .ok (.return_, 1) := by decide +kernel
theorem d38_0 : decode (mm_cb 38) 0 = .ok (.aload 5, 2) := by decide +kernel
theorem d38_2 : decode (mm_cb 38) 2 = .ok (.iconst 0, 1) := by decide +kernel
theorem d38_3 : decode (mm_cb 38) 3 = .ok (.aload_n 0, 1) := by decide +kernel
theorem d38_4 : decode (mm_cb 38) 4 = .ok (.iload_n 1, 1) := by decide +kernel
theorem d38_5 : decode (mm_cb 38) 5 = .ok (.iload_n 2, 1) := by decide +kernel
theorem d38_6 : decode (mm_cb 38) 6 = .ok (.lload_n 3, 1) := by decide +kernel
theorem d38_7 : decode (mm_cb 38) 7 = .ok (.invokevirtual 23, 3) := by decide +kernel
theorem d38_10 : decode (mm_cb 38) 10 = .ok (.i2l, 1) := by decide +kernel
theorem d38_11 : decode (mm_cb 38) 11 = .ok (.lastore, 1) := by decide +kernel
theorem d38_12 : decode (mm_cb 38) 12 = .ok (.goto 15, 3) := by decide +kernel
theorem d38_15 : decode (mm_cb 38) 15 = .ok (.astore 6, 2) := by decide +kernel
theorem d38_17 : decode (mm_cb 38) 17 = .ok (.iconst 1, 1) := by decide +kernel
theorem d38_18 : decode (mm_cb 38) 18 = .ok (.ireturn, 1) := by decide +kernel
theorem d38_19 : decode (mm_cb 38) 19 = .ok (.astore 6, 2) := by decide +kernel
theorem d38_21 : decode (mm_cb 38) 21 = .ok (.iconst 2, 1) := by decide +kernel
theorem d38_22 : decode (mm_cb 38) 22 = .ok (.ireturn, 1) := by decide +kernel
theorem d38_23 : decode (mm_cb 38) 23 = .ok (.astore 6, 2) := by decide +kernel
theorem d38_25 : decode (mm_cb 38) 25 = .ok (.iconst 3, 1) := by decide +kernel
theorem d38_26 : decode (mm_cb 38) 26 = .ok (.ireturn, 1) := by decide +kernel
theorem d38_27 : decode (mm_cb 38) 27 = .ok (.iconst 0, 1) := by decide +kernel
theorem d38_28 : decode (mm_cb 38) 28 = .ok (.ireturn, 1) := by decide +kernel
theorem d39_0 : decode (mm_cb 39) 0 = .ok (.iload_n 1, 1) := by decide +kernel
theorem d39_1 : decode (mm_cb 39) 1 = .ok (.invokestatic 81, 3) := by decide +kernel
theorem d39_4 : decode (mm_cb 39) 4 = .ok (.iload_n 2, 1) := by decide +kernel
theorem d39_5 : decode (mm_cb 39) 5 = .ok (.invokestatic 113, 3) := by decide +kernel
theorem d39_8 : decode (mm_cb 39) 8 = .ok (.lload_n 3, 1) := by decide +kernel
theorem d39_9 : decode (mm_cb 39) 9 = .ok (.aload_n 0, 1) := by decide +kernel
theorem d39_10 : decode (mm_cb 39) 10 = .ok (.getfield 21, 3) := by decide +kernel
theorem d39_13 : decode (mm_cb 39) 13 = .ok (.iload_n 1, 1) := by decide +kernel
theorem d39_14 : decode (mm_cb 39) 14 = .ok (.iload_n 2, 1) := by decide +kernel
theorem d39_15 : decode (mm_cb 39) 15 = .ok (.invokevirtual 116, 3) := by decide +kernel
theorem d39_18 : decode (mm_cb 39) 18 = .ok (.invokestatic 120, 3) := by decide +kernel
theorem d39_21 : decode (mm_cb 39) 21 = .ok (.aload_n 0, 1) := by decide +kernel
theorem d39_22 : decode (mm_cb 39) 22 = .ok (.getfield 44, 3) := by decide +kernel
theorem d39_25 : decode (mm_cb 39) 25 = .ok (.iload_n 1, 1) := by decide +kernel
theorem d39_26 : decode (mm_cb 39) 26 = .ok (.iload_n 2, 1) := by decide +kernel
theorem d39_27 : decode (mm_cb 39) 27 = .ok (.lload_n 3, 1) := by decide +kernel
theorem d39_28 : decode (mm_cb 39) 28 = .ok (.invokevirtual 124, 3) := by decide +kernel
theorem d39_31 : decode (mm_cb 39) 31 = .ok (.aload_n 0, 1) := by decide +kernel
theorem d39_32 : decode (mm_cb 39) 32 = .ok (.getfield 44, 3) := by decide +kernel
theorem d39_35 : decode (mm_cb 39) 35 = .ok (.aload_n 0, 1) := by decide +kernel
theorem d39_36 : decode (mm_cb 39) 36 = .ok (.getfield 35, 3) := by decide +kernel
theorem d39_39 : decode (mm_cb 39) 39 = .ok (.invokevirtual 128, 3) := by decide +kernel
theorem d39_42 : decode (mm_cb 39) 42 = .ok (.aload_n 0, 1) := by decide +kernel
theorem d39_43 : decode (mm_cb 39) 43 = .ok (.getfield 35, 3) := by decide +kernel
theorem d39_46 : decode (mm_cb 39) 46 = .ok (.invokevirtual 132, 3) := by decide +kernel
theorem d39_49 : decode (mm_cb 39) 49 = .ok (.ireturn, 1) := by decide +kernel
theorem d40_0 : decode (mm_cb 40) 0 = .ok (.lload_n 0, 1) := by decide +kernel
theorem d40_1 : decode (mm_cb 40) 1 = .ok (.lconst 0, 1) := by decide +kernel
theorem d40_2 : decode (mm_cb 40) 2 = .ok (.lcmp, 1) := by decide +kernel
theorem d40_3 : decode (mm_cb 40) 3 = .ok (.ifCond .lt 9, 3) := by decide +kernel
theorem d40_6 : decode (mm_cb 40) 6 = .ok (.lload_n 0, 1) := by decide +kernel
theorem d40_7 : decode (mm_cb 40) 7 = .ok (.lload_n 2, 1) := by decide +kernel
theorem d40_8 : decode (mm_cb 40) 8 = .ok (.lcmp, 1) := by decide +kernel
theorem d40_9 : decode (mm_cb 40) 9 = .ok (.ifCond .lt 13, 3) := by decide +kernel
theorem d40_12 : decode (mm_cb 40) 12 = .ok (.new 100, 3) := by decide +kernel
theorem d40_15 : decode (mm_cb 40) 15 = .ok (.dup, 1) := by decide +kernel
theorem d40_16 : decode (mm_cb 40) 16 = .ok (.ldc 221, 2) := by decide +kernel
theorem d40_18 : decode (mm_cb 40) 18 = .ok (.invokespecial 104, 3) := by decide +kernel
theorem d40_21 : decode (mm_cb 40) 21 = .ok (.athrow, 1) := by decide +kernel
theorem d40_22 : decode (mm_cb 40) 22 = .ok (.return_, 1) := by decide +kernel
theorem d41_0 : decode (mm_cb 41) 0 = .ok (.aload_n 0, 1) := by decide +kernel
theorem d41_1 : decode (mm_cb 41) 1 = .ok (.getfield 9, 3) := by decide +kernel
theorem d41_4 : decode (mm_cb 41) 4 = .ok (.iconst 0, 1) := by decide +kernel
theorem d41_5 : decode (mm_cb 41) 5 = .ok (.iload_n 1, 1) := by decide +kernel
theorem d41_6 : decode (mm_cb 41) 6 = .ok (.iastore, 1) := by decide +kernel
theorem d41_7 : decode (mm_cb 41) 7 = .ok (.aload_n 0, 1) := by decide +kernel
theorem d41_8 : decode (mm_cb 41) 8 = .ok (.iconst 0, 1) := by decide +kernel
theorem d41_9 : decode (mm_cb 41) 9 = .ok (.iload_n 2, 1) := by decide +kernel
theorem d41_10 : decode (mm_cb 41) 10 = .ok (.lload_n 3, 1) := by decide +kernel
theorem d41_11 : decode (mm_cb 41) 11 = .ok (.invokevirtual 33, 3) := by decide +kernel
theorem d41_14 : decode (mm_cb 41) 14 = .ok (.return_, 1) := by decide +kernel
theorem d42_0 : decode (mm_cb 42) 0 = .ok (.aload_n 0, 1) := by decide +kernel
theorem d42_1 : decode (mm_cb 42) 1 = .ok (.getfield 9, 3) := by decide +kernel
theorem d42_4 : decode (mm_cb 42) 4 = .ok (.iload_n 1, 1) := by decide +kernel
theorem d42_5 : decode (mm_cb 42) 5 = .ok (.iaload, 1) := by decide +kernel
theorem d42_6 : decode (mm_cb 42) 6 = .ok (.istore 5, 2) := by decide +kernel
theorem d42_8 : decode (mm_cb 42) 8 = .ok (.lload_n 3, 1) := by decide +kernel
theorem d42_9 : decode (mm_cb 42) 9 = .ok (.lstore 6, 2) := by decide +kernel
theorem d42_11 : decode (mm_cb 42) 11 = .ok (.iconst 0, 1) := by decide +kernel
theorem d42_12 : decode (mm_cb 42) 12 = .ok (.istore 8, 2) := by decide +kernel
theorem d42_14 : decode (mm_cb 42) 14 = .ok (.iload 8, 2) := by decide +kernel
theorem d42_16 : decode (mm_cb 42) 16 = .ok (.aload_n 0, 1) := by decide +kernel
theorem d42_17 : decode (mm_cb 42) 17 = .ok (.getfield 21, 3) := by decide +kernel
theorem d42_20 : decode (mm_cb 42) 20 = .ok (.iload 5, 2) := by decide +kernel
theorem d42_22 : decode (mm_cb 42) 22 = .ok (.invokevirtual 37, 3) := by decide +kernel
theorem d42_25 : decode (mm_cb 42) 25 = .ok (.iconst 1, 1) := by decide +kernel
theorem d42_26 : decode (mm_cb 42) 26 = .ok (.isub, 1) := by decide +kernel
theorem d42_27 : decode (mm_cb 42) 27 = .ok (.if_icmp .ge 50, 3) := by decide +kernel
theorem d42_30 : decode (mm_cb 42) 30 = .ok (.lload 6, 2) := by decide +kernel
theorem d42_32 : decode (mm_cb 42) 32 = .ok (.aload_n 0, 1) := by decide +kernel
theorem d42_33 : decode (mm_cb 42) 33 = .ok (.getfield 25, 3) := by decide +kernel
theorem d42_36 : decode (mm_cb 42) 36 = .ok (.iload 5, 2) := by decide +kernel
theorem d42_38 : decode (mm_cb 42) 38 = .ok (.iload 8, 2) := by decide +kernel
theorem d42_40 : decode (mm_cb 42) 40 = .ok (.invokestatic 43, 3) := by decide +kernel
theorem d42_43 : decode (mm_cb 42) 43 = .ok (.iload_n 2, 1) := by decide +kernel
theorem d42_44 : decode (mm_cb 42) 44 = .ok (.invokevirtual 47, 3) := by decide +kernel
theorem d42_47 : decode (mm_cb 42) 47 = .ok (.lcmp, 1) := by decide +kernel
theorem d42_48 : decode (mm_cb 42) 48 = .ok (.ifCond .lt 29, 3) := by decide +kernel
theorem d42_51 : decode (mm_cb 42) 51 = .ok (.lload 6, 2) := by decide +kernel
theorem d42_53 : decode (mm_cb 42) 53 = .ok (.aload_n 0, 1) := by decide +kernel
theorem d42_54 : decode (mm_cb 42) 54 = .ok (.getfield 25, 3) := by decide +kernel
theorem d42_57 : decode (mm_cb 42) 57 = .ok (.iload 5, 2) := by decide +kernel
theorem d42_59 : decode (mm_cb 42) 59 = .ok (.iload 8, 2) := by decide +kernel
theorem d42_61 : decode (mm_cb 42) 61 = .ok (.invokestatic 43, 3) := by decide +kernel
theorem d42_64 : decode (mm_cb 42) 64 = .ok (.iload_n 2, 1) := by decide +kernel
theorem d42_65 : decode (mm_cb 42) 65 = .ok (.invokevirtual 47, 3) := by decide +kernel
theorem d42_68 : decode (mm_cb 42) 68 = .ok (.lsub, 1) := by decide +kernel
theorem d42_69 : decode (mm_cb 42) 69 = .ok (.lstore 6, 2) := by decide +kernel
theorem d42_71 : decode (mm_cb 42) 71 = .ok (.iinc 8 1, 3) := by decide +kernel
theorem d42_74 : decode (mm_cb 42) 74 = .ok (.goto (-60), 3) := by decide +kernel
theorem d42_77 : decode (mm_cb 42) 77 = .ok (.aload_n 0, 1) := by decide +kernel
theorem d42_78 : decode (mm_cb 42) 78 = .ok (.iload_n 1, 1) := by decide +kernel
theorem d42_79 : decode (mm_cb 42) 79 = .ok (.iload 8, 2) := by decide +kernel
theorem d42_81 : decode (mm_cb 42) 81 = .ok (.invokevirtual 53, 3) := by decide +kernel
theorem d42_84 : decode (mm_cb 42) 84 = .ok (.iload_n 2, 1) := by decide +kernel
theorem d42_85 : decode (mm_cb 42) 85 = .ok (.ifCond .ne 4, 3) := by decide +kernel
theorem d42_88 : decode (mm_cb 42) 88 = .ok (.return_, 1) := by decide +kernel
theorem d42_89 : decode (mm_cb 42) 89 = .ok (.iload 5, 2) := by decide +kernel
theorem d42_91 : decode (mm_cb 42) 91 = .ok (.iload 8, 2) := by decide +kernel
theorem d42_93 : decode (mm_cb 42) 93 = .ok (.invokestatic 43, 3) := by decide +kernel
theorem d42_96 : decode (mm_cb 42) 96 = .ok (.istore 9, 2) := by decide +kernel
theorem d42_98 : decode (mm_cb 42) 98 = .ok (.iconst 0, 1) := by decide +kernel
theorem d42_99 : decode (mm_cb 42) 99 = .ok (.istore 10, 2) := by decide +kernel
theorem d42_101 : decode (mm_cb 42) 101 = .ok (.iload 10, 2) := by decide +kernel
theorem d42_103 : decode (mm_cb 42) 103 = .ok (.aload_n 0, 1) := by decide +kernel
theorem d42_104 : decode (mm_cb 42) 104 = .ok (.getfield 18, 3) := by decide +kernel
theorem d42_107 : decode (mm_cb 42) 107 = .ok (.iload_n 1, 1) := by decide +kernel
theorem d42_108 : decode (mm_cb 42) 108 = .ok (.iaload, 1) := by decide +kernel
theorem d42_109 : decode (mm_cb 42) 109 = .ok (.if_icmp .ge 57, 3) := by decide +kernel
theorem d42_112 : decode (mm_cb 42) 112 = .ok (.aload_n 0, 1) := by decide +kernel
theorem d42_113 : decode (mm_cb 42) 113 = .ok (.getfield 25, 3) := by decide +kernel
theorem d42_116 : decode (mm_cb 42) 116 = .ok (.iload 9, 2) := by decide +kernel
theorem d42_118 : decode (mm_cb 42) 118 = .ok (.iload 10, 2) := by decide +kernel
theorem d42_120 : decode (mm_cb 42) 120 = .ok (.iconst 1, 1) := by decide +kernel
theorem d42_121 : decode (mm_cb 42) 121 = .ok (.iadd, 1) := by decide +kernel
theorem d42_122 : decode (mm_cb 42) 122 = .ok (.iload_n 2, 1) := by decide +kernel
theorem d42_123 : decode (mm_cb 42) 123 = .ok (.invokevirtual 57, 3) := by decide +kernel
theorem d42_126 : decode (mm_cb 42) 126 = .ok (.lstore 11, 2) := by decide +kernel
theorem d42_128 : decode (mm_cb 42) 128 = .ok (.lload 11, 2) := by decide +kernel
theorem d42_130 : decode (mm_cb 42) 130 = .ok (.lconst 0, 1) := by decide +kernel
theorem d42_131 : decode (mm_cb 42) 131 = .ok (.lcmp, 1) := by decide +kernel
theorem d42_132 : decode (mm_cb 42) 132 = .ok (.ifCond .le 28, 3) := by decide +kernel
theorem d42_135 : decode (mm_cb 42) 135 = .ok (.aload_n 0, 1) := by decide +kernel
theorem d42_136 : decode (mm_cb 42) 136 = .ok (.iload_n 1, 1) := by decide +kernel
theorem d42_137 : decode (mm_cb 42) 137 = .ok (.iload 10, 2) := by decide +kernel
theorem d42_139 : decode (mm_cb 42) 139 = .ok (.invokestatic 61, 3) := by decide +kernel
theorem d42_142 : decode (mm_cb 42) 142 = .ok (.iload_n 2, 1) := by decide +kernel
theorem d42_143 : decode (mm_cb 42) 143 = .ok (.iconst 1, 1) := by decide +kernel
theorem d42_144 : decode (mm_cb 42) 144 = .ok (.isub, 1) := by decide +kernel
theorem d42_145 : decode (mm_cb 42) 145 = .ok (.lload 6, 2) := by decide +kernel
theorem d42_147 : decode (mm_cb 42) 147 = .ok (.lload 11, 2) := by decide +kernel
theorem d42_149 : decode (mm_cb 42) 149 = .ok (.ldiv, 1) := by decide +kernel
theorem d42_150 : decode (mm_cb 42) 150 = .ok (.invokevirtual 33, 3) := by decide +kernel
end
section
/-! ===== decoded ===== -/
theorem d42_153 : decode (mm_cb 42) 153 = .ok (.lload 6, 2) := by decide +kernel
theorem d42_155 : decode (mm_cb 42) 155 = .ok (.lload 11, 2) := by decide +kernel
theorem d42_157 : decode (mm_cb 42) 157 = .ok (.lrem, 1) := by decide +kernel
theorem d42_158 : decode (mm_cb 42) 158 = .ok (.lstore 6, 2) := by decide +kernel
theorem d42_160 : decode (mm_cb 42) 160 = .ok (.iinc 10 1, 3) := by decide +kernel
theorem d42_163 : decode (mm_cb 42) 163 = .ok (.goto (-62), 3) := by decide +kernel
theorem d42_166 : decode (mm_cb 42) 166 = .ok (.return_, 1) := by decide +kernel
theorem d43_0 : decode (mm_cb 43) 0 = .ok (.aload_n 0, 1) := by decide +kernel
theorem d43_1 : decode (mm_cb 43) 1 = .ok (.getfield 15, 3) := by decide +kernel
theorem d43_4 : decode (mm_cb 43) 4 = .ok (.iload_n 1, 1) := by decide +kernel
theorem d43_5 : decode (mm_cb 43) 5 = .ok (.iconst 5, 1) := by decide +kernel
theorem d43_6 : decode (mm_cb 43) 6 = .ok (.imul, 1) := by decide +kernel
theorem d43_7 : decode (mm_cb 43) 7 = .ok (.iload_n 2, 1) := by decide +kernel
theorem d43_8 : decode (mm_cb 43) 8 = .ok (.iadd, 1) := by decide +kernel
theorem d43_9 : decode (mm_cb 43) 9 = .ok (.laload, 1) := by decide +kernel
theorem d43_10 : decode (mm_cb 43) 10 = .ok (.lreturn, 1) := by decide +kernel
theorem d44_0 : decode (mm_cb 44) 0 = .ok (.aload_n 0, 1) := by decide +kernel
theorem d44_1 : decode (mm_cb 44) 1 = .ok (.getfield 9, 3) := by decide +kernel
theorem d44_4 : decode (mm_cb 44) 4 = .ok (.iload_n 1, 1) := by decide +kernel
theorem d44_5 : decode (mm_cb 44) 5 = .ok (.iaload, 1) := by decide +kernel
theorem d44_6 : decode (mm_cb 44) 6 = .ok (.iload_n 2, 1) := by decide +kernel
theorem d44_7 : decode (mm_cb 44) 7 = .ok (.invokestatic 43, 3) := by decide +kernel
theorem d44_10 : decode (mm_cb 44) 10 = .ok (.istore_n 3, 1) := by decide +kernel
theorem d44_11 : decode (mm_cb 44) 11 = .ok (.aload_n 0, 1) := by decide +kernel
theorem d44_12 : decode (mm_cb 44) 12 = .ok (.getfield 15, 3) := by decide +kernel
theorem d44_15 : decode (mm_cb 44) 15 = .ok (.iload_n 1, 1) := by decide +kernel
theorem d44_16 : decode (mm_cb 44) 16 = .ok (.iload_n 2, 1) := by decide +kernel
theorem d44_17 : decode (mm_cb 44) 17 = .ok (.iastore, 1) := by decide +kernel
theorem d44_18 : decode (mm_cb 44) 18 = .ok (.aload_n 0, 1) := by decide +kernel
theorem d44_19 : decode (mm_cb 44) 19 = .ok (.getfield 18, 3) := by decide +kernel
theorem d44_22 : decode (mm_cb 44) 22 = .ok (.iload_n 1, 1) := by decide +kernel
theorem d44_23 : decode (mm_cb 44) 23 = .ok (.aload_n 0, 1) := by decide +kernel
theorem d44_24 : decode (mm_cb 44) 24 = .ok (.getfield 21, 3) := by decide +kernel
theorem d44_27 : decode (mm_cb 44) 27 = .ok (.iload_n 3, 1) := by decide +kernel
theorem d44_28 : decode (mm_cb 44) 28 = .ok (.invokevirtual 66, 3) := by decide +kernel
theorem d44_31 : decode (mm_cb 44) 31 = .ok (.iastore, 1) := by decide +kernel
theorem d44_32 : decode (mm_cb 44) 32 = .ok (.iconst 0, 1) := by decide +kernel
theorem d44_33 : decode (mm_cb 44) 33 = .ok (.istore 4, 2) := by decide +kernel
theorem d44_35 : decode (mm_cb 44) 35 = .ok (.iload 4, 2) := by decide +kernel
theorem d44_37 : decode (mm_cb 44) 37 = .ok (.aload_n 0, 1) := by decide +kernel
theorem d44_38 : decode (mm_cb 44) 38 = .ok (.getfield 18, 3) := by decide +kernel
theorem d44_41 : decode (mm_cb 44) 41 = .ok (.iload_n 1, 1) := by decide +kernel
theorem d44_42 : decode (mm_cb 44) 42 = .ok (.iaload, 1) := by decide +kernel
theorem d44_43 : decode (mm_cb 44) 43 = .ok (.if_icmp .ge 48, 3) := by decide +kernel
theorem d44_46 : decode (mm_cb 44) 46 = .ok (.iload_n 1, 1) := by decide +kernel
theorem d44_47 : decode (mm_cb 44) 47 = .ok (.iload 4, 2) := by decide +kernel
theorem d44_49 : decode (mm_cb 44) 49 = .ok (.invokestatic 61, 3) := by decide +kernel
theorem d44_52 : decode (mm_cb 44) 52 = .ok (.istore 5, 2) := by decide +kernel
theorem d44_54 : decode (mm_cb 44) 54 = .ok (.iload 5, 2) := by decide +kernel
theorem d44_56 : decode (mm_cb 44) 56 = .ok (.sipush 256, 3) := by decide +kernel
theorem d44_59 : decode (mm_cb 44) 59 = .ok (.if_icmp .ge 26, 3) := by decide +kernel
theorem d44_62 : decode (mm_cb 44) 62 = .ok (.aload_n 0, 1) := by decide +kernel
theorem d44_63 : decode (mm_cb 44) 63 = .ok (.getfield 9, 3) := by decide +kernel
theorem d44_66 : decode (mm_cb 44) 66 = .ok (.iload 5, 2) := by decide +kernel
theorem d44_68 : decode (mm_cb 44) 68 = .ok (.aload_n 0, 1) := by decide +kernel
theorem d44_69 : decode (mm_cb 44) 69 = .ok (.getfield 21, 3) := by decide +kernel
theorem d44_72 : decode (mm_cb 44) 72 = .ok (.iload_n 3, 1) := by decide +kernel
theorem d44_73 : decode (mm_cb 44) 73 = .ok (.iload 4, 2) := by decide +kernel
theorem d44_75 : decode (mm_cb 44) 75 = .ok (.invokevirtual 69, 3) := by decide +kernel
theorem d44_78 : decode (mm_cb 44) 78 = .ok (.iastore, 1) := by decide +kernel
theorem d44_79 : decode (mm_cb 44) 79 = .ok (.aload_n 0, 1) := by decide +kernel
theorem d44_80 : decode (mm_cb 44) 80 = .ok (.iload 5, 2) := by decide +kernel
theorem d44_82 : decode (mm_cb 44) 82 = .ok (.invokevirtual 29, 3) := by decide +kernel
theorem d44_85 : decode (mm_cb 44) 85 = .ok (.iinc 4 1, 3) := by decide +kernel
theorem d44_88 : decode (mm_cb 44) 88 = .ok (.goto (-53), 3) := by decide +kernel
theorem d44_91 : decode (mm_cb 44) 91 = .ok (.return_, 1) := by decide +kernel
theorem d45_0 : decode (mm_cb 45) 0 = .ok (.iconst 4, 1) := by decide +kernel
theorem d45_1 : decode (mm_cb 45) 1 = .ok (.iload_n 0, 1) := by decide +kernel
theorem d45_2 : decode (mm_cb 45) 2 = .ok (.imul, 1) := by decide +kernel
theorem d45_3 : decode (mm_cb 45) 3 = .ok (.iload_n 1, 1) := by decide +kernel
theorem d45_4 : decode (mm_cb 45) 4 = .ok (.iadd, 1) := by decide +kernel
theorem d45_5 : decode (mm_cb 45) 5 = .ok (.iconst 1, 1) := by decide +kernel
theorem d45_6 : decode (mm_cb 45) 6 = .ok (.iadd, 1) := by decide +kernel
theorem d45_7 : decode (mm_cb 45) 7 = .ok (.ireturn, 1) := by decide +kernel
theorem d46_0 : decode (mm_cb 46) 0 = .ok (.aload_n 0, 1) := by decide +kernel
theorem d46_1 : decode (mm_cb 46) 1 = .ok (.getfield 15, 3) := by decide +kernel
theorem d46_4 : decode (mm_cb 46) 4 = .ok (.iload_n 1, 1) := by decide +kernel
theorem d46_5 : decode (mm_cb 46) 5 = .ok (.bipush (-2), 2) := by decide +kernel
theorem d46_7 : decode (mm_cb 46) 7 = .ok (.iastore, 1) := by decide +kernel
theorem d46_8 : decode (mm_cb 46) 8 = .ok (.aload_n 0, 1) := by decide +kernel
theorem d46_9 : decode (mm_cb 46) 9 = .ok (.getfield 18, 3) := by decide +kernel
theorem d46_12 : decode (mm_cb 46) 12 = .ok (.iload_n 1, 1) := by decide +kernel
theorem d46_13 : decode (mm_cb 46) 13 = .ok (.iconst 0, 1) := by decide +kernel
theorem d46_14 : decode (mm_cb 46) 14 = .ok (.iastore, 1) := by decide +kernel
theorem d46_15 : decode (mm_cb 46) 15 = .ok (.return_, 1) := by decide +kernel
theorem d47_0 : decode (mm_cb 47) 0 = .ok (.aload_n 1, 1) := by decide +kernel
theorem d47_1 : decode (mm_cb 47) 1 = .ok (.invokevirtual 85, 3) := by decide +kernel
theorem d47_4 : decode (mm_cb 47) 4 = .ok (.aload_n 0, 1) := by decide +kernel
theorem d47_5 : decode (mm_cb 47) 5 = .ok (.aload_n 1, 1) := by decide +kernel
theorem d47_6 : decode (mm_cb 47) 6 = .ok (.iconst 0, 1) := by decide +kernel
theorem d47_7 : decode (mm_cb 47) 7 = .ok (.iconst 0, 1) := by decide +kernel
theorem d47_8 : decode (mm_cb 47) 8 = .ok (.invokevirtual 90, 3) := by decide +kernel
theorem d47_11 : decode (mm_cb 47) 11 = .ok (.return_, 1) := by decide +kernel
theorem d48_0 : decode (mm_cb 48) 0 = .ok (.aload_n 0, 1) := by decide +kernel
theorem d48_1 : decode (mm_cb 48) 1 = .ok (.iconst 0, 1) := by decide +kernel
theorem d48_2 : decode (mm_cb 48) 2 = .ok (.putfield 15, 3) := by decide +kernel
theorem d48_5 : decode (mm_cb 48) 5 = .ok (.return_, 1) := by decide +kernel
theorem d49_0 : decode (mm_cb 49) 0 = .ok (.aload_n 1, 1) := by decide +kernel
theorem d49_1 : decode (mm_cb 49) 1 = .ok (.aload_n 0, 1) := by decide +kernel
theorem d49_2 : decode (mm_cb 49) 2 = .ok (.getfield 15, 3) := by decide +kernel
theorem d49_5 : decode (mm_cb 49) 5 = .ok (.iload_n 2, 1) := by decide +kernel
theorem d49_6 : decode (mm_cb 49) 6 = .ok (.iaload, 1) := by decide +kernel
theorem d49_7 : decode (mm_cb 49) 7 = .ok (.invokevirtual 94, 3) := by decide +kernel
theorem d49_10 : decode (mm_cb 49) 10 = .ok (.iload_n 3, 1) := by decide +kernel
theorem d49_11 : decode (mm_cb 49) 11 = .ok (.iconst 4, 1) := by decide +kernel
theorem d49_12 : decode (mm_cb 49) 12 = .ok (.if_icmp .ge 37, 3) := by decide +kernel
theorem d49_15 : decode (mm_cb 49) 15 = .ok (.iconst 0, 1) := by decide +kernel
theorem d49_16 : decode (mm_cb 49) 16 = .ok (.istore 4, 2) := by decide +kernel
theorem d49_18 : decode (mm_cb 49) 18 = .ok (.iload 4, 2) := by decide +kernel
theorem d49_20 : decode (mm_cb 49) 20 = .ok (.aload_n 0, 1) := by decide +kernel
theorem d49_21 : decode (mm_cb 49) 21 = .ok (.getfield 18, 3) := by decide +kernel
theorem d49_24 : decode (mm_cb 49) 24 = .ok (.iload_n 2, 1) := by decide +kernel
theorem d49_25 : decode (mm_cb 49) 25 = .ok (.iaload, 1) := by decide +kernel
theorem d49_26 : decode (mm_cb 49) 26 = .ok (.if_icmp .ge 23, 3) := by decide +kernel
theorem d49_29 : decode (mm_cb 49) 29 = .ok (.aload_n 0, 1) := by decide +kernel
theorem d49_30 : decode (mm_cb 49) 30 = .ok (.aload_n 1, 1) := by decide +kernel
theorem d49_31 : decode (mm_cb 49) 31 = .ok (.iload_n 2, 1) := by decide +kernel
theorem d49_32 : decode (mm_cb 49) 32 = .ok (.iload 4, 2) := by decide +kernel
theorem d49_34 : decode (mm_cb 49) 34 = .ok (.invokestatic 61, 3) := by decide +kernel
theorem d49_37 : decode (mm_cb 49) 37 = .ok (.iload_n 3, 1) := by decide +kernel
theorem d49_38 : decode (mm_cb 49) 38 = .ok (.iconst 1, 1) := by decide +kernel
theorem d49_39 : decode (mm_cb 49) 39 = .ok (.iadd, 1) := by decide +kernel
theorem d49_40 : decode (mm_cb 49) 40 = .ok (.invokevirtual 90, 3) := by decide +kernel
theorem d49_43 : decode (mm_cb 49) 43 = .ok (.iinc 4 1, 3) := by decide +kernel
theorem d49_46 : decode (mm_cb 49) 46 = .ok (.goto (-28), 3) := by decide +kernel
theorem d49_49 : decode (mm_cb 49) 49 = .ok (.return_, 1) := by decide +kernel
theorem d50_0 : decode (mm_cb 50) 0 = .ok (.aload_n 0, 1) := by decide +kernel
theorem d50_1 : decode (mm_cb 50) 1 = .ok (.getfield 15, 3) := by decide +kernel
theorem d50_4 : decode (mm_cb 50) 4 = .ok (.bipush 121, 2) := by decide +kernel
theorem d50_6 : decode (mm_cb 50) 6 = .ok (.if_icmp .ge 23, 3) := by decide +kernel
theorem d50_9 : decode (mm_cb 50) 9 = .ok (.aload_n 0, 1) := by decide +kernel
theorem d50_10 : decode (mm_cb 50) 10 = .ok (.getfield 9, 3) := by decide +kernel
theorem d50_13 : decode (mm_cb 50) 13 = .ok (.aload_n 0, 1) := by decide +kernel
theorem d50_14 : decode (mm_cb 50) 14 = .ok (.getfield 15, 3) := by decide +kernel
theorem d50_17 : decode (mm_cb 50) 17 = .ok (.iload_n 1, 1) := by decide +kernel
theorem d50_18 : decode (mm_cb 50) 18 = .ok (.iastore, 1) := by decide +kernel
theorem d50_19 : decode (mm_cb 50) 19 = .ok (.aload_n 0, 1) := by decide +kernel
theorem d50_20 : decode (mm_cb 50) 20 = .ok (.dup, 1) := by decide +kernel
theorem d50_21 : decode (mm_cb 50) 21 = .ok (.getfield 15, 3) := by decide +kernel
theorem d50_24 : decode (mm_cb 50) 24 = .ok (.iconst 1, 1) := by decide +kernel
theorem d50_25 : decode (mm_cb 50) 25 = .ok (.iadd, 1) := by decide +kernel
theorem d50_26 : decode (mm_cb 50) 26 = .ok (.putfield 15, 3) := by decide +kernel
theorem d50_29 : decode (mm_cb 50) 29 = .ok (.return_, 1) := by decide +kernel
theorem d51_0 : decode (mm_cb 51) 0 = .ok (.aload_n 0, 1) := by decide +kernel
theorem d51_1 : decode (mm_cb 51) 1 = .ok (.getfield 15, 3) := by decide +kernel
theorem d51_4 : decode (mm_cb 51) 4 = .ok (.ireturn, 1) := by decide +kernel
theorem d52_0 : decode (mm_cb 52) 0 = .ok (.aload_n 3, 1) := by decide +kernel
theorem d52_1 : decode (mm_cb 52) 1 = .ok (.iconst 0, 1) := by decide +kernel
theorem d52_2 : decode (mm_cb 52) 2 = .ok (.aload_n 0, 1) := by decide +kernel
theorem d52_3 : decode (mm_cb 52) 3 = .ok (.iload_n 1, 1) := by decide +kernel
theorem d52_4 : decode (mm_cb 52) 4 = .ok (.iload_n 2, 1) := by decide +kernel
theorem d52_5 : decode (mm_cb 52) 5 = .ok (.invokevirtual 27, 3) := by decide +kernel
theorem d52_8 : decode (mm_cb 52) 8 = .ok (.lastore, 1) := by decide +kernel
theorem d52_9 : decode (mm_cb 52) 9 = .ok (.goto 11, 3) := by decide +kernel
theorem d52_12 : decode (mm_cb 52) 12 = .ok (.astore 4, 2) := by decide +kernel
theorem d52_14 : decode (mm_cb 52) 14 = .ok (.iconst 1, 1) := by decide +kernel
theorem d52_15 : decode (mm_cb 52) 15 = .ok (.ireturn, 1) := by decide +kernel
theorem d52_16 : decode (mm_cb 52) 16 = .ok (.astore 4, 2) := by decide +kernel
theorem d52_18 : decode (mm_cb 52) 18 = .ok (.iconst 2, 1) := by decide +kernel
theorem d52_19 : decode (mm_cb 52) 19 = .ok (.ireturn, 1) := by decide +kernel
theorem d52_20 : decode (mm_cb 52) 20 = .ok (.iconst 0, 1) := by decide +kernel
theorem d52_21 : decode (mm_cb 52) 21 = .ok (.ireturn, 1) := by decide +kernel
theorem d53_0 : decode (mm_cb 53) 0 = .ok (.iload_n 1, 1) := by decide +kernel
theorem d53_1 : decode (mm_cb 53) 1 = .ok (.invokestatic 81, 3) := by decide +kernel
theorem d53_4 : decode (mm_cb 53) 4 = .ok (.iload_n 2, 1) := by decide +kernel
theorem d53_5 : decode (mm_cb 53) 5 = .ok (.invokestatic 136, 3) := by decide +kernel
theorem d53_8 : decode (mm_cb 53) 8 = .ok (.aload_n 0, 1) := by decide +kernel
theorem d53_9 : decode (mm_cb 53) 9 = .ok (.getfield 28, 3) := by decide +kernel
theorem d53_12 : decode (mm_cb 53) 12 = .ok (.iload_n 1, 1) := by decide +kernel
theorem d53_13 : decode (mm_cb 53) 13 = .ok (.iload_n 2, 1) := by decide +kernel
theorem d53_14 : decode (mm_cb 53) 14 = .ok (.invokevirtual 139, 3) := by decide +kernel
theorem d53_17 : decode (mm_cb 53) 17 = .ok (.lreturn, 1) := by decide +kernel
theorem d54_0 : decode (mm_cb 54) 0 = .ok (.iload_n 0, 1) := by decide +kernel
theorem d54_1 : decode (mm_cb 54) 1 = .ok (.iconst 1, 1) := by decide +kernel
theorem d54_2 : decode (mm_cb 54) 2 = .ok (.if_icmp .lt 9, 3) := by decide +kernel
theorem d54_5 : decode (mm_cb 54) 5 = .ok (.iload_n 0, 1) := by decide +kernel
theorem d54_6 : decode (mm_cb 54) 6 = .ok (.bipush 12, 2) := by decide +kernel
theorem d54_8 : decode (mm_cb 54) 8 = .ok (.if_icmp .le 13, 3) := by decide +kernel
theorem d54_11 : decode (mm_cb 54) 11 = .ok (.new 85, 3) := by decide +kernel
theorem d54_14 : decode (mm_cb 54) 14 = .ok (.dup, 1) := by decide +kernel
theorem d54_15 : decode (mm_cb 54) 15 = .ok (.ldc 219, 2) := by decide +kernel
theorem d54_17 : decode (mm_cb 54) 17 = .ok (.invokespecial 89, 3) := by decide +kernel
theorem d54_20 : decode (mm_cb 54) 20 = .ok (.athrow, 1) := by decide +kernel
theorem d54_21 : decode (mm_cb 54) 21 = .ok (.return_, 1) := by decide +kernel
theorem d55_0 : decode (mm_cb 55) 0 = .ok (.aload 5, 2) := by decide +kernel
theorem d55_2 : decode (mm_cb 55) 2 = .ok (.iconst 0, 1) := by decide +kernel
theorem d55_3 : decode (mm_cb 55) 3 = .ok (.aload_n 0, 1) := by decide +kernel
theorem d55_4 : decode (mm_cb 55) 4 = .ok (.iload_n 1, 1) := by decide +kernel
theorem d55_5 : decode (mm_cb 55) 5 = .ok (.iload_n 2, 1) := by decide +kernel
theorem d55_6 : decode (mm_cb 55) 6 = .ok (.lload_n 3, 1) := by decide +kernel
theorem d55_7 : decode (mm_cb 55) 7 = .ok (.invokevirtual 30, 3) := by decide +kernel
theorem d55_10 : decode (mm_cb 55) 10 = .ok (.i2l, 1) := by decide +kernel
theorem d55_11 : decode (mm_cb 55) 11 = .ok (.lastore, 1) := by decide +kernel
theorem d55_12 : decode (mm_cb 55) 12 = .ok (.goto 15, 3) := by decide +kernel
theorem d55_15 : decode (mm_cb 55) 15 = .ok (.astore 6, 2) := by decide +kernel
theorem d55_17 : decode (mm_cb 55) 17 = .ok (.iconst 1, 1) := by decide +kernel
theorem d55_18 : decode (mm_cb 55) 18 = .ok (.ireturn, 1) := by decide +kernel
theorem d55_19 : decode (mm_cb 55) 19 = .ok (.astore 6, 2) := by decide +kernel
theorem d55_21 : decode (mm_cb 55) 21 = .ok (.iconst 2, 1) := by decide +kernel
theorem d55_22 : decode (mm_cb 55) 22 = .ok (.ireturn, 1) := by decide +kernel
theorem d55_23 : decode (mm_cb 55) 23 = .ok (.astore 6, 2) := by decide +kernel
theorem d55_25 : decode (mm_cb 55) 25 = .ok (.iconst 3, 1) := by decide +kernel
theorem d55_26 : decode (mm_cb 55) 26 = .ok (.ireturn, 1) := by decide +kernel
theorem d55_27 : decode (mm_cb 55) 27 = .ok (.iconst 0, 1) := by decide +kernel
theorem d55_28 : decode (mm_cb 55) 28 = .ok (.ireturn, 1) := by decide +kernel
theorem d56_0 : decode (mm_cb 56) 0 = .ok (.iload_n 1, 1) := by decide +kernel
theorem d56_1 : decode (mm_cb 56) 1 = .ok (.invokestatic 81, 3) := by decide +kernel
theorem d56_4 : decode (mm_cb 56) 4 = .ok (.iload_n 2, 1) := by decide +kernel
theorem d56_5 : decode (mm_cb 56) 5 = .ok (.invokestatic 136, 3) := by decide +kernel
theorem d56_8 : decode (mm_cb 56) 8 = .ok (.lload_n 3, 1) := by decide +kernel
theorem d56_9 : decode (mm_cb 56) 9 = .ok (.aload_n 0, 1) := by decide +kernel
theorem d56_10 : decode (mm_cb 56) 10 = .ok (.getfield 28, 3) := by decide +kernel
theorem d56_13 : decode (mm_cb 56) 13 = .ok (.iload_n 1, 1) := by decide +kernel
theorem d56_14 : decode (mm_cb 56) 14 = .ok (.iload_n 2, 1) := by decide +kernel
theorem d56_15 : decode (mm_cb 56) 15 = .ok (.invokevirtual 139, 3) := by decide +kernel
theorem d56_18 : decode (mm_cb 56) 18 = .ok (.invokestatic 120, 3) := by decide +kernel
theorem d56_21 : decode (mm_cb 56) 21 = .ok (.aload_n 0, 1) := by decide +kernel
theorem d56_22 : decode (mm_cb 56) 22 = .ok (.getfield 53, 3) := by decide +kernel
theorem d56_25 : decode (mm_cb 56) 25 = .ok (.iload_n 1, 1) := by decide +kernel
theorem d56_26 : decode (mm_cb 56) 26 = .ok (.iload_n 2, 1) := by decide +kernel
theorem d56_27 : decode (mm_cb 56) 27 = .ok (.lload_n 3, 1) := by decide +kernel
theorem d56_28 : decode (mm_cb 56) 28 = .ok (.invokevirtual 140, 3) := by decide +kernel
theorem d56_31 : decode (mm_cb 56) 31 = .ok (.aload_n 0, 1) := by decide +kernel
theorem d56_32 : decode (mm_cb 56) 32 = .ok (.getfield 35, 3) := by decide +kernel
theorem d56_35 : decode (mm_cb 56) 35 = .ok (.invokevirtual 132, 3) := by decide +kernel
theorem d56_38 : decode (mm_cb 56) 38 = .ok (.ireturn, 1) := by decide +kernel
theorem d57_0 : decode (mm_cb 57) 0 = .ok (.aload_n 0, 1) := by decide +kernel
theorem d57_1 : decode (mm_cb 57) 1 = .ok (.getfield 23, 3) := by decide +kernel
theorem d57_4 : decode (mm_cb 57) 4 = .ok (.invokevirtual 27, 3) := by decide +kernel
theorem d57_7 : decode (mm_cb 57) 7 = .ok (.aload_n 0, 1) := by decide +kernel
theorem d57_8 : decode (mm_cb 57) 8 = .ok (.iload_n 1, 1) := by decide +kernel
theorem d57_9 : decode (mm_cb 57) 9 = .ok (.iload_n 2, 1) := by decide +kernel
theorem d57_10 : decode (mm_cb 57) 10 = .ok (.lload_n 3, 1) := by decide +kernel
theorem d57_11 : decode (mm_cb 57) 11 = .ok (.invokevirtual 32, 3) := by decide +kernel
theorem d57_14 : decode (mm_cb 57) 14 = .ok (.return_, 1) := by decide +kernel
theorem d58_0 : decode (mm_cb 58) 0 = .ok (.iload_n 2, 1) := by decide +kernel
theorem d58_1 : decode (mm_cb 58) 1 = .ok (.iconst 1, 1) := by decide +kernel
theorem d58_2 : decode (mm_cb 58) 2 = .ok (.if_icmp .ge 4, 3) := by decide +kernel
theorem d58_5 : decode (mm_cb 58) 5 = .ok (.return_, 1) := by decide +kernel
theorem d58_6 : decode (mm_cb 58) 6 = .ok (.lload_n 3, 1) := by decide +kernel
theorem d58_7 : decode (mm_cb 58) 7 = .ok (.lstore 5, 2) := by decide +kernel
theorem d58_9 : decode (mm_cb 58) 9 = .ok (.iconst 0, 1) := by decide +kernel
theorem d58_10 : decode (mm_cb 58) 10 = .ok (.istore 7, 2) := by decide +kernel
theorem d58_12 : decode (mm_cb 58) 12 = .ok (.iload 7, 2) := by decide +kernel
theorem d58_14 : decode (mm_cb 58) 14 = .ok (.aload_n 0, 1) := by decide +kernel
theorem d58_15 : decode (mm_cb 58) 15 = .ok (.getfield 15, 3) := by decide +kernel
theorem d58_18 : decode (mm_cb 58) 18 = .ok (.iload_n 1, 1) := by decide +kernel
theorem d58_19 : decode (mm_cb 58) 19 = .ok (.invokevirtual 36, 3) := by decide +kernel
theorem d58_22 : decode (mm_cb 58) 22 = .ok (.iconst 1, 1) := by decide +kernel
theorem d58_23 : decode (mm_cb 58) 23 = .ok (.isub, 1) := by decide +kernel
theorem d58_24 : decode (mm_cb 58) 24 = .ok (.if_icmp .ge 54, 3) := by decide +kernel
theorem d58_27 : decode (mm_cb 58) 27 = .ok (.lload 5, 2) := by decide +kernel
theorem d58_29 : decode (mm_cb 58) 29 = .ok (.aload_n 0, 1) := by decide +kernel
theorem d58_30 : decode (mm_cb 58) 30 = .ok (.getfield 19, 3) := by decide +kernel
theorem d58_33 : decode (mm_cb 58) 33 = .ok (.iload_n 1, 1) := by decide +kernel
theorem d58_34 : decode (mm_cb 58) 34 = .ok (.iload 7, 2) := by decide +kernel
theorem d58_36 : decode (mm_cb 58) 36 = .ok (.invokestatic 42, 3) := by decide +kernel
theorem d58_39 : decode (mm_cb 58) 39 = .ok (.iconst 0, 1) := by decide +kernel
theorem d58_40 : decode (mm_cb 58) 40 = .ok (.iload_n 2, 1) := by decide +kernel
theorem d58_41 : decode (mm_cb 58) 41 = .ok (.iconst 1, 1) := by decide +kernel
theorem d58_42 : decode (mm_cb 58) 42 = .ok (.isub, 1) := by decide +kernel
theorem d58_43 : decode (mm_cb 58) 43 = .ok (.invokevirtual 46, 3) := by decide +kernel
theorem d58_46 : decode (mm_cb 58) 46 = .ok (.lcmp, 1) := by decide +kernel
theorem d58_47 : decode (mm_cb 58) 47 = .ok (.ifCond .lt 31, 3) := by decide +kernel
theorem d58_50 : decode (mm_cb 58) 50 = .ok (.lload 5, 2) := by decide +kernel
theorem d58_52 : decode (mm_cb 58) 52 = .ok (.aload_n 0, 1) := by decide +kernel
theorem d58_53 : decode (mm_cb 58) 53 = .ok (.getfield 19, 3) := by decide +kernel
theorem d58_56 : decode (mm_cb 58) 56 = .ok (.iload_n 1, 1) := by decide +kernel
theorem d58_57 : decode (mm_cb 58) 57 = .ok (.iload 7, 2) := by decide +kernel
theorem d58_59 : decode (mm_cb 58) 59 = .ok (.invokestatic 42, 3) := by decide +kernel
theorem d58_62 : decode (mm_cb 58) 62 = .ok (.iconst 0, 1) := by decide +kernel
theorem d58_63 : decode (mm_cb 58) 63 = .ok (.iload_n 2, 1) := by decide +kernel
theorem d58_64 : decode (mm_cb 58) 64 = .ok (.iconst 1, 1) := by decide +kernel
theorem d58_65 : decode (mm_cb 58) 65 = .ok (.isub, 1) := by decide +kernel
theorem d58_66 : decode (mm_cb 58) 66 = .ok (.invokevirtual 46, 3) := by decide +kernel
theorem d58_69 : decode (mm_cb 58) 69 = .ok (.lsub, 1) := by decide +kernel
theorem d58_70 : decode (mm_cb 58) 70 = .ok (.lstore 5, 2) := by decide +kernel
theorem d58_72 : decode (mm_cb 58) 72 = .ok (.iinc 7 1, 3) := by decide +kernel
theorem d58_75 : decode (mm_cb 58) 75 = .ok (.goto (-63), 3) := by decide +kernel
theorem d58_78 : decode (mm_cb 58) 78 = .ok (.aload_n 0, 1) := by decide +kernel
theorem d58_79 : decode (mm_cb 58) 79 = .ok (.getfield 23, 3) := by decide +kernel
theorem d58_82 : decode (mm_cb 58) 82 = .ok (.iload 7, 2) := by decide +kernel
theorem d58_84 : decode (mm_cb 58) 84 = .ok (.invokevirtual 52, 3) := by decide +kernel
theorem d58_87 : decode (mm_cb 58) 87 = .ok (.aload_n 0, 1) := by decide +kernel
theorem d58_88 : decode (mm_cb 58) 88 = .ok (.iload_n 1, 1) := by decide +kernel
theorem d58_89 : decode (mm_cb 58) 89 = .ok (.iload 7, 2) := by decide +kernel
theorem d58_91 : decode (mm_cb 58) 91 = .ok (.invokestatic 42, 3) := by decide +kernel
theorem d58_94 : decode (mm_cb 58) 94 = .ok (.iload_n 2, 1) := by decide +kernel
theorem d58_95 : decode (mm_cb 58) 95 = .ok (.lload 5, 2) := by decide +kernel
theorem d58_97 : decode (mm_cb 58) 97 = .ok (.invokevirtual 56, 3) := by decide +kernel
theorem d58_100 : decode (mm_cb 58) 100 = .ok (.return_, 1) := by decide +kernel
theorem d59_0 : decode (mm_cb 59) 0 = .ok (.aload_n 0, 1) := by decide +kernel
theorem d59_1 : decode (mm_cb 59) 1 = .ok (.iload_n 1, 1) := by decide +kernel
theorem d59_2 : decode (mm_cb 59) 2 = .ok (.iload_n 2, 1) := by decide +kernel
theorem d59_3 : decode (mm_cb 59) 3 = .ok (.lload_n 3, 1) := by decide +kernel
theorem d59_4 : decode (mm_cb 59) 4 = .ok (.invokevirtual 59, 3) := by decide +kernel
theorem d59_7 : decode (mm_cb 59) 7 = .ok (.lstore 5, 2) := by decide +kernel
theorem d59_9 : decode (mm_cb 59) 9 = .ok (.iconst 0, 1) := by decide +kernel
theorem d59_10 : decode (mm_cb 59) 10 = .ok (.istore 7, 2) := by decide +kernel
theorem d59_12 : decode (mm_cb 59) 12 = .ok (.iload 7, 2) := by decide +kernel
theorem d59_14 : decode (mm_cb 59) 14 = .ok (.aload_n 0, 1) := by decide +kernel
theorem d59_15 : decode (mm_cb 59) 15 = .ok (.getfield 15, 3) := by decide +kernel
theorem d59_18 : decode (mm_cb 59) 18 = .ok (.iload_n 1, 1) := by decide +kernel
theorem d59_19 : decode (mm_cb 59) 19 = .ok (.invokevirtual 63, 3) := by decide +kernel
theorem d59_22 : decode (mm_cb 59) 22 = .ok (.if_icmp .ge 63, 3) := by decide +kernel
theorem d59_25 : decode (mm_cb 59) 25 = .ok (.aload_n 0, 1) := by decide +kernel
theorem d59_26 : decode (mm_cb 59) 26 = .ok (.iload_n 1, 1) := by decide +kernel
theorem d59_27 : decode (mm_cb 59) 27 = .ok (.iload_n 2, 1) := by decide +kernel
theorem d59_28 : decode (mm_cb 59) 28 = .ok (.iload 7, 2) := by decide +kernel
theorem d59_30 : decode (mm_cb 59) 30 = .ok (.invokevirtual 66, 3) := by decide +kernel
theorem d59_33 : decode (mm_cb 59) 33 = .ok (.lstore 8, 2) := by decide +kernel
theorem d59_35 : decode (mm_cb 59) 35 = .ok (.lload 8, 2) := by decide +kernel
theorem d59_37 : decode (mm_cb 59) 37 = .ok (.lconst 0, 1) := by decide +kernel
theorem d59_38 : decode (mm_cb 59) 38 = .ok (.lcmp, 1) := by decide +kernel
theorem d59_39 : decode (mm_cb 59) 39 = .ok (.ifCond .le 40, 3) := by decide +kernel
theorem d59_42 : decode (mm_cb 59) 42 = .ok (.aload_n 0, 1) := by decide +kernel
theorem d59_43 : decode (mm_cb 59) 43 = .ok (.aload_n 0, 1) := by decide +kernel
theorem d59_44 : decode (mm_cb 59) 44 = .ok (.getfield 15, 3) := by decide +kernel
theorem d59_47 : decode (mm_cb 59) 47 = .ok (.iload_n 1, 1) := by decide +kernel
theorem d59_48 : decode (mm_cb 59) 48 = .ok (.iload 7, 2) := by decide +kernel
theorem d59_50 : decode (mm_cb 59) 50 = .ok (.invokevirtual 69, 3) := by decide +kernel
theorem d59_53 : decode (mm_cb 59) 53 = .ok (.aload_n 0, 1) := by decide +kernel
theorem d59_54 : decode (mm_cb 59) 54 = .ok (.getfield 9, 3) := by decide +kernel
theorem d59_57 : decode (mm_cb 59) 57 = .ok (.iload_n 2, 1) := by decide +kernel
theorem d59_58 : decode (mm_cb 59) 58 = .ok (.iconst 3, 1) := by decide +kernel
theorem d59_59 : decode (mm_cb 59) 59 = .ok (.imul, 1) := by decide +kernel
theorem d59_60 : decode (mm_cb 59) 60 = .ok (.iload 7, 2) := by decide +kernel
theorem d59_62 : decode (mm_cb 59) 62 = .ok (.iadd, 1) := by decide +kernel
theorem d59_63 : decode (mm_cb 59) 63 = .ok (.iaload, 1) := by decide +kernel
theorem d59_64 : decode (mm_cb 59) 64 = .ok (.lload 5, 2) := by decide +kernel
theorem d59_66 : decode (mm_cb 59) 66 = .ok (.lload 8, 2) := by decide +kernel
theorem d59_68 : decode (mm_cb 59) 68 = .ok (.ldiv, 1) := by decide +kernel
theorem d59_69 : decode (mm_cb 59) 69 = .ok (.invokevirtual 32, 3) := by decide +kernel
theorem d59_72 : decode (mm_cb 59) 72 = .ok (.lload 5, 2) := by decide +kernel
theorem d59_74 : decode (mm_cb 59) 74 = .ok (.lload 8, 2) := by decide +kernel
theorem d59_76 : decode (mm_cb 59) 76 = .ok (.lrem, 1) := by decide +kernel
theorem d59_77 : decode (mm_cb 59) 77 = .ok (.lstore 5, 2) := by decide +kernel
theorem d59_79 : decode (mm_cb 59) 79 = .ok (.iinc 7 1, 3) := by decide +kernel
theorem d59_82 : decode (mm_cb 59) 82 = .ok (.goto (-70), 3) := by decide +kernel
theorem d59_85 : decode (mm_cb 59) 85 = .ok (.return_, 1) := by decide +kernel
theorem d60_0 : decode (mm_cb 60) 0 = .ok (.lload_n 3, 1) := by decide +kernel
theorem d60_1 : decode (mm_cb 60) 1 = .ok (.lstore 5, 2) := by decide +kernel
theorem d60_3 : decode (mm_cb 60) 3 = .ok (.lconst 1, 1) := by decide +kernel
theorem d60_4 : decode (mm_cb 60) 4 = .ok (.lstore 7, 2) := by decide +kernel
theorem d60_6 : decode (mm_cb 60) 6 = .ok (.iload_n 2, 1) := by decide +kernel
theorem d60_7 : decode (mm_cb 60) 7 = .ok (.iconst 1, 1) := by decide +kernel
theorem d60_8 : decode (mm_cb 60) 8 = .ok (.isub, 1) := by decide +kernel
theorem d60_9 : decode (mm_cb 60) 9 = .ok (.istore 9, 2) := by decide +kernel
theorem d60_11 : decode (mm_cb 60) 11 = .ok (.iconst 0, 1) := by decide +kernel
theorem d60_12 : decode (mm_cb 60) 12 = .ok (.istore 10, 2) := by decide +kernel
theorem d60_14 : decode (mm_cb 60) 14 = .ok (.iload 10, 2) := by decide +kernel
theorem d60_16 : decode (mm_cb 60) 16 = .ok (.aload_n 0, 1) := by decide +kernel
theorem d60_17 : decode (mm_cb 60) 17 = .ok (.getfield 15, 3) := by decide +kernel
theorem d60_20 : decode (mm_cb 60) 20 = .ok (.iload_n 1, 1) := by decide +kernel
theorem d60_21 : decode (mm_cb 60) 21 = .ok (.invokevirtual 63, 3) := by decide +kernel
theorem d60_24 : decode (mm_cb 60) 24 = .ok (.if_icmp .ge 120, 3) := by decide +kernel
theorem d60_27 : decode (mm_cb 60) 27 = .ok (.aload_n 0, 1) := by decide +kernel
theorem d60_28 : decode (mm_cb 60) 28 = .ok (.getfield 15, 3) := by decide +kernel
theorem d60_31 : decode (mm_cb 60) 31 = .ok (.iload_n 1, 1) := by decide +kernel
theorem d60_32 : decode (mm_cb 60) 32 = .ok (.iload 10, 2) := by decide +kernel
theorem d60_34 : decode (mm_cb 60) 34 = .ok (.invokevirtual 69, 3) := by decide +kernel
theorem d60_37 : decode (mm_cb 60) 37 = .ok (.istore 11, 2) := by decide +kernel
theorem d60_39 : decode (mm_cb 60) 39 = .ok (.iconst 1, 1) := by decide +kernel
theorem d60_40 : decode (mm_cb 60) 40 = .ok (.istore 12, 2) := by decide +kernel
theorem d60_42 : decode (mm_cb 60) 42 = .ok (.lload 7, 2) := by decide +kernel
theorem d60_44 : decode (mm_cb 60) 44 = .ok (.aload_n 0, 1) := by decide +kernel
theorem d60_45 : decode (mm_cb 60) 45 = .ok (.iload_n 1, 1) := by decide +kernel
theorem d60_46 : decode (mm_cb 60) 46 = .ok (.iload 10, 2) := by decide +kernel
theorem d60_48 : decode (mm_cb 60) 48 = .ok (.iload 12, 2) := by decide +kernel
theorem d60_50 : decode (mm_cb 60) 50 = .ok (.iload 9, 2) := by decide +kernel
theorem d60_52 : decode (mm_cb 60) 52 = .ok (.invokevirtual 72, 3) := by decide +kernel
theorem d60_55 : decode (mm_cb 60) 55 = .ok (.lmul, 1) := by decide +kernel
theorem d60_56 : decode (mm_cb 60) 56 = .ok (.lstore 13, 2) := by decide +kernel
theorem d60_58 : decode (mm_cb 60) 58 = .ok (.iload 12, 2) := by decide +kernel
theorem d60_60 : decode (mm_cb 60) 60 = .ok (.iload 9, 2) := by decide +kernel
theorem d60_62 : decode (mm_cb 60) 62 = .ok (.if_icmp .ge 40, 3) := by decide +kernel
theorem d60_65 : decode (mm_cb 60) 65 = .ok (.lload 5, 2) := by decide +kernel
theorem d60_67 : decode (mm_cb 60) 67 = .ok (.lload 13, 2) := by decide +kernel
theorem d60_69 : decode (mm_cb 60) 69 = .ok (.lcmp, 1) := by decide +kernel
theorem d60_70 : decode (mm_cb 60) 70 = .ok (.ifCond .lt 32, 3) := by decide +kernel
theorem d60_73 : decode (mm_cb 60) 73 = .ok (.lload 5, 2) := by decide +kernel
theorem d60_75 : decode (mm_cb 60) 75 = .ok (.lload 13, 2) := by decide +kernel
theorem d60_77 : decode (mm_cb 60) 77 = .ok (.lsub, 1) := by decide +kernel
theorem d60_78 : decode (mm_cb 60) 78 = .ok (.lstore 5, 2) := by decide +kernel
theorem d60_80 : decode (mm_cb 60) 80 = .ok (.iinc 12 1, 3) := by decide +kernel
theorem d60_83 : decode (mm_cb 60) 83 = .ok (.lload 7, 2) := by decide +kernel
theorem d60_85 : decode (mm_cb 60) 85 = .ok (.aload_n 0, 1) := by decide +kernel
theorem d60_86 : decode (mm_cb 60) 86 = .ok (.iload_n 1, 1) := by decide +kernel
theorem d60_87 : decode (mm_cb 60) 87 = .ok (.iload 10, 2) := by decide +kernel
theorem d60_89 : decode (mm_cb 60) 89 = .ok (.iload 12, 2) := by decide +kernel
theorem d60_91 : decode (mm_cb 60) 91 = .ok (.iload 9, 2) := by decide +kernel
theorem d60_93 : decode (mm_cb 60) 93 = .ok (.invokevirtual 72, 3) := by decide +kernel
theorem d60_96 : decode (mm_cb 60) 96 = .ok (.lmul, 1) := by decide +kernel
theorem d60_97 : decode (mm_cb 60) 97 = .ok (.lstore 13, 2) := by decide +kernel
theorem d60_99 : decode (mm_cb 60) 99 = .ok (.goto (-41), 3) := by decide +kernel
theorem d60_102 : decode (mm_cb 60) 102 = .ok (.aload_n 0, 1) := by decide +kernel
theorem d60_103 : decode (mm_cb 60) 103 = .ok (.getfield 9, 3) := by decide +kernel
theorem d60_106 : decode (mm_cb 60) 106 = .ok (.iload_n 2, 1) := by decide +kernel
theorem d60_107 : decode (mm_cb 60) 107 = .ok (.iconst 3, 1) := by decide +kernel
theorem d60_108 : decode (mm_cb 60) 108 = .ok (.imul, 1) := by decide +kernel
theorem d60_109 : decode (mm_cb 60) 109 = .ok (.iload 10, 2) := by decide +kernel
theorem d60_111 : decode (mm_cb 60) 111 = .ok (.iadd, 1) := by decide +kernel
theorem d60_112 : decode (mm_cb 60) 112 = .ok (.iload 12, 2) := by decide +kernel
theorem d60_114 : decode (mm_cb 60) 114 = .ok (.iastore, 1) := by decide +kernel
theorem d60_115 : decode (mm_cb 60) 115 = .ok (.lload 7, 2) := by decide +kernel
theorem d60_117 : decode (mm_cb 60) 117 = .ok (.aload_n 0, 1) := by decide +kernel
theorem d60_118 : decode (mm_cb 60) 118 = .ok (.getfield 19, 3) := by decide +kernel
theorem d60_121 : decode (mm_cb 60) 121 = .ok (.iload 11, 2) := by decide +kernel
theorem d60_123 : decode (mm_cb 60) 123 = .ok (.iload 12, 2) := by decide +kernel
theorem d60_125 : decode (mm_cb 60) 125 = .ok (.invokevirtual 76, 3) := by decide +kernel
theorem d60_128 : decode (mm_cb 60) 128 = .ok (.lmul, 1) := by decide +kernel
theorem d60_129 : decode (mm_cb 60) 129 = .ok (.lstore 7, 2) := by decide +kernel
theorem d60_131 : decode (mm_cb 60) 131 = .ok (.iload 9, 2) := by decide +kernel
theorem d60_133 : decode (mm_cb 60) 133 = .ok (.iload 12, 2) := by decide +kernel
theorem d60_135 : decode (mm_cb 60) 135 = .ok (.isub, 1) := by decide +kernel
theorem d60_136 : decode (mm_cb 60) 136 = .ok (.istore 9, 2) := by decide +kernel
theorem d60_138 : decode (mm_cb 60) 138 = .ok (.iinc 10 1, 3) := by decide +kernel
theorem d60_141 : decode (mm_cb 60) 141 = .ok (.goto (-127), 3) := by decide +kernel
theorem d60_144 : decode (mm_cb 60) 144 = .ok (.lload 5, 2) := by decide +kernel
theorem d60_146 : decode (mm_cb 60) 146 = .ok (.lreturn, 1) := by decide +kernel
theorem d61_0 : decode (mm_cb 61) 0 = .ok (.iload_n 3, 1) := by decide +kernel
theorem d61_1 : decode (mm_cb 61) 1 = .ok (.iload 4, 2) := by decide +kernel
theorem d61_3 : decode (mm_cb 61) 3 = .ok (.if_icmp .le 5, 3) := by decide +kernel
theorem d61_6 : decode (mm_cb 61) 6 = .ok (.lconst 0, 1) := by decide +kernel
theorem d61_7 : decode (mm_cb 61) 7 = .ok (.lreturn, 1) := by decide +kernel
theorem d61_8 : decode (mm_cb 61) 8 = .ok (.aload_n 0, 1) := by decide +kernel
theorem d61_9 : decode (mm_cb 61) 9 = .ok (.getfield 19, 3) := by decide +kernel
theorem d61_12 : decode (mm_cb 61) 12 = .ok (.aload_n 0, 1) := by decide +kernel
theorem d61_13 : decode (mm_cb 61) 13 = .ok (.getfield 15, 3) := by decide +kernel
theorem d61_16 : decode (mm_cb 61) 16 = .ok (.iload_n 1, 1) := by decide +kernel
theorem d61_17 : decode (mm_cb 61) 17 = .ok (.iload_n 2, 1) := by decide +kernel
theorem d61_18 : decode (mm_cb 61) 18 = .ok (.invokevirtual 69, 3) := by decide +kernel
theorem d61_21 : decode (mm_cb 61) 21 = .ok (.iload_n 3, 1) := by decide +kernel
theorem d61_22 : decode (mm_cb 61) 22 = .ok (.invokevirtual 76, 3) := by decide +kernel
theorem d61_25 : decode (mm_cb 61) 25 = .ok (.aload_n 0, 1) := by decide +kernel
theorem d61_26 : decode (mm_cb 61) 26 = .ok (.getfield 19, 3) := by decide +kernel
theorem d61_29 : decode (mm_cb 61) 29 = .ok (.iload_n 1, 1) := by decide +kernel
theorem d61_30 : decode (mm_cb 61) 30 = .ok (.iload_n 2, 1) := by decide +kernel
theorem d61_31 : decode (mm_cb 61) 31 = .ok (.iconst 1, 1) := by decide +kernel
theorem d61_32 : decode (mm_cb 61) 32 = .ok (.iadd, 1) := by decide +kernel
theorem d61_33 : decode (mm_cb 61) 33 = .ok (.iload 4, 2) := by decide +kernel
theorem d61_35 : decode (mm_cb 61) 35 = .ok (.iload_n 3, 1) := by decide +kernel
theorem d61_36 : decode (mm_cb 61) 36 = .ok (.isub, 1) := by decide +kernel
theorem d61_37 : decode (mm_cb 61) 37 = .ok (.invokevirtual 46, 3) := by decide +kernel
theorem d61_40 : decode (mm_cb 61) 40 = .ok (.lmul, 1) := by decide +kernel
theorem d61_41 : decode (mm_cb 61) 41 = .ok (.lreturn, 1) := by decide +kernel
theorem d62_0 : decode (mm_cb 62) 0 = .ok (.lconst 1, 1) := by decide +kernel
theorem d62_1 : decode (mm_cb 62) 1 = .ok (.lstore 4, 2) := by decide +kernel
theorem d62_3 : decode (mm_cb 62) 3 = .ok (.iload_n 3, 1) := by decide +kernel
theorem d62_4 : decode (mm_cb 62) 4 = .ok (.iconst 1, 1) := by decide +kernel
theorem d62_5 : decode (mm_cb 62) 5 = .ok (.iadd, 1) := by decide +kernel
theorem d62_6 : decode (mm_cb 62) 6 = .ok (.istore 6, 2) := by decide +kernel
theorem d62_8 : decode (mm_cb 62) 8 = .ok (.iload 6, 2) := by decide +kernel
theorem d62_10 : decode (mm_cb 62) 10 = .ok (.aload_n 0, 1) := by decide +kernel
theorem d62_11 : decode (mm_cb 62) 11 = .ok (.getfield 15, 3) := by decide +kernel
theorem d62_14 : decode (mm_cb 62) 14 = .ok (.iload_n 1, 1) := by decide +kernel
theorem d62_15 : decode (mm_cb 62) 15 = .ok (.invokevirtual 63, 3) := by decide +kernel
theorem d62_18 : decode (mm_cb 62) 18 = .ok (.if_icmp .ge 42, 3) := by decide +kernel
theorem d62_21 : decode (mm_cb 62) 21 = .ok (.lload 4, 2) := by decide +kernel
theorem d62_23 : decode (mm_cb 62) 23 = .ok (.aload_n 0, 1) := by decide +kernel
theorem d62_24 : decode (mm_cb 62) 24 = .ok (.getfield 19, 3) := by decide +kernel
theorem d62_27 : decode (mm_cb 62) 27 = .ok (.aload_n 0, 1) := by decide +kernel
theorem d62_28 : decode (mm_cb 62) 28 = .ok (.getfield 15, 3) := by decide +kernel
theorem d62_31 : decode (mm_cb 62) 31 = .ok (.iload_n 1, 1) := by decide +kernel
theorem d62_32 : decode (mm_cb 62) 32 = .ok (.iload 6, 2) := by decide +kernel
theorem d62_34 : decode (mm_cb 62) 34 = .ok (.invokevirtual 69, 3) := by decide +kernel
theorem d62_37 : decode (mm_cb 62) 37 = .ok (.aload_n 0, 1) := by decide +kernel
theorem d62_38 : decode (mm_cb 62) 38 = .ok (.getfield 9, 3) := by decide +kernel
theorem d62_41 : decode (mm_cb 62) 41 = .ok (.iload_n 2, 1) := by decide +kernel
theorem d62_42 : decode (mm_cb 62) 42 = .ok (.iconst 3, 1) := by decide +kernel
theorem d62_43 : decode (mm_cb 62) 43 = .ok (.imul, 1) := by decide +kernel
theorem d62_44 : decode (mm_cb 62) 44 = .ok (.iload 6, 2) := by decide +kernel
theorem d62_46 : decode (mm_cb 62) 46 = .ok (.iadd, 1) := by decide +kernel
theorem d62_47 : decode (mm_cb 62) 47 = .ok (.iaload, 1) := by decide +kernel
theorem d62_48 : decode (mm_cb 62) 48 = .ok (.invokevirtual 76, 3) := by decide +kernel
theorem d62_51 : decode (mm_cb 62) 51 = .ok (.lmul, 1) := by decide +kernel
theorem d62_52 : decode (mm_cb 62) 52 = .ok (.lstore 4, 2) := by decide +kernel
theorem d62_54 : decode (mm_cb 62) 54 = .ok (.iinc 6 1, 3) := by decide +kernel
theorem d62_57 : decode (mm_cb 62) 57 = .ok (.goto (-49), 3) := by decide +kernel
theorem d62_60 : decode (mm_cb 62) 60 = .ok (.lload 4, 2) := by decide +kernel
theorem d62_62 : decode (mm_cb 62) 62 = .ok (.lreturn, 1) := by decide +kernel
theorem d63_0 : decode (mm_cb 63) 0 = .ok (.aload_n 3, 1) := by decide +kernel
theorem d63_1 : decode (mm_cb 63) 1 = .ok (.iconst 0, 1) := by decide +kernel
theorem d63_2 : decode (mm_cb 63) 2 = .ok (.aload_n 0, 1) := by decide +kernel
theorem d63_3 : decode (mm_cb 63) 3 = .ok (.iload_n 1, 1) := by decide +kernel
theorem d63_4 : decode (mm_cb 63) 4 = .ok (.iload_n 2, 1) := by decide +kernel
theorem d63_5 : decode (mm_cb 63) 5 = .ok (.invokevirtual 33, 3) := by decide +kernel
theorem d63_8 : decode (mm_cb 63) 8 = .ok (.i2l, 1) := by decide +kernel
theorem d63_9 : decode (mm_cb 63) 9 = .ok (.lastore, 1) := by decide +kernel
theorem d63_10 : decode (mm_cb 63) 10 = .ok (.goto 11, 3) := by decide +kernel
theorem d63_13 : decode (mm_cb 63) 13 = .ok (.astore 4, 2) := by decide +kernel
theorem d63_15 : decode (mm_cb 63) 15 = .ok (.iconst 1, 1) := by decide +kernel
theorem d63_16 : decode (mm_cb 63) 16 = .ok (.ireturn, 1) := by decide +kernel
theorem d63_17 : decode (mm_cb 63) 17 = .ok (.astore 4, 2) := by decide +kernel
theorem d63_19 : decode (mm_cb 63) 19 = .ok (.iconst 2, 1) := by decide +kernel
theorem d63_20 : decode (mm_cb 63) 20 = .ok (.ireturn, 1) := by decide +kernel
theorem d63_21 : decode (mm_cb 63) 21 = .ok (.iconst 0, 1) := by decide +kernel
theorem d63_22 : decode (mm_cb 63) 22 = .ok (.ireturn, 1) := by decide +kernel
theorem d64_0 : decode (mm_cb 64) 0 = .ok (.iload_n 1, 1) := by decide +kernel
theorem d64_1 : decode (mm_cb 64) 1 = .ok (.invokestatic 146, 3) := by decide +kernel
theorem d64_4 : decode (mm_cb 64) 4 = .ok (.iload_n 2, 1) := by decide +kernel
theorem d64_5 : decode (mm_cb 64) 5 = .ok (.ifCond .lt 8, 3) := by decide +kernel
theorem d64_8 : decode (mm_cb 64) 8 = .ok (.iload_n 2, 1) := by decide +kernel
theorem d64_9 : decode (mm_cb 64) 9 = .ok (.iconst 4, 1) := by decide +kernel
theorem d64_10 : decode (mm_cb 64) 10 = .ok (.if_icmp .lt 13, 3) := by decide +kernel
theorem d64_13 : decode (mm_cb 64) 13 = .ok (.new 85, 3) := by decide +kernel
theorem d64_16 : decode (mm_cb 64) 16 = .ok (.dup, 1) := by decide +kernel
theorem d64_17 : decode (mm_cb 64) 17 = .ok (.ldc 149, 2) := by decide +kernel
theorem d64_19 : decode (mm_cb 64) 19 = .ok (.invokespecial 89, 3) := by decide +kernel
theorem d64_22 : decode (mm_cb 64) 22 = .ok (.athrow, 1) := by decide +kernel
theorem d64_23 : decode (mm_cb 64) 23 = .ok (.aload_n 0, 1) := by decide +kernel
theorem d64_24 : decode (mm_cb 64) 24 = .ok (.invokevirtual 151, 3) := by decide +kernel
theorem d64_27 : decode (mm_cb 64) 27 = .ok (.aload_n 0, 1) := by decide +kernel
theorem d64_28 : decode (mm_cb 64) 28 = .ok (.getfield 60, 3) := by decide +kernel
theorem d64_31 : decode (mm_cb 64) 31 = .ok (.iconst 3, 1) := by decide +kernel
theorem d64_32 : decode (mm_cb 64) 32 = .ok (.iload_n 1, 1) := by decide +kernel
theorem d64_33 : decode (mm_cb 64) 33 = .ok (.iload_n 2, 1) := by decide +kernel
theorem d64_34 : decode (mm_cb 64) 34 = .ok (.invokevirtual 154, 3) := by decide +kernel
theorem d64_37 : decode (mm_cb 64) 37 = .ok (.ireturn, 1) := by decide +kernel
theorem d65_0 : decode (mm_cb 65) 0 = .ok (.iload_n 0, 1) := by decide +kernel
theorem d65_1 : decode (mm_cb 65) 1 = .ok (.invokestatic 223, 3) := by decide +kernel
theorem d65_4 : decode (mm_cb 65) 4 = .ok (.ifCond .ne 13, 3) := by decide +kernel
theorem d65_7 : decode (mm_cb 65) 7 = .ok (.new 85, 3) := by decide +kernel
theorem d65_10 : decode (mm_cb 65) 10 = .ok (.dup, 1) := by decide +kernel
theorem d65_11 : decode (mm_cb 65) 11 = .ok (.ldc 229, 2) := by decide +kernel
theorem d65_13 : decode (mm_cb 65) 13 = .ok (.invokespecial 89, 3) := by decide +kernel
theorem d65_16 : decode (mm_cb 65) 16 = .ok (.athrow, 1) := by decide +kernel
theorem d65_17 : decode (mm_cb 65) 17 = .ok (.return_, 1) := by decide +kernel
theorem d66_0 : decode (mm_cb 66) 0 = .ok (.iload_n 0, 1) := by decide +kernel
theorem d66_1 : decode (mm_cb 66) 1 = .ok (.ifCond .lt 10, 3) := by decide +kernel
theorem d66_4 : decode (mm_cb 66) 4 = .ok (.iload_n 0, 1) := by decide +kernel
theorem d66_5 : decode (mm_cb 66) 5 = .ok (.sipush 256, 3) := by decide +kernel
theorem d66_8 : decode (mm_cb 66) 8 = .ok (.if_icmp .lt 5, 3) := by decide +kernel
theorem d66_11 : decode (mm_cb 66) 11 = .ok (.iconst 0, 1) := by decide +kernel
theorem d66_12 : decode (mm_cb 66) 12 = .ok (.ireturn, 1) := by decide +kernel
theorem d66_13 : decode (mm_cb 66) 13 = .ok (.iload_n 0, 1) := by decide +kernel
theorem d66_14 : decode (mm_cb 66) 14 = .ok (.istore_n 1, 1) := by decide +kernel
theorem d66_15 : decode (mm_cb 66) 15 = .ok (.iload_n 1, 1) := by decide +kernel
theorem d66_16 : decode (mm_cb 66) 16 = .ok (.ifCond .le 18, 3) := by decide +kernel
theorem d66_19 : decode (mm_cb 66) 19 = .ok (.iload_n 1, 1) := by decide +kernel
theorem d66_20 : decode (mm_cb 66) 20 = .ok (.iconst 3, 1) := by decide +kernel
theorem d66_21 : decode (mm_cb 66) 21 = .ok (.iand, 1) := by decide +kernel
theorem d66_22 : decode (mm_cb 66) 22 = .ok (.ifCond .ne 5, 3) := by decide +kernel
theorem d66_25 : decode (mm_cb 66) 25 = .ok (.iconst 0, 1) := by decide +kernel
theorem d66_26 : decode (mm_cb 66) 26 = .ok (.ireturn, 1) := by decide +kernel
theorem d66_27 : decode (mm_cb 66) 27 = .ok (.iload_n 1, 1) := by decide +kernel
theorem d66_28 : decode (mm_cb 66) 28 = .ok (.iconst 2, 1) := by decide +kernel
theorem d66_29 : decode (mm_cb 66) 29 = .ok (.ishr, 1) := by decide +kernel
theorem d66_30 : decode (mm_cb 66) 30 = .ok (.istore_n 1, 1) := by decide +kernel
theorem d66_31 : decode (mm_cb 66) 31 = .ok (.goto (-16), 3) := by decide +kernel
theorem d66_34 : decode (mm_cb 66) 34 = .ok (.iconst 1, 1) := by decide +kernel
theorem d66_35 : decode (mm_cb 66) 35 = .ok (.ireturn, 1) := by decide +kernel
theorem d67_0 : decode (mm_cb 67) 0 = .ok (.aload_n 0, 1) := by decide +kernel
theorem d67_1 : decode (mm_cb 67) 1 = .ok (.getfield 60, 3) := by decide +kernel
theorem d67_4 : decode (mm_cb 67) 4 = .ok (.invokevirtual 231, 3) := by decide +kernel
theorem d67_7 : decode (mm_cb 67) 7 = .ok (.bipush 20, 2) := by decide +kernel
theorem d67_9 : decode (mm_cb 67) 9 = .ok (.if_icmp .lt 13, 3) := by decide +kernel
theorem d67_12 : decode (mm_cb 67) 12 = .ok (.new 100, 3) := by decide +kernel
theorem d67_15 : decode (mm_cb 67) 15 = .ok (.dup, 1) := by decide +kernel
theorem d67_16 : decode (mm_cb 67) 16 = .ok (.ldc 234, 2) := by decide +kernel
theorem d67_18 : decode (mm_cb 67) 18 = .ok (.invokespecial 104, 3) := by decide +kernel
theorem d67_21 : decode (mm_cb 67) 21 = .ok (.athrow, 1) := by decide +kernel
theorem d67_22 : decode (mm_cb 67) 22 = .ok (.return_, 1) := by decide +kernel
theorem d68_0 : decode (mm_cb 68) 0 = .ok (.aload_n 0, 1) := by decide +kernel
theorem d68_1 : decode (mm_cb 68) 1 = .ok (.getfield 24, 3) := by decide +kernel
theorem d68_4 : decode (mm_cb 68) 4 = .ok (.ireturn, 1) := by decide +kernel
theorem d69_0 : decode (mm_cb 69) 0 = .ok (.aload_n 0, 1) := by decide +kernel
theorem d69_1 : decode (mm_cb 69) 1 = .ok (.getfield 9, 3) := by decide +kernel
theorem d69_4 : decode (mm_cb 69) 4 = .ok (.aload_n 0, 1) := by decide +kernel
theorem d69_5 : decode (mm_cb 69) 5 = .ok (.getfield 24, 3) := by decide +kernel
theorem d69_8 : decode (mm_cb 69) 8 = .ok (.iload_n 1, 1) := by decide +kernel
theorem d69_9 : decode (mm_cb 69) 9 = .ok (.iastore, 1) := by decide +kernel
theorem d69_10 : decode (mm_cb 69) 10 = .ok (.aload_n 0, 1) := by decide +kernel
theorem d69_11 : decode (mm_cb 69) 11 = .ok (.getfield 15, 3) := by decide +kernel
theorem d69_14 : decode (mm_cb 69) 14 = .ok (.aload_n 0, 1) := by decide +kernel
theorem d69_15 : decode (mm_cb 69) 15 = .ok (.getfield 24, 3) := by decide +kernel
theorem d69_18 : decode (mm_cb 69) 18 = .ok (.iload_n 2, 1) := by decide +kernel
theorem d69_19 : decode (mm_cb 69) 19 = .ok (.iastore, 1) := by decide +kernel
theorem d69_20 : decode (mm_cb 69) 20 = .ok (.aload_n 0, 1) := by decide +kernel
theorem d69_21 : decode (mm_cb 69) 21 = .ok (.getfield 18, 3) := by decide +kernel
theorem d69_24 : decode (mm_cb 69) 24 = .ok (.aload_n 0, 1) := by decide +kernel
theorem d69_25 : decode (mm_cb 69) 25 = .ok (.getfield 24, 3) := by decide +kernel
theorem d69_28 : decode (mm_cb 69) 28 = .ok (.iload_n 3, 1) := by decide +kernel
theorem d69_29 : decode (mm_cb 69) 29 = .ok (.iastore, 1) := by decide +kernel
theorem d69_30 : decode (mm_cb 69) 30 = .ok (.aload_n 0, 1) := by decide +kernel
theorem d69_31 : decode (mm_cb 69) 31 = .ok (.getfield 21, 3) := by decide +kernel
theorem d69_34 : decode (mm_cb 69) 34 = .ok (.aload_n 0, 1) := by decide +kernel
theorem d69_35 : decode (mm_cb 69) 35 = .ok (.getfield 28, 3) := by decide +kernel
theorem d69_38 : decode (mm_cb 69) 38 = .ok (.aload_n 0, 1) := by decide +kernel
theorem d69_39 : decode (mm_cb 69) 39 = .ok (.getfield 24, 3) := by decide +kernel
theorem d69_42 : decode (mm_cb 69) 42 = .ok (.iastore, 1) := by decide +kernel
theorem d69_43 : decode (mm_cb 69) 43 = .ok (.aload_n 0, 1) := by decide +kernel
theorem d69_44 : decode (mm_cb 69) 44 = .ok (.dup, 1) := by decide +kernel
theorem d69_45 : decode (mm_cb 69) 45 = .ok (.getfield 24, 3) := by decide +kernel
theorem d69_48 : decode (mm_cb 69) 48 = .ok (.iconst 1, 1) := by decide +kernel
theorem d69_49 : decode (mm_cb 69) 49 = .ok (.iadd, 1) := by decide +kernel
theorem d69_50 : decode (mm_cb 69) 50 = .ok (.putfield 24, 3) := by decide +kernel
theorem d69_53 : decode (mm_cb 69) 53 = .ok (.aload_n 0, 1) := by decide +kernel
theorem d69_54 : decode (mm_cb 69) 54 = .ok (.dup, 1) := by decide +kernel
theorem d69_55 : decode (mm_cb 69) 55 = .ok (.getfield 28, 3) := by decide +kernel
theorem d69_58 : decode (mm_cb 69) 58 = .ok (.iconst 1, 1) := by decide +kernel
theorem d69_59 : decode (mm_cb 69) 59 = .ok (.iadd, 1) := by decide +kernel
theorem d69_60 : decode (mm_cb 69) 60 = .ok (.putfield 28, 3) := by decide +kernel
theorem d69_63 : decode (mm_cb 69) 63 = .ok (.aload_n 0, 1) := by decide +kernel
theorem d69_64 : decode (mm_cb 69) 64 = .ok (.getfield 28, 3) := by decide +kernel
theorem d69_67 : decode (mm_cb 69) 67 = .ok (.ireturn, 1) := by decide +kernel
theorem d70_0 : decode (mm_cb 70) 0 = .ok (.aload_n 3, 1) := by decide +kernel
theorem d70_1 : decode (mm_cb 70) 1 = .ok (.iconst 0, 1) := by decide +kernel
theorem d70_2 : decode (mm_cb 70) 2 = .ok (.aload_n 0, 1) := by decide +kernel
theorem d70_3 : decode (mm_cb 70) 3 = .ok (.iload_n 1, 1) := by decide +kernel
theorem d70_4 : decode (mm_cb 70) 4 = .ok (.iload_n 2, 1) := by decide +kernel
theorem d70_5 : decode (mm_cb 70) 5 = .ok (.invokevirtual 37, 3) := by decide +kernel
theorem d70_8 : decode (mm_cb 70) 8 = .ok (.i2l, 1) := by decide +kernel
theorem d70_9 : decode (mm_cb 70) 9 = .ok (.lastore, 1) := by decide +kernel
theorem d70_10 : decode (mm_cb 70) 10 = .ok (.goto 11, 3) := by decide +kernel
theorem d70_13 : decode (mm_cb 70) 13 = .ok (.astore 4, 2) := by decide +kernel
theorem d70_15 : decode (mm_cb 70) 15 = .ok (.iconst 1, 1) := by decide +kernel
theorem d70_16 : decode (mm_cb 70) 16 = .ok (.ireturn, 1) := by decide +kernel
theorem d70_17 : decode (mm_cb 70) 17 = .ok (.astore 4, 2) := by decide +kernel
theorem d70_19 : decode (mm_cb 70) 19 = .ok (.iconst 2, 1) := by decide +kernel
theorem d70_20 : decode (mm_cb 70) 20 = .ok (.ireturn, 1) := by decide +kernel
theorem d70_21 : decode (mm_cb 70) 21 = .ok (.iconst 0, 1) := by decide +kernel
theorem d70_22 : decode (mm_cb 70) 22 = .ok (.ireturn, 1) := by decide +kernel
theorem d71_0 : decode (mm_cb 71) 0 = .ok (.iload_n 1, 1) := by decide +kernel
theorem d71_1 : decode (mm_cb 71) 1 = .ok (.invokestatic 146, 3) := by decide +kernel
theorem d71_4 : decode (mm_cb 71) 4 = .ok (.iload_n 2, 1) := by decide +kernel
theorem d71_5 : decode (mm_cb 71) 5 = .ok (.invokestatic 146, 3) := by decide +kernel
theorem d71_8 : decode (mm_cb 71) 8 = .ok (.aload_n 0, 1) := by decide +kernel
theorem d71_9 : decode (mm_cb 71) 9 = .ok (.invokevirtual 151, 3) := by decide +kernel
theorem d71_12 : decode (mm_cb 71) 12 = .ok (.aload_n 0, 1) := by decide +kernel
theorem d71_13 : decode (mm_cb 71) 13 = .ok (.getfield 60, 3) := by decide +kernel
theorem d71_16 : decode (mm_cb 71) 16 = .ok (.iconst 4, 1) := by decide +kernel
theorem d71_17 : decode (mm_cb 71) 17 = .ok (.iload_n 1, 1) := by decide +kernel
theorem d71_18 : decode (mm_cb 71) 18 = .ok (.iload_n 2, 1) := by decide +kernel
theorem d71_19 : decode (mm_cb 71) 19 = .ok (.invokevirtual 154, 3) := by decide +kernel
theorem d71_22 : decode (mm_cb 71) 22 = .ok (.ireturn, 1) := by decide +kernel
theorem d72_0 : decode (mm_cb 72) 0 = .ok (.aload_n 2, 1) := by decide +kernel
theorem d72_1 : decode (mm_cb 72) 1 = .ok (.iconst 0, 1) := by decide +kernel
theorem d72_2 : decode (mm_cb 72) 2 = .ok (.aload_n 0, 1) := by decide +kernel
theorem d72_3 : decode (mm_cb 72) 3 = .ok (.iload_n 1, 1) := by decide +kernel
theorem d72_4 : decode (mm_cb 72) 4 = .ok (.invokevirtual 40, 3) := by decide +kernel
theorem d72_7 : decode (mm_cb 72) 7 = .ok (.i2l, 1) := by decide +kernel
theorem d72_8 : decode (mm_cb 72) 8 = .ok (.lastore, 1) := by decide +kernel
theorem d72_9 : decode (mm_cb 72) 9 = .ok (.goto 9, 3) := by decide +kernel
theorem d72_12 : decode (mm_cb 72) 12 = .ok (.astore_n 3, 1) := by decide +kernel
theorem d72_13 : decode (mm_cb 72) 13 = .ok (.iconst 1, 1) := by decide +kernel
theorem d72_14 : decode (mm_cb 72) 14 = .ok (.ireturn, 1) := by decide +kernel
theorem d72_15 : decode (mm_cb 72) 15 = .ok (.astore_n 3, 1) := by decide +kernel
theorem d72_16 : decode (mm_cb 72) 16 = .ok (.iconst 2, 1) := by decide +kernel
theorem d72_17 : decode (mm_cb 72) 17 = .ok (.ireturn, 1) := by decide +kernel
theorem d72_18 : decode (mm_cb 72) 18 = .ok (.iconst 0, 1) := by decide +kernel
theorem d72_19 : decode (mm_cb 72) 19 = .ok (.ireturn, 1) := by decide +kernel
theorem d73_0 : decode (mm_cb 73) 0 = .ok (.iload_n 1, 1) := by decide +kernel
theorem d73_1 : decode (mm_cb 73) 1 = .ok (.ifCond .lt 8, 3) := by decide +kernel
theorem d73_4 : decode (mm_cb 73) 4 = .ok (.iload_n 1, 1) := by decide +kernel
theorem d73_5 : decode (mm_cb 73) 5 = .ok (.iconst 2, 1) := by decide +kernel
theorem d73_6 : decode (mm_cb 73) 6 = .ok (.if_icmp .le 13, 3) := by decide +kernel
theorem d73_9 : decode (mm_cb 73) 9 = .ok (.new 85, 3) := by decide +kernel
theorem d73_12 : decode (mm_cb 73) 12 = .ok (.dup, 1) := by decide +kernel
theorem d73_13 : decode (mm_cb 73) 13 = .ok (.ldc 158, 2) := by decide +kernel
theorem d73_15 : decode (mm_cb 73) 15 = .ok (.invokespecial 89, 3) := by decide +kernel
theorem d73_18 : decode (mm_cb 73) 18 = .ok (.athrow, 1) := by decide +kernel
theorem d73_19 : decode (mm_cb 73) 19 = .ok (.aload_n 0, 1) := by decide +kernel
theorem d73_20 : decode (mm_cb 73) 20 = .ok (.getfield 60, 3) := by decide +kernel
theorem d73_23 : decode (mm_cb 73) 23 = .ok (.invokevirtual 160, 3) := by decide +kernel
theorem d73_26 : decode (mm_cb 73) 26 = .ok (.iload_n 1, 1) := by decide +kernel
theorem d73_27 : decode (mm_cb 73) 27 = .ok (.invokestatic 163, 3) := by decide +kernel
theorem d73_30 : decode (mm_cb 73) 30 = .ok (.if_icmp .ge 13, 3) := by decide +kernel
theorem d73_33 : decode (mm_cb 73) 33 = .ok (.new 100, 3) := by decide +kernel
theorem d73_36 : decode (mm_cb 73) 36 = .ok (.dup, 1) := by decide +kernel
theorem d73_37 : decode (mm_cb 73) 37 = .ok (.ldc 166, 2) := by decide +kernel
theorem d73_39 : decode (mm_cb 73) 39 = .ok (.invokespecial 104, 3) := by decide +kernel
theorem d73_42 : decode (mm_cb 73) 42 = .ok (.athrow, 1) := by decide +kernel
theorem d73_43 : decode (mm_cb 73) 43 = .ok (.aload_n 0, 1) := by decide +kernel
theorem d73_44 : decode (mm_cb 73) 44 = .ok (.invokevirtual 151, 3) := by decide +kernel
theorem d73_47 : decode (mm_cb 73) 47 = .ok (.aload_n 0, 1) := by decide +kernel
theorem d73_48 : decode (mm_cb 73) 48 = .ok (.getfield 60, 3) := by decide +kernel
theorem d73_51 : decode (mm_cb 73) 51 = .ok (.iload_n 1, 1) := by decide +kernel
theorem d73_52 : decode (mm_cb 73) 52 = .ok (.invokevirtual 168, 3) := by decide +kernel
theorem d73_55 : decode (mm_cb 73) 55 = .ok (.ireturn, 1) := by decide +kernel
theorem d74_0 : decode (mm_cb 74) 0 = .ok (.aload_n 0, 1) := by decide +kernel
theorem d74_1 : decode (mm_cb 74) 1 = .ok (.getfield 28, 3) := by decide +kernel
theorem d74_4 : decode (mm_cb 74) 4 = .ok (.ireturn, 1) := by decide +kernel
theorem d75_0 : decode (mm_cb 75) 0 = .ok (.iload_n 0, 1) := by decide +kernel
theorem d75_1 : decode (mm_cb 75) 1 = .ok (.iconst 2, 1) := by decide +kernel
theorem d75_2 : decode (mm_cb 75) 2 = .ok (.if_icmp .ne 7, 3) := by decide +kernel
theorem d75_5 : decode (mm_cb 75) 5 = .ok (.iconst 1, 1) := by decide +kernel
theorem d75_6 : decode (mm_cb 75) 6 = .ok (.goto 4, 3) := by decide +kernel
theorem d75_9 : decode (mm_cb 75) 9 = .ok (.iconst 2, 1) := by decide +kernel
theorem d75_10 : decode (mm_cb 75) 10 = .ok (.ireturn, 1) := by decide +kernel
theorem d76_0 : decode (mm_cb 76) 0 = .ok (.aload_n 0, 1) := by decide +kernel
theorem d76_1 : decode (mm_cb 76) 1 = .ok (.getfield 21, 3) := by decide +kernel
theorem d76_4 : decode (mm_cb 76) 4 = .ok (.aload_n 0, 1) := by decide +kernel
theorem d76_5 : decode (mm_cb 76) 5 = .ok (.getfield 28, 3) := by decide +kernel
theorem d76_8 : decode (mm_cb 76) 8 = .ok (.iload_n 1, 1) := by decide +kernel
theorem d76_9 : decode (mm_cb 76) 9 = .ok (.invokestatic 31, 3) := by decide +kernel
theorem d76_12 : decode (mm_cb 76) 12 = .ok (.isub, 1) := by decide +kernel
theorem d76_13 : decode (mm_cb 76) 13 = .ok (.iaload, 1) := by decide +kernel
theorem d76_14 : decode (mm_cb 76) 14 = .ok (.istore_n 2, 1) := by decide +kernel
theorem d76_15 : decode (mm_cb 76) 15 = .ok (.aload_n 0, 1) := by decide +kernel
theorem d76_16 : decode (mm_cb 76) 16 = .ok (.getfield 21, 3) := by decide +kernel
theorem d76_19 : decode (mm_cb 76) 19 = .ok (.aload_n 0, 1) := by decide +kernel
theorem d76_20 : decode (mm_cb 76) 20 = .ok (.getfield 28, 3) := by decide +kernel
theorem d76_23 : decode (mm_cb 76) 23 = .ok (.iconst 1, 1) := by decide +kernel
theorem d76_24 : decode (mm_cb 76) 24 = .ok (.isub, 1) := by decide +kernel
theorem d76_25 : decode (mm_cb 76) 25 = .ok (.iaload, 1) := by decide +kernel
theorem d76_26 : decode (mm_cb 76) 26 = .ok (.istore_n 3, 1) := by decide +kernel
theorem d76_27 : decode (mm_cb 76) 27 = .ok (.aload_n 0, 1) := by decide +kernel
theorem d76_28 : decode (mm_cb 76) 28 = .ok (.dup, 1) := by decide +kernel
theorem d76_29 : decode (mm_cb 76) 29 = .ok (.getfield 28, 3) := by decide +kernel
theorem d76_32 : decode (mm_cb 76) 32 = .ok (.iload_n 1, 1) := by decide +kernel
theorem d76_33 : decode (mm_cb 76) 33 = .ok (.invokestatic 31, 3) := by decide +kernel
theorem d76_36 : decode (mm_cb 76) 36 = .ok (.isub, 1) := by decide +kernel
theorem d76_37 : decode (mm_cb 76) 37 = .ok (.putfield 28, 3) := by decide +kernel
theorem d76_40 : decode (mm_cb 76) 40 = .ok (.aload_n 0, 1) := by decide +kernel
theorem d76_41 : decode (mm_cb 76) 41 = .ok (.iload_n 1, 1) := by decide +kernel
theorem d76_42 : decode (mm_cb 76) 42 = .ok (.iload_n 2, 1) := by decide +kernel
theorem d76_43 : decode (mm_cb 76) 43 = .ok (.iload_n 3, 1) := by decide +kernel
theorem d76_44 : decode (mm_cb 76) 44 = .ok (.invokevirtual 35, 3) := by decide +kernel
theorem d76_47 : decode (mm_cb 76) 47 = .ok (.ireturn, 1) := by decide +kernel
theorem d77_0 : decode (mm_cb 77) 0 = .ok (.aload_n 3, 1) := by decide +kernel
theorem d77_1 : decode (mm_cb 77) 1 = .ok (.iconst 0, 1) := by decide +kernel
theorem d77_2 : decode (mm_cb 77) 2 = .ok (.aload_n 0, 1) := by decide +kernel
theorem d77_3 : decode (mm_cb 77) 3 = .ok (.iload_n 1, 1) := by decide +kernel
theorem d77_4 : decode (mm_cb 77) 4 = .ok (.iload_n 2, 1) := by decide +kernel
theorem d77_5 : decode (mm_cb 77) 5 = .ok (.invokevirtual 44, 3) := by decide +kernel
theorem d77_8 : decode (mm_cb 77) 8 = .ok (.i2l, 1) := by decide +kernel
theorem d77_9 : decode (mm_cb 77) 9 = .ok (.lastore, 1) := by decide +kernel
theorem d77_10 : decode (mm_cb 77) 10 = .ok (.goto 15, 3) := by decide +kernel
theorem d77_13 : decode (mm_cb 77) 13 = .ok (.astore 4, 2) := by decide +kernel
theorem d77_15 : decode (mm_cb 77) 15 = .ok (.iconst 1, 1) := by decide +kernel
theorem d77_16 : decode (mm_cb 77) 16 = .ok (.ireturn, 1) := by decide +kernel
theorem d77_17 : decode (mm_cb 77) 17 = .ok (.astore 4, 2) := by decide +kernel
theorem d77_19 : decode (mm_cb 77) 19 = .ok (.iconst 2, 1) := by decide +kernel
theorem d77_20 : decode (mm_cb 77) 20 = .ok (.ireturn, 1) := by decide +kernel
theorem d77_21 : decode (mm_cb 77) 21 = .ok (.astore 4, 2) := by decide +kernel
theorem d77_23 : decode (mm_cb 77) 23 = .ok (.iconst 3, 1) := by decide +kernel
theorem d77_24 : decode (mm_cb 77) 24 = .ok (.ireturn, 1) := by decide +kernel
theorem d77_25 : decode (mm_cb 77) 25 = .ok (.iconst 0, 1) := by decide +kernel
theorem d77_26 : decode (mm_cb 77) 26 = .ok (.ireturn, 1) := by decide +kernel
theorem d78_0 : decode (mm_cb 78) 0 = .ok (.iload_n 1, 1) := by decide +kernel
theorem d78_1 : decode (mm_cb 78) 1 = .ok (.invokestatic 81, 3) := by decide +kernel
theorem d78_4 : decode (mm_cb 78) 4 = .ok (.iload_n 2, 1) := by decide +kernel
theorem d78_5 : decode (mm_cb 78) 5 = .ok (.invokestatic 113, 3) := by decide +kernel
theorem d78_8 : decode (mm_cb 78) 8 = .ok (.aload_n 0, 1) := by decide +kernel
theorem d78_9 : decode (mm_cb 78) 9 = .ok (.invokevirtual 174, 3) := by decide +kernel
theorem d78_12 : decode (mm_cb 78) 12 = .ok (.aload_n 0, 1) := by decide +kernel
theorem d78_13 : decode (mm_cb 78) 13 = .ok (.getfield 21, 3) := by decide +kernel
theorem d78_16 : decode (mm_cb 78) 16 = .ok (.iload_n 1, 1) := by decide +kernel
theorem d78_17 : decode (mm_cb 78) 17 = .ok (.iload_n 2, 1) := by decide +kernel
theorem d78_18 : decode (mm_cb 78) 18 = .ok (.invokevirtual 116, 3) := by decide +kernel
theorem d78_21 : decode (mm_cb 78) 21 = .ok (.lstore_n 3, 1) := by decide +kernel
theorem d78_22 : decode (mm_cb 78) 22 = .ok (.lload_n 3, 1) := by decide +kernel
theorem d78_23 : decode (mm_cb 78) 23 = .ok (.ldc2_w 177, 3) := by decide +kernel
theorem d78_26 : decode (mm_cb 78) 26 = .ok (.lcmp, 1) := by decide +kernel
theorem d78_27 : decode (mm_cb 78) 27 = .ok (.ifCond .le 13, 3) := by decide +kernel
theorem d78_30 : decode (mm_cb 78) 30 = .ok (.new 100, 3) := by decide +kernel
theorem d78_33 : decode (mm_cb 78) 33 = .ok (.dup, 1) := by decide +kernel
theorem d78_34 : decode (mm_cb 78) 34 = .ok (.ldc 179, 2) := by decide +kernel
theorem d78_36 : decode (mm_cb 78) 36 = .ok (.invokespecial 104, 3) := by decide +kernel
theorem d78_39 : decode (mm_cb 78) 39 = .ok (.athrow, 1) := by decide +kernel
theorem d78_40 : decode (mm_cb 78) 40 = .ok (.aload_n 0, 1) := by decide +kernel
theorem d78_41 : decode (mm_cb 78) 41 = .ok (.iload_n 1, 1) := by decide +kernel
theorem d78_42 : decode (mm_cb 78) 42 = .ok (.iload_n 2, 1) := by decide +kernel
theorem d78_43 : decode (mm_cb 78) 43 = .ok (.lload_n 3, 1) := by decide +kernel
theorem d78_44 : decode (mm_cb 78) 44 = .ok (.l2i, 1) := by decide +kernel
theorem d78_45 : decode (mm_cb 78) 45 = .ok (.invokevirtual 181, 3) := by decide +kernel
theorem d78_48 : decode (mm_cb 78) 48 = .ok (.istore 5, 2) := by decide +kernel
theorem d78_50 : decode (mm_cb 78) 50 = .ok (.aload_n 0, 1) := by decide +kernel
theorem d78_51 : decode (mm_cb 78) 51 = .ok (.iload 5, 2) := by decide +kernel
theorem d78_53 : decode (mm_cb 78) 53 = .ok (.iconst (-1), 1) := by decide +kernel
theorem d78_54 : decode (mm_cb 78) 54 = .ok (.if_icmp .ne 8, 3) := by decide +kernel
theorem d78_57 : decode (mm_cb 78) 57 = .ok (.lload_n 3, 1) := by decide +kernel
theorem d78_58 : decode (mm_cb 78) 58 = .ok (.l2i, 1) := by decide +kernel
theorem d78_59 : decode (mm_cb 78) 59 = .ok (.goto 7, 3) := by decide +kernel
theorem d78_62 : decode (mm_cb 78) 62 = .ok (.iload 5, 2) := by decide +kernel
theorem d78_64 : decode (mm_cb 78) 64 = .ok (.iconst 1, 1) := by decide +kernel
theorem d78_65 : decode (mm_cb 78) 65 = .ok (.iadd, 1) := by decide +kernel
theorem d78_66 : decode (mm_cb 78) 66 = .ok (.putfield 73, 3) := by decide +kernel
theorem d78_69 : decode (mm_cb 78) 69 = .ok (.aload_n 0, 1) := by decide +kernel
theorem d78_70 : decode (mm_cb 78) 70 = .ok (.iload 5, 2) := by decide +kernel
theorem d78_72 : decode (mm_cb 78) 72 = .ok (.iconst (-1), 1) := by decide +kernel
theorem d78_73 : decode (mm_cb 78) 73 = .ok (.if_icmp .ne 7, 3) := by decide +kernel
theorem d78_76 : decode (mm_cb 78) 76 = .ok (.lload_n 3, 1) := by decide +kernel
theorem d78_77 : decode (mm_cb 78) 77 = .ok (.goto 6, 3) := by decide +kernel
theorem d78_80 : decode (mm_cb 78) 80 = .ok (.iload 5, 2) := by decide +kernel
theorem d78_82 : decode (mm_cb 78) 82 = .ok (.i2l, 1) := by decide +kernel
theorem d78_83 : decode (mm_cb 78) 83 = .ok (.putfield 77, 3) := by decide +kernel
theorem d78_86 : decode (mm_cb 78) 86 = .ok (.iload 5, 2) := by decide +kernel
theorem d78_88 : decode (mm_cb 78) 88 = .ok (.iconst (-1), 1) := by decide +kernel
theorem d78_89 : decode (mm_cb 78) 89 = .ok (.if_icmp .eq 14, 3) := by decide +kernel
theorem d78_92 : decode (mm_cb 78) 92 = .ok (.aload_n 0, 1) := by decide +kernel
theorem d78_93 : decode (mm_cb 78) 93 = .ok (.getfield 44, 3) := by decide +kernel
theorem d78_96 : decode (mm_cb 78) 96 = .ok (.aload_n 0, 1) := by decide +kernel
theorem d78_97 : decode (mm_cb 78) 97 = .ok (.getfield 35, 3) := by decide +kernel
theorem d78_100 : decode (mm_cb 78) 100 = .ok (.invokevirtual 128, 3) := by decide +kernel
theorem d78_103 : decode (mm_cb 78) 103 = .ok (.iload 5, 2) := by decide +kernel
theorem d78_105 : decode (mm_cb 78) 105 = .ok (.ireturn, 1) := by decide +kernel
theorem d79_0 : decode (mm_cb 79) 0 = .ok (.aload_n 0, 1) := by decide +kernel
theorem d79_1 : decode (mm_cb 79) 1 = .ok (.getfield 60, 3) := by decide +kernel
theorem d79_4 : decode (mm_cb 79) 4 = .ok (.invokevirtual 160, 3) := by decide +kernel
theorem d79_7 : decode (mm_cb 79) 7 = .ok (.ifCond .ne 13, 3) := by decide +kernel
theorem d79_10 : decode (mm_cb 79) 10 = .ok (.new 100, 3) := by decide +kernel
theorem d79_13 : decode (mm_cb 79) 13 = .ok (.dup, 1) := by decide +kernel
theorem d79_14 : decode (mm_cb 79) 14 = .ok (.ldc 236, 2) := by decide +kernel
theorem d79_16 : decode (mm_cb 79) 16 = .ok (.invokespecial 104, 3) := by decide +kernel
theorem d79_19 : decode (mm_cb 79) 19 = .ok (.athrow, 1) := by decide +kernel
theorem d79_20 : decode (mm_cb 79) 20 = .ok (.return_, 1) := by decide +kernel
theorem d80_0 : decode (mm_cb 80) 0 = .ok (.iconst 0, 1) := by decide +kernel
theorem d80_1 : decode (mm_cb 80) 1 = .ok (.istore 4, 2) := by decide +kernel
theorem d80_3 : decode (mm_cb 80) 3 = .ok (.iload 4, 2) := by decide +kernel
theorem d80_5 : decode (mm_cb 80) 5 = .ok (.iload_n 3, 1) := by decide +kernel
theorem d80_6 : decode (mm_cb 80) 6 = .ok (.if_icmp .ge 40, 3) := by decide +kernel
theorem d80_9 : decode (mm_cb 80) 9 = .ok (.aload_n 0, 1) := by decide +kernel
theorem d80_10 : decode (mm_cb 80) 10 = .ok (.getfield 44, 3) := by decide +kernel
theorem d80_13 : decode (mm_cb 80) 13 = .ok (.iload_n 1, 1) := by decide +kernel
theorem d80_14 : decode (mm_cb 80) 14 = .ok (.iload_n 2, 1) := by decide +kernel
theorem d80_15 : decode (mm_cb 80) 15 = .ok (.iload 4, 2) := by decide +kernel
theorem d80_17 : decode (mm_cb 80) 17 = .ok (.i2l, 1) := by decide +kernel
theorem d80_18 : decode (mm_cb 80) 18 = .ok (.invokevirtual 124, 3) := by decide +kernel
theorem d80_21 : decode (mm_cb 80) 21 = .ok (.aload_n 0, 1) := by decide +kernel
theorem d80_22 : decode (mm_cb 80) 22 = .ok (.getfield 60, 3) := by decide +kernel
theorem d80_25 : decode (mm_cb 80) 25 = .ok (.aload_n 0, 1) := by decide +kernel
theorem d80_26 : decode (mm_cb 80) 26 = .ok (.getfield 44, 3) := by decide +kernel
theorem d80_29 : decode (mm_cb 80) 29 = .ok (.invokevirtual 206, 3) := by decide +kernel
theorem d80_32 : decode (mm_cb 80) 32 = .ok (.bipush (-2), 2) := by decide +kernel
theorem d80_34 : decode (mm_cb 80) 34 = .ok (.if_icmp .ne 6, 3) := by decide +kernel
theorem d80_37 : decode (mm_cb 80) 37 = .ok (.iload 4, 2) := by decide +kernel
theorem d80_39 : decode (mm_cb 80) 39 = .ok (.ireturn, 1) := by decide +kernel
theorem d80_40 : decode (mm_cb 80) 40 = .ok (.iinc 4 1, 3) := by decide +kernel
theorem d80_43 : decode (mm_cb 80) 43 = .ok (.goto (-40), 3) := by decide +kernel
theorem d80_46 : decode (mm_cb 80) 46 = .ok (.iconst (-1), 1) := by decide +kernel
theorem d80_47 : decode (mm_cb 80) 47 = .ok (.ireturn, 1) := by decide +kernel
theorem d81_0 : decode (mm_cb 81) 0 = .ok (.aload_n 0, 1) := by decide +kernel
theorem d81_1 : decode (mm_cb 81) 1 = .ok (.aload_n 0, 1) := by decide +kernel
theorem d81_2 : decode (mm_cb 81) 2 = .ok (.getfield 21, 3) := by decide +kernel
theorem d81_5 : decode (mm_cb 81) 5 = .ok (.aload_n 0, 1) := by decide +kernel
theorem d81_6 : decode (mm_cb 81) 6 = .ok (.getfield 28, 3) := by decide +kernel
theorem d81_9 : decode (mm_cb 81) 9 = .ok (.iconst 1, 1) := by decide +kernel
theorem d81_10 : decode (mm_cb 81) 10 = .ok (.isub, 1) := by decide +kernel
theorem d81_11 : decode (mm_cb 81) 11 = .ok (.iaload, 1) := by decide +kernel
theorem d81_12 : decode (mm_cb 81) 12 = .ok (.aload_n 1, 1) := by decide +kernel
theorem d81_13 : decode (mm_cb 81) 13 = .ok (.invokevirtual 39, 3) := by decide +kernel
theorem d81_16 : decode (mm_cb 81) 16 = .ok (.ireturn, 1) := by decide +kernel
theorem d82_0 : decode (mm_cb 82) 0 = .ok (.aload_n 0, 1) := by decide +kernel
theorem d82_1 : decode (mm_cb 82) 1 = .ok (.getfield 15, 3) := by decide +kernel
theorem d82_4 : decode (mm_cb 82) 4 = .ok (.iload_n 1, 1) := by decide +kernel
theorem d82_5 : decode (mm_cb 82) 5 = .ok (.iaload, 1) := by decide +kernel
theorem d82_6 : decode (mm_cb 82) 6 = .ok (.istore_n 3, 1) := by decide +kernel
theorem d82_7 : decode (mm_cb 82) 7 = .ok (.aload_n 0, 1) := by decide +kernel
theorem d82_8 : decode (mm_cb 82) 8 = .ok (.getfield 18, 3) := by decide +kernel
theorem d82_11 : decode (mm_cb 82) 11 = .ok (.iload_n 1, 1) := by decide +kernel
theorem d82_12 : decode (mm_cb 82) 12 = .ok (.iaload, 1) := by decide +kernel
theorem d82_13 : decode (mm_cb 82) 13 = .ok (.istore 4, 2) := by decide +kernel
theorem d82_15 : decode (mm_cb 82) 15 = .ok (.aload_n 0, 1) := by decide +kernel
theorem d82_16 : decode (mm_cb 82) 16 = .ok (.getfield 9, 3) := by decide +kernel
theorem d82_19 : decode (mm_cb 82) 19 = .ok (.iload_n 1, 1) := by decide +kernel
theorem d82_20 : decode (mm_cb 82) 20 = .ok (.iaload, 1) := by decide +kernel
theorem d82_21 : decode (mm_cb 82) 21 = .ok (.tableswitch 53 2 4 #[43, 27, 35], 27) := by decide +kernel
theorem d82_48 : decode (mm_cb 82) 48 = .ok (.aload_n 2, 1) := by decide +kernel
theorem d82_49 : decode (mm_cb 82) 49 = .ok (.iload_n 3, 1) := by decide +kernel
theorem d82_50 : decode (mm_cb 82) 50 = .ok (.iload 4, 2) := by decide +kernel
theorem d82_52 : decode (mm_cb 82) 52 = .ok (.invokevirtual 43, 3) := by decide +kernel
theorem d82_55 : decode (mm_cb 82) 55 = .ok (.ireturn, 1) := by decide +kernel
theorem d82_56 : decode (mm_cb 82) 56 = .ok (.aload_n 2, 1) := by decide +kernel
theorem d82_57 : decode (mm_cb 82) 57 = .ok (.iload_n 3, 1) := by decide +kernel
theorem d82_58 : decode (mm_cb 82) 58 = .ok (.iload 4, 2) := by decide +kernel
theorem d82_60 : decode (mm_cb 82) 60 = .ok (.invokevirtual 49, 3) := by decide +kernel
theorem d82_63 : decode (mm_cb 82) 63 = .ok (.ireturn, 1) := by decide +kernel
theorem d82_64 : decode (mm_cb 82) 64 = .ok (.aload_n 0, 1) := by decide +kernel
theorem d82_65 : decode (mm_cb 82) 65 = .ok (.iload_n 3, 1) := by decide +kernel
theorem d82_66 : decode (mm_cb 82) 66 = .ok (.aload_n 2, 1) := by decide +kernel
theorem d82_67 : decode (mm_cb 82) 67 = .ok (.invokevirtual 39, 3) := by decide +kernel
theorem d82_70 : decode (mm_cb 82) 70 = .ok (.invokestatic 52, 3) := by decide +kernel
theorem d82_73 : decode (mm_cb 82) 73 = .ok (.ireturn, 1) := by decide +kernel
theorem d82_74 : decode (mm_cb 82) 74 = .ok (.aload_n 0, 1) := by decide +kernel
theorem d82_75 : decode (mm_cb 82) 75 = .ok (.iload_n 3, 1) := by decide +kernel
theorem d82_76 : decode (mm_cb 82) 76 = .ok (.aload_n 2, 1) := by decide +kernel
theorem d82_77 : decode (mm_cb 82) 77 = .ok (.invokevirtual 39, 3) := by decide +kernel
theorem d82_80 : decode (mm_cb 82) 80 = .ok (.istore 5, 2) := by decide +kernel
theorem d82_82 : decode (mm_cb 82) 82 = .ok (.aload_n 0, 1) := by decide +kernel
theorem d82_83 : decode (mm_cb 82) 83 = .ok (.getfield 9, 3) := by decide +kernel
theorem d82_86 : decode (mm_cb 82) 86 = .ok (.iload_n 1, 1) := by decide +kernel
theorem d82_87 : decode (mm_cb 82) 87 = .ok (.iaload, 1) := by decide +kernel
theorem d82_88 : decode (mm_cb 82) 88 = .ok (.iconst 1, 1) := by decide +kernel
theorem d82_89 : decode (mm_cb 82) 89 = .ok (.if_icmp .ne 8, 3) := by decide +kernel
theorem d82_92 : decode (mm_cb 82) 92 = .ok (.bipush (-2), 2) := by decide +kernel
theorem d82_94 : decode (mm_cb 82) 94 = .ok (.goto 4, 3) := by decide +kernel
theorem d82_97 : decode (mm_cb 82) 97 = .ok (.iconst (-1), 1) := by decide +kernel
theorem d82_98 : decode (mm_cb 82) 98 = .ok (.istore 6, 2) := by decide +kernel
theorem d82_100 : decode (mm_cb 82) 100 = .ok (.iload 5, 2) := by decide +kernel
theorem d82_102 : decode (mm_cb 82) 102 = .ok (.iload 6, 2) := by decide +kernel
theorem d82_104 : decode (mm_cb 82) 104 = .ok (.if_icmp .ne 13, 3) := by decide +kernel
theorem d82_107 : decode (mm_cb 82) 107 = .ok (.aload_n 0, 1) := by decide +kernel
theorem d82_108 : decode (mm_cb 82) 108 = .ok (.iload 4, 2) := by decide +kernel
theorem d82_110 : decode (mm_cb 82) 110 = .ok (.aload_n 2, 1) := by decide +kernel
theorem d82_111 : decode (mm_cb 82) 111 = .ok (.invokevirtual 39, 3) := by decide +kernel
theorem d82_114 : decode (mm_cb 82) 114 = .ok (.goto 5, 3) := by decide +kernel
theorem d82_117 : decode (mm_cb 82) 117 = .ok (.iload 5, 2) := by decide +kernel
theorem d82_119 : decode (mm_cb 82) 119 = .ok (.ireturn, 1) := by decide +kernel
end
section
/-! ===== decoded ===== -/
theorem d83_0 : decode (mm_cb 83) 0 = .ok (.aload_n 0, 1) := by decide +kernel
theorem d83_1 : decode (mm_cb 83) 1 = .ok (.iload_n 1, 1) := by decide +kernel
theorem d83_2 : decode (mm_cb 83) 2 = .ok (.invokevirtual 97, 3) := by decide +kernel
theorem d83_5 : decode (mm_cb 83) 5 = .ok (.istore_n 3, 1) := by decide +kernel
theorem d83_6 : decode (mm_cb 83) 6 = .ok (.iload_n 3, 1) := by decide +kernel
theorem d83_7 : decode (mm_cb 83) 7 = .ok (.iconst (-1), 1) := by decide +kernel
theorem d83_8 : decode (mm_cb 83) 8 = .ok (.if_icmp .ne 6, 3) := by decide +kernel
theorem d83_11 : decode (mm_cb 83) 11 = .ok (.bipush (-2), 2) := by decide +kernel
theorem d83_13 : decode (mm_cb 83) 13 = .ok (.ireturn, 1) := by decide +kernel
theorem d83_14 : decode (mm_cb 83) 14 = .ok (.iload_n 3, 1) := by decide +kernel
theorem d83_15 : decode (mm_cb 83) 15 = .ok (.iload_n 1, 1) := by decide +kernel
theorem d83_16 : decode (mm_cb 83) 16 = .ok (.if_icmp .ne 14, 3) := by decide +kernel
theorem d83_19 : decode (mm_cb 83) 19 = .ok (.aload_n 0, 1) := by decide +kernel
theorem d83_20 : decode (mm_cb 83) 20 = .ok (.getfield 15, 3) := by decide +kernel
theorem d83_23 : decode (mm_cb 83) 23 = .ok (.iload_n 1, 1) := by decide +kernel
theorem d83_24 : decode (mm_cb 83) 24 = .ok (.iaload, 1) := by decide +kernel
theorem d83_25 : decode (mm_cb 83) 25 = .ok (.bipush (-2), 2) := by decide +kernel
theorem d83_27 : decode (mm_cb 83) 27 = .ok (.if_icmp .ne 5, 3) := by decide +kernel
theorem d83_30 : decode (mm_cb 83) 30 = .ok (.iload_n 3, 1) := by decide +kernel
theorem d83_31 : decode (mm_cb 83) 31 = .ok (.ireturn, 1) := by decide +kernel
theorem d83_32 : decode (mm_cb 83) 32 = .ok (.aload_n 0, 1) := by decide +kernel
theorem d83_33 : decode (mm_cb 83) 33 = .ok (.getfield 15, 3) := by decide +kernel
theorem d83_36 : decode (mm_cb 83) 36 = .ok (.iload_n 1, 1) := by decide +kernel
theorem d83_37 : decode (mm_cb 83) 37 = .ok (.iaload, 1) := by decide +kernel
theorem d83_38 : decode (mm_cb 83) 38 = .ok (.iload_n 2, 1) := by decide +kernel
theorem d83_39 : decode (mm_cb 83) 39 = .ok (.if_icmp .ne 7, 3) := by decide +kernel
theorem d83_42 : decode (mm_cb 83) 42 = .ok (.iconst (-1), 1) := by decide +kernel
theorem d83_43 : decode (mm_cb 83) 43 = .ok (.goto 5, 3) := by decide +kernel
theorem d83_46 : decode (mm_cb 83) 46 = .ok (.bipush (-2), 2) := by decide +kernel
theorem d83_48 : decode (mm_cb 83) 48 = .ok (.ireturn, 1) := by decide +kernel
theorem d84_0 : decode (mm_cb 84) 0 = .ok (.iload_n 1, 1) := by decide +kernel
theorem d84_1 : decode (mm_cb 84) 1 = .ok (.invokestatic 72, 3) := by decide +kernel
theorem d84_4 : decode (mm_cb 84) 4 = .ok (.istore_n 2, 1) := by decide +kernel
theorem d84_5 : decode (mm_cb 84) 5 = .ok (.iload_n 2, 1) := by decide +kernel
theorem d84_6 : decode (mm_cb 84) 6 = .ok (.ifCond .le 52, 3) := by decide +kernel
theorem d84_9 : decode (mm_cb 84) 9 = .ok (.iload_n 1, 1) := by decide +kernel
theorem d84_10 : decode (mm_cb 84) 10 = .ok (.iconst 2, 1) := by decide +kernel
theorem d84_11 : decode (mm_cb 84) 11 = .ok (.iload_n 2, 1) := by decide +kernel
theorem d84_12 : decode (mm_cb 84) 12 = .ok (.imul, 1) := by decide +kernel
theorem d84_13 : decode (mm_cb 84) 13 = .ok (.ishr, 1) := by decide +kernel
theorem d84_14 : decode (mm_cb 84) 14 = .ok (.istore_n 3, 1) := by decide +kernel
theorem d84_15 : decode (mm_cb 84) 15 = .ok (.iload_n 1, 1) := by decide +kernel
theorem d84_16 : decode (mm_cb 84) 16 = .ok (.iconst 2, 1) := by decide +kernel
theorem d84_17 : decode (mm_cb 84) 17 = .ok (.iload_n 2, 1) := by decide +kernel
theorem d84_18 : decode (mm_cb 84) 18 = .ok (.iconst 1, 1) := by decide +kernel
theorem d84_19 : decode (mm_cb 84) 19 = .ok (.isub, 1) := by decide +kernel
theorem d84_20 : decode (mm_cb 84) 20 = .ok (.imul, 1) := by decide +kernel
theorem d84_21 : decode (mm_cb 84) 21 = .ok (.ishr, 1) := by decide +kernel
theorem d84_22 : decode (mm_cb 84) 22 = .ok (.istore 4, 2) := by decide +kernel
theorem d84_24 : decode (mm_cb 84) 24 = .ok (.aload_n 0, 1) := by decide +kernel
theorem d84_25 : decode (mm_cb 84) 25 = .ok (.getfield 15, 3) := by decide +kernel
theorem d84_28 : decode (mm_cb 84) 28 = .ok (.iload_n 3, 1) := by decide +kernel
theorem d84_29 : decode (mm_cb 84) 29 = .ok (.iaload, 1) := by decide +kernel
theorem d84_30 : decode (mm_cb 84) 30 = .ok (.bipush (-2), 2) := by decide +kernel
theorem d84_32 : decode (mm_cb 84) 32 = .ok (.if_icmp .ne 5, 3) := by decide +kernel
theorem d84_35 : decode (mm_cb 84) 35 = .ok (.iload_n 3, 1) := by decide +kernel
theorem d84_36 : decode (mm_cb 84) 36 = .ok (.ireturn, 1) := by decide +kernel
theorem d84_37 : decode (mm_cb 84) 37 = .ok (.iload 4, 2) := by decide +kernel
theorem d84_39 : decode (mm_cb 84) 39 = .ok (.iconst 3, 1) := by decide +kernel
theorem d84_40 : decode (mm_cb 84) 40 = .ok (.iand, 1) := by decide +kernel
theorem d84_41 : decode (mm_cb 84) 41 = .ok (.aload_n 0, 1) := by decide +kernel
theorem d84_42 : decode (mm_cb 84) 42 = .ok (.getfield 18, 3) := by decide +kernel
theorem d84_45 : decode (mm_cb 84) 45 = .ok (.iload_n 3, 1) := by decide +kernel
theorem d84_46 : decode (mm_cb 84) 46 = .ok (.iaload, 1) := by decide +kernel
theorem d84_47 : decode (mm_cb 84) 47 = .ok (.if_icmp .le 5, 3) := by decide +kernel
theorem d84_50 : decode (mm_cb 84) 50 = .ok (.iconst (-1), 1) := by decide +kernel
theorem d84_51 : decode (mm_cb 84) 51 = .ok (.ireturn, 1) := by decide +kernel
theorem d84_52 : decode (mm_cb 84) 52 = .ok (.iinc 2 (-1), 3) := by decide +kernel
theorem d84_55 : decode (mm_cb 84) 55 = .ok (.goto (-50), 3) := by decide +kernel
theorem d84_58 : decode (mm_cb 84) 58 = .ok (.iload_n 1, 1) := by decide +kernel
theorem d84_59 : decode (mm_cb 84) 59 = .ok (.ireturn, 1) := by decide +kernel
theorem d85_0 : decode (mm_cb 85) 0 = .ok (.iconst 0, 1) := by decide +kernel
theorem d85_1 : decode (mm_cb 85) 1 = .ok (.istore_n 1, 1) := by decide +kernel
theorem d85_2 : decode (mm_cb 85) 2 = .ok (.iload_n 0, 1) := by decide +kernel
theorem d85_3 : decode (mm_cb 85) 3 = .ok (.istore_n 2, 1) := by decide +kernel
theorem d85_4 : decode (mm_cb 85) 4 = .ok (.iload_n 2, 1) := by decide +kernel
theorem d85_5 : decode (mm_cb 85) 5 = .ok (.ifCond .le 13, 3) := by decide +kernel
theorem d85_8 : decode (mm_cb 85) 8 = .ok (.iinc 1 1, 3) := by decide +kernel
theorem d85_11 : decode (mm_cb 85) 11 = .ok (.iload_n 2, 1) := by decide +kernel
theorem d85_12 : decode (mm_cb 85) 12 = .ok (.iconst 2, 1) := by decide +kernel
theorem d85_13 : decode (mm_cb 85) 13 = .ok (.ishr, 1) := by decide +kernel
theorem d85_14 : decode (mm_cb 85) 14 = .ok (.istore_n 2, 1) := by decide +kernel
theorem d85_15 : decode (mm_cb 85) 15 = .ok (.goto (-11), 3) := by decide +kernel
theorem d85_18 : decode (mm_cb 85) 18 = .ok (.iload_n 1, 1) := by decide +kernel
theorem d85_19 : decode (mm_cb 85) 19 = .ok (.ireturn, 1) := by decide +kernel
theorem d86_0 : decode (mm_cb 86) 0 = .ok (.aload_n 0, 1) := by decide +kernel
theorem d86_1 : decode (mm_cb 86) 1 = .ok (.iload_n 1, 1) := by decide +kernel
theorem d86_2 : decode (mm_cb 86) 2 = .ok (.invokevirtual 97, 3) := by decide +kernel
theorem d86_5 : decode (mm_cb 86) 5 = .ok (.istore_n 3, 1) := by decide +kernel
theorem d86_6 : decode (mm_cb 86) 6 = .ok (.iload_n 3, 1) := by decide +kernel
theorem d86_7 : decode (mm_cb 86) 7 = .ok (.iload_n 1, 1) := by decide +kernel
theorem d86_8 : decode (mm_cb 86) 8 = .ok (.if_icmp .eq 10, 3) := by decide +kernel
theorem d86_11 : decode (mm_cb 86) 11 = .ok (.iload_n 3, 1) := by decide +kernel
theorem d86_12 : decode (mm_cb 86) 12 = .ok (.iconst (-1), 1) := by decide +kernel
theorem d86_13 : decode (mm_cb 86) 13 = .ok (.if_icmp .eq 5, 3) := by decide +kernel
theorem d86_16 : decode (mm_cb 86) 16 = .ok (.iload_n 3, 1) := by decide +kernel
theorem d86_17 : decode (mm_cb 86) 17 = .ok (.ireturn, 1) := by decide +kernel
theorem d86_18 : decode (mm_cb 86) 18 = .ok (.aload_n 0, 1) := by decide +kernel
theorem d86_19 : decode (mm_cb 86) 19 = .ok (.iload_n 2, 1) := by decide +kernel
theorem d86_20 : decode (mm_cb 86) 20 = .ok (.invokevirtual 97, 3) := by decide +kernel
theorem d86_23 : decode (mm_cb 86) 23 = .ok (.istore 4, 2) := by decide +kernel
theorem d86_25 : decode (mm_cb 86) 25 = .ok (.iload 4, 2) := by decide +kernel
theorem d86_27 : decode (mm_cb 86) 27 = .ok (.iload_n 2, 1) := by decide +kernel
theorem d86_28 : decode (mm_cb 86) 28 = .ok (.if_icmp .eq 12, 3) := by decide +kernel
theorem d86_31 : decode (mm_cb 86) 31 = .ok (.iload 4, 2) := by decide +kernel
theorem d86_33 : decode (mm_cb 86) 33 = .ok (.iconst (-1), 1) := by decide +kernel
theorem d86_34 : decode (mm_cb 86) 34 = .ok (.if_icmp .eq 6, 3) := by decide +kernel
theorem d86_37 : decode (mm_cb 86) 37 = .ok (.iload 4, 2) := by decide +kernel
theorem d86_39 : decode (mm_cb 86) 39 = .ok (.ireturn, 1) := by decide +kernel
theorem d86_40 : decode (mm_cb 86) 40 = .ok (.iload_n 3, 1) := by decide +kernel
theorem d86_41 : decode (mm_cb 86) 41 = .ok (.iconst (-1), 1) := by decide +kernel
theorem d86_42 : decode (mm_cb 86) 42 = .ok (.if_icmp .eq 9, 3) := by decide +kernel
theorem d86_45 : decode (mm_cb 86) 45 = .ok (.iload 4, 2) := by decide +kernel
theorem d86_47 : decode (mm_cb 86) 47 = .ok (.iconst (-1), 1) := by decide +kernel
theorem d86_48 : decode (mm_cb 86) 48 = .ok (.if_icmp .ne 16, 3) := by decide +kernel
theorem d86_51 : decode (mm_cb 86) 51 = .ok (.iload_n 3, 1) := by decide +kernel
theorem d86_52 : decode (mm_cb 86) 52 = .ok (.iload 4, 2) := by decide +kernel
theorem d86_54 : decode (mm_cb 86) 54 = .ok (.if_icmp .ne 7, 3) := by decide +kernel
theorem d86_57 : decode (mm_cb 86) 57 = .ok (.iconst (-1), 1) := by decide +kernel
theorem d86_58 : decode (mm_cb 86) 58 = .ok (.goto 5, 3) := by decide +kernel
theorem d86_61 : decode (mm_cb 86) 61 = .ok (.bipush (-2), 2) := by decide +kernel
theorem d86_63 : decode (mm_cb 86) 63 = .ok (.ireturn, 1) := by decide +kernel
theorem d86_64 : decode (mm_cb 86) 64 = .ok (.aload_n 0, 1) := by decide +kernel
theorem d86_65 : decode (mm_cb 86) 65 = .ok (.iload_n 1, 1) := by decide +kernel
theorem d86_66 : decode (mm_cb 86) 66 = .ok (.iload_n 2, 1) := by decide +kernel
theorem d86_67 : decode (mm_cb 86) 67 = .ok (.iconst 0, 1) := by decide +kernel
theorem d86_68 : decode (mm_cb 86) 68 = .ok (.invokevirtual 100, 3) := by decide +kernel
theorem d86_71 : decode (mm_cb 86) 71 = .ok (.ireturn, 1) := by decide +kernel
theorem d87_0 : decode (mm_cb 87) 0 = .ok (.aload_n 0, 1) := by decide +kernel
theorem d87_1 : decode (mm_cb 87) 1 = .ok (.getfield 15, 3) := by decide +kernel
theorem d87_4 : decode (mm_cb 87) 4 = .ok (.iload_n 1, 1) := by decide +kernel
theorem d87_5 : decode (mm_cb 87) 5 = .ok (.iaload, 1) := by decide +kernel
theorem d87_6 : decode (mm_cb 87) 6 = .ok (.bipush (-2), 2) := by decide +kernel
theorem d87_8 : decode (mm_cb 87) 8 = .ok (.if_icmp .ne 5, 3) := by decide +kernel
theorem d87_11 : decode (mm_cb 87) 11 = .ok (.iload_n 1, 1) := by decide +kernel
theorem d87_12 : decode (mm_cb 87) 12 = .ok (.ireturn, 1) := by decide +kernel
theorem d87_13 : decode (mm_cb 87) 13 = .ok (.aload_n 0, 1) := by decide +kernel
theorem d87_14 : decode (mm_cb 87) 14 = .ok (.getfield 15, 3) := by decide +kernel
theorem d87_17 : decode (mm_cb 87) 17 = .ok (.iload_n 2, 1) := by decide +kernel
theorem d87_18 : decode (mm_cb 87) 18 = .ok (.iaload, 1) := by decide +kernel
theorem d87_19 : decode (mm_cb 87) 19 = .ok (.bipush (-2), 2) := by decide +kernel
theorem d87_21 : decode (mm_cb 87) 21 = .ok (.if_icmp .ne 5, 3) := by decide +kernel
theorem d87_24 : decode (mm_cb 87) 24 = .ok (.iload_n 2, 1) := by decide +kernel
theorem d87_25 : decode (mm_cb 87) 25 = .ok (.ireturn, 1) := by decide +kernel
theorem d87_26 : decode (mm_cb 87) 26 = .ok (.aload_n 0, 1) := by decide +kernel
theorem d87_27 : decode (mm_cb 87) 27 = .ok (.getfield 15, 3) := by decide +kernel
theorem d87_30 : decode (mm_cb 87) 30 = .ok (.iload_n 1, 1) := by decide +kernel
theorem d87_31 : decode (mm_cb 87) 31 = .ok (.iaload, 1) := by decide +kernel
theorem d87_32 : decode (mm_cb 87) 32 = .ok (.aload_n 0, 1) := by decide +kernel
theorem d87_33 : decode (mm_cb 87) 33 = .ok (.getfield 15, 3) := by decide +kernel
theorem d87_36 : decode (mm_cb 87) 36 = .ok (.iload_n 2, 1) := by decide +kernel
theorem d87_37 : decode (mm_cb 87) 37 = .ok (.iaload, 1) := by decide +kernel
theorem d87_38 : decode (mm_cb 87) 38 = .ok (.if_icmp .ne 18, 3) := by decide +kernel
theorem d87_41 : decode (mm_cb 87) 41 = .ok (.aload_n 0, 1) := by decide +kernel
theorem d87_42 : decode (mm_cb 87) 42 = .ok (.getfield 18, 3) := by decide +kernel
theorem d87_45 : decode (mm_cb 87) 45 = .ok (.iload_n 1, 1) := by decide +kernel
theorem d87_46 : decode (mm_cb 87) 46 = .ok (.iaload, 1) := by decide +kernel
theorem d87_47 : decode (mm_cb 87) 47 = .ok (.aload_n 0, 1) := by decide +kernel
theorem d87_48 : decode (mm_cb 87) 48 = .ok (.getfield 18, 3) := by decide +kernel
theorem d87_51 : decode (mm_cb 87) 51 = .ok (.iload_n 2, 1) := by decide +kernel
theorem d87_52 : decode (mm_cb 87) 52 = .ok (.iaload, 1) := by decide +kernel
theorem d87_53 : decode (mm_cb 87) 53 = .ok (.if_icmp .eq 6, 3) := by decide +kernel
theorem d87_56 : decode (mm_cb 87) 56 = .ok (.bipush (-2), 2) := by decide +kernel
theorem d87_58 : decode (mm_cb 87) 58 = .ok (.ireturn, 1) := by decide +kernel
theorem d87_59 : decode (mm_cb 87) 59 = .ok (.iconst (-1), 1) := by decide +kernel
theorem d87_60 : decode (mm_cb 87) 60 = .ok (.istore 4, 2) := by decide +kernel
theorem d87_62 : decode (mm_cb 87) 62 = .ok (.iload_n 3, 1) := by decide +kernel
theorem d87_63 : decode (mm_cb 87) 63 = .ok (.iconst 4, 1) := by decide +kernel
theorem d87_64 : decode (mm_cb 87) 64 = .ok (.if_icmp .ge 50, 3) := by decide +kernel
theorem d87_67 : decode (mm_cb 87) 67 = .ok (.iconst 0, 1) := by decide +kernel
theorem d87_68 : decode (mm_cb 87) 68 = .ok (.istore 5, 2) := by decide +kernel
theorem d87_70 : decode (mm_cb 87) 70 = .ok (.iload 5, 2) := by decide +kernel
theorem d87_72 : decode (mm_cb 87) 72 = .ok (.aload_n 0, 1) := by decide +kernel
theorem d87_73 : decode (mm_cb 87) 73 = .ok (.getfield 18, 3) := by decide +kernel
theorem d87_76 : decode (mm_cb 87) 76 = .ok (.iload_n 1, 1) := by decide +kernel
theorem d87_77 : decode (mm_cb 87) 77 = .ok (.iaload, 1) := by decide +kernel
theorem d87_78 : decode (mm_cb 87) 78 = .ok (.if_icmp .ge 36, 3) := by decide +kernel
theorem d87_81 : decode (mm_cb 87) 81 = .ok (.iload 4, 2) := by decide +kernel
theorem d87_83 : decode (mm_cb 87) 83 = .ok (.iconst (-1), 1) := by decide +kernel
theorem d87_84 : decode (mm_cb 87) 84 = .ok (.if_icmp .ne 30, 3) := by decide +kernel
theorem d87_87 : decode (mm_cb 87) 87 = .ok (.aload_n 0, 1) := by decide +kernel
theorem d87_88 : decode (mm_cb 87) 88 = .ok (.iload_n 1, 1) := by decide +kernel
theorem d87_89 : decode (mm_cb 87) 89 = .ok (.iload 5, 2) := by decide +kernel
theorem d87_91 : decode (mm_cb 87) 91 = .ok (.invokestatic 61, 3) := by decide +kernel
theorem d87_94 : decode (mm_cb 87) 94 = .ok (.iload_n 2, 1) := by decide +kernel
theorem d87_95 : decode (mm_cb 87) 95 = .ok (.iload 5, 2) := by decide +kernel
theorem d87_97 : decode (mm_cb 87) 97 = .ok (.invokestatic 61, 3) := by decide +kernel
theorem d87_100 : decode (mm_cb 87) 100 = .ok (.iload_n 3, 1) := by decide +kernel
theorem d87_101 : decode (mm_cb 87) 101 = .ok (.iconst 1, 1) := by decide +kernel
theorem d87_102 : decode (mm_cb 87) 102 = .ok (.iadd, 1) := by decide +kernel
theorem d87_103 : decode (mm_cb 87) 103 = .ok (.invokevirtual 100, 3) := by decide +kernel
theorem d87_106 : decode (mm_cb 87) 106 = .ok (.istore 4, 2) := by decide +kernel
theorem d87_108 : decode (mm_cb 87) 108 = .ok (.iinc 5 1, 3) := by decide +kernel
theorem d87_111 : decode (mm_cb 87) 111 = .ok (.goto (-41), 3) := by decide +kernel
theorem d87_114 : decode (mm_cb 87) 114 = .ok (.iload 4, 2) := by decide +kernel
theorem d87_116 : decode (mm_cb 87) 116 = .ok (.ireturn, 1) := by decide +kernel
theorem d88_0 : decode (mm_cb 88) 0 = .ok (.iload_n 0, 1) := by decide +kernel
theorem d88_1 : decode (mm_cb 88) 1 = .ok (.lookupswitch 32 #[((-2), 30), ((-1), 27)], 27) := by decide +kernel
theorem d88_28 : decode (mm_cb 88) 28 = .ok (.bipush (-2), 2) := by decide +kernel
theorem d88_30 : decode (mm_cb 88) 30 = .ok (.ireturn, 1) := by decide +kernel
theorem d88_31 : decode (mm_cb 88) 31 = .ok (.iconst (-1), 1) := by decide +kernel
theorem d88_32 : decode (mm_cb 88) 32 = .ok (.ireturn, 1) := by decide +kernel
theorem d88_33 : decode (mm_cb 88) 33 = .ok (.iload_n 0, 1) := by decide +kernel
theorem d88_34 : decode (mm_cb 88) 34 = .ok (.ireturn, 1) := by decide +kernel
theorem d89_0 : decode (mm_cb 89) 0 = .ok (.aload_n 3, 1) := by decide +kernel
theorem d89_1 : decode (mm_cb 89) 1 = .ok (.iconst 0, 1) := by decide +kernel
theorem d89_2 : decode (mm_cb 89) 2 = .ok (.aload_n 0, 1) := by decide +kernel
theorem d89_3 : decode (mm_cb 89) 3 = .ok (.iload_n 1, 1) := by decide +kernel
theorem d89_4 : decode (mm_cb 89) 4 = .ok (.iload_n 2, 1) := by decide +kernel
theorem d89_5 : decode (mm_cb 89) 5 = .ok (.invokevirtual 47, 3) := by decide +kernel
theorem d89_8 : decode (mm_cb 89) 8 = .ok (.ifCond .eq 7, 3) := by decide +kernel
theorem d89_11 : decode (mm_cb 89) 11 = .ok (.lconst 1, 1) := by decide +kernel
theorem d89_12 : decode (mm_cb 89) 12 = .ok (.goto 4, 3) := by decide +kernel
theorem d89_15 : decode (mm_cb 89) 15 = .ok (.lconst 0, 1) := by decide +kernel
theorem d89_16 : decode (mm_cb 89) 16 = .ok (.lastore, 1) := by decide +kernel
theorem d89_17 : decode (mm_cb 89) 17 = .ok (.goto 15, 3) := by decide +kernel
theorem d89_20 : decode (mm_cb 89) 20 = .ok (.astore 4, 2) := by decide +kernel
theorem d89_22 : decode (mm_cb 89) 22 = .ok (.iconst 1, 1) := by decide +kernel
theorem d89_23 : decode (mm_cb 89) 23 = .ok (.ireturn, 1) := by decide +kernel
theorem d89_24 : decode (mm_cb 89) 24 = .ok (.astore 4, 2) := by decide +kernel
theorem d89_26 : decode (mm_cb 89) 26 = .ok (.iconst 2, 1) := by decide +kernel
theorem d89_27 : decode (mm_cb 89) 27 = .ok (.ireturn, 1) := by decide +kernel
theorem d89_28 : decode (mm_cb 89) 28 = .ok (.astore 4, 2) := by decide +kernel
theorem d89_30 : decode (mm_cb 89) 30 = .ok (.iconst 3, 1) := by decide +kernel
theorem d89_31 : decode (mm_cb 89) 31 = .ok (.ireturn, 1) := by decide +kernel
theorem d89_32 : decode (mm_cb 89) 32 = .ok (.iconst 0, 1) := by decide +kernel
theorem d89_33 : decode (mm_cb 89) 33 = .ok (.ireturn, 1) := by decide +kernel
theorem d90_0 : decode (mm_cb 90) 0 = .ok (.iload_n 1, 1) := by decide +kernel
theorem d90_1 : decode (mm_cb 90) 1 = .ok (.invokestatic 81, 3) := by decide +kernel
theorem d90_4 : decode (mm_cb 90) 4 = .ok (.iload_n 2, 1) := by decide +kernel
theorem d90_5 : decode (mm_cb 90) 5 = .ok (.invokestatic 113, 3) := by decide +kernel
theorem d90_8 : decode (mm_cb 90) 8 = .ok (.aload_n 0, 1) := by decide +kernel
theorem d90_9 : decode (mm_cb 90) 9 = .ok (.invokevirtual 174, 3) := by decide +kernel
theorem d90_12 : decode (mm_cb 90) 12 = .ok (.aload_n 0, 1) := by decide +kernel
theorem d90_13 : decode (mm_cb 90) 13 = .ok (.getfield 69, 3) := by decide +kernel
theorem d90_16 : decode (mm_cb 90) 16 = .ok (.iload_n 1, 1) := by decide +kernel
theorem d90_17 : decode (mm_cb 90) 17 = .ok (.iload_n 2, 1) := by decide +kernel
theorem d90_18 : decode (mm_cb 90) 18 = .ok (.invokevirtual 184, 3) := by decide +kernel
theorem d90_21 : decode (mm_cb 90) 21 = .ok (.astore_n 3, 1) := by decide +kernel
theorem d90_22 : decode (mm_cb 90) 22 = .ok (.aload_n 0, 1) := by decide +kernel
theorem d90_23 : decode (mm_cb 90) 23 = .ok (.aload_n 0, 1) := by decide +kernel
theorem d90_24 : decode (mm_cb 90) 24 = .ok (.getfield 69, 3) := by decide +kernel
theorem d90_27 : decode (mm_cb 90) 27 = .ok (.invokevirtual 188, 3) := by decide +kernel
theorem d90_30 : decode (mm_cb 90) 30 = .ok (.putfield 73, 3) := by decide +kernel
theorem d90_33 : decode (mm_cb 90) 33 = .ok (.aload_n 0, 1) := by decide +kernel
theorem d90_34 : decode (mm_cb 90) 34 = .ok (.aload_n 0, 1) := by decide +kernel
theorem d90_35 : decode (mm_cb 90) 35 = .ok (.getfield 69, 3) := by decide +kernel
theorem d90_38 : decode (mm_cb 90) 38 = .ok (.invokevirtual 191, 3) := by decide +kernel
theorem d90_41 : decode (mm_cb 90) 41 = .ok (.putfield 77, 3) := by decide +kernel
theorem d90_44 : decode (mm_cb 90) 44 = .ok (.aload_n 3, 1) := by decide +kernel
theorem d90_45 : decode (mm_cb 90) 45 = .ok (.getstatic 195, 3) := by decide +kernel
theorem d90_48 : decode (mm_cb 90) 48 = .ok (.if_acmp .ne 13, 3) := by decide +kernel
theorem d90_51 : decode (mm_cb 90) 51 = .ok (.new 100, 3) := by decide +kernel
theorem d90_54 : decode (mm_cb 90) 54 = .ok (.dup, 1) := by decide +kernel
theorem d90_55 : decode (mm_cb 90) 55 = .ok (.ldc 201, 2) := by decide +kernel
theorem d90_57 : decode (mm_cb 90) 57 = .ok (.invokespecial 104, 3) := by decide +kernel
theorem d90_60 : decode (mm_cb 90) 60 = .ok (.athrow, 1) := by decide +kernel
theorem d90_61 : decode (mm_cb 90) 61 = .ok (.aload_n 3, 1) := by decide +kernel
theorem d90_62 : decode (mm_cb 90) 62 = .ok (.getstatic 203, 3) := by decide +kernel
theorem d90_65 : decode (mm_cb 90) 65 = .ok (.if_acmp .ne 14, 3) := by decide +kernel
theorem d90_68 : decode (mm_cb 90) 68 = .ok (.aload_n 0, 1) := by decide +kernel
theorem d90_69 : decode (mm_cb 90) 69 = .ok (.getfield 44, 3) := by decide +kernel
theorem d90_72 : decode (mm_cb 90) 72 = .ok (.aload_n 0, 1) := by decide +kernel
theorem d90_73 : decode (mm_cb 90) 73 = .ok (.getfield 35, 3) := by decide +kernel
theorem d90_76 : decode (mm_cb 90) 76 = .ok (.invokevirtual 128, 3) := by decide +kernel
theorem d90_79 : decode (mm_cb 90) 79 = .ok (.aload_n 3, 1) := by decide +kernel
theorem d90_80 : decode (mm_cb 90) 80 = .ok (.getstatic 203, 3) := by decide +kernel
theorem d90_83 : decode (mm_cb 90) 83 = .ok (.if_acmp .eq 7, 3) := by decide +kernel
theorem d90_86 : decode (mm_cb 90) 86 = .ok (.iconst 1, 1) := by decide +kernel
theorem d90_87 : decode (mm_cb 90) 87 = .ok (.goto 4, 3) := by decide +kernel
theorem d90_90 : decode (mm_cb 90) 90 = .ok (.iconst 0, 1) := by decide +kernel
theorem d90_91 : decode (mm_cb 90) 91 = .ok (.ireturn, 1) := by decide +kernel
theorem d91_0 : decode (mm_cb 91) 0 = .ok (.aload_n 0, 1) := by decide +kernel
theorem d91_1 : decode (mm_cb 91) 1 = .ok (.getfield 26, 3) := by decide +kernel
theorem d91_4 : decode (mm_cb 91) 4 = .ok (.iload_n 1, 1) := by decide +kernel
theorem d91_5 : decode (mm_cb 91) 5 = .ok (.invokevirtual 34, 3) := by decide +kernel
theorem d91_8 : decode (mm_cb 91) 8 = .ok (.aload_n 0, 1) := by decide +kernel
theorem d91_9 : decode (mm_cb 91) 9 = .ok (.iconst 0, 1) := by decide +kernel
theorem d91_10 : decode (mm_cb 91) 10 = .ok (.putfield 15, 3) := by decide +kernel
theorem d91_13 : decode (mm_cb 91) 13 = .ok (.aload_n 0, 1) := by decide +kernel
theorem d91_14 : decode (mm_cb 91) 14 = .ok (.iconst 0, 1) := by decide +kernel
theorem d91_15 : decode (mm_cb 91) 15 = .ok (.putfield 19, 3) := by decide +kernel
theorem d91_18 : decode (mm_cb 91) 18 = .ok (.aload_n 0, 1) := by decide +kernel
theorem d91_19 : decode (mm_cb 91) 19 = .ok (.lconst 0, 1) := by decide +kernel
theorem d91_20 : decode (mm_cb 91) 20 = .ok (.putfield 22, 3) := by decide +kernel
theorem d91_23 : decode (mm_cb 91) 23 = .ok (.iconst 1, 1) := by decide +kernel
theorem d91_24 : decode (mm_cb 91) 24 = .ok (.istore_n 3, 1) := by decide +kernel
theorem d91_25 : decode (mm_cb 91) 25 = .ok (.iload_n 3, 1) := by decide +kernel
theorem d91_26 : decode (mm_cb 91) 26 = .ok (.ifCond .eq 127, 3) := by decide +kernel
theorem d91_29 : decode (mm_cb 91) 29 = .ok (.aload_n 0, 1) := by decide +kernel
theorem d91_30 : decode (mm_cb 91) 30 = .ok (.getfield 19, 3) := by decide +kernel
theorem d91_33 : decode (mm_cb 91) 33 = .ok (.sipush 2000, 3) := by decide +kernel
theorem d91_36 : decode (mm_cb 91) 36 = .ok (.if_icmp .ge 117, 3) := by decide +kernel
theorem d91_39 : decode (mm_cb 91) 39 = .ok (.aload_n 0, 1) := by decide +kernel
theorem d91_40 : decode (mm_cb 91) 40 = .ok (.getfield 30, 3) := by decide +kernel
theorem d91_43 : decode (mm_cb 91) 43 = .ok (.aload_n 0, 1) := by decide +kernel
theorem d91_44 : decode (mm_cb 91) 44 = .ok (.getfield 26, 3) := by decide +kernel
theorem d91_47 : decode (mm_cb 91) 47 = .ok (.invokevirtual 40, 3) := by decide +kernel
theorem d91_50 : decode (mm_cb 91) 50 = .ok (.istore 4, 2) := by decide +kernel
theorem d91_52 : decode (mm_cb 91) 52 = .ok (.aload_n 0, 1) := by decide +kernel
theorem d91_53 : decode (mm_cb 91) 53 = .ok (.dup, 1) := by decide +kernel
theorem d91_54 : decode (mm_cb 91) 54 = .ok (.getfield 19, 3) := by decide +kernel
theorem d91_57 : decode (mm_cb 91) 57 = .ok (.iconst 1, 1) := by decide +kernel
theorem d91_58 : decode (mm_cb 91) 58 = .ok (.iadd, 1) := by decide +kernel
theorem d91_59 : decode (mm_cb 91) 59 = .ok (.putfield 19, 3) := by decide +kernel
theorem d91_62 : decode (mm_cb 91) 62 = .ok (.iload 4, 2) := by decide +kernel
theorem d91_64 : decode (mm_cb 91) 64 = .ok (.iconst (-1), 1) := by decide +kernel
theorem d91_65 : decode (mm_cb 91) 65 = .ok (.if_icmp .ne 25, 3) := by decide +kernel
theorem d91_68 : decode (mm_cb 91) 68 = .ok (.aload_n 0, 1) := by decide +kernel
theorem d91_69 : decode (mm_cb 91) 69 = .ok (.aload_n 0, 1) := by decide +kernel
theorem d91_70 : decode (mm_cb 91) 70 = .ok (.getfield 22, 3) := by decide +kernel
theorem d91_73 : decode (mm_cb 91) 73 = .ok (.aload_n 0, 1) := by decide +kernel
theorem d91_74 : decode (mm_cb 91) 74 = .ok (.getfield 26, 3) := by decide +kernel
theorem d91_77 : decode (mm_cb 91) 77 = .ok (.iload_n 2, 1) := by decide +kernel
theorem d91_78 : decode (mm_cb 91) 78 = .ok (.invokevirtual 46, 3) := by decide +kernel
theorem d91_81 : decode (mm_cb 91) 81 = .ok (.invokestatic 50, 3) := by decide +kernel
theorem d91_84 : decode (mm_cb 91) 84 = .ok (.putfield 22, 3) := by decide +kernel
theorem d91_87 : decode (mm_cb 91) 87 = .ok (.goto 57, 3) := by decide +kernel
theorem d91_90 : decode (mm_cb 91) 90 = .ok (.iload 4, 2) := by decide +kernel
theorem d91_92 : decode (mm_cb 91) 92 = .ok (.bipush (-2), 2) := by decide +kernel
theorem d91_94 : decode (mm_cb 91) 94 = .ok (.if_icmp .ne 20, 3) := by decide +kernel
theorem d91_97 : decode (mm_cb 91) 97 = .ok (.aload_n 0, 1) := by decide +kernel
theorem d91_98 : decode (mm_cb 91) 98 = .ok (.getfield 26, 3) := by decide +kernel
theorem d91_101 : decode (mm_cb 91) 101 = .ok (.iload_n 2, 1) := by decide +kernel
theorem d91_102 : decode (mm_cb 91) 102 = .ok (.invokevirtual 46, 3) := by decide +kernel
theorem d91_105 : decode (mm_cb 91) 105 = .ok (.lconst 0, 1) := by decide +kernel
theorem d91_106 : decode (mm_cb 91) 106 = .ok (.lcmp, 1) := by decide +kernel
theorem d91_107 : decode (mm_cb 91) 107 = .ok (.ifCond .le 37, 3) := by decide +kernel
theorem d91_110 : decode (mm_cb 91) 110 = .ok (.getstatic 54, 3) := by decide +kernel
theorem d91_113 : decode (mm_cb 91) 113 = .ok (.areturn, 1) := by decide +kernel
theorem d91_114 : decode (mm_cb 91) 114 = .ok (.aload_n 0, 1) := by decide +kernel
theorem d91_115 : decode (mm_cb 91) 115 = .ok (.getfield 15, 3) := by decide +kernel
theorem d91_118 : decode (mm_cb 91) 118 = .ok (.bipush 121, 2) := by decide +kernel
theorem d91_120 : decode (mm_cb 91) 120 = .ok (.if_icmp .ge 24, 3) := by decide +kernel
theorem d91_123 : decode (mm_cb 91) 123 = .ok (.aload_n 0, 1) := by decide +kernel
theorem d91_124 : decode (mm_cb 91) 124 = .ok (.getfield 9, 3) := by decide +kernel
theorem d91_127 : decode (mm_cb 91) 127 = .ok (.aload_n 0, 1) := by decide +kernel
theorem d91_128 : decode (mm_cb 91) 128 = .ok (.getfield 15, 3) := by decide +kernel
theorem d91_131 : decode (mm_cb 91) 131 = .ok (.iload 4, 2) := by decide +kernel
theorem d91_133 : decode (mm_cb 91) 133 = .ok (.iastore, 1) := by decide +kernel
theorem d91_134 : decode (mm_cb 91) 134 = .ok (.aload_n 0, 1) := by decide +kernel
theorem d91_135 : decode (mm_cb 91) 135 = .ok (.dup, 1) := by decide +kernel
theorem d91_136 : decode (mm_cb 91) 136 = .ok (.getfield 15, 3) := by decide +kernel
theorem d91_139 : decode (mm_cb 91) 139 = .ok (.iconst 1, 1) := by decide +kernel
theorem d91_140 : decode (mm_cb 91) 140 = .ok (.iadd, 1) := by decide +kernel
theorem d91_141 : decode (mm_cb 91) 141 = .ok (.putfield 15, 3) := by decide +kernel
theorem d91_144 : decode (mm_cb 91) 144 = .ok (.aload_n 0, 1) := by decide +kernel
theorem d91_145 : decode (mm_cb 91) 145 = .ok (.iload_n 2, 1) := by decide +kernel
theorem d91_146 : decode (mm_cb 91) 146 = .ok (.invokevirtual 60, 3) := by decide +kernel
theorem d91_149 : decode (mm_cb 91) 149 = .ok (.istore_n 3, 1) := by decide +kernel
theorem d91_150 : decode (mm_cb 91) 150 = .ok (.goto (-125), 3) := by decide +kernel
theorem d91_153 : decode (mm_cb 91) 153 = .ok (.iload_n 3, 1) := by decide +kernel
theorem d91_154 : decode (mm_cb 91) 154 = .ok (.ifCond .eq 9, 3) := by decide +kernel
theorem d91_157 : decode (mm_cb 91) 157 = .ok (.getstatic 64, 3) := by decide +kernel
theorem d91_160 : decode (mm_cb 91) 160 = .ok (.goto 6, 3) := by decide +kernel
theorem d91_163 : decode (mm_cb 91) 163 = .ok (.getstatic 67, 3) := by decide +kernel
theorem d91_166 : decode (mm_cb 91) 166 = .ok (.areturn, 1) := by decide +kernel
theorem d92_0 : decode (mm_cb 92) 0 = .ok (.aload_n 0, 1) := by decide +kernel
theorem d92_1 : decode (mm_cb 92) 1 = .ok (.getfield 9, 3) := by decide +kernel
theorem d92_4 : decode (mm_cb 92) 4 = .ok (.iconst 0, 1) := by decide +kernel
theorem d92_5 : decode (mm_cb 92) 5 = .ok (.iload_n 1, 1) := by decide +kernel
theorem d92_6 : decode (mm_cb 92) 6 = .ok (.iastore, 1) := by decide +kernel
theorem d92_7 : decode (mm_cb 92) 7 = .ok (.aload_n 0, 1) := by decide +kernel
theorem d92_8 : decode (mm_cb 92) 8 = .ok (.iconst 0, 1) := by decide +kernel
theorem d92_9 : decode (mm_cb 92) 9 = .ok (.invokevirtual 29, 3) := by decide +kernel
theorem d92_12 : decode (mm_cb 92) 12 = .ok (.return_, 1) := by decide +kernel
theorem d93_0 : decode (mm_cb 93) 0 = .ok (.aload_n 0, 1) := by decide +kernel
theorem d93_1 : decode (mm_cb 93) 1 = .ok (.iconst 0, 1) := by decide +kernel
theorem d93_2 : decode (mm_cb 93) 2 = .ok (.iload_n 1, 1) := by decide +kernel
theorem d93_3 : decode (mm_cb 93) 3 = .ok (.invokevirtual 75, 3) := by decide +kernel
theorem d93_6 : decode (mm_cb 93) 6 = .ok (.lreturn, 1) := by decide +kernel
theorem d94_0 : decode (mm_cb 94) 0 = .ok (.aload_n 0, 1) := by decide +kernel
theorem d94_1 : decode (mm_cb 94) 1 = .ok (.getfield 15, 3) := by decide +kernel
theorem d94_4 : decode (mm_cb 94) 4 = .ok (.iload_n 1, 1) := by decide +kernel
theorem d94_5 : decode (mm_cb 94) 5 = .ok (.iaload, 1) := by decide +kernel
theorem d94_6 : decode (mm_cb 94) 6 = .ok (.bipush (-2), 2) := by decide +kernel
theorem d94_8 : decode (mm_cb 94) 8 = .ok (.if_icmp .ne 18, 3) := by decide +kernel
theorem d94_11 : decode (mm_cb 94) 11 = .ok (.aload_n 0, 1) := by decide +kernel
theorem d94_12 : decode (mm_cb 94) 12 = .ok (.getfield 25, 3) := by decide +kernel
theorem d94_15 : decode (mm_cb 94) 15 = .ok (.aload_n 0, 1) := by decide +kernel
theorem d94_16 : decode (mm_cb 94) 16 = .ok (.getfield 9, 3) := by decide +kernel
theorem d94_19 : decode (mm_cb 94) 19 = .ok (.iload_n 1, 1) := by decide +kernel
theorem d94_20 : decode (mm_cb 94) 20 = .ok (.iaload, 1) := by decide +kernel
theorem d94_21 : decode (mm_cb 94) 21 = .ok (.iload_n 2, 1) := by decide +kernel
theorem d94_22 : decode (mm_cb 94) 22 = .ok (.invokevirtual 78, 3) := by decide +kernel
theorem d94_25 : decode (mm_cb 94) 25 = .ok (.lreturn, 1) := by decide +kernel
theorem d94_26 : decode (mm_cb 94) 26 = .ok (.lconst 1, 1) := by decide +kernel
theorem d94_27 : decode (mm_cb 94) 27 = .ok (.lstore_n 3, 1) := by decide +kernel
theorem d94_28 : decode (mm_cb 94) 28 = .ok (.iload_n 2, 1) := by decide +kernel
theorem d94_29 : decode (mm_cb 94) 29 = .ok (.ifCond .le 41, 3) := by decide +kernel
theorem d94_32 : decode (mm_cb 94) 32 = .ok (.iconst 0, 1) := by decide +kernel
theorem d94_33 : decode (mm_cb 94) 33 = .ok (.istore 5, 2) := by decide +kernel
theorem d94_35 : decode (mm_cb 94) 35 = .ok (.iload 5, 2) := by decide +kernel
theorem d94_37 : decode (mm_cb 94) 37 = .ok (.aload_n 0, 1) := by decide +kernel
theorem d94_38 : decode (mm_cb 94) 38 = .ok (.getfield 18, 3) := by decide +kernel
theorem d94_41 : decode (mm_cb 94) 41 = .ok (.iload_n 1, 1) := by decide +kernel
theorem d94_42 : decode (mm_cb 94) 42 = .ok (.iaload, 1) := by decide +kernel
theorem d94_43 : decode (mm_cb 94) 43 = .ok (.if_icmp .ge 27, 3) := by decide +kernel
theorem d94_46 : decode (mm_cb 94) 46 = .ok (.lload_n 3, 1) := by decide +kernel
theorem d94_47 : decode (mm_cb 94) 47 = .ok (.aload_n 0, 1) := by decide +kernel
theorem d94_48 : decode (mm_cb 94) 48 = .ok (.iload_n 1, 1) := by decide +kernel
theorem d94_49 : decode (mm_cb 94) 49 = .ok (.iload 5, 2) := by decide +kernel
theorem d94_51 : decode (mm_cb 94) 51 = .ok (.invokestatic 61, 3) := by decide +kernel
theorem d94_54 : decode (mm_cb 94) 54 = .ok (.iload_n 2, 1) := by decide +kernel
theorem d94_55 : decode (mm_cb 94) 55 = .ok (.iconst 1, 1) := by decide +kernel
theorem d94_56 : decode (mm_cb 94) 56 = .ok (.isub, 1) := by decide +kernel
theorem d94_57 : decode (mm_cb 94) 57 = .ok (.invokevirtual 75, 3) := by decide +kernel
theorem d94_60 : decode (mm_cb 94) 60 = .ok (.invokestatic 81, 3) := by decide +kernel
theorem d94_63 : decode (mm_cb 94) 63 = .ok (.lstore_n 3, 1) := by decide +kernel
theorem d94_64 : decode (mm_cb 94) 64 = .ok (.iinc 5 1, 3) := by decide +kernel
theorem d94_67 : decode (mm_cb 94) 67 = .ok (.goto (-32), 3) := by decide +kernel
theorem d94_70 : decode (mm_cb 94) 70 = .ok (.lload_n 3, 1) := by decide +kernel
theorem d94_71 : decode (mm_cb 94) 71 = .ok (.lreturn, 1) := by decide +kernel
theorem d95_0 : decode (mm_cb 95) 0 = .ok (.aload_n 0, 1) := by decide +kernel
theorem d95_1 : decode (mm_cb 95) 1 = .ok (.getfield 15, 3) := by decide +kernel
theorem d95_4 : decode (mm_cb 95) 4 = .ok (.ifCond .le 40, 3) := by decide +kernel
theorem d95_7 : decode (mm_cb 95) 7 = .ok (.aload_n 0, 1) := by decide +kernel
theorem d95_8 : decode (mm_cb 95) 8 = .ok (.getfield 26, 3) := by decide +kernel
theorem d95_11 : decode (mm_cb 95) 11 = .ok (.aload_n 0, 1) := by decide +kernel
theorem d95_12 : decode (mm_cb 95) 12 = .ok (.getfield 9, 3) := by decide +kernel
theorem d95_15 : decode (mm_cb 95) 15 = .ok (.aload_n 0, 1) := by decide +kernel
theorem d95_16 : decode (mm_cb 95) 16 = .ok (.getfield 15, 3) := by decide +kernel
theorem d95_19 : decode (mm_cb 95) 19 = .ok (.iconst 1, 1) := by decide +kernel
theorem d95_20 : decode (mm_cb 95) 20 = .ok (.isub, 1) := by decide +kernel
theorem d95_21 : decode (mm_cb 95) 21 = .ok (.iaload, 1) := by decide +kernel
theorem d95_22 : decode (mm_cb 95) 22 = .ok (.iload_n 1, 1) := by decide +kernel
theorem d95_23 : decode (mm_cb 95) 23 = .ok (.invokevirtual 70, 3) := by decide +kernel
theorem d95_26 : decode (mm_cb 95) 26 = .ok (.ifCond .eq 5, 3) := by decide +kernel
theorem d95_29 : decode (mm_cb 95) 29 = .ok (.iconst 1, 1) := by decide +kernel
theorem d95_30 : decode (mm_cb 95) 30 = .ok (.ireturn, 1) := by decide +kernel
theorem d95_31 : decode (mm_cb 95) 31 = .ok (.aload_n 0, 1) := by decide +kernel
theorem d95_32 : decode (mm_cb 95) 32 = .ok (.dup, 1) := by decide +kernel
theorem d95_33 : decode (mm_cb 95) 33 = .ok (.getfield 15, 3) := by decide +kernel
theorem d95_36 : decode (mm_cb 95) 36 = .ok (.iconst 1, 1) := by decide +kernel
theorem d95_37 : decode (mm_cb 95) 37 = .ok (.isub, 1) := by decide +kernel
theorem d95_38 : decode (mm_cb 95) 38 = .ok (.putfield 15, 3) := by decide +kernel
theorem d95_41 : decode (mm_cb 95) 41 = .ok (.goto (-41), 3) := by decide +kernel
theorem d95_44 : decode (mm_cb 95) 44 = .ok (.iconst 0, 1) := by decide +kernel
theorem d95_45 : decode (mm_cb 95) 45 = .ok (.ireturn, 1) := by decide +kernel
theorem d96_0 : decode (mm_cb 96) 0 = .ok (.aload_n 0, 1) := by decide +kernel
theorem d96_1 : decode (mm_cb 96) 1 = .ok (.getfield 9, 3) := by decide +kernel
theorem d96_4 : decode (mm_cb 96) 4 = .ok (.iload_n 1, 1) := by decide +kernel
theorem d96_5 : decode (mm_cb 96) 5 = .ok (.iaload, 1) := by decide +kernel
theorem d96_6 : decode (mm_cb 96) 6 = .ok (.istore_n 3, 1) := by decide +kernel
theorem d96_7 : decode (mm_cb 96) 7 = .ok (.iload_n 1, 1) := by decide +kernel
theorem d96_8 : decode (mm_cb 96) 8 = .ok (.invokestatic 72, 3) := by decide +kernel
theorem d96_11 : decode (mm_cb 96) 11 = .ok (.iload_n 2, 1) := by decide +kernel
theorem d96_12 : decode (mm_cb 96) 12 = .ok (.if_icmp .ge 7, 3) := by decide +kernel
theorem d96_15 : decode (mm_cb 96) 15 = .ok (.iconst 1, 1) := by decide +kernel
theorem d96_16 : decode (mm_cb 96) 16 = .ok (.goto 4, 3) := by decide +kernel
theorem d96_19 : decode (mm_cb 96) 19 = .ok (.iconst 0, 1) := by decide +kernel
theorem d96_20 : decode (mm_cb 96) 20 = .ok (.istore 4, 2) := by decide +kernel
theorem d96_22 : decode (mm_cb 96) 22 = .ok (.aload_n 0, 1) := by decide +kernel
theorem d96_23 : decode (mm_cb 96) 23 = .ok (.getfield 15, 3) := by decide +kernel
theorem d96_26 : decode (mm_cb 96) 26 = .ok (.iload_n 1, 1) := by decide +kernel
theorem d96_27 : decode (mm_cb 96) 27 = .ok (.iaload, 1) := by decide +kernel
theorem d96_28 : decode (mm_cb 96) 28 = .ok (.bipush (-2), 2) := by decide +kernel
theorem d96_30 : decode (mm_cb 96) 30 = .ok (.if_icmp .ne 7, 3) := by decide +kernel
theorem d96_33 : decode (mm_cb 96) 33 = .ok (.iconst 0, 1) := by decide +kernel
theorem d96_34 : decode (mm_cb 96) 34 = .ok (.goto 11, 3) := by decide +kernel
theorem d96_37 : decode (mm_cb 96) 37 = .ok (.aload_n 0, 1) := by decide +kernel
theorem d96_38 : decode (mm_cb 96) 38 = .ok (.getfield 15, 3) := by decide +kernel
theorem d96_41 : decode (mm_cb 96) 41 = .ok (.iload_n 1, 1) := by decide +kernel
theorem d96_42 : decode (mm_cb 96) 42 = .ok (.iaload, 1) := by decide +kernel
theorem d96_43 : decode (mm_cb 96) 43 = .ok (.iconst 1, 1) := by decide +kernel
theorem d96_44 : decode (mm_cb 96) 44 = .ok (.iadd, 1) := by decide +kernel
theorem d96_45 : decode (mm_cb 96) 45 = .ok (.istore 5, 2) := by decide +kernel
theorem d96_47 : decode (mm_cb 96) 47 = .ok (.iload 5, 2) := by decide +kernel
theorem d96_49 : decode (mm_cb 96) 49 = .ok (.istore 6, 2) := by decide +kernel
theorem d96_51 : decode (mm_cb 96) 51 = .ok (.iload 6, 2) := by decide +kernel
theorem d96_53 : decode (mm_cb 96) 53 = .ok (.aload_n 0, 1) := by decide +kernel
theorem d96_54 : decode (mm_cb 96) 54 = .ok (.getfield 21, 3) := by decide +kernel
theorem d96_57 : decode (mm_cb 96) 57 = .ok (.iload_n 3, 1) := by decide +kernel
theorem d96_58 : decode (mm_cb 96) 58 = .ok (.invokevirtual 37, 3) := by decide +kernel
theorem d96_61 : decode (mm_cb 96) 61 = .ok (.if_icmp .ge 39, 3) := by decide +kernel
theorem d96_64 : decode (mm_cb 96) 64 = .ok (.iload 4, 2) := by decide +kernel
theorem d96_66 : decode (mm_cb 96) 66 = .ok (.ifCond .ne 19, 3) := by decide +kernel
theorem d96_69 : decode (mm_cb 96) 69 = .ok (.aload_n 0, 1) := by decide +kernel
theorem d96_70 : decode (mm_cb 96) 70 = .ok (.getfield 21, 3) := by decide +kernel
theorem d96_73 : decode (mm_cb 96) 73 = .ok (.iload_n 3, 1) := by decide +kernel
theorem d96_74 : decode (mm_cb 96) 74 = .ok (.iload 6, 2) := by decide +kernel
theorem d96_76 : decode (mm_cb 96) 76 = .ok (.invokestatic 43, 3) := by decide +kernel
theorem d96_79 : decode (mm_cb 96) 79 = .ok (.invokevirtual 66, 3) := by decide +kernel
theorem d96_82 : decode (mm_cb 96) 82 = .ok (.ifCond .ne 12, 3) := by decide +kernel
theorem d96_85 : decode (mm_cb 96) 85 = .ok (.aload_n 0, 1) := by decide +kernel
theorem d96_86 : decode (mm_cb 96) 86 = .ok (.iload_n 1, 1) := by decide +kernel
theorem d96_87 : decode (mm_cb 96) 87 = .ok (.iload 6, 2) := by decide +kernel
theorem d96_89 : decode (mm_cb 96) 89 = .ok (.invokevirtual 53, 3) := by decide +kernel
theorem d96_92 : decode (mm_cb 96) 92 = .ok (.iconst 1, 1) := by decide +kernel
theorem d96_93 : decode (mm_cb 96) 93 = .ok (.ireturn, 1) := by decide +kernel
theorem d96_94 : decode (mm_cb 96) 94 = .ok (.iinc 6 1, 3) := by decide +kernel
theorem d96_97 : decode (mm_cb 96) 97 = .ok (.goto (-46), 3) := by decide +kernel
theorem d96_100 : decode (mm_cb 96) 100 = .ok (.aload_n 0, 1) := by decide +kernel
theorem d96_101 : decode (mm_cb 96) 101 = .ok (.iload_n 1, 1) := by decide +kernel
theorem d96_102 : decode (mm_cb 96) 102 = .ok (.invokevirtual 29, 3) := by decide +kernel
theorem d96_105 : decode (mm_cb 96) 105 = .ok (.iconst 0, 1) := by decide +kernel
theorem d96_106 : decode (mm_cb 96) 106 = .ok (.ireturn, 1) := by decide +kernel
theorem d97_0 : decode (mm_cb 97) 0 = .ok (.aload_n 0, 1) := by decide +kernel
theorem d97_1 : decode (mm_cb 97) 1 = .ok (.getfield 19, 3) := by decide +kernel
theorem d97_4 : decode (mm_cb 97) 4 = .ok (.ireturn, 1) := by decide +kernel
theorem d98_0 : decode (mm_cb 98) 0 = .ok (.aload_n 0, 1) := by decide +kernel
theorem d98_1 : decode (mm_cb 98) 1 = .ok (.getfield 22, 3) := by decide +kernel
theorem d98_4 : decode (mm_cb 98) 4 = .ok (.lreturn, 1) := by decide +kernel
theorem d99_0 : decode (mm_cb 99) 0 = .ok (.aload_n 0, 1) := by decide +kernel
theorem d99_1 : decode (mm_cb 99) 1 = .ok (.invokespecial 1, 3) := by decide +kernel
theorem d99_4 : decode (mm_cb 99) 4 = .ok (.aload_n 0, 1) := by decide +kernel
theorem d99_5 : decode (mm_cb 99) 5 = .ok (.bipush 6, 2) := by decide +kernel
theorem d99_7 : decode (mm_cb 99) 7 = .ok (.newarray .int, 2) := by decide +kernel
theorem d99_9 : decode (mm_cb 99) 9 = .ok (.putfield 7, 3) := by decide +kernel
theorem d99_12 : decode (mm_cb 99) 12 = .ok (.aload_n 0, 1) := by decide +kernel
theorem d99_13 : decode (mm_cb 99) 13 = .ok (.bipush 24, 2) := by decide +kernel
theorem d99_15 : decode (mm_cb 99) 15 = .ok (.newarray .int, 2) := by decide +kernel
theorem d99_17 : decode (mm_cb 99) 17 = .ok (.putfield 13, 3) := by decide +kernel
theorem d99_20 : decode (mm_cb 99) 20 = .ok (.aload_n 0, 1) := by decide +kernel
theorem d99_21 : decode (mm_cb 99) 21 = .ok (.bipush 72, 2) := by decide +kernel
theorem d99_23 : decode (mm_cb 99) 23 = .ok (.newarray .int, 2) := by decide +kernel
theorem d99_25 : decode (mm_cb 99) 25 = .ok (.putfield 16, 3) := by decide +kernel
theorem d99_28 : decode (mm_cb 99) 28 = .ok (.aload_n 0, 1) := by decide +kernel
theorem d99_29 : decode (mm_cb 99) 29 = .ok (.bipush 36, 2) := by decide +kernel
theorem d99_31 : decode (mm_cb 99) 31 = .ok (.newarray .long, 2) := by decide +kernel
theorem d99_33 : decode (mm_cb 99) 33 = .ok (.putfield 19, 3) := by decide +kernel
theorem d99_36 : decode (mm_cb 99) 36 = .ok (.aload_n 0, 1) := by decide +kernel
theorem d99_37 : decode (mm_cb 99) 37 = .ok (.bipush 78, 2) := by decide +kernel
theorem d99_39 : decode (mm_cb 99) 39 = .ok (.newarray .long, 2) := by decide +kernel
theorem d99_41 : decode (mm_cb 99) 41 = .ok (.putfield 23, 3) := by decide +kernel
theorem d99_44 : decode (mm_cb 99) 44 = .ok (.aload_n 0, 1) := by decide +kernel
theorem d99_45 : decode (mm_cb 99) 45 = .ok (.sipush 256, 3) := by decide +kernel
theorem d99_48 : decode (mm_cb 99) 48 = .ok (.newarray .int, 2) := by decide +kernel
theorem d99_50 : decode (mm_cb 99) 50 = .ok (.putfield 26, 3) := by decide +kernel
theorem d99_53 : decode (mm_cb 99) 53 = .ok (.aload_n 0, 1) := by decide +kernel
theorem d99_54 : decode (mm_cb 99) 54 = .ok (.sipush 256, 3) := by decide +kernel
theorem d99_57 : decode (mm_cb 99) 57 = .ok (.newarray .int, 2) := by decide +kernel
theorem d99_59 : decode (mm_cb 99) 59 = .ok (.putfield 29, 3) := by decide +kernel
theorem d99_62 : decode (mm_cb 99) 62 = .ok (.aload_n 0, 1) := by decide +kernel
theorem d99_63 : decode (mm_cb 99) 63 = .ok (.sipush 256, 3) := by decide +kernel
theorem d99_66 : decode (mm_cb 99) 66 = .ok (.newarray .int, 2) := by decide +kernel
theorem d99_68 : decode (mm_cb 99) 68 = .ok (.putfield 32, 3) := by decide +kernel
theorem d99_71 : decode (mm_cb 99) 71 = .ok (.aload_n 0, 1) := by decide +kernel
theorem d99_72 : decode (mm_cb 99) 72 = .ok (.sipush 512, 3) := by decide +kernel
theorem d99_75 : decode (mm_cb 99) 75 = .ok (.newarray .int, 2) := by decide +kernel
theorem d99_77 : decode (mm_cb 99) 77 = .ok (.putfield 35, 3) := by decide +kernel
theorem d99_80 : decode (mm_cb 99) 80 = .ok (.aload_n 0, 1) := by decide +kernel
theorem d99_81 : decode (mm_cb 99) 81 = .ok (.sipush 512, 3) := by decide +kernel
theorem d99_84 : decode (mm_cb 99) 84 = .ok (.newarray .int, 2) := by decide +kernel
theorem d99_86 : decode (mm_cb 99) 86 = .ok (.putfield 38, 3) := by decide +kernel
theorem d99_89 : decode (mm_cb 99) 89 = .ok (.aload_n 0, 1) := by decide +kernel
theorem d99_90 : decode (mm_cb 99) 90 = .ok (.sipush 512, 3) := by decide +kernel
theorem d99_93 : decode (mm_cb 99) 93 = .ok (.newarray .long, 2) := by decide +kernel
theorem d99_95 : decode (mm_cb 99) 95 = .ok (.putfield 41, 3) := by decide +kernel
theorem d99_98 : decode (mm_cb 99) 98 = .ok (.aload_n 0, 1) := by decide +kernel
theorem d99_99 : decode (mm_cb 99) 99 = .ok (.bipush 20, 2) := by decide +kernel
theorem d99_101 : decode (mm_cb 99) 101 = .ok (.newarray .int, 2) := by decide +kernel
theorem d99_103 : decode (mm_cb 99) 103 = .ok (.putfield 44, 3) := by decide +kernel
theorem d99_106 : decode (mm_cb 99) 106 = .ok (.aload_n 0, 1) := by decide +kernel
theorem d99_107 : decode (mm_cb 99) 107 = .ok (.bipush 20, 2) := by decide +kernel
theorem d99_109 : decode (mm_cb 99) 109 = .ok (.newarray .int, 2) := by decide +kernel
theorem d99_111 : decode (mm_cb 99) 111 = .ok (.putfield 47, 3) := by decide +kernel
theorem d99_114 : decode (mm_cb 99) 114 = .ok (.aload_n 0, 1) := by decide +kernel
theorem d99_115 : decode (mm_cb 99) 115 = .ok (.bipush 20, 2) := by decide +kernel
theorem d99_117 : decode (mm_cb 99) 117 = .ok (.newarray .int, 2) := by decide +kernel
theorem d99_119 : decode (mm_cb 99) 119 = .ok (.putfield 50, 3) := by decide +kernel
theorem d99_122 : decode (mm_cb 99) 122 = .ok (.aload_n 0, 1) := by decide +kernel
theorem d99_123 : decode (mm_cb 99) 123 = .ok (.bipush 20, 2) := by decide +kernel
theorem d99_125 : decode (mm_cb 99) 125 = .ok (.newarray .int, 2) := by decide +kernel
theorem d99_127 : decode (mm_cb 99) 127 = .ok (.putfield 53, 3) := by decide +kernel
theorem d99_130 : decode (mm_cb 99) 130 = .ok (.aload_n 0, 1) := by decide +kernel
theorem d99_131 : decode (mm_cb 99) 131 = .ok (.bipush 20, 2) := by decide +kernel
theorem d99_133 : decode (mm_cb 99) 133 = .ok (.newarray .int, 2) := by decide +kernel
theorem d99_135 : decode (mm_cb 99) 135 = .ok (.putfield 56, 3) := by decide +kernel
theorem d99_138 : decode (mm_cb 99) 138 = .ok (.aload_n 0, 1) := by decide +kernel
theorem d99_139 : decode (mm_cb 99) 139 = .ok (.sipush 256, 3) := by decide +kernel
theorem d99_142 : decode (mm_cb 99) 142 = .ok (.newarray .int, 2) := by decide +kernel
theorem d99_144 : decode (mm_cb 99) 144 = .ok (.putfield 59, 3) := by decide +kernel
theorem d99_147 : decode (mm_cb 99) 147 = .ok (.aload_n 0, 1) := by decide +kernel
theorem d99_148 : decode (mm_cb 99) 148 = .ok (.sipush 256, 3) := by decide +kernel
theorem d99_151 : decode (mm_cb 99) 151 = .ok (.newarray .int, 2) := by decide +kernel
theorem d99_153 : decode (mm_cb 99) 153 = .ok (.putfield 62, 3) := by decide +kernel
theorem d99_156 : decode (mm_cb 99) 156 = .ok (.return_, 1) := by decide +kernel
theorem d100_0 : decode (mm_cb 100) 0 = .ok (.aload_n 0, 1) := by decide +kernel
theorem d100_1 : decode (mm_cb 100) 1 = .ok (.getfield 65, 3) := by decide +kernel
theorem d100_4 : decode (mm_cb 100) 4 = .ok (.ireturn, 1) := by decide +kernel
theorem d101_0 : decode (mm_cb 101) 0 = .ok (.aload_n 0, 1) := by decide +kernel
theorem d101_1 : decode (mm_cb 101) 1 = .ok (.iload_n 1, 1) := by decide +kernel
theorem d101_2 : decode (mm_cb 101) 2 = .ok (.invokestatic 69, 3) := by decide +kernel
theorem d101_5 : decode (mm_cb 101) 5 = .ok (.ifCond .ne 7, 3) := by decide +kernel
theorem d101_8 : decode (mm_cb 101) 8 = .ok (.iconst 1, 1) := by decide +kernel
theorem d101_9 : decode (mm_cb 101) 9 = .ok (.goto 17, 3) := by decide +kernel
theorem d101_12 : decode (mm_cb 101) 12 = .ok (.iload_n 2, 1) := by decide +kernel
theorem d101_13 : decode (mm_cb 101) 13 = .ok (.ifCond .lt 8, 3) := by decide +kernel
theorem d101_16 : decode (mm_cb 101) 16 = .ok (.iload_n 2, 1) := by decide +kernel
theorem d101_17 : decode (mm_cb 101) 17 = .ok (.iconst 3, 1) := by decide +kernel
theorem d101_18 : decode (mm_cb 101) 18 = .ok (.if_icmp .le 7, 3) := by decide +kernel
theorem d101_21 : decode (mm_cb 101) 21 = .ok (.iconst 2, 1) := by decide +kernel
theorem d101_22 : decode (mm_cb 101) 22 = .ok (.goto 4, 3) := by decide +kernel
theorem d101_25 : decode (mm_cb 101) 25 = .ok (.iconst 0, 1) := by decide +kernel
theorem d101_26 : decode (mm_cb 101) 26 = .ok (.putfield 65, 3) := by decide +kernel
theorem d101_29 : decode (mm_cb 101) 29 = .ok (.aload_n 0, 1) := by decide +kernel
theorem d101_30 : decode (mm_cb 101) 30 = .ok (.getfield 65, 3) := by decide +kernel
theorem d101_33 : decode (mm_cb 101) 33 = .ok (.ifCond .ne 123, 3) := by decide +kernel
theorem d101_36 : decode (mm_cb 101) 36 = .ok (.iload_n 2, 1) := by decide +kernel
theorem d101_37 : decode (mm_cb 101) 37 = .ok (.iconst 1, 1) := by decide +kernel
theorem d101_38 : decode (mm_cb 101) 38 = .ok (.if_icmp .lt 10, 3) := by decide +kernel
theorem d101_41 : decode (mm_cb 101) 41 = .ok (.iload_n 3, 1) := by decide +kernel
theorem d101_42 : decode (mm_cb 101) 42 = .ok (.invokestatic 69, 3) := by decide +kernel
theorem d101_45 : decode (mm_cb 101) 45 = .ok (.ifCond .eq 33, 3) := by decide +kernel
theorem d101_48 : decode (mm_cb 101) 48 = .ok (.iload_n 2, 1) := by decide +kernel
theorem d101_49 : decode (mm_cb 101) 49 = .ok (.iconst 2, 1) := by decide +kernel
theorem d101_50 : decode (mm_cb 101) 50 = .ok (.if_icmp .lt 11, 3) := by decide +kernel
theorem d101_53 : decode (mm_cb 101) 53 = .ok (.iload 4, 2) := by decide +kernel
theorem d101_55 : decode (mm_cb 101) 55 = .ok (.invokestatic 69, 3) := by decide +kernel
theorem d101_58 : decode (mm_cb 101) 58 = .ok (.ifCond .eq 20, 3) := by decide +kernel
theorem d101_61 : decode (mm_cb 101) 61 = .ok (.iload_n 2, 1) := by decide +kernel
theorem d101_62 : decode (mm_cb 101) 62 = .ok (.iconst 3, 1) := by decide +kernel
theorem d101_63 : decode (mm_cb 101) 63 = .ok (.if_icmp .lt 11, 3) := by decide +kernel
theorem d101_66 : decode (mm_cb 101) 66 = .ok (.iload 5, 2) := by decide +kernel
theorem d101_68 : decode (mm_cb 101) 68 = .ok (.invokestatic 69, 3) := by decide +kernel
theorem d101_71 : decode (mm_cb 101) 71 = .ok (.ifCond .eq 7, 3) := by decide +kernel
theorem d101_74 : decode (mm_cb 101) 74 = .ok (.iconst 1, 1) := by decide +kernel
theorem d101_75 : decode (mm_cb 101) 75 = .ok (.goto 4, 3) := by decide +kernel
theorem d101_78 : decode (mm_cb 101) 78 = .ok (.iconst 0, 1) := by decide +kernel
theorem d101_79 : decode (mm_cb 101) 79 = .ok (.istore 6, 2) := by decide +kernel
theorem d101_81 : decode (mm_cb 101) 81 = .ok (.iload_n 2, 1) := by decide +kernel
theorem d101_82 : decode (mm_cb 101) 82 = .ok (.ifCond .gt 8, 3) := by decide +kernel
theorem d101_85 : decode (mm_cb 101) 85 = .ok (.iload_n 3, 1) := by decide +kernel
theorem d101_86 : decode (mm_cb 101) 86 = .ok (.iconst (-1), 1) := by decide +kernel
theorem d101_87 : decode (mm_cb 101) 87 = .ok (.if_icmp .ne 29, 3) := by decide +kernel
theorem d101_90 : decode (mm_cb 101) 90 = .ok (.iload_n 2, 1) := by decide +kernel
theorem d101_91 : decode (mm_cb 101) 91 = .ok (.iconst 1, 1) := by decide +kernel
theorem d101_92 : decode (mm_cb 101) 92 = .ok (.if_icmp .gt 9, 3) := by decide +kernel
theorem d101_95 : decode (mm_cb 101) 95 = .ok (.iload 4, 2) := by decide +kernel
theorem d101_97 : decode (mm_cb 101) 97 = .ok (.iconst (-1), 1) := by decide +kernel
theorem d101_98 : decode (mm_cb 101) 98 = .ok (.if_icmp .ne 18, 3) := by decide +kernel
theorem d101_101 : decode (mm_cb 101) 101 = .ok (.iload_n 2, 1) := by decide +kernel
theorem d101_102 : decode (mm_cb 101) 102 = .ok (.iconst 2, 1) := by decide +kernel
theorem d101_103 : decode (mm_cb 101) 103 = .ok (.if_icmp .gt 9, 3) := by decide +kernel
theorem d101_106 : decode (mm_cb 101) 106 = .ok (.iload 5, 2) := by decide +kernel
theorem d101_108 : decode (mm_cb 101) 108 = .ok (.iconst (-1), 1) := by decide +kernel
theorem d101_109 : decode (mm_cb 101) 109 = .ok (.if_icmp .ne 7, 3) := by decide +kernel
theorem d101_112 : decode (mm_cb 101) 112 = .ok (.iconst 1, 1) := by decide +kernel
theorem d101_113 : decode (mm_cb 101) 113 = .ok (.goto 4, 3) := by decide +kernel
theorem d101_116 : decode (mm_cb 101) 116 = .ok (.iconst 0, 1) := by decide +kernel
theorem d101_117 : decode (mm_cb 101) 117 = .ok (.istore 7, 2) := by decide +kernel
theorem d101_119 : decode (mm_cb 101) 119 = .ok (.aload_n 0, 1) := by decide +kernel
theorem d101_120 : decode (mm_cb 101) 120 = .ok (.iload 6, 2) := by decide +kernel
theorem d101_122 : decode (mm_cb 101) 122 = .ok (.ifCond .ne 7, 3) := by decide +kernel
theorem d101_125 : decode (mm_cb 101) 125 = .ok (.iconst 1, 1) := by decide +kernel
theorem d101_126 : decode (mm_cb 101) 126 = .ok (.goto 27, 3) := by decide +kernel
theorem d101_129 : decode (mm_cb 101) 129 = .ok (.iload 7, 2) := by decide +kernel
theorem d101_131 : decode (mm_cb 101) 131 = .ok (.ifCond .ne 7, 3) := by decide +kernel
theorem d101_134 : decode (mm_cb 101) 134 = .ok (.iconst 2, 1) := by decide +kernel
theorem d101_135 : decode (mm_cb 101) 135 = .ok (.goto 18, 3) := by decide +kernel
theorem d101_138 : decode (mm_cb 101) 138 = .ok (.aload_n 0, 1) := by decide +kernel
theorem d101_139 : decode (mm_cb 101) 139 = .ok (.getfield 7, 3) := by decide +kernel
theorem d101_142 : decode (mm_cb 101) 142 = .ok (.iload_n 1, 1) := by decide +kernel
theorem d101_143 : decode (mm_cb 101) 143 = .ok (.iaload, 1) := by decide +kernel
theorem d101_144 : decode (mm_cb 101) 144 = .ok (.iconst 4, 1) := by decide +kernel
theorem d101_145 : decode (mm_cb 101) 145 = .ok (.if_icmp .ne 7, 3) := by decide +kernel
theorem d101_148 : decode (mm_cb 101) 148 = .ok (.iconst 3, 1) := by decide +kernel
theorem d101_149 : decode (mm_cb 101) 149 = .ok (.goto 4, 3) := by decide +kernel
theorem d101_152 : decode (mm_cb 101) 152 = .ok (.iconst 0, 1) := by decide +kernel
theorem d101_153 : decode (mm_cb 101) 153 = .ok (.putfield 65, 3) := by decide +kernel
theorem d101_156 : decode (mm_cb 101) 156 = .ok (.aload_n 0, 1) := by decide +kernel
theorem d101_157 : decode (mm_cb 101) 157 = .ok (.getfield 65, 3) := by decide +kernel
theorem d101_160 : decode (mm_cb 101) 160 = .ok (.ifCond .le 5, 3) := by decide +kernel
theorem d101_163 : decode (mm_cb 101) 163 = .ok (.iconst 0, 1) := by decide +kernel
theorem d101_164 : decode (mm_cb 101) 164 = .ok (.ireturn, 1) := by decide +kernel
theorem d101_165 : decode (mm_cb 101) 165 = .ok (.aload_n 0, 1) := by decide +kernel
theorem d101_166 : decode (mm_cb 101) 166 = .ok (.getfield 7, 3) := by decide +kernel
theorem d101_169 : decode (mm_cb 101) 169 = .ok (.iload_n 1, 1) := by decide +kernel
theorem d101_170 : decode (mm_cb 101) 170 = .ok (.iaload, 1) := by decide +kernel
theorem d101_171 : decode (mm_cb 101) 171 = .ok (.istore 6, 2) := by decide +kernel
theorem d101_173 : decode (mm_cb 101) 173 = .ok (.aload_n 0, 1) := by decide +kernel
theorem d101_174 : decode (mm_cb 101) 174 = .ok (.getfield 13, 3) := by decide +kernel
theorem d101_177 : decode (mm_cb 101) 177 = .ok (.iconst 4, 1) := by decide +kernel
theorem d101_178 : decode (mm_cb 101) 178 = .ok (.iload_n 1, 1) := by decide +kernel
theorem d101_179 : decode (mm_cb 101) 179 = .ok (.imul, 1) := by decide +kernel
theorem d101_180 : decode (mm_cb 101) 180 = .ok (.iload 6, 2) := by decide +kernel
theorem d101_182 : decode (mm_cb 101) 182 = .ok (.iadd, 1) := by decide +kernel
theorem d101_183 : decode (mm_cb 101) 183 = .ok (.iload_n 2, 1) := by decide +kernel
theorem d101_184 : decode (mm_cb 101) 184 = .ok (.iastore, 1) := by decide +kernel
theorem d101_185 : decode (mm_cb 101) 185 = .ok (.aload_n 0, 1) := by decide +kernel
theorem d101_186 : decode (mm_cb 101) 186 = .ok (.getfield 16, 3) := by decide +kernel
theorem d101_189 : decode (mm_cb 101) 189 = .ok (.bipush 12, 2) := by decide +kernel
theorem d101_191 : decode (mm_cb 101) 191 = .ok (.iload_n 1, 1) := by decide +kernel
theorem d101_192 : decode (mm_cb 101) 192 = .ok (.imul, 1) := by decide +kernel
theorem d101_193 : decode (mm_cb 101) 193 = .ok (.iconst 3, 1) := by decide +kernel
theorem d101_194 : decode (mm_cb 101) 194 = .ok (.iload 6, 2) := by decide +kernel
theorem d101_196 : decode (mm_cb 101) 196 = .ok (.imul, 1) := by decide +kernel
theorem d101_197 : decode (mm_cb 101) 197 = .ok (.iadd, 1) := by decide +kernel
theorem d101_198 : decode (mm_cb 101) 198 = .ok (.iload_n 3, 1) := by decide +kernel
theorem d101_199 : decode (mm_cb 101) 199 = .ok (.iastore, 1) := by decide +kernel
theorem d101_200 : decode (mm_cb 101) 200 = .ok (.aload_n 0, 1) := by decide +kernel
theorem d101_201 : decode (mm_cb 101) 201 = .ok (.getfield 16, 3) := by decide +kernel
theorem d101_204 : decode (mm_cb 101) 204 = .ok (.bipush 12, 2) := by decide +kernel
theorem d101_206 : decode (mm_cb 101) 206 = .ok (.iload_n 1, 1) := by decide +kernel
theorem d101_207 : decode (mm_cb 101) 207 = .ok (.imul, 1) := by decide +kernel
theorem d101_208 : decode (mm_cb 101) 208 = .ok (.iconst 3, 1) := by decide +kernel
theorem d101_209 : decode (mm_cb 101) 209 = .ok (.iload 6, 2) := by decide +kernel
theorem d101_211 : decode (mm_cb 101) 211 = .ok (.imul, 1) := by decide +kernel
theorem d101_212 : decode (mm_cb 101) 212 = .ok (.iadd, 1) := by decide +kernel
theorem d101_213 : decode (mm_cb 101) 213 = .ok (.iconst 1, 1) := by decide +kernel
theorem d101_214 : decode (mm_cb 101) 214 = .ok (.iadd, 1) := by decide +kernel
theorem d101_215 : decode (mm_cb 101) 215 = .ok (.iload 4, 2) := by decide +kernel
theorem d101_217 : decode (mm_cb 101) 217 = .ok (.iastore, 1) := by decide +kernel
theorem d101_218 : decode (mm_cb 101) 218 = .ok (.aload_n 0, 1) := by decide +kernel
theorem d101_219 : decode (mm_cb 101) 219 = .ok (.getfield 16, 3) := by decide +kernel
theorem d101_222 : decode (mm_cb 101) 222 = .ok (.bipush 12, 2) := by decide +kernel
theorem d101_224 : decode (mm_cb 101) 224 = .ok (.iload_n 1, 1) := by decide +kernel
theorem d101_225 : decode (mm_cb 101) 225 = .ok (.imul, 1) := by decide +kernel
theorem d101_226 : decode (mm_cb 101) 226 = .ok (.iconst 3, 1) := by decide +kernel
theorem d101_227 : decode (mm_cb 101) 227 = .ok (.iload 6, 2) := by decide +kernel
theorem d101_229 : decode (mm_cb 101) 229 = .ok (.imul, 1) := by decide +kernel
theorem d101_230 : decode (mm_cb 101) 230 = .ok (.iadd, 1) := by decide +kernel
theorem d101_231 : decode (mm_cb 101) 231 = .ok (.iconst 2, 1) := by decide +kernel
theorem d101_232 : decode (mm_cb 101) 232 = .ok (.iadd, 1) := by decide +kernel
theorem d101_233 : decode (mm_cb 101) 233 = .ok (.iload 5, 2) := by decide +kernel
theorem d101_235 : decode (mm_cb 101) 235 = .ok (.iastore, 1) := by decide +kernel
theorem d101_236 : decode (mm_cb 101) 236 = .ok (.aload_n 0, 1) := by decide +kernel
theorem d101_237 : decode (mm_cb 101) 237 = .ok (.getfield 7, 3) := by decide +kernel
theorem d101_240 : decode (mm_cb 101) 240 = .ok (.iload_n 1, 1) := by decide +kernel
theorem d101_241 : decode (mm_cb 101) 241 = .ok (.dup2, 1) := by decide +kernel
theorem d101_242 : decode (mm_cb 101) 242 = .ok (.iaload, 1) := by decide +kernel
theorem d101_243 : decode (mm_cb 101) 243 = .ok (.iconst 1, 1) := by decide +kernel
theorem d101_244 : decode (mm_cb 101) 244 = .ok (.iadd, 1) := by decide +kernel
theorem d101_245 : decode (mm_cb 101) 245 = .ok (.iastore, 1) := by decide +kernel
theorem d101_246 : decode (mm_cb 101) 246 = .ok (.iload 6, 2) := by decide +kernel
theorem d101_248 : decode (mm_cb 101) 248 = .ok (.ireturn, 1) := by decide +kernel
theorem d102_0 : decode (mm_cb 102) 0 = .ok (.iload_n 0, 1) := by decide +kernel
theorem d102_1 : decode (mm_cb 102) 1 = .ok (.ifCond .lt 12, 3) := by decide +kernel
theorem d102_4 : decode (mm_cb 102) 4 = .ok (.iload_n 0, 1) := by decide +kernel
theorem d102_5 : decode (mm_cb 102) 5 = .ok (.iconst 5, 1) := by decide +kernel
theorem d102_6 : decode (mm_cb 102) 6 = .ok (.if_icmp .gt 7, 3) := by decide +kernel
theorem d102_9 : decode (mm_cb 102) 9 = .ok (.iconst 1, 1) := by decide +kernel
theorem d102_10 : decode (mm_cb 102) 10 = .ok (.goto 4, 3) := by decide +kernel
theorem d102_13 : decode (mm_cb 102) 13 = .ok (.iconst 0, 1) := by decide +kernel
theorem d102_14 : decode (mm_cb 102) 14 = .ok (.ireturn, 1) := by decide +kernel
theorem d103_0 : decode (mm_cb 103) 0 = .ok (.aload_n 0, 1) := by decide +kernel
theorem d103_1 : decode (mm_cb 103) 1 = .ok (.iload_n 1, 1) := by decide +kernel
theorem d103_2 : decode (mm_cb 103) 2 = .ok (.iload_n 2, 1) := by decide +kernel
theorem d103_3 : decode (mm_cb 103) 3 = .ok (.invokestatic 101, 3) := by decide +kernel
theorem d103_6 : decode (mm_cb 103) 6 = .ok (.putfield 65, 3) := by decide +kernel
theorem d103_9 : decode (mm_cb 103) 9 = .ok (.aload_n 0, 1) := by decide +kernel
theorem d103_10 : decode (mm_cb 103) 10 = .ok (.getfield 65, 3) := by decide +kernel
theorem d103_13 : decode (mm_cb 103) 13 = .ok (.ifCond .le 5, 3) := by decide +kernel
theorem d103_16 : decode (mm_cb 103) 16 = .ok (.lconst 0, 1) := by decide +kernel
theorem d103_17 : decode (mm_cb 103) 17 = .ok (.lreturn, 1) := by decide +kernel
theorem d103_18 : decode (mm_cb 103) 18 = .ok (.aload_n 0, 1) := by decide +kernel
theorem d103_19 : decode (mm_cb 103) 19 = .ok (.invokevirtual 105, 3) := by decide +kernel
theorem d103_22 : decode (mm_cb 103) 22 = .ok (.aload_n 0, 1) := by decide +kernel
theorem d103_23 : decode (mm_cb 103) 23 = .ok (.getfield 19, 3) := by decide +kernel
theorem d103_26 : decode (mm_cb 103) 26 = .ok (.bipush 6, 2) := by decide +kernel
theorem d103_28 : decode (mm_cb 103) 28 = .ok (.iload_n 1, 1) := by decide +kernel
theorem d103_29 : decode (mm_cb 103) 29 = .ok (.imul, 1) := by decide +kernel
theorem d103_30 : decode (mm_cb 103) 30 = .ok (.iload_n 2, 1) := by decide +kernel
theorem d103_31 : decode (mm_cb 103) 31 = .ok (.iadd, 1) := by decide +kernel
theorem d103_32 : decode (mm_cb 103) 32 = .ok (.iconst 1, 1) := by decide +kernel
theorem d103_33 : decode (mm_cb 103) 33 = .ok (.iadd, 1) := by decide +kernel
theorem d103_34 : decode (mm_cb 103) 34 = .ok (.laload, 1) := by decide +kernel
theorem d103_35 : decode (mm_cb 103) 35 = .ok (.lreturn, 1) := by decide +kernel
theorem d104_0 : decode (mm_cb 104) 0 = .ok (.iload_n 0, 1) := by decide +kernel
theorem d104_1 : decode (mm_cb 104) 1 = .ok (.invokestatic 69, 3) := by decide +kernel
theorem d104_4 : decode (mm_cb 104) 4 = .ok (.ifCond .ne 7, 3) := by decide +kernel
theorem d104_7 : decode (mm_cb 104) 7 = .ok (.iconst 1, 1) := by decide +kernel
theorem d104_8 : decode (mm_cb 104) 8 = .ok (.goto 17, 3) := by decide +kernel
theorem d104_11 : decode (mm_cb 104) 11 = .ok (.iload_n 1, 1) := by decide +kernel
theorem d104_12 : decode (mm_cb 104) 12 = .ok (.ifCond .lt 8, 3) := by decide +kernel
theorem d104_15 : decode (mm_cb 104) 15 = .ok (.iload_n 1, 1) := by decide +kernel
theorem d104_16 : decode (mm_cb 104) 16 = .ok (.iconst 4, 1) := by decide +kernel
theorem d104_17 : decode (mm_cb 104) 17 = .ok (.if_icmp .le 7, 3) := by decide +kernel
theorem d104_20 : decode (mm_cb 104) 20 = .ok (.iconst 2, 1) := by decide +kernel
theorem d104_21 : decode (mm_cb 104) 21 = .ok (.goto 4, 3) := by decide +kernel
theorem d104_24 : decode (mm_cb 104) 24 = .ok (.iconst 0, 1) := by decide +kernel
theorem d104_25 : decode (mm_cb 104) 25 = .ok (.ireturn, 1) := by decide +kernel
theorem d105_0 : decode (mm_cb 105) 0 = .ok (.iconst 0, 1) := by decide +kernel
theorem d105_1 : decode (mm_cb 105) 1 = .ok (.istore_n 1, 1) := by decide +kernel
theorem d105_2 : decode (mm_cb 105) 2 = .ok (.iload_n 1, 1) := by decide +kernel
theorem d105_3 : decode (mm_cb 105) 3 = .ok (.bipush 6, 2) := by decide +kernel
theorem d105_5 : decode (mm_cb 105) 5 = .ok (.if_icmp .ge 19, 3) := by decide +kernel
theorem d105_8 : decode (mm_cb 105) 8 = .ok (.aload_n 0, 1) := by decide +kernel
theorem d105_9 : decode (mm_cb 105) 9 = .ok (.getfield 19, 3) := by decide +kernel
theorem d105_12 : decode (mm_cb 105) 12 = .ok (.bipush 6, 2) := by decide +kernel
theorem d105_14 : decode (mm_cb 105) 14 = .ok (.iload_n 1, 1) := by decide +kernel
theorem d105_15 : decode (mm_cb 105) 15 = .ok (.imul, 1) := by decide +kernel
theorem d105_16 : decode (mm_cb 105) 16 = .ok (.lconst 0, 1) := by decide +kernel
theorem d105_17 : decode (mm_cb 105) 17 = .ok (.lastore, 1) := by decide +kernel
theorem d105_18 : decode (mm_cb 105) 18 = .ok (.iinc 1 1, 3) := by decide +kernel
theorem d105_21 : decode (mm_cb 105) 21 = .ok (.goto (-19), 3) := by decide +kernel
theorem d105_24 : decode (mm_cb 105) 24 = .ok (.iconst 0, 1) := by decide +kernel
theorem d105_25 : decode (mm_cb 105) 25 = .ok (.istore_n 1, 1) := by decide +kernel
theorem d105_26 : decode (mm_cb 105) 26 = .ok (.iload_n 1, 1) := by decide +kernel
theorem d105_27 : decode (mm_cb 105) 27 = .ok (.iconst 5, 1) := by decide +kernel
theorem d105_28 : decode (mm_cb 105) 28 = .ok (.if_icmp .ge 72, 3) := by decide +kernel
theorem d105_31 : decode (mm_cb 105) 31 = .ok (.iconst 0, 1) := by decide +kernel
theorem d105_32 : decode (mm_cb 105) 32 = .ok (.istore_n 2, 1) := by decide +kernel
theorem d105_33 : decode (mm_cb 105) 33 = .ok (.iload_n 2, 1) := by decide +kernel
theorem d105_34 : decode (mm_cb 105) 34 = .ok (.bipush 6, 2) := by decide +kernel
theorem d105_36 : decode (mm_cb 105) 36 = .ok (.if_icmp .ge 58, 3) := by decide +kernel
theorem d105_39 : decode (mm_cb 105) 39 = .ok (.lconst 0, 1) := by decide +kernel
theorem d105_40 : decode (mm_cb 105) 40 = .ok (.lstore_n 3, 1) := by decide +kernel
theorem d105_41 : decode (mm_cb 105) 41 = .ok (.iconst 0, 1) := by decide +kernel
theorem d105_42 : decode (mm_cb 105) 42 = .ok (.istore 5, 2) := by decide +kernel
theorem d105_44 : decode (mm_cb 105) 44 = .ok (.iload 5, 2) := by decide +kernel
theorem d105_46 : decode (mm_cb 105) 46 = .ok (.aload_n 0, 1) := by decide +kernel
theorem d105_47 : decode (mm_cb 105) 47 = .ok (.getfield 7, 3) := by decide +kernel
theorem d105_50 : decode (mm_cb 105) 50 = .ok (.iload_n 2, 1) := by decide +kernel
theorem d105_51 : decode (mm_cb 105) 51 = .ok (.iaload, 1) := by decide +kernel
theorem d105_52 : decode (mm_cb 105) 52 = .ok (.if_icmp .ge 22, 3) := by decide +kernel
theorem d105_55 : decode (mm_cb 105) 55 = .ok (.lload_n 3, 1) := by decide +kernel
theorem d105_56 : decode (mm_cb 105) 56 = .ok (.aload_n 0, 1) := by decide +kernel
theorem d105_57 : decode (mm_cb 105) 57 = .ok (.iload_n 2, 1) := by decide +kernel
theorem d105_58 : decode (mm_cb 105) 58 = .ok (.iload 5, 2) := by decide +kernel
theorem d105_60 : decode (mm_cb 105) 60 = .ok (.iload_n 1, 1) := by decide +kernel
theorem d105_61 : decode (mm_cb 105) 61 = .ok (.invokevirtual 83, 3) := by decide +kernel
theorem d105_64 : decode (mm_cb 105) 64 = .ok (.invokestatic 87, 3) := by decide +kernel
theorem d105_67 : decode (mm_cb 105) 67 = .ok (.lstore_n 3, 1) := by decide +kernel
theorem d105_68 : decode (mm_cb 105) 68 = .ok (.iinc 5 1, 3) := by decide +kernel
theorem d105_71 : decode (mm_cb 105) 71 = .ok (.goto (-27), 3) := by decide +kernel
theorem d105_74 : decode (mm_cb 105) 74 = .ok (.aload_n 0, 1) := by decide +kernel
theorem d105_75 : decode (mm_cb 105) 75 = .ok (.getfield 19, 3) := by decide +kernel
theorem d105_78 : decode (mm_cb 105) 78 = .ok (.bipush 6, 2) := by decide +kernel
theorem d105_80 : decode (mm_cb 105) 80 = .ok (.iload_n 2, 1) := by decide +kernel
theorem d105_81 : decode (mm_cb 105) 81 = .ok (.imul, 1) := by decide +kernel
theorem d105_82 : decode (mm_cb 105) 82 = .ok (.iload_n 1, 1) := by decide +kernel
theorem d105_83 : decode (mm_cb 105) 83 = .ok (.iadd, 1) := by decide +kernel
theorem d105_84 : decode (mm_cb 105) 84 = .ok (.iconst 1, 1) := by decide +kernel
theorem d105_85 : decode (mm_cb 105) 85 = .ok (.iadd, 1) := by decide +kernel
theorem d105_86 : decode (mm_cb 105) 86 = .ok (.lload_n 3, 1) := by decide +kernel
theorem d105_87 : decode (mm_cb 105) 87 = .ok (.lastore, 1) := by decide +kernel
theorem d105_88 : decode (mm_cb 105) 88 = .ok (.iinc 2 1, 3) := by decide +kernel
theorem d105_91 : decode (mm_cb 105) 91 = .ok (.goto (-58), 3) := by decide +kernel
theorem d105_94 : decode (mm_cb 105) 94 = .ok (.iinc 1 1, 3) := by decide +kernel
theorem d105_97 : decode (mm_cb 105) 97 = .ok (.goto (-71), 3) := by decide +kernel
theorem d105_100 : decode (mm_cb 105) 100 = .ok (.return_, 1) := by decide +kernel
theorem d106_0 : decode (mm_cb 106) 0 = .ok (.lconst 1, 1) := by decide +kernel
theorem d106_1 : decode (mm_cb 106) 1 = .ok (.lstore 4, 2) := by decide +kernel
theorem d106_3 : decode (mm_cb 106) 3 = .ok (.iconst 0, 1) := by decide +kernel
theorem d106_4 : decode (mm_cb 106) 4 = .ok (.istore 6, 2) := by decide +kernel
theorem d106_6 : decode (mm_cb 106) 6 = .ok (.iload 6, 2) := by decide +kernel
theorem d106_8 : decode (mm_cb 106) 8 = .ok (.aload_n 0, 1) := by decide +kernel
theorem d106_9 : decode (mm_cb 106) 9 = .ok (.getfield 13, 3) := by decide +kernel
theorem d106_12 : decode (mm_cb 106) 12 = .ok (.iconst 4, 1) := by decide +kernel
theorem d106_13 : decode (mm_cb 106) 13 = .ok (.iload_n 1, 1) := by decide +kernel
theorem d106_14 : decode (mm_cb 106) 14 = .ok (.imul, 1) := by decide +kernel
theorem d106_15 : decode (mm_cb 106) 15 = .ok (.iload_n 2, 1) := by decide +kernel
theorem d106_16 : decode (mm_cb 106) 16 = .ok (.iadd, 1) := by decide +kernel
theorem d106_17 : decode (mm_cb 106) 17 = .ok (.iaload, 1) := by decide +kernel
theorem d106_18 : decode (mm_cb 106) 18 = .ok (.if_icmp .ge 34, 3) := by decide +kernel
theorem d106_21 : decode (mm_cb 106) 21 = .ok (.lload 4, 2) := by decide +kernel
theorem d106_23 : decode (mm_cb 106) 23 = .ok (.aload_n 0, 1) := by decide +kernel
theorem d106_24 : decode (mm_cb 106) 24 = .ok (.getfield 19, 3) := by decide +kernel
theorem d106_27 : decode (mm_cb 106) 27 = .ok (.bipush 6, 2) := by decide +kernel
theorem d106_29 : decode (mm_cb 106) 29 = .ok (.aload_n 0, 1) := by decide +kernel
theorem d106_30 : decode (mm_cb 106) 30 = .ok (.iload_n 1, 1) := by decide +kernel
theorem d106_31 : decode (mm_cb 106) 31 = .ok (.iload_n 2, 1) := by decide +kernel
theorem d106_32 : decode (mm_cb 106) 32 = .ok (.iload 6, 2) := by decide +kernel
theorem d106_34 : decode (mm_cb 106) 34 = .ok (.invokevirtual 75, 3) := by decide +kernel
theorem d106_37 : decode (mm_cb 106) 37 = .ok (.imul, 1) := by decide +kernel
theorem d106_38 : decode (mm_cb 106) 38 = .ok (.iload_n 3, 1) := by decide +kernel
theorem d106_39 : decode (mm_cb 106) 39 = .ok (.iadd, 1) := by decide +kernel
theorem d106_40 : decode (mm_cb 106) 40 = .ok (.laload, 1) := by decide +kernel
theorem d106_41 : decode (mm_cb 106) 41 = .ok (.invokestatic 79, 3) := by decide +kernel
theorem d106_44 : decode (mm_cb 106) 44 = .ok (.lstore 4, 2) := by decide +kernel
theorem d106_46 : decode (mm_cb 106) 46 = .ok (.iinc 6 1, 3) := by decide +kernel
theorem d106_49 : decode (mm_cb 106) 49 = .ok (.goto (-43), 3) := by decide +kernel
theorem d106_52 : decode (mm_cb 106) 52 = .ok (.lload 4, 2) := by decide +kernel
theorem d106_54 : decode (mm_cb 106) 54 = .ok (.lreturn, 1) := by decide +kernel
theorem d107_0 : decode (mm_cb 107) 0 = .ok (.aload_n 0, 1) := by decide +kernel
theorem d107_1 : decode (mm_cb 107) 1 = .ok (.getfield 16, 3) := by decide +kernel
theorem d107_4 : decode (mm_cb 107) 4 = .ok (.bipush 12, 2) := by decide +kernel
theorem d107_6 : decode (mm_cb 107) 6 = .ok (.iload_n 1, 1) := by decide +kernel
theorem d107_7 : decode (mm_cb 107) 7 = .ok (.imul, 1) := by decide +kernel
theorem d107_8 : decode (mm_cb 107) 8 = .ok (.iconst 3, 1) := by decide +kernel
theorem d107_9 : decode (mm_cb 107) 9 = .ok (.iload_n 2, 1) := by decide +kernel
theorem d107_10 : decode (mm_cb 107) 10 = .ok (.imul, 1) := by decide +kernel
theorem d107_11 : decode (mm_cb 107) 11 = .ok (.iadd, 1) := by decide +kernel
theorem d107_12 : decode (mm_cb 107) 12 = .ok (.iload_n 3, 1) := by decide +kernel
theorem d107_13 : decode (mm_cb 107) 13 = .ok (.iadd, 1) := by decide +kernel
theorem d107_14 : decode (mm_cb 107) 14 = .ok (.iaload, 1) := by decide +kernel
theorem d107_15 : decode (mm_cb 107) 15 = .ok (.ireturn, 1) := by decide +kernel
theorem d108_0 : decode (mm_cb 108) 0 = .ok (.lload_n 0, 1) := by decide +kernel
theorem d108_1 : decode (mm_cb 108) 1 = .ok (.lconst 0, 1) := by decide +kernel
theorem d108_2 : decode (mm_cb 108) 2 = .ok (.lcmp, 1) := by decide +kernel
theorem d108_3 : decode (mm_cb 108) 3 = .ok (.ifCond .eq 9, 3) := by decide +kernel
theorem d108_6 : decode (mm_cb 108) 6 = .ok (.lload_n 2, 1) := by decide +kernel
theorem d108_7 : decode (mm_cb 108) 7 = .ok (.lconst 0, 1) := by decide +kernel
theorem d108_8 : decode (mm_cb 108) 8 = .ok (.lcmp, 1) := by decide +kernel
theorem d108_9 : decode (mm_cb 108) 9 = .ok (.ifCond .ne 5, 3) := by decide +kernel
theorem d108_12 : decode (mm_cb 108) 12 = .ok (.lconst 0, 1) := by decide +kernel
theorem d108_13 : decode (mm_cb 108) 13 = .ok (.lreturn, 1) := by decide +kernel
theorem d108_14 : decode (mm_cb 108) 14 = .ok (.lload_n 0, 1) := by decide +kernel
theorem d108_15 : decode (mm_cb 108) 15 = .ok (.ldc2_w 73, 3) := by decide +kernel
theorem d108_18 : decode (mm_cb 108) 18 = .ok (.lload_n 2, 1) := by decide +kernel
theorem d108_19 : decode (mm_cb 108) 19 = .ok (.ldiv, 1) := by decide +kernel
theorem d108_20 : decode (mm_cb 108) 20 = .ok (.lcmp, 1) := by decide +kernel
theorem d108_21 : decode (mm_cb 108) 21 = .ok (.ifCond .le 9, 3) := by decide +kernel
theorem d108_24 : decode (mm_cb 108) 24 = .ok (.ldc2_w 73, 3) := by decide +kernel
theorem d108_27 : decode (mm_cb 108) 27 = .ok (.goto 6, 3) := by decide +kernel
theorem d108_30 : decode (mm_cb 108) 30 = .ok (.lload_n 0, 1) := by decide +kernel
theorem d108_31 : decode (mm_cb 108) 31 = .ok (.lload_n 2, 1) := by decide +kernel
theorem d108_32 : decode (mm_cb 108) 32 = .ok (.lmul, 1) := by decide +kernel
end
section
/-! ===== decoded ===== -/
theorem d108_33 : decode (mm_cb 108) 33 = .ok (.lreturn, 1) := by decide +kernel
theorem d109_0 : decode (mm_cb 109) 0 = .ok (.lload_n 0, 1) := by decide +kernel
theorem d109_1 : decode (mm_cb 109) 1 = .ok (.lload_n 2, 1) := by decide +kernel
theorem d109_2 : decode (mm_cb 109) 2 = .ok (.ladd, 1) := by decide +kernel
theorem d109_3 : decode (mm_cb 109) 3 = .ok (.ldc2_w 73, 3) := by decide +kernel
theorem d109_6 : decode (mm_cb 109) 6 = .ok (.lcmp, 1) := by decide +kernel
theorem d109_7 : decode (mm_cb 109) 7 = .ok (.ifCond .le 9, 3) := by decide +kernel
theorem d109_10 : decode (mm_cb 109) 10 = .ok (.ldc2_w 73, 3) := by decide +kernel
theorem d109_13 : decode (mm_cb 109) 13 = .ok (.goto 6, 3) := by decide +kernel
theorem d109_16 : decode (mm_cb 109) 16 = .ok (.lload_n 0, 1) := by decide +kernel
theorem d109_17 : decode (mm_cb 109) 17 = .ok (.lload_n 2, 1) := by decide +kernel
theorem d109_18 : decode (mm_cb 109) 18 = .ok (.ladd, 1) := by decide +kernel
theorem d109_19 : decode (mm_cb 109) 19 = .ok (.lreturn, 1) := by decide +kernel
theorem d110_0 : decode (mm_cb 110) 0 = .ok (.aload_n 0, 1) := by decide +kernel
theorem d110_1 : decode (mm_cb 110) 1 = .ok (.iload_n 1, 1) := by decide +kernel
theorem d110_2 : decode (mm_cb 110) 2 = .ok (.iload_n 2, 1) := by decide +kernel
theorem d110_3 : decode (mm_cb 110) 3 = .ok (.invokestatic 108, 3) := by decide +kernel
theorem d110_6 : decode (mm_cb 110) 6 = .ok (.putfield 65, 3) := by decide +kernel
theorem d110_9 : decode (mm_cb 110) 9 = .ok (.aload_n 0, 1) := by decide +kernel
theorem d110_10 : decode (mm_cb 110) 10 = .ok (.getfield 65, 3) := by decide +kernel
theorem d110_13 : decode (mm_cb 110) 13 = .ok (.ifCond .le 5, 3) := by decide +kernel
theorem d110_16 : decode (mm_cb 110) 16 = .ok (.lconst 0, 1) := by decide +kernel
theorem d110_17 : decode (mm_cb 110) 17 = .ok (.lreturn, 1) := by decide +kernel
theorem d110_18 : decode (mm_cb 110) 18 = .ok (.aload_n 0, 1) := by decide +kernel
theorem d110_19 : decode (mm_cb 110) 19 = .ok (.invokevirtual 111, 3) := by decide +kernel
theorem d110_22 : decode (mm_cb 110) 22 = .ok (.aload_n 0, 1) := by decide +kernel
theorem d110_23 : decode (mm_cb 110) 23 = .ok (.getfield 23, 3) := by decide +kernel
theorem d110_26 : decode (mm_cb 110) 26 = .ok (.bipush 13, 2) := by decide +kernel
theorem d110_28 : decode (mm_cb 110) 28 = .ok (.iload_n 1, 1) := by decide +kernel
theorem d110_29 : decode (mm_cb 110) 29 = .ok (.imul, 1) := by decide +kernel
theorem d110_30 : decode (mm_cb 110) 30 = .ok (.iload_n 2, 1) := by decide +kernel
theorem d110_31 : decode (mm_cb 110) 31 = .ok (.iadd, 1) := by decide +kernel
theorem d110_32 : decode (mm_cb 110) 32 = .ok (.laload, 1) := by decide +kernel
theorem d110_33 : decode (mm_cb 110) 33 = .ok (.lreturn, 1) := by decide +kernel
theorem d111_0 : decode (mm_cb 111) 0 = .ok (.iload_n 0, 1) := by decide +kernel
theorem d111_1 : decode (mm_cb 111) 1 = .ok (.invokestatic 69, 3) := by decide +kernel
theorem d111_4 : decode (mm_cb 111) 4 = .ok (.ifCond .ne 7, 3) := by decide +kernel
theorem d111_7 : decode (mm_cb 111) 7 = .ok (.iconst 1, 1) := by decide +kernel
theorem d111_8 : decode (mm_cb 111) 8 = .ok (.goto 19, 3) := by decide +kernel
theorem d111_11 : decode (mm_cb 111) 11 = .ok (.iload_n 1, 1) := by decide +kernel
theorem d111_12 : decode (mm_cb 111) 12 = .ok (.iconst 1, 1) := by decide +kernel
theorem d111_13 : decode (mm_cb 111) 13 = .ok (.if_icmp .lt 9, 3) := by decide +kernel
theorem d111_16 : decode (mm_cb 111) 16 = .ok (.iload_n 1, 1) := by decide +kernel
theorem d111_17 : decode (mm_cb 111) 17 = .ok (.bipush 12, 2) := by decide +kernel
theorem d111_19 : decode (mm_cb 111) 19 = .ok (.if_icmp .le 7, 3) := by decide +kernel
theorem d111_22 : decode (mm_cb 111) 22 = .ok (.iconst 2, 1) := by decide +kernel
theorem d111_23 : decode (mm_cb 111) 23 = .ok (.goto 4, 3) := by decide +kernel
theorem d111_26 : decode (mm_cb 111) 26 = .ok (.iconst 0, 1) := by decide +kernel
theorem d111_27 : decode (mm_cb 111) 27 = .ok (.ireturn, 1) := by decide +kernel
theorem d112_0 : decode (mm_cb 112) 0 = .ok (.iconst 1, 1) := by decide +kernel
theorem d112_1 : decode (mm_cb 112) 1 = .ok (.istore_n 1, 1) := by decide +kernel
theorem d112_2 : decode (mm_cb 112) 2 = .ok (.iload_n 1, 1) := by decide +kernel
theorem d112_3 : decode (mm_cb 112) 3 = .ok (.bipush 13, 2) := by decide +kernel
theorem d112_5 : decode (mm_cb 112) 5 = .ok (.if_icmp .ge 68, 3) := by decide +kernel
theorem d112_8 : decode (mm_cb 112) 8 = .ok (.iconst 0, 1) := by decide +kernel
theorem d112_9 : decode (mm_cb 112) 9 = .ok (.istore_n 2, 1) := by decide +kernel
theorem d112_10 : decode (mm_cb 112) 10 = .ok (.iload_n 2, 1) := by decide +kernel
theorem d112_11 : decode (mm_cb 112) 11 = .ok (.bipush 6, 2) := by decide +kernel
theorem d112_13 : decode (mm_cb 112) 13 = .ok (.if_icmp .ge 54, 3) := by decide +kernel
theorem d112_16 : decode (mm_cb 112) 16 = .ok (.lconst 0, 1) := by decide +kernel
theorem d112_17 : decode (mm_cb 112) 17 = .ok (.lstore_n 3, 1) := by decide +kernel
theorem d112_18 : decode (mm_cb 112) 18 = .ok (.iconst 0, 1) := by decide +kernel
theorem d112_19 : decode (mm_cb 112) 19 = .ok (.istore 5, 2) := by decide +kernel
theorem d112_21 : decode (mm_cb 112) 21 = .ok (.iload 5, 2) := by decide +kernel
theorem d112_23 : decode (mm_cb 112) 23 = .ok (.aload_n 0, 1) := by decide +kernel
theorem d112_24 : decode (mm_cb 112) 24 = .ok (.getfield 7, 3) := by decide +kernel
theorem d112_27 : decode (mm_cb 112) 27 = .ok (.iload_n 2, 1) := by decide +kernel
theorem d112_28 : decode (mm_cb 112) 28 = .ok (.iaload, 1) := by decide +kernel
theorem d112_29 : decode (mm_cb 112) 29 = .ok (.if_icmp .ge 20, 3) := by decide +kernel
theorem d112_32 : decode (mm_cb 112) 32 = .ok (.lload_n 3, 1) := by decide +kernel
theorem d112_33 : decode (mm_cb 112) 33 = .ok (.aload_n 0, 1) := by decide +kernel
theorem d112_34 : decode (mm_cb 112) 34 = .ok (.iload_n 2, 1) := by decide +kernel
theorem d112_35 : decode (mm_cb 112) 35 = .ok (.iload 5, 2) := by decide +kernel
theorem d112_37 : decode (mm_cb 112) 37 = .ok (.iload_n 1, 1) := by decide +kernel
theorem d112_38 : decode (mm_cb 112) 38 = .ok (.invokevirtual 98, 3) := by decide +kernel
theorem d112_41 : decode (mm_cb 112) 41 = .ok (.ladd, 1) := by decide +kernel
theorem d112_42 : decode (mm_cb 112) 42 = .ok (.lstore_n 3, 1) := by decide +kernel
theorem d112_43 : decode (mm_cb 112) 43 = .ok (.iinc 5 1, 3) := by decide +kernel
theorem d112_46 : decode (mm_cb 112) 46 = .ok (.goto (-25), 3) := by decide +kernel
theorem d112_49 : decode (mm_cb 112) 49 = .ok (.aload_n 0, 1) := by decide +kernel
theorem d112_50 : decode (mm_cb 112) 50 = .ok (.getfield 23, 3) := by decide +kernel
theorem d112_53 : decode (mm_cb 112) 53 = .ok (.bipush 13, 2) := by decide +kernel
theorem d112_55 : decode (mm_cb 112) 55 = .ok (.iload_n 2, 1) := by decide +kernel
theorem d112_56 : decode (mm_cb 112) 56 = .ok (.imul, 1) := by decide +kernel
theorem d112_57 : decode (mm_cb 112) 57 = .ok (.iload_n 1, 1) := by decide +kernel
theorem d112_58 : decode (mm_cb 112) 58 = .ok (.iadd, 1) := by decide +kernel
theorem d112_59 : decode (mm_cb 112) 59 = .ok (.lload_n 3, 1) := by decide +kernel
theorem d112_60 : decode (mm_cb 112) 60 = .ok (.lastore, 1) := by decide +kernel
theorem d112_61 : decode (mm_cb 112) 61 = .ok (.iinc 2 1, 3) := by decide +kernel
theorem d112_64 : decode (mm_cb 112) 64 = .ok (.goto (-54), 3) := by decide +kernel
theorem d112_67 : decode (mm_cb 112) 67 = .ok (.iinc 1 1, 3) := by decide +kernel
theorem d112_70 : decode (mm_cb 112) 70 = .ok (.goto (-68), 3) := by decide +kernel
theorem d112_73 : decode (mm_cb 112) 73 = .ok (.return_, 1) := by decide +kernel
theorem d113_0 : decode (mm_cb 113) 0 = .ok (.lconst 0, 1) := by decide +kernel
theorem d113_1 : decode (mm_cb 113) 1 = .ok (.lstore 4, 2) := by decide +kernel
theorem d113_3 : decode (mm_cb 113) 3 = .ok (.iconst 0, 1) := by decide +kernel
theorem d113_4 : decode (mm_cb 113) 4 = .ok (.istore 6, 2) := by decide +kernel
theorem d113_6 : decode (mm_cb 113) 6 = .ok (.iload 6, 2) := by decide +kernel
theorem d113_8 : decode (mm_cb 113) 8 = .ok (.iload_n 3, 1) := by decide +kernel
theorem d113_9 : decode (mm_cb 113) 9 = .ok (.if_icmp .ge 51, 3) := by decide +kernel
theorem d113_12 : decode (mm_cb 113) 12 = .ok (.iconst 0, 1) := by decide +kernel
theorem d113_13 : decode (mm_cb 113) 13 = .ok (.istore 7, 2) := by decide +kernel
theorem d113_15 : decode (mm_cb 113) 15 = .ok (.iload 6, 2) := by decide +kernel
theorem d113_17 : decode (mm_cb 113) 17 = .ok (.iload 7, 2) := by decide +kernel
theorem d113_19 : decode (mm_cb 113) 19 = .ok (.iadd, 1) := by decide +kernel
theorem d113_20 : decode (mm_cb 113) 20 = .ok (.iload_n 3, 1) := by decide +kernel
theorem d113_21 : decode (mm_cb 113) 21 = .ok (.if_icmp .ge 33, 3) := by decide +kernel
theorem d113_24 : decode (mm_cb 113) 24 = .ok (.lload 4, 2) := by decide +kernel
theorem d113_26 : decode (mm_cb 113) 26 = .ok (.aload_n 0, 1) := by decide +kernel
theorem d113_27 : decode (mm_cb 113) 27 = .ok (.iload_n 1, 1) := by decide +kernel
theorem d113_28 : decode (mm_cb 113) 28 = .ok (.iload_n 2, 1) := by decide +kernel
theorem d113_29 : decode (mm_cb 113) 29 = .ok (.iload 6, 2) := by decide +kernel
theorem d113_31 : decode (mm_cb 113) 31 = .ok (.iload 7, 2) := by decide +kernel
theorem d113_33 : decode (mm_cb 113) 33 = .ok (.iload_n 3, 1) := by decide +kernel
theorem d113_34 : decode (mm_cb 113) 34 = .ok (.iconst 1, 1) := by decide +kernel
theorem d113_35 : decode (mm_cb 113) 35 = .ok (.isub, 1) := by decide +kernel
theorem d113_36 : decode (mm_cb 113) 36 = .ok (.iload 6, 2) := by decide +kernel
theorem d113_38 : decode (mm_cb 113) 38 = .ok (.isub, 1) := by decide +kernel
theorem d113_39 : decode (mm_cb 113) 39 = .ok (.iload 7, 2) := by decide +kernel
theorem d113_41 : decode (mm_cb 113) 41 = .ok (.isub, 1) := by decide +kernel
theorem d113_42 : decode (mm_cb 113) 42 = .ok (.invokevirtual 94, 3) := by decide +kernel
theorem d113_45 : decode (mm_cb 113) 45 = .ok (.ladd, 1) := by decide +kernel
theorem d113_46 : decode (mm_cb 113) 46 = .ok (.lstore 4, 2) := by decide +kernel
theorem d113_48 : decode (mm_cb 113) 48 = .ok (.iinc 7 1, 3) := by decide +kernel
theorem d113_51 : decode (mm_cb 113) 51 = .ok (.goto (-36), 3) := by decide +kernel
theorem d113_54 : decode (mm_cb 113) 54 = .ok (.iinc 6 1, 3) := by decide +kernel
theorem d113_57 : decode (mm_cb 113) 57 = .ok (.goto (-51), 3) := by decide +kernel
theorem d113_60 : decode (mm_cb 113) 60 = .ok (.lload 4, 2) := by decide +kernel
theorem d113_62 : decode (mm_cb 113) 62 = .ok (.lreturn, 1) := by decide +kernel
theorem d114_0 : decode (mm_cb 114) 0 = .ok (.aload_n 0, 1) := by decide +kernel
theorem d114_1 : decode (mm_cb 114) 1 = .ok (.getfield 13, 3) := by decide +kernel
theorem d114_4 : decode (mm_cb 114) 4 = .ok (.iconst 4, 1) := by decide +kernel
theorem d114_5 : decode (mm_cb 114) 5 = .ok (.iload_n 1, 1) := by decide +kernel
theorem d114_6 : decode (mm_cb 114) 6 = .ok (.imul, 1) := by decide +kernel
theorem d114_7 : decode (mm_cb 114) 7 = .ok (.iload_n 2, 1) := by decide +kernel
theorem d114_8 : decode (mm_cb 114) 8 = .ok (.iadd, 1) := by decide +kernel
theorem d114_9 : decode (mm_cb 114) 9 = .ok (.iaload, 1) := by decide +kernel
theorem d114_10 : decode (mm_cb 114) 10 = .ok (.istore 6, 2) := by decide +kernel
theorem d114_12 : decode (mm_cb 114) 12 = .ok (.iload 6, 2) := by decide +kernel
theorem d114_14 : decode (mm_cb 114) 14 = .ok (.ifCond .le 18, 3) := by decide +kernel
theorem d114_17 : decode (mm_cb 114) 17 = .ok (.aload_n 0, 1) := by decide +kernel
theorem d114_18 : decode (mm_cb 114) 18 = .ok (.aload_n 0, 1) := by decide +kernel
theorem d114_19 : decode (mm_cb 114) 19 = .ok (.iload_n 1, 1) := by decide +kernel
theorem d114_20 : decode (mm_cb 114) 20 = .ok (.iload_n 2, 1) := by decide +kernel
theorem d114_21 : decode (mm_cb 114) 21 = .ok (.iconst 0, 1) := by decide +kernel
theorem d114_22 : decode (mm_cb 114) 22 = .ok (.invokevirtual 75, 3) := by decide +kernel
theorem d114_25 : decode (mm_cb 114) 25 = .ok (.iload_n 3, 1) := by decide +kernel
theorem d114_26 : decode (mm_cb 114) 26 = .ok (.invokevirtual 90, 3) := by decide +kernel
theorem d114_29 : decode (mm_cb 114) 29 = .ok (.goto 12, 3) := by decide +kernel
theorem d114_32 : decode (mm_cb 114) 32 = .ok (.iload_n 3, 1) := by decide +kernel
theorem d114_33 : decode (mm_cb 114) 33 = .ok (.ifCond .ne 7, 3) := by decide +kernel
theorem d114_36 : decode (mm_cb 114) 36 = .ok (.lconst 1, 1) := by decide +kernel
theorem d114_37 : decode (mm_cb 114) 37 = .ok (.goto 4, 3) := by decide +kernel
theorem d114_40 : decode (mm_cb 114) 40 = .ok (.lconst 0, 1) := by decide +kernel
theorem d114_41 : decode (mm_cb 114) 41 = .ok (.lstore 7, 2) := by decide +kernel
theorem d114_43 : decode (mm_cb 114) 43 = .ok (.iload 6, 2) := by decide +kernel
theorem d114_45 : decode (mm_cb 114) 45 = .ok (.iconst 1, 1) := by decide +kernel
theorem d114_46 : decode (mm_cb 114) 46 = .ok (.if_icmp .le 22, 3) := by decide +kernel
theorem d114_49 : decode (mm_cb 114) 49 = .ok (.lload 7, 2) := by decide +kernel
theorem d114_51 : decode (mm_cb 114) 51 = .ok (.aload_n 0, 1) := by decide +kernel
theorem d114_52 : decode (mm_cb 114) 52 = .ok (.aload_n 0, 1) := by decide +kernel
theorem d114_53 : decode (mm_cb 114) 53 = .ok (.iload_n 1, 1) := by decide +kernel
theorem d114_54 : decode (mm_cb 114) 54 = .ok (.iload_n 2, 1) := by decide +kernel
theorem d114_55 : decode (mm_cb 114) 55 = .ok (.iconst 1, 1) := by decide +kernel
theorem d114_56 : decode (mm_cb 114) 56 = .ok (.invokevirtual 75, 3) := by decide +kernel
theorem d114_59 : decode (mm_cb 114) 59 = .ok (.iload 4, 2) := by decide +kernel
theorem d114_61 : decode (mm_cb 114) 61 = .ok (.invokevirtual 90, 3) := by decide +kernel
theorem d114_64 : decode (mm_cb 114) 64 = .ok (.lmul, 1) := by decide +kernel
theorem d114_65 : decode (mm_cb 114) 65 = .ok (.goto 14, 3) := by decide +kernel
theorem d114_68 : decode (mm_cb 114) 68 = .ok (.iload 4, 2) := by decide +kernel
theorem d114_70 : decode (mm_cb 114) 70 = .ok (.ifCond .ne 8, 3) := by decide +kernel
theorem d114_73 : decode (mm_cb 114) 73 = .ok (.lload 7, 2) := by decide +kernel
theorem d114_75 : decode (mm_cb 114) 75 = .ok (.goto 4, 3) := by decide +kernel
theorem d114_78 : decode (mm_cb 114) 78 = .ok (.lconst 0, 1) := by decide +kernel
theorem d114_79 : decode (mm_cb 114) 79 = .ok (.lstore 7, 2) := by decide +kernel
theorem d114_81 : decode (mm_cb 114) 81 = .ok (.iload 6, 2) := by decide +kernel
theorem d114_83 : decode (mm_cb 114) 83 = .ok (.iconst 2, 1) := by decide +kernel
theorem d114_84 : decode (mm_cb 114) 84 = .ok (.if_icmp .le 22, 3) := by decide +kernel
theorem d114_87 : decode (mm_cb 114) 87 = .ok (.lload 7, 2) := by decide +kernel
theorem d114_89 : decode (mm_cb 114) 89 = .ok (.aload_n 0, 1) := by decide +kernel
theorem d114_90 : decode (mm_cb 114) 90 = .ok (.aload_n 0, 1) := by decide +kernel
theorem d114_91 : decode (mm_cb 114) 91 = .ok (.iload_n 1, 1) := by decide +kernel
theorem d114_92 : decode (mm_cb 114) 92 = .ok (.iload_n 2, 1) := by decide +kernel
theorem d114_93 : decode (mm_cb 114) 93 = .ok (.iconst 2, 1) := by decide +kernel
theorem d114_94 : decode (mm_cb 114) 94 = .ok (.invokevirtual 75, 3) := by decide +kernel
theorem d114_97 : decode (mm_cb 114) 97 = .ok (.iload 5, 2) := by decide +kernel
theorem d114_99 : decode (mm_cb 114) 99 = .ok (.invokevirtual 90, 3) := by decide +kernel
theorem d114_102 : decode (mm_cb 114) 102 = .ok (.lmul, 1) := by decide +kernel
theorem d114_103 : decode (mm_cb 114) 103 = .ok (.goto 14, 3) := by decide +kernel
theorem d114_106 : decode (mm_cb 114) 106 = .ok (.iload 5, 2) := by decide +kernel
theorem d114_108 : decode (mm_cb 114) 108 = .ok (.ifCond .ne 8, 3) := by decide +kernel
theorem d114_111 : decode (mm_cb 114) 111 = .ok (.lload 7, 2) := by decide +kernel
theorem d114_113 : decode (mm_cb 114) 113 = .ok (.goto 4, 3) := by decide +kernel
theorem d114_116 : decode (mm_cb 114) 116 = .ok (.lconst 0, 1) := by decide +kernel
theorem d114_117 : decode (mm_cb 114) 117 = .ok (.lreturn, 1) := by decide +kernel
theorem d115_0 : decode (mm_cb 115) 0 = .ok (.iload_n 2, 1) := by decide +kernel
theorem d115_1 : decode (mm_cb 115) 1 = .ok (.iconst 1, 1) := by decide +kernel
theorem d115_2 : decode (mm_cb 115) 2 = .ok (.if_icmp .lt 9, 3) := by decide +kernel
theorem d115_5 : decode (mm_cb 115) 5 = .ok (.iload_n 2, 1) := by decide +kernel
theorem d115_6 : decode (mm_cb 115) 6 = .ok (.bipush 12, 2) := by decide +kernel
theorem d115_8 : decode (mm_cb 115) 8 = .ok (.if_icmp .le 7, 3) := by decide +kernel
theorem d115_11 : decode (mm_cb 115) 11 = .ok (.lconst 0, 1) := by decide +kernel
theorem d115_12 : decode (mm_cb 115) 12 = .ok (.goto 14, 3) := by decide +kernel
theorem d115_15 : decode (mm_cb 115) 15 = .ok (.aload_n 0, 1) := by decide +kernel
theorem d115_16 : decode (mm_cb 115) 16 = .ok (.getfield 23, 3) := by decide +kernel
theorem d115_19 : decode (mm_cb 115) 19 = .ok (.bipush 13, 2) := by decide +kernel
theorem d115_21 : decode (mm_cb 115) 21 = .ok (.iload_n 1, 1) := by decide +kernel
theorem d115_22 : decode (mm_cb 115) 22 = .ok (.imul, 1) := by decide +kernel
theorem d115_23 : decode (mm_cb 115) 23 = .ok (.iload_n 2, 1) := by decide +kernel
theorem d115_24 : decode (mm_cb 115) 24 = .ok (.iadd, 1) := by decide +kernel
theorem d115_25 : decode (mm_cb 115) 25 = .ok (.laload, 1) := by decide +kernel
theorem d115_26 : decode (mm_cb 115) 26 = .ok (.lreturn, 1) := by decide +kernel
theorem d116_0 : decode (mm_cb 116) 0 = .ok (.aload_n 0, 1) := by decide +kernel
theorem d116_1 : decode (mm_cb 116) 1 = .ok (.iload_n 1, 1) := by decide +kernel
theorem d116_2 : decode (mm_cb 116) 2 = .ok (.iload_n 2, 1) := by decide +kernel
theorem d116_3 : decode (mm_cb 116) 3 = .ok (.invokestatic 101, 3) := by decide +kernel
theorem d116_6 : decode (mm_cb 116) 6 = .ok (.putfield 65, 3) := by decide +kernel
theorem d116_9 : decode (mm_cb 116) 9 = .ok (.aload_n 0, 1) := by decide +kernel
theorem d116_10 : decode (mm_cb 116) 10 = .ok (.getfield 65, 3) := by decide +kernel
theorem d116_13 : decode (mm_cb 116) 13 = .ok (.ifCond .le 5, 3) := by decide +kernel
theorem d116_16 : decode (mm_cb 116) 16 = .ok (.iconst 0, 1) := by decide +kernel
theorem d116_17 : decode (mm_cb 116) 17 = .ok (.ireturn, 1) := by decide +kernel
theorem d116_18 : decode (mm_cb 116) 18 = .ok (.aload_n 0, 1) := by decide +kernel
theorem d116_19 : decode (mm_cb 116) 19 = .ok (.invokevirtual 105, 3) := by decide +kernel
theorem d116_22 : decode (mm_cb 116) 22 = .ok (.aload_n 0, 1) := by decide +kernel
theorem d116_23 : decode (mm_cb 116) 23 = .ok (.lload_n 3, 1) := by decide +kernel
theorem d116_24 : decode (mm_cb 116) 24 = .ok (.lconst 0, 1) := by decide +kernel
theorem d116_25 : decode (mm_cb 116) 25 = .ok (.lcmp, 1) := by decide +kernel
theorem d116_26 : decode (mm_cb 116) 26 = .ok (.ifCond .lt 29, 3) := by decide +kernel
theorem d116_29 : decode (mm_cb 116) 29 = .ok (.lload_n 3, 1) := by decide +kernel
theorem d116_30 : decode (mm_cb 116) 30 = .ok (.aload_n 0, 1) := by decide +kernel
theorem d116_31 : decode (mm_cb 116) 31 = .ok (.getfield 19, 3) := by decide +kernel
theorem d116_34 : decode (mm_cb 116) 34 = .ok (.bipush 6, 2) := by decide +kernel
theorem d116_36 : decode (mm_cb 116) 36 = .ok (.iload_n 1, 1) := by decide +kernel
theorem d116_37 : decode (mm_cb 116) 37 = .ok (.imul, 1) := by decide +kernel
theorem d116_38 : decode (mm_cb 116) 38 = .ok (.iload_n 2, 1) := by decide +kernel
theorem d116_39 : decode (mm_cb 116) 39 = .ok (.iadd, 1) := by decide +kernel
theorem d116_40 : decode (mm_cb 116) 40 = .ok (.iconst 1, 1) := by decide +kernel
theorem d116_41 : decode (mm_cb 116) 41 = .ok (.iadd, 1) := by decide +kernel
theorem d116_42 : decode (mm_cb 116) 42 = .ok (.laload, 1) := by decide +kernel
theorem d116_43 : decode (mm_cb 116) 43 = .ok (.lcmp, 1) := by decide +kernel
theorem d116_44 : decode (mm_cb 116) 44 = .ok (.ifCond .ge 11, 3) := by decide +kernel
theorem d116_47 : decode (mm_cb 116) 47 = .ok (.lload_n 3, 1) := by decide +kernel
theorem d116_48 : decode (mm_cb 116) 48 = .ok (.ldc2_w 73, 3) := by decide +kernel
theorem d116_51 : decode (mm_cb 116) 51 = .ok (.lcmp, 1) := by decide +kernel
theorem d116_52 : decode (mm_cb 116) 52 = .ok (.ifCond .lt 7, 3) := by decide +kernel
theorem d116_55 : decode (mm_cb 116) 55 = .ok (.iconst 3, 1) := by decide +kernel
theorem d116_56 : decode (mm_cb 116) 56 = .ok (.goto 4, 3) := by decide +kernel
theorem d116_59 : decode (mm_cb 116) 59 = .ok (.iconst 0, 1) := by decide +kernel
theorem d116_60 : decode (mm_cb 116) 60 = .ok (.putfield 65, 3) := by decide +kernel
theorem d116_63 : decode (mm_cb 116) 63 = .ok (.aload_n 0, 1) := by decide +kernel
theorem d116_64 : decode (mm_cb 116) 64 = .ok (.getfield 65, 3) := by decide +kernel
theorem d116_67 : decode (mm_cb 116) 67 = .ok (.ifCond .le 5, 3) := by decide +kernel
theorem d116_70 : decode (mm_cb 116) 70 = .ok (.iconst 0, 1) := by decide +kernel
theorem d116_71 : decode (mm_cb 116) 71 = .ok (.ireturn, 1) := by decide +kernel
theorem d116_72 : decode (mm_cb 116) 72 = .ok (.aload_n 0, 1) := by decide +kernel
theorem d116_73 : decode (mm_cb 116) 73 = .ok (.iload_n 1, 1) := by decide +kernel
theorem d116_74 : decode (mm_cb 116) 74 = .ok (.iload_n 2, 1) := by decide +kernel
theorem d116_75 : decode (mm_cb 116) 75 = .ok (.lload_n 3, 1) := by decide +kernel
theorem d116_76 : decode (mm_cb 116) 76 = .ok (.invokevirtual 135, 3) := by decide +kernel
theorem d116_79 : decode (mm_cb 116) 79 = .ok (.aload_n 0, 1) := by decide +kernel
theorem d116_80 : decode (mm_cb 116) 80 = .ok (.invokevirtual 138, 3) := by decide +kernel
theorem d116_83 : decode (mm_cb 116) 83 = .ok (.aload_n 0, 1) := by decide +kernel
theorem d116_84 : decode (mm_cb 116) 84 = .ok (.getfield 132, 3) := by decide +kernel
theorem d116_87 : decode (mm_cb 116) 87 = .ok (.ireturn, 1) := by decide +kernel
theorem d117_0 : decode (mm_cb 117) 0 = .ok (.aload_n 0, 1) := by decide +kernel
theorem d117_1 : decode (mm_cb 117) 1 = .ok (.invokevirtual 121, 3) := by decide +kernel
theorem d117_4 : decode (mm_cb 117) 4 = .ok (.aload_n 0, 1) := by decide +kernel
theorem d117_5 : decode (mm_cb 117) 5 = .ok (.iconst 0, 1) := by decide +kernel
theorem d117_6 : decode (mm_cb 117) 6 = .ok (.putfield 114, 3) := by decide +kernel
theorem d117_9 : decode (mm_cb 117) 9 = .ok (.aload_n 0, 1) := by decide +kernel
theorem d117_10 : decode (mm_cb 117) 10 = .ok (.iconst 0, 1) := by decide +kernel
theorem d117_11 : decode (mm_cb 117) 11 = .ok (.iload_n 1, 1) := by decide +kernel
theorem d117_12 : decode (mm_cb 117) 12 = .ok (.lload_n 3, 1) := by decide +kernel
theorem d117_13 : decode (mm_cb 117) 13 = .ok (.invokevirtual 117, 3) := by decide +kernel
theorem d117_16 : decode (mm_cb 117) 16 = .ok (.aload_n 0, 1) := by decide +kernel
theorem d117_17 : decode (mm_cb 117) 17 = .ok (.getfield 114, 3) := by decide +kernel
theorem d117_20 : decode (mm_cb 117) 20 = .ok (.ifCond .le 58, 3) := by decide +kernel
theorem d117_23 : decode (mm_cb 117) 23 = .ok (.aload_n 0, 1) := by decide +kernel
theorem d117_24 : decode (mm_cb 117) 24 = .ok (.dup, 1) := by decide +kernel
theorem d117_25 : decode (mm_cb 117) 25 = .ok (.getfield 114, 3) := by decide +kernel
theorem d117_28 : decode (mm_cb 117) 28 = .ok (.iconst 1, 1) := by decide +kernel
theorem d117_29 : decode (mm_cb 117) 29 = .ok (.isub, 1) := by decide +kernel
theorem d117_30 : decode (mm_cb 117) 30 = .ok (.putfield 114, 3) := by decide +kernel
theorem d117_33 : decode (mm_cb 117) 33 = .ok (.aload_n 0, 1) := by decide +kernel
theorem d117_34 : decode (mm_cb 117) 34 = .ok (.getfield 35, 3) := by decide +kernel
theorem d117_37 : decode (mm_cb 117) 37 = .ok (.aload_n 0, 1) := by decide +kernel
theorem d117_38 : decode (mm_cb 117) 38 = .ok (.getfield 114, 3) := by decide +kernel
theorem d117_41 : decode (mm_cb 117) 41 = .ok (.iaload, 1) := by decide +kernel
theorem d117_42 : decode (mm_cb 117) 42 = .ok (.istore 5, 2) := by decide +kernel
theorem d117_44 : decode (mm_cb 117) 44 = .ok (.aload_n 0, 1) := by decide +kernel
theorem d117_45 : decode (mm_cb 117) 45 = .ok (.iload 5, 2) := by decide +kernel
theorem d117_47 : decode (mm_cb 117) 47 = .ok (.aload_n 0, 1) := by decide +kernel
theorem d117_48 : decode (mm_cb 117) 48 = .ok (.getfield 38, 3) := by decide +kernel
theorem d117_51 : decode (mm_cb 117) 51 = .ok (.aload_n 0, 1) := by decide +kernel
theorem d117_52 : decode (mm_cb 117) 52 = .ok (.getfield 114, 3) := by decide +kernel
theorem d117_55 : decode (mm_cb 117) 55 = .ok (.iaload, 1) := by decide +kernel
theorem d117_56 : decode (mm_cb 117) 56 = .ok (.iload_n 2, 1) := by decide +kernel
theorem d117_57 : decode (mm_cb 117) 57 = .ok (.iload 5, 2) := by decide +kernel
theorem d117_59 : decode (mm_cb 117) 59 = .ok (.invokestatic 124, 3) := by decide +kernel
theorem d117_62 : decode (mm_cb 117) 62 = .ok (.isub, 1) := by decide +kernel
theorem d117_63 : decode (mm_cb 117) 63 = .ok (.aload_n 0, 1) := by decide +kernel
theorem d117_64 : decode (mm_cb 117) 64 = .ok (.getfield 41, 3) := by decide +kernel
theorem d117_67 : decode (mm_cb 117) 67 = .ok (.aload_n 0, 1) := by decide +kernel
theorem d117_68 : decode (mm_cb 117) 68 = .ok (.getfield 114, 3) := by decide +kernel
theorem d117_71 : decode (mm_cb 117) 71 = .ok (.laload, 1) := by decide +kernel
theorem d117_72 : decode (mm_cb 117) 72 = .ok (.invokevirtual 128, 3) := by decide +kernel
theorem d117_75 : decode (mm_cb 117) 75 = .ok (.goto (-59), 3) := by decide +kernel
theorem d117_78 : decode (mm_cb 117) 78 = .ok (.return_, 1) := by decide +kernel
theorem d118_0 : decode (mm_cb 118) 0 = .ok (.iconst 0, 1) := by decide +kernel
theorem d118_1 : decode (mm_cb 118) 1 = .ok (.istore_n 1, 1) := by decide +kernel
theorem d118_2 : decode (mm_cb 118) 2 = .ok (.iload_n 1, 1) := by decide +kernel
theorem d118_3 : decode (mm_cb 118) 3 = .ok (.sipush 256, 3) := by decide +kernel
theorem d118_6 : decode (mm_cb 118) 6 = .ok (.if_icmp .ge 16, 3) := by decide +kernel
theorem d118_9 : decode (mm_cb 118) 9 = .ok (.aload_n 0, 1) := by decide +kernel
theorem d118_10 : decode (mm_cb 118) 10 = .ok (.getfield 26, 3) := by decide +kernel
theorem d118_13 : decode (mm_cb 118) 13 = .ok (.iload_n 1, 1) := by decide +kernel
theorem d118_14 : decode (mm_cb 118) 14 = .ok (.iconst (-1), 1) := by decide +kernel
theorem d118_15 : decode (mm_cb 118) 15 = .ok (.iastore, 1) := by decide +kernel
theorem d118_16 : decode (mm_cb 118) 16 = .ok (.iinc 1 1, 3) := by decide +kernel
theorem d118_19 : decode (mm_cb 118) 19 = .ok (.goto (-17), 3) := by decide +kernel
theorem d118_22 : decode (mm_cb 118) 22 = .ok (.return_, 1) := by decide +kernel
theorem d119_0 : decode (mm_cb 119) 0 = .ok (.aload_n 0, 1) := by decide +kernel
theorem d119_1 : decode (mm_cb 119) 1 = .ok (.getfield 35, 3) := by decide +kernel
theorem d119_4 : decode (mm_cb 119) 4 = .ok (.aload_n 0, 1) := by decide +kernel
theorem d119_5 : decode (mm_cb 119) 5 = .ok (.getfield 114, 3) := by decide +kernel
theorem d119_8 : decode (mm_cb 119) 8 = .ok (.iload_n 1, 1) := by decide +kernel
theorem d119_9 : decode (mm_cb 119) 9 = .ok (.iastore, 1) := by decide +kernel
theorem d119_10 : decode (mm_cb 119) 10 = .ok (.aload_n 0, 1) := by decide +kernel
theorem d119_11 : decode (mm_cb 119) 11 = .ok (.getfield 38, 3) := by decide +kernel
theorem d119_14 : decode (mm_cb 119) 14 = .ok (.aload_n 0, 1) := by decide +kernel
theorem d119_15 : decode (mm_cb 119) 15 = .ok (.getfield 114, 3) := by decide +kernel
theorem d119_18 : decode (mm_cb 119) 18 = .ok (.iload_n 2, 1) := by decide +kernel
theorem d119_19 : decode (mm_cb 119) 19 = .ok (.iastore, 1) := by decide +kernel
theorem d119_20 : decode (mm_cb 119) 20 = .ok (.aload_n 0, 1) := by decide +kernel
theorem d119_21 : decode (mm_cb 119) 21 = .ok (.getfield 41, 3) := by decide +kernel
theorem d119_24 : decode (mm_cb 119) 24 = .ok (.aload_n 0, 1) := by decide +kernel
theorem d119_25 : decode (mm_cb 119) 25 = .ok (.getfield 114, 3) := by decide +kernel
theorem d119_28 : decode (mm_cb 119) 28 = .ok (.lload_n 3, 1) := by decide +kernel
theorem d119_29 : decode (mm_cb 119) 29 = .ok (.lastore, 1) := by decide +kernel
theorem d119_30 : decode (mm_cb 119) 30 = .ok (.aload_n 0, 1) := by decide +kernel
theorem d119_31 : decode (mm_cb 119) 31 = .ok (.dup, 1) := by decide +kernel
theorem d119_32 : decode (mm_cb 119) 32 = .ok (.getfield 114, 3) := by decide +kernel
theorem d119_35 : decode (mm_cb 119) 35 = .ok (.iconst 1, 1) := by decide +kernel
theorem d119_36 : decode (mm_cb 119) 36 = .ok (.iadd, 1) := by decide +kernel
theorem d119_37 : decode (mm_cb 119) 37 = .ok (.putfield 114, 3) := by decide +kernel
theorem d119_40 : decode (mm_cb 119) 40 = .ok (.return_, 1) := by decide +kernel
theorem d120_0 : decode (mm_cb 120) 0 = .ok (.iconst 0, 1) := by decide +kernel
theorem d120_1 : decode (mm_cb 120) 1 = .ok (.istore_n 1, 1) := by decide +kernel
theorem d120_2 : decode (mm_cb 120) 2 = .ok (.iload_n 0, 1) := by decide +kernel
theorem d120_3 : decode (mm_cb 120) 3 = .ok (.istore_n 2, 1) := by decide +kernel
theorem d120_4 : decode (mm_cb 120) 4 = .ok (.iload_n 2, 1) := by decide +kernel
theorem d120_5 : decode (mm_cb 120) 5 = .ok (.ifCond .le 15, 3) := by decide +kernel
theorem d120_8 : decode (mm_cb 120) 8 = .ok (.iinc 1 1, 3) := by decide +kernel
theorem d120_11 : decode (mm_cb 120) 11 = .ok (.iload_n 2, 1) := by decide +kernel
theorem d120_12 : decode (mm_cb 120) 12 = .ok (.iconst 1, 1) := by decide +kernel
theorem d120_13 : decode (mm_cb 120) 13 = .ok (.isub, 1) := by decide +kernel
theorem d120_14 : decode (mm_cb 120) 14 = .ok (.iconst 4, 1) := by decide +kernel
theorem d120_15 : decode (mm_cb 120) 15 = .ok (.idiv, 1) := by decide +kernel
theorem d120_16 : decode (mm_cb 120) 16 = .ok (.istore_n 2, 1) := by decide +kernel
theorem d120_17 : decode (mm_cb 120) 17 = .ok (.goto (-13), 3) := by decide +kernel
theorem d120_20 : decode (mm_cb 120) 20 = .ok (.iload_n 1, 1) := by decide +kernel
theorem d120_21 : decode (mm_cb 120) 21 = .ok (.ireturn, 1) := by decide +kernel
theorem d121_0 : decode (mm_cb 121) 0 = .ok (.iconst 0, 1) := by decide +kernel
theorem d121_1 : decode (mm_cb 121) 1 = .ok (.istore 6, 2) := by decide +kernel
theorem d121_3 : decode (mm_cb 121) 3 = .ok (.lload 4, 2) := by decide +kernel
theorem d121_5 : decode (mm_cb 121) 5 = .ok (.lstore 7, 2) := by decide +kernel
theorem d121_7 : decode (mm_cb 121) 7 = .ok (.lload 7, 2) := by decide +kernel
theorem d121_9 : decode (mm_cb 121) 9 = .ok (.aload_n 0, 1) := by decide +kernel
theorem d121_10 : decode (mm_cb 121) 10 = .ok (.iload_n 2, 1) := by decide +kernel
theorem d121_11 : decode (mm_cb 121) 11 = .ok (.iload 6, 2) := by decide +kernel
theorem d121_13 : decode (mm_cb 121) 13 = .ok (.iload_n 3, 1) := by decide +kernel
theorem d121_14 : decode (mm_cb 121) 14 = .ok (.invokevirtual 83, 3) := by decide +kernel
theorem d121_17 : decode (mm_cb 121) 17 = .ok (.lcmp, 1) := by decide +kernel
theorem d121_18 : decode (mm_cb 121) 18 = .ok (.ifCond .lt 22, 3) := by decide +kernel
theorem d121_21 : decode (mm_cb 121) 21 = .ok (.lload 7, 2) := by decide +kernel
theorem d121_23 : decode (mm_cb 121) 23 = .ok (.aload_n 0, 1) := by decide +kernel
theorem d121_24 : decode (mm_cb 121) 24 = .ok (.iload_n 2, 1) := by decide +kernel
theorem d121_25 : decode (mm_cb 121) 25 = .ok (.iload 6, 2) := by decide +kernel
theorem d121_27 : decode (mm_cb 121) 27 = .ok (.iload_n 3, 1) := by decide +kernel
theorem d121_28 : decode (mm_cb 121) 28 = .ok (.invokevirtual 83, 3) := by decide +kernel
theorem d121_31 : decode (mm_cb 121) 31 = .ok (.lsub, 1) := by decide +kernel
theorem d121_32 : decode (mm_cb 121) 32 = .ok (.lstore 7, 2) := by decide +kernel
theorem d121_34 : decode (mm_cb 121) 34 = .ok (.iinc 6 1, 3) := by decide +kernel
theorem d121_37 : decode (mm_cb 121) 37 = .ok (.goto (-30), 3) := by decide +kernel
theorem d121_40 : decode (mm_cb 121) 40 = .ok (.aload_n 0, 1) := by decide +kernel
theorem d121_41 : decode (mm_cb 121) 41 = .ok (.getfield 26, 3) := by decide +kernel
theorem d121_44 : decode (mm_cb 121) 44 = .ok (.iload_n 1, 1) := by decide +kernel
theorem d121_45 : decode (mm_cb 121) 45 = .ok (.iload 6, 2) := by decide +kernel
theorem d121_47 : decode (mm_cb 121) 47 = .ok (.iastore, 1) := by decide +kernel
theorem d121_48 : decode (mm_cb 121) 48 = .ok (.aload_n 0, 1) := by decide +kernel
theorem d121_49 : decode (mm_cb 121) 49 = .ok (.getfield 29, 3) := by decide +kernel
theorem d121_52 : decode (mm_cb 121) 52 = .ok (.iload_n 1, 1) := by decide +kernel
theorem d121_53 : decode (mm_cb 121) 53 = .ok (.iload_n 2, 1) := by decide +kernel
theorem d121_54 : decode (mm_cb 121) 54 = .ok (.iastore, 1) := by decide +kernel
theorem d121_55 : decode (mm_cb 121) 55 = .ok (.aload_n 0, 1) := by decide +kernel
theorem d121_56 : decode (mm_cb 121) 56 = .ok (.getfield 13, 3) := by decide +kernel
theorem d121_59 : decode (mm_cb 121) 59 = .ok (.iconst 4, 1) := by decide +kernel
theorem d121_60 : decode (mm_cb 121) 60 = .ok (.iload_n 2, 1) := by decide +kernel
theorem d121_61 : decode (mm_cb 121) 61 = .ok (.imul, 1) := by decide +kernel
theorem d121_62 : decode (mm_cb 121) 62 = .ok (.iload 6, 2) := by decide +kernel
theorem d121_64 : decode (mm_cb 121) 64 = .ok (.iadd, 1) := by decide +kernel
theorem d121_65 : decode (mm_cb 121) 65 = .ok (.iaload, 1) := by decide +kernel
theorem d121_66 : decode (mm_cb 121) 66 = .ok (.iconst 1, 1) := by decide +kernel
theorem d121_67 : decode (mm_cb 121) 67 = .ok (.isub, 1) := by decide +kernel
theorem d121_68 : decode (mm_cb 121) 68 = .ok (.istore 9, 2) := by decide +kernel
theorem d121_70 : decode (mm_cb 121) 70 = .ok (.iload 9, 2) := by decide +kernel
theorem d121_72 : decode (mm_cb 121) 72 = .ok (.ifCond .lt 63, 3) := by decide +kernel
theorem d121_75 : decode (mm_cb 121) 75 = .ok (.aload_n 0, 1) := by decide +kernel
theorem d121_76 : decode (mm_cb 121) 76 = .ok (.getfield 19, 3) := by decide +kernel
theorem d121_79 : decode (mm_cb 121) 79 = .ok (.bipush 6, 2) := by decide +kernel
theorem d121_81 : decode (mm_cb 121) 81 = .ok (.aload_n 0, 1) := by decide +kernel
theorem d121_82 : decode (mm_cb 121) 82 = .ok (.iload_n 2, 1) := by decide +kernel
theorem d121_83 : decode (mm_cb 121) 83 = .ok (.iload 6, 2) := by decide +kernel
theorem d121_85 : decode (mm_cb 121) 85 = .ok (.iload 9, 2) := by decide +kernel
theorem d121_87 : decode (mm_cb 121) 87 = .ok (.invokevirtual 75, 3) := by decide +kernel
theorem d121_90 : decode (mm_cb 121) 90 = .ok (.imul, 1) := by decide +kernel
theorem d121_91 : decode (mm_cb 121) 91 = .ok (.iload_n 3, 1) := by decide +kernel
theorem d121_92 : decode (mm_cb 121) 92 = .ok (.iadd, 1) := by decide +kernel
theorem d121_93 : decode (mm_cb 121) 93 = .ok (.laload, 1) := by decide +kernel
theorem d121_94 : decode (mm_cb 121) 94 = .ok (.lstore 10, 2) := by decide +kernel
theorem d121_96 : decode (mm_cb 121) 96 = .ok (.aload_n 0, 1) := by decide +kernel
theorem d121_97 : decode (mm_cb 121) 97 = .ok (.iconst 4, 1) := by decide +kernel
theorem d121_98 : decode (mm_cb 121) 98 = .ok (.iload_n 1, 1) := by decide +kernel
theorem d121_99 : decode (mm_cb 121) 99 = .ok (.imul, 1) := by decide +kernel
theorem d121_100 : decode (mm_cb 121) 100 = .ok (.iload 9, 2) := by decide +kernel
theorem d121_102 : decode (mm_cb 121) 102 = .ok (.iadd, 1) := by decide +kernel
theorem d121_103 : decode (mm_cb 121) 103 = .ok (.iconst 1, 1) := by decide +kernel
theorem d121_104 : decode (mm_cb 121) 104 = .ok (.iadd, 1) := by decide +kernel
theorem d121_105 : decode (mm_cb 121) 105 = .ok (.aload_n 0, 1) := by decide +kernel
theorem d121_106 : decode (mm_cb 121) 106 = .ok (.iload_n 2, 1) := by decide +kernel
theorem d121_107 : decode (mm_cb 121) 107 = .ok (.iload 6, 2) := by decide +kernel
theorem d121_109 : decode (mm_cb 121) 109 = .ok (.iload 9, 2) := by decide +kernel
theorem d121_111 : decode (mm_cb 121) 111 = .ok (.invokevirtual 75, 3) := by decide +kernel
theorem d121_114 : decode (mm_cb 121) 114 = .ok (.lload 7, 2) := by decide +kernel
theorem d121_116 : decode (mm_cb 121) 116 = .ok (.lload 10, 2) := by decide +kernel
theorem d121_118 : decode (mm_cb 121) 118 = .ok (.lrem, 1) := by decide +kernel
theorem d121_119 : decode (mm_cb 121) 119 = .ok (.invokevirtual 117, 3) := by decide +kernel
theorem d121_122 : decode (mm_cb 121) 122 = .ok (.lload 7, 2) := by decide +kernel
theorem d121_124 : decode (mm_cb 121) 124 = .ok (.lload 10, 2) := by decide +kernel
theorem d121_126 : decode (mm_cb 121) 126 = .ok (.ldiv, 1) := by decide +kernel
theorem d121_127 : decode (mm_cb 121) 127 = .ok (.lstore 7, 2) := by decide +kernel
theorem d121_129 : decode (mm_cb 121) 129 = .ok (.iinc 9 (-1), 3) := by decide +kernel
theorem d121_132 : decode (mm_cb 121) 132 = .ok (.goto (-62), 3) := by decide +kernel
theorem d121_135 : decode (mm_cb 121) 135 = .ok (.return_, 1) := by decide +kernel
theorem d122_0 : decode (mm_cb 122) 0 = .ok (.aload_n 0, 1) := by decide +kernel
theorem d122_1 : decode (mm_cb 122) 1 = .ok (.iconst 0, 1) := by decide +kernel
theorem d122_2 : decode (mm_cb 122) 2 = .ok (.putfield 132, 3) := by decide +kernel
theorem d122_5 : decode (mm_cb 122) 5 = .ok (.aload_n 0, 1) := by decide +kernel
theorem d122_6 : decode (mm_cb 122) 6 = .ok (.iconst 0, 1) := by decide +kernel
theorem d122_7 : decode (mm_cb 122) 7 = .ok (.putfield 114, 3) := by decide +kernel
theorem d122_10 : decode (mm_cb 122) 10 = .ok (.aload_n 0, 1) := by decide +kernel
theorem d122_11 : decode (mm_cb 122) 11 = .ok (.iconst 0, 1) := by decide +kernel
theorem d122_12 : decode (mm_cb 122) 12 = .ok (.iconst 0, 1) := by decide +kernel
theorem d122_13 : decode (mm_cb 122) 13 = .ok (.lconst 0, 1) := by decide +kernel
theorem d122_14 : decode (mm_cb 122) 14 = .ok (.invokevirtual 117, 3) := by decide +kernel
theorem d122_17 : decode (mm_cb 122) 17 = .ok (.aload_n 0, 1) := by decide +kernel
theorem d122_18 : decode (mm_cb 122) 18 = .ok (.getfield 114, 3) := by decide +kernel
theorem d122_21 : decode (mm_cb 122) 21 = .ok (.ifCond .le 112, 3) := by decide +kernel
theorem d122_24 : decode (mm_cb 122) 24 = .ok (.aload_n 0, 1) := by decide +kernel
theorem d122_25 : decode (mm_cb 122) 25 = .ok (.dup, 1) := by decide +kernel
theorem d122_26 : decode (mm_cb 122) 26 = .ok (.getfield 114, 3) := by decide +kernel
theorem d122_29 : decode (mm_cb 122) 29 = .ok (.iconst 1, 1) := by decide +kernel
theorem d122_30 : decode (mm_cb 122) 30 = .ok (.isub, 1) := by decide +kernel
theorem d122_31 : decode (mm_cb 122) 31 = .ok (.putfield 114, 3) := by decide +kernel
theorem d122_34 : decode (mm_cb 122) 34 = .ok (.aload_n 0, 1) := by decide +kernel
theorem d122_35 : decode (mm_cb 122) 35 = .ok (.getfield 35, 3) := by decide +kernel
theorem d122_38 : decode (mm_cb 122) 38 = .ok (.aload_n 0, 1) := by decide +kernel
theorem d122_39 : decode (mm_cb 122) 39 = .ok (.getfield 114, 3) := by decide +kernel
theorem d122_42 : decode (mm_cb 122) 42 = .ok (.iaload, 1) := by decide +kernel
theorem d122_43 : decode (mm_cb 122) 43 = .ok (.istore_n 1, 1) := by decide +kernel
theorem d122_44 : decode (mm_cb 122) 44 = .ok (.aload_n 0, 1) := by decide +kernel
theorem d122_45 : decode (mm_cb 122) 45 = .ok (.getfield 32, 3) := by decide +kernel
theorem d122_48 : decode (mm_cb 122) 48 = .ok (.aload_n 0, 1) := by decide +kernel
theorem d122_49 : decode (mm_cb 122) 49 = .ok (.getfield 132, 3) := by decide +kernel
theorem d122_52 : decode (mm_cb 122) 52 = .ok (.aload_n 0, 1) := by decide +kernel
theorem d122_53 : decode (mm_cb 122) 53 = .ok (.getfield 26, 3) := by decide +kernel
theorem d122_56 : decode (mm_cb 122) 56 = .ok (.iload_n 1, 1) := by decide +kernel
theorem d122_57 : decode (mm_cb 122) 57 = .ok (.iaload, 1) := by decide +kernel
theorem d122_58 : decode (mm_cb 122) 58 = .ok (.iastore, 1) := by decide +kernel
theorem d122_59 : decode (mm_cb 122) 59 = .ok (.aload_n 0, 1) := by decide +kernel
theorem d122_60 : decode (mm_cb 122) 60 = .ok (.dup, 1) := by decide +kernel
theorem d122_61 : decode (mm_cb 122) 61 = .ok (.getfield 132, 3) := by decide +kernel
theorem d122_64 : decode (mm_cb 122) 64 = .ok (.iconst 1, 1) := by decide +kernel
theorem d122_65 : decode (mm_cb 122) 65 = .ok (.iadd, 1) := by decide +kernel
theorem d122_66 : decode (mm_cb 122) 66 = .ok (.putfield 132, 3) := by decide +kernel
theorem d122_69 : decode (mm_cb 122) 69 = .ok (.aload_n 0, 1) := by decide +kernel
theorem d122_70 : decode (mm_cb 122) 70 = .ok (.getfield 26, 3) := by decide +kernel
theorem d122_73 : decode (mm_cb 122) 73 = .ok (.iload_n 1, 1) := by decide +kernel
theorem d122_74 : decode (mm_cb 122) 74 = .ok (.iaload, 1) := by decide +kernel
theorem d122_75 : decode (mm_cb 122) 75 = .ok (.ifCond .ge 7, 3) := by decide +kernel
theorem d122_78 : decode (mm_cb 122) 78 = .ok (.iconst 0, 1) := by decide +kernel
theorem d122_79 : decode (mm_cb 122) 79 = .ok (.goto 23, 3) := by decide +kernel
theorem d122_82 : decode (mm_cb 122) 82 = .ok (.aload_n 0, 1) := by decide +kernel
theorem d122_83 : decode (mm_cb 122) 83 = .ok (.getfield 13, 3) := by decide +kernel
theorem d122_86 : decode (mm_cb 122) 86 = .ok (.iconst 4, 1) := by decide +kernel
theorem d122_87 : decode (mm_cb 122) 87 = .ok (.aload_n 0, 1) := by decide +kernel
theorem d122_88 : decode (mm_cb 122) 88 = .ok (.getfield 29, 3) := by decide +kernel
theorem d122_91 : decode (mm_cb 122) 91 = .ok (.iload_n 1, 1) := by decide +kernel
theorem d122_92 : decode (mm_cb 122) 92 = .ok (.iaload, 1) := by decide +kernel
theorem d122_93 : decode (mm_cb 122) 93 = .ok (.imul, 1) := by decide +kernel
theorem d122_94 : decode (mm_cb 122) 94 = .ok (.aload_n 0, 1) := by decide +kernel
theorem d122_95 : decode (mm_cb 122) 95 = .ok (.getfield 26, 3) := by decide +kernel
theorem d122_98 : decode (mm_cb 122) 98 = .ok (.iload_n 1, 1) := by decide +kernel
theorem d122_99 : decode (mm_cb 122) 99 = .ok (.iaload, 1) := by decide +kernel
theorem d122_100 : decode (mm_cb 122) 100 = .ok (.iadd, 1) := by decide +kernel
theorem d122_101 : decode (mm_cb 122) 101 = .ok (.iaload, 1) := by decide +kernel
theorem d122_102 : decode (mm_cb 122) 102 = .ok (.istore_n 2, 1) := by decide +kernel
theorem d122_103 : decode (mm_cb 122) 103 = .ok (.iload_n 2, 1) := by decide +kernel
theorem d122_104 : decode (mm_cb 122) 104 = .ok (.iconst 1, 1) := by decide +kernel
theorem d122_105 : decode (mm_cb 122) 105 = .ok (.isub, 1) := by decide +kernel
theorem d122_106 : decode (mm_cb 122) 106 = .ok (.istore_n 3, 1) := by decide +kernel
theorem d122_107 : decode (mm_cb 122) 107 = .ok (.iload_n 3, 1) := by decide +kernel
theorem d122_108 : decode (mm_cb 122) 108 = .ok (.ifCond .lt 22, 3) := by decide +kernel
theorem d122_111 : decode (mm_cb 122) 111 = .ok (.aload_n 0, 1) := by decide +kernel
theorem d122_112 : decode (mm_cb 122) 112 = .ok (.iconst 4, 1) := by decide +kernel
theorem d122_113 : decode (mm_cb 122) 113 = .ok (.iload_n 1, 1) := by decide +kernel
theorem d122_114 : decode (mm_cb 122) 114 = .ok (.imul, 1) := by decide +kernel
theorem d122_115 : decode (mm_cb 122) 115 = .ok (.iload_n 3, 1) := by decide +kernel
theorem d122_116 : decode (mm_cb 122) 116 = .ok (.iadd, 1) := by decide +kernel
theorem d122_117 : decode (mm_cb 122) 117 = .ok (.iconst 1, 1) := by decide +kernel
theorem d122_118 : decode (mm_cb 122) 118 = .ok (.iadd, 1) := by decide +kernel
theorem d122_119 : decode (mm_cb 122) 119 = .ok (.iconst 0, 1) := by decide +kernel
theorem d122_120 : decode (mm_cb 122) 120 = .ok (.lconst 0, 1) := by decide +kernel
theorem d122_121 : decode (mm_cb 122) 121 = .ok (.invokevirtual 117, 3) := by decide +kernel
theorem d122_124 : decode (mm_cb 122) 124 = .ok (.iinc 3 (-1), 3) := by decide +kernel
theorem d122_127 : decode (mm_cb 122) 127 = .ok (.goto (-20), 3) := by decide +kernel
theorem d122_130 : decode (mm_cb 122) 130 = .ok (.goto (-113), 3) := by decide +kernel
theorem d122_133 : decode (mm_cb 122) 133 = .ok (.return_, 1) := by decide +kernel
theorem d123_0 : decode (mm_cb 123) 0 = .ok (.aload_n 0, 1) := by decide +kernel
theorem d123_1 : decode (mm_cb 123) 1 = .ok (.iload_n 1, 1) := by decide +kernel
theorem d123_2 : decode (mm_cb 123) 2 = .ok (.iload_n 2, 1) := by decide +kernel
theorem d123_3 : decode (mm_cb 123) 3 = .ok (.invokestatic 108, 3) := by decide +kernel
theorem d123_6 : decode (mm_cb 123) 6 = .ok (.putfield 65, 3) := by decide +kernel
theorem d123_9 : decode (mm_cb 123) 9 = .ok (.aload_n 0, 1) := by decide +kernel
theorem d123_10 : decode (mm_cb 123) 10 = .ok (.getfield 65, 3) := by decide +kernel
theorem d123_13 : decode (mm_cb 123) 13 = .ok (.ifCond .le 5, 3) := by decide +kernel
theorem d123_16 : decode (mm_cb 123) 16 = .ok (.iconst 0, 1) := by decide +kernel
theorem d123_17 : decode (mm_cb 123) 17 = .ok (.ireturn, 1) := by decide +kernel
theorem d123_18 : decode (mm_cb 123) 18 = .ok (.aload_n 0, 1) := by decide +kernel
theorem d123_19 : decode (mm_cb 123) 19 = .ok (.invokevirtual 111, 3) := by decide +kernel
theorem d123_22 : decode (mm_cb 123) 22 = .ok (.aload_n 0, 1) := by decide +kernel
theorem d123_23 : decode (mm_cb 123) 23 = .ok (.lload_n 3, 1) := by decide +kernel
theorem d123_24 : decode (mm_cb 123) 24 = .ok (.lconst 0, 1) := by decide +kernel
theorem d123_25 : decode (mm_cb 123) 25 = .ok (.lcmp, 1) := by decide +kernel
theorem d123_26 : decode (mm_cb 123) 26 = .ok (.ifCond .lt 19, 3) := by decide +kernel
theorem d123_29 : decode (mm_cb 123) 29 = .ok (.lload_n 3, 1) := by decide +kernel
theorem d123_30 : decode (mm_cb 123) 30 = .ok (.aload_n 0, 1) := by decide +kernel
theorem d123_31 : decode (mm_cb 123) 31 = .ok (.getfield 23, 3) := by decide +kernel
theorem d123_34 : decode (mm_cb 123) 34 = .ok (.bipush 13, 2) := by decide +kernel
theorem d123_36 : decode (mm_cb 123) 36 = .ok (.iload_n 1, 1) := by decide +kernel
theorem d123_37 : decode (mm_cb 123) 37 = .ok (.imul, 1) := by decide +kernel
theorem d123_38 : decode (mm_cb 123) 38 = .ok (.iload_n 2, 1) := by decide +kernel
theorem d123_39 : decode (mm_cb 123) 39 = .ok (.iadd, 1) := by decide +kernel
theorem d123_40 : decode (mm_cb 123) 40 = .ok (.laload, 1) := by decide +kernel
theorem d123_41 : decode (mm_cb 123) 41 = .ok (.lcmp, 1) := by decide +kernel
theorem d123_42 : decode (mm_cb 123) 42 = .ok (.ifCond .lt 7, 3) := by decide +kernel
theorem d123_45 : decode (mm_cb 123) 45 = .ok (.iconst 3, 1) := by decide +kernel
theorem d123_46 : decode (mm_cb 123) 46 = .ok (.goto 4, 3) := by decide +kernel
theorem d123_49 : decode (mm_cb 123) 49 = .ok (.iconst 0, 1) := by decide +kernel
theorem d123_50 : decode (mm_cb 123) 50 = .ok (.putfield 65, 3) := by decide +kernel
theorem d123_53 : decode (mm_cb 123) 53 = .ok (.aload_n 0, 1) := by decide +kernel
theorem d123_54 : decode (mm_cb 123) 54 = .ok (.getfield 65, 3) := by decide +kernel
theorem d123_57 : decode (mm_cb 123) 57 = .ok (.ifCond .le 5, 3) := by decide +kernel
theorem d123_60 : decode (mm_cb 123) 60 = .ok (.iconst 0, 1) := by decide +kernel
theorem d123_61 : decode (mm_cb 123) 61 = .ok (.ireturn, 1) := by decide +kernel
theorem d123_62 : decode (mm_cb 123) 62 = .ok (.aload_n 0, 1) := by decide +kernel
theorem d123_63 : decode (mm_cb 123) 63 = .ok (.iconst 0, 1) := by decide +kernel
theorem d123_64 : decode (mm_cb 123) 64 = .ok (.putfield 132, 3) := by decide +kernel
theorem d123_67 : decode (mm_cb 123) 67 = .ok (.aload_n 0, 1) := by decide +kernel
theorem d123_68 : decode (mm_cb 123) 68 = .ok (.iconst 0, 1) := by decide +kernel
theorem d123_69 : decode (mm_cb 123) 69 = .ok (.putfield 114, 3) := by decide +kernel
theorem d123_72 : decode (mm_cb 123) 72 = .ok (.aload_n 0, 1) := by decide +kernel
theorem d123_73 : decode (mm_cb 123) 73 = .ok (.iload_n 1, 1) := by decide +kernel
theorem d123_74 : decode (mm_cb 123) 74 = .ok (.iload_n 2, 1) := by decide +kernel
theorem d123_75 : decode (mm_cb 123) 75 = .ok (.lload_n 3, 1) := by decide +kernel
theorem d123_76 : decode (mm_cb 123) 76 = .ok (.invokevirtual 117, 3) := by decide +kernel
theorem d123_79 : decode (mm_cb 123) 79 = .ok (.aload_n 0, 1) := by decide +kernel
theorem d123_80 : decode (mm_cb 123) 80 = .ok (.getfield 114, 3) := by decide +kernel
theorem d123_83 : decode (mm_cb 123) 83 = .ok (.ifCond .le 47, 3) := by decide +kernel
theorem d123_86 : decode (mm_cb 123) 86 = .ok (.aload_n 0, 1) := by decide +kernel
theorem d123_87 : decode (mm_cb 123) 87 = .ok (.dup, 1) := by decide +kernel
theorem d123_88 : decode (mm_cb 123) 88 = .ok (.getfield 114, 3) := by decide +kernel
theorem d123_91 : decode (mm_cb 123) 91 = .ok (.iconst 1, 1) := by decide +kernel
theorem d123_92 : decode (mm_cb 123) 92 = .ok (.isub, 1) := by decide +kernel
theorem d123_93 : decode (mm_cb 123) 93 = .ok (.putfield 114, 3) := by decide +kernel
theorem d123_96 : decode (mm_cb 123) 96 = .ok (.aload_n 0, 1) := by decide +kernel
theorem d123_97 : decode (mm_cb 123) 97 = .ok (.aload_n 0, 1) := by decide +kernel
theorem d123_98 : decode (mm_cb 123) 98 = .ok (.getfield 35, 3) := by decide +kernel
theorem d123_101 : decode (mm_cb 123) 101 = .ok (.aload_n 0, 1) := by decide +kernel
theorem d123_102 : decode (mm_cb 123) 102 = .ok (.getfield 114, 3) := by decide +kernel
theorem d123_105 : decode (mm_cb 123) 105 = .ok (.iaload, 1) := by decide +kernel
theorem d123_106 : decode (mm_cb 123) 106 = .ok (.aload_n 0, 1) := by decide +kernel
theorem d123_107 : decode (mm_cb 123) 107 = .ok (.getfield 38, 3) := by decide +kernel
theorem d123_110 : decode (mm_cb 123) 110 = .ok (.aload_n 0, 1) := by decide +kernel
theorem d123_111 : decode (mm_cb 123) 111 = .ok (.getfield 114, 3) := by decide +kernel
theorem d123_114 : decode (mm_cb 123) 114 = .ok (.iaload, 1) := by decide +kernel
theorem d123_115 : decode (mm_cb 123) 115 = .ok (.aload_n 0, 1) := by decide +kernel
theorem d123_116 : decode (mm_cb 123) 116 = .ok (.getfield 41, 3) := by decide +kernel
theorem d123_119 : decode (mm_cb 123) 119 = .ok (.aload_n 0, 1) := by decide +kernel
theorem d123_120 : decode (mm_cb 123) 120 = .ok (.getfield 114, 3) := by decide +kernel
theorem d123_123 : decode (mm_cb 123) 123 = .ok (.laload, 1) := by decide +kernel
theorem d123_124 : decode (mm_cb 123) 124 = .ok (.invokevirtual 141, 3) := by decide +kernel
theorem d123_127 : decode (mm_cb 123) 127 = .ok (.goto (-48), 3) := by decide +kernel
theorem d123_130 : decode (mm_cb 123) 130 = .ok (.aload_n 0, 1) := by decide +kernel
theorem d123_131 : decode (mm_cb 123) 131 = .ok (.getfield 132, 3) := by decide +kernel
theorem d123_134 : decode (mm_cb 123) 134 = .ok (.ireturn, 1) := by decide +kernel
theorem d124_0 : decode (mm_cb 124) 0 = .ok (.iconst 0, 1) := by decide +kernel
theorem d124_1 : decode (mm_cb 124) 1 = .ok (.istore 5, 2) := by decide +kernel
theorem d124_3 : decode (mm_cb 124) 3 = .ok (.lload_n 3, 1) := by decide +kernel
theorem d124_4 : decode (mm_cb 124) 4 = .ok (.lstore 6, 2) := by decide +kernel
theorem d124_6 : decode (mm_cb 124) 6 = .ok (.lload 6, 2) := by decide +kernel
theorem d124_8 : decode (mm_cb 124) 8 = .ok (.aload_n 0, 1) := by decide +kernel
theorem d124_9 : decode (mm_cb 124) 9 = .ok (.iload_n 1, 1) := by decide +kernel
theorem d124_10 : decode (mm_cb 124) 10 = .ok (.iload 5, 2) := by decide +kernel
theorem d124_12 : decode (mm_cb 124) 12 = .ok (.iload_n 2, 1) := by decide +kernel
theorem d124_13 : decode (mm_cb 124) 13 = .ok (.invokevirtual 98, 3) := by decide +kernel
theorem d124_16 : decode (mm_cb 124) 16 = .ok (.lcmp, 1) := by decide +kernel
theorem d124_17 : decode (mm_cb 124) 17 = .ok (.ifCond .lt 22, 3) := by decide +kernel
theorem d124_20 : decode (mm_cb 124) 20 = .ok (.lload 6, 2) := by decide +kernel
theorem d124_22 : decode (mm_cb 124) 22 = .ok (.aload_n 0, 1) := by decide +kernel
theorem d124_23 : decode (mm_cb 124) 23 = .ok (.iload_n 1, 1) := by decide +kernel
theorem d124_24 : decode (mm_cb 124) 24 = .ok (.iload 5, 2) := by decide +kernel
theorem d124_26 : decode (mm_cb 124) 26 = .ok (.iload_n 2, 1) := by decide +kernel
theorem d124_27 : decode (mm_cb 124) 27 = .ok (.invokevirtual 98, 3) := by decide +kernel
theorem d124_30 : decode (mm_cb 124) 30 = .ok (.lsub, 1) := by decide +kernel
theorem d124_31 : decode (mm_cb 124) 31 = .ok (.lstore 6, 2) := by decide +kernel
theorem d124_33 : decode (mm_cb 124) 33 = .ok (.iinc 5 1, 3) := by decide +kernel
theorem d124_36 : decode (mm_cb 124) 36 = .ok (.goto (-30), 3) := by decide +kernel
theorem d124_39 : decode (mm_cb 124) 39 = .ok (.aload_n 0, 1) := by decide +kernel
theorem d124_40 : decode (mm_cb 124) 40 = .ok (.getfield 32, 3) := by decide +kernel
theorem d124_43 : decode (mm_cb 124) 43 = .ok (.aload_n 0, 1) := by decide +kernel
theorem d124_44 : decode (mm_cb 124) 44 = .ok (.getfield 132, 3) := by decide +kernel
theorem d124_47 : decode (mm_cb 124) 47 = .ok (.iload 5, 2) := by decide +kernel
theorem d124_49 : decode (mm_cb 124) 49 = .ok (.iastore, 1) := by decide +kernel
theorem d124_50 : decode (mm_cb 124) 50 = .ok (.aload_n 0, 1) := by decide +kernel
theorem d124_51 : decode (mm_cb 124) 51 = .ok (.dup, 1) := by decide +kernel
theorem d124_52 : decode (mm_cb 124) 52 = .ok (.getfield 132, 3) := by decide +kernel
theorem d124_55 : decode (mm_cb 124) 55 = .ok (.iconst 1, 1) := by decide +kernel
theorem d124_56 : decode (mm_cb 124) 56 = .ok (.iadd, 1) := by decide +kernel
theorem d124_57 : decode (mm_cb 124) 57 = .ok (.putfield 132, 3) := by decide +kernel
theorem d124_60 : decode (mm_cb 124) 60 = .ok (.iconst 0, 1) := by decide +kernel
theorem d124_61 : decode (mm_cb 124) 61 = .ok (.istore 8, 2) := by decide +kernel
theorem d124_63 : decode (mm_cb 124) 63 = .ok (.iconst 0, 1) := by decide +kernel
theorem d124_64 : decode (mm_cb 124) 64 = .ok (.istore 9, 2) := by decide +kernel
theorem d124_66 : decode (mm_cb 124) 66 = .ok (.lload 6, 2) := by decide +kernel
theorem d124_68 : decode (mm_cb 124) 68 = .ok (.aload_n 0, 1) := by decide +kernel
theorem d124_69 : decode (mm_cb 124) 69 = .ok (.iload_n 1, 1) := by decide +kernel
theorem d124_70 : decode (mm_cb 124) 70 = .ok (.iload 5, 2) := by decide +kernel
theorem d124_72 : decode (mm_cb 124) 72 = .ok (.iload 8, 2) := by decide +kernel
theorem d124_74 : decode (mm_cb 124) 74 = .ok (.iload 9, 2) := by decide +kernel
theorem d124_76 : decode (mm_cb 124) 76 = .ok (.iload_n 2, 1) := by decide +kernel
theorem d124_77 : decode (mm_cb 124) 77 = .ok (.iconst 1, 1) := by decide +kernel
theorem d124_78 : decode (mm_cb 124) 78 = .ok (.isub, 1) := by decide +kernel
theorem d124_79 : decode (mm_cb 124) 79 = .ok (.iload 8, 2) := by decide +kernel
theorem d124_81 : decode (mm_cb 124) 81 = .ok (.isub, 1) := by decide +kernel
theorem d124_82 : decode (mm_cb 124) 82 = .ok (.iload 9, 2) := by decide +kernel
theorem d124_84 : decode (mm_cb 124) 84 = .ok (.isub, 1) := by decide +kernel
theorem d124_85 : decode (mm_cb 124) 85 = .ok (.invokevirtual 94, 3) := by decide +kernel
theorem d124_88 : decode (mm_cb 124) 88 = .ok (.lcmp, 1) := by decide +kernel
theorem d124_89 : decode (mm_cb 124) 89 = .ok (.ifCond .lt 49, 3) := by decide +kernel
theorem d124_92 : decode (mm_cb 124) 92 = .ok (.lload 6, 2) := by decide +kernel
theorem d124_94 : decode (mm_cb 124) 94 = .ok (.aload_n 0, 1) := by decide +kernel
theorem d124_95 : decode (mm_cb 124) 95 = .ok (.iload_n 1, 1) := by decide +kernel
theorem d124_96 : decode (mm_cb 124) 96 = .ok (.iload 5, 2) := by decide +kernel
theorem d124_98 : decode (mm_cb 124) 98 = .ok (.iload 8, 2) := by decide +kernel
theorem d124_100 : decode (mm_cb 124) 100 = .ok (.iload 9, 2) := by decide +kernel
theorem d124_102 : decode (mm_cb 124) 102 = .ok (.iload_n 2, 1) := by decide +kernel
theorem d124_103 : decode (mm_cb 124) 103 = .ok (.iconst 1, 1) := by decide +kernel
theorem d124_104 : decode (mm_cb 124) 104 = .ok (.isub, 1) := by decide +kernel
theorem d124_105 : decode (mm_cb 124) 105 = .ok (.iload 8, 2) := by decide +kernel
theorem d124_107 : decode (mm_cb 124) 107 = .ok (.isub, 1) := by decide +kernel
theorem d124_108 : decode (mm_cb 124) 108 = .ok (.iload 9, 2) := by decide +kernel
theorem d124_110 : decode (mm_cb 124) 110 = .ok (.isub, 1) := by decide +kernel
theorem d124_111 : decode (mm_cb 124) 111 = .ok (.invokevirtual 94, 3) := by decide +kernel
theorem d124_114 : decode (mm_cb 124) 114 = .ok (.lsub, 1) := by decide +kernel
theorem d124_115 : decode (mm_cb 124) 115 = .ok (.lstore 6, 2) := by decide +kernel
theorem d124_117 : decode (mm_cb 124) 117 = .ok (.iinc 9 1, 3) := by decide +kernel
theorem d124_120 : decode (mm_cb 124) 120 = .ok (.iload 8, 2) := by decide +kernel
theorem d124_122 : decode (mm_cb 124) 122 = .ok (.iload 9, 2) := by decide +kernel
theorem d124_124 : decode (mm_cb 124) 124 = .ok (.iadd, 1) := by decide +kernel
theorem d124_125 : decode (mm_cb 124) 125 = .ok (.iload_n 2, 1) := by decide +kernel
theorem d124_126 : decode (mm_cb 124) 126 = .ok (.if_icmp .ne (-60), 3) := by decide +kernel
theorem d124_129 : decode (mm_cb 124) 129 = .ok (.iinc 8 1, 3) := by decide +kernel
theorem d124_132 : decode (mm_cb 124) 132 = .ok (.iconst 0, 1) := by decide +kernel
theorem d124_133 : decode (mm_cb 124) 133 = .ok (.istore 9, 2) := by decide +kernel
theorem d124_135 : decode (mm_cb 124) 135 = .ok (.goto (-69), 3) := by decide +kernel
theorem d124_138 : decode (mm_cb 124) 138 = .ok (.aload_n 0, 1) := by decide +kernel
theorem d124_139 : decode (mm_cb 124) 139 = .ok (.getfield 13, 3) := by decide +kernel
theorem d124_142 : decode (mm_cb 124) 142 = .ok (.iconst 4, 1) := by decide +kernel
theorem d124_143 : decode (mm_cb 124) 143 = .ok (.iload_n 1, 1) := by decide +kernel
theorem d124_144 : decode (mm_cb 124) 144 = .ok (.imul, 1) := by decide +kernel
theorem d124_145 : decode (mm_cb 124) 145 = .ok (.iload 5, 2) := by decide +kernel
theorem d124_147 : decode (mm_cb 124) 147 = .ok (.iadd, 1) := by decide +kernel
theorem d124_148 : decode (mm_cb 124) 148 = .ok (.iaload, 1) := by decide +kernel
theorem d124_149 : decode (mm_cb 124) 149 = .ok (.iconst 1, 1) := by decide +kernel
theorem d124_150 : decode (mm_cb 124) 150 = .ok (.isub, 1) := by decide +kernel
theorem d124_151 : decode (mm_cb 124) 151 = .ok (.istore 10, 2) := by decide +kernel
theorem d124_153 : decode (mm_cb 124) 153 = .ok (.iload 10, 2) := by decide +kernel
theorem d124_155 : decode (mm_cb 124) 155 = .ok (.ifCond .lt 85, 3) := by decide +kernel
theorem d124_158 : decode (mm_cb 124) 158 = .ok (.iload 10, 2) := by decide +kernel
theorem d124_160 : decode (mm_cb 124) 160 = .ok (.ifCond .ne 8, 3) := by decide +kernel
theorem d124_163 : decode (mm_cb 124) 163 = .ok (.iload 8, 2) := by decide +kernel
theorem d124_165 : decode (mm_cb 124) 165 = .ok (.goto 23, 3) := by decide +kernel
theorem d124_168 : decode (mm_cb 124) 168 = .ok (.iload 10, 2) := by decide +kernel
theorem d124_170 : decode (mm_cb 124) 170 = .ok (.iconst 1, 1) := by decide +kernel
theorem d124_171 : decode (mm_cb 124) 171 = .ok (.if_icmp .ne 8, 3) := by decide +kernel
theorem d124_174 : decode (mm_cb 124) 174 = .ok (.iload 9, 2) := by decide +kernel
theorem d124_176 : decode (mm_cb 124) 176 = .ok (.goto 12, 3) := by decide +kernel
theorem d124_179 : decode (mm_cb 124) 179 = .ok (.iload_n 2, 1) := by decide +kernel
theorem d124_180 : decode (mm_cb 124) 180 = .ok (.iconst 1, 1) := by decide +kernel
theorem d124_181 : decode (mm_cb 124) 181 = .ok (.isub, 1) := by decide +kernel
theorem d124_182 : decode (mm_cb 124) 182 = .ok (.iload 8, 2) := by decide +kernel
theorem d124_184 : decode (mm_cb 124) 184 = .ok (.isub, 1) := by decide +kernel
theorem d124_185 : decode (mm_cb 124) 185 = .ok (.iload 9, 2) := by decide +kernel
theorem d124_187 : decode (mm_cb 124) 187 = .ok (.isub, 1) := by decide +kernel
theorem d124_188 : decode (mm_cb 124) 188 = .ok (.istore 11, 2) := by decide +kernel
theorem d124_190 : decode (mm_cb 124) 190 = .ok (.aload_n 0, 1) := by decide +kernel
theorem d124_191 : decode (mm_cb 124) 191 = .ok (.aload_n 0, 1) := by decide +kernel
theorem d124_192 : decode (mm_cb 124) 192 = .ok (.iload_n 1, 1) := by decide +kernel
theorem d124_193 : decode (mm_cb 124) 193 = .ok (.iload 5, 2) := by decide +kernel
theorem d124_195 : decode (mm_cb 124) 195 = .ok (.iload 10, 2) := by decide +kernel
theorem d124_197 : decode (mm_cb 124) 197 = .ok (.invokevirtual 75, 3) := by decide +kernel
theorem d124_200 : decode (mm_cb 124) 200 = .ok (.iload 11, 2) := by decide +kernel
theorem d124_202 : decode (mm_cb 124) 202 = .ok (.invokevirtual 90, 3) := by decide +kernel
theorem d124_205 : decode (mm_cb 124) 205 = .ok (.lstore 12, 2) := by decide +kernel
theorem d124_207 : decode (mm_cb 124) 207 = .ok (.aload_n 0, 1) := by decide +kernel
theorem d124_208 : decode (mm_cb 124) 208 = .ok (.aload_n 0, 1) := by decide +kernel
theorem d124_209 : decode (mm_cb 124) 209 = .ok (.iload_n 1, 1) := by decide +kernel
theorem d124_210 : decode (mm_cb 124) 210 = .ok (.iload 5, 2) := by decide +kernel
theorem d124_212 : decode (mm_cb 124) 212 = .ok (.iload 10, 2) := by decide +kernel
theorem d124_214 : decode (mm_cb 124) 214 = .ok (.invokevirtual 75, 3) := by decide +kernel
theorem d124_217 : decode (mm_cb 124) 217 = .ok (.iload 11, 2) := by decide +kernel
theorem d124_219 : decode (mm_cb 124) 219 = .ok (.lload 6, 2) := by decide +kernel
theorem d124_221 : decode (mm_cb 124) 221 = .ok (.lload 12, 2) := by decide +kernel
theorem d124_223 : decode (mm_cb 124) 223 = .ok (.lrem, 1) := by decide +kernel
theorem d124_224 : decode (mm_cb 124) 224 = .ok (.invokevirtual 117, 3) := by decide +kernel
theorem d124_227 : decode (mm_cb 124) 227 = .ok (.lload 6, 2) := by decide +kernel
theorem d124_229 : decode (mm_cb 124) 229 = .ok (.lload 12, 2) := by decide +kernel
theorem d124_231 : decode (mm_cb 124) 231 = .ok (.ldiv, 1) := by decide +kernel
theorem d124_232 : decode (mm_cb 124) 232 = .ok (.lstore 6, 2) := by decide +kernel
theorem d124_234 : decode (mm_cb 124) 234 = .ok (.iinc 10 (-1), 3) := by decide +kernel
theorem d124_237 : decode (mm_cb 124) 237 = .ok (.goto (-84), 3) := by decide +kernel
theorem d124_240 : decode (mm_cb 124) 240 = .ok (.return_, 1) := by decide +kernel
theorem d125_0 : decode (mm_cb 125) 0 = .ok (.aload_n 0, 1) := by decide +kernel
theorem d125_1 : decode (mm_cb 125) 1 = .ok (.iconst 0, 1) := by decide +kernel
theorem d125_2 : decode (mm_cb 125) 2 = .ok (.putfield 65, 3) := by decide +kernel
theorem d125_5 : decode (mm_cb 125) 5 = .ok (.iload_n 1, 1) := by decide +kernel
theorem d125_6 : decode (mm_cb 125) 6 = .ok (.ifCond .lt 20, 3) := by decide +kernel
theorem d125_9 : decode (mm_cb 125) 9 = .ok (.iload_n 1, 1) := by decide +kernel
theorem d125_10 : decode (mm_cb 125) 10 = .ok (.aload_n 0, 1) := by decide +kernel
theorem d125_11 : decode (mm_cb 125) 11 = .ok (.getfield 132, 3) := by decide +kernel
theorem d125_14 : decode (mm_cb 125) 14 = .ok (.if_icmp .ge 12, 3) := by decide +kernel
theorem d125_17 : decode (mm_cb 125) 17 = .ok (.aload_n 0, 1) := by decide +kernel
theorem d125_18 : decode (mm_cb 125) 18 = .ok (.getfield 32, 3) := by decide +kernel
theorem d125_21 : decode (mm_cb 125) 21 = .ok (.iload_n 1, 1) := by decide +kernel
theorem d125_22 : decode (mm_cb 125) 22 = .ok (.iaload, 1) := by decide +kernel
theorem d125_23 : decode (mm_cb 125) 23 = .ok (.goto 4, 3) := by decide +kernel
theorem d125_26 : decode (mm_cb 125) 26 = .ok (.iconst (-1), 1) := by decide +kernel
theorem d125_27 : decode (mm_cb 125) 27 = .ok (.ireturn, 1) := by decide +kernel
theorem d126_0 : decode (mm_cb 126) 0 = .ok (.aload_n 0, 1) := by decide +kernel
theorem d126_1 : decode (mm_cb 126) 1 = .ok (.iload_n 1, 1) := by decide +kernel
theorem d126_2 : decode (mm_cb 126) 2 = .ok (.invokestatic 150, 3) := by decide +kernel
theorem d126_5 : decode (mm_cb 126) 5 = .ok (.ifCond .eq 12, 3) := by decide +kernel
theorem d126_8 : decode (mm_cb 126) 8 = .ok (.iload_n 2, 1) := by decide +kernel
theorem d126_9 : decode (mm_cb 126) 9 = .ok (.ifCond .lt 8, 3) := by decide +kernel
theorem d126_12 : decode (mm_cb 126) 12 = .ok (.iload_n 2, 1) := by decide +kernel
theorem d126_13 : decode (mm_cb 126) 13 = .ok (.iconst 3, 1) := by decide +kernel
theorem d126_14 : decode (mm_cb 126) 14 = .ok (.if_icmp .le 7, 3) := by decide +kernel
theorem d126_17 : decode (mm_cb 126) 17 = .ok (.iconst 1, 1) := by decide +kernel
theorem d126_18 : decode (mm_cb 126) 18 = .ok (.goto 17, 3) := by decide +kernel
theorem d126_21 : decode (mm_cb 126) 21 = .ok (.aload_n 0, 1) := by decide +kernel
theorem d126_22 : decode (mm_cb 126) 22 = .ok (.getfield 144, 3) := by decide +kernel
theorem d126_25 : decode (mm_cb 126) 25 = .ok (.bipush 20, 2) := by decide +kernel
theorem d126_27 : decode (mm_cb 126) 27 = .ok (.if_icmp .ne 7, 3) := by decide +kernel
theorem d126_30 : decode (mm_cb 126) 30 = .ok (.iconst 2, 1) := by decide +kernel
theorem d126_31 : decode (mm_cb 126) 31 = .ok (.goto 4, 3) := by decide +kernel
theorem d126_34 : decode (mm_cb 126) 34 = .ok (.iconst 0, 1) := by decide +kernel
theorem d126_35 : decode (mm_cb 126) 35 = .ok (.putfield 65, 3) := by decide +kernel
theorem d126_38 : decode (mm_cb 126) 38 = .ok (.aload_n 0, 1) := by decide +kernel
theorem d126_39 : decode (mm_cb 126) 39 = .ok (.getfield 65, 3) := by decide +kernel
theorem d126_42 : decode (mm_cb 126) 42 = .ok (.ifCond .le 7, 3) := by decide +kernel
theorem d126_45 : decode (mm_cb 126) 45 = .ok (.iconst 0, 1) := by decide +kernel
theorem d126_46 : decode (mm_cb 126) 46 = .ok (.goto 10, 3) := by decide +kernel
theorem d126_49 : decode (mm_cb 126) 49 = .ok (.aload_n 0, 1) := by decide +kernel
theorem d126_50 : decode (mm_cb 126) 50 = .ok (.iconst 0, 1) := by decide +kernel
theorem d126_51 : decode (mm_cb 126) 51 = .ok (.iload_n 1, 1) := by decide +kernel
theorem d126_52 : decode (mm_cb 126) 52 = .ok (.iload_n 2, 1) := by decide +kernel
theorem d126_53 : decode (mm_cb 126) 53 = .ok (.invokevirtual 153, 3) := by decide +kernel
theorem d126_56 : decode (mm_cb 126) 56 = .ok (.ireturn, 1) := by decide +kernel
theorem d127_0 : decode (mm_cb 127) 0 = .ok (.iload_n 0, 1) := by decide +kernel
theorem d127_1 : decode (mm_cb 127) 1 = .ok (.ifCond .lt 15, 3) := by decide +kernel
theorem d127_4 : decode (mm_cb 127) 4 = .ok (.iload_n 0, 1) := by decide +kernel
theorem d127_5 : decode (mm_cb 127) 5 = .ok (.invokestatic 124, 3) := by decide +kernel
theorem d127_8 : decode (mm_cb 127) 8 = .ok (.iconst 4, 1) := by decide +kernel
theorem d127_9 : decode (mm_cb 127) 9 = .ok (.if_icmp .gt 7, 3) := by decide +kernel
theorem d127_12 : decode (mm_cb 127) 12 = .ok (.iconst 1, 1) := by decide +kernel
theorem d127_13 : decode (mm_cb 127) 13 = .ok (.goto 4, 3) := by decide +kernel
theorem d127_16 : decode (mm_cb 127) 16 = .ok (.iconst 0, 1) := by decide +kernel
theorem d127_17 : decode (mm_cb 127) 17 = .ok (.istore_n 1, 1) := by decide +kernel
theorem d127_18 : decode (mm_cb 127) 18 = .ok (.iload_n 0, 1) := by decide +kernel
theorem d127_19 : decode (mm_cb 127) 19 = .ok (.istore_n 2, 1) := by decide +kernel
theorem d127_20 : decode (mm_cb 127) 20 = .ok (.iload_n 2, 1) := by decide +kernel
theorem d127_21 : decode (mm_cb 127) 21 = .ok (.ifCond .le 31, 3) := by decide +kernel
theorem d127_24 : decode (mm_cb 127) 24 = .ok (.iload_n 1, 1) := by decide +kernel
theorem d127_25 : decode (mm_cb 127) 25 = .ok (.ifCond .eq 16, 3) := by decide +kernel
theorem d127_28 : decode (mm_cb 127) 28 = .ok (.iload_n 2, 1) := by decide +kernel
theorem d127_29 : decode (mm_cb 127) 29 = .ok (.iconst 1, 1) := by decide +kernel
theorem d127_30 : decode (mm_cb 127) 30 = .ok (.isub, 1) := by decide +kernel
theorem d127_31 : decode (mm_cb 127) 31 = .ok (.iconst 4, 1) := by decide +kernel
theorem d127_32 : decode (mm_cb 127) 32 = .ok (.irem, 1) := by decide +kernel
theorem d127_33 : decode (mm_cb 127) 33 = .ok (.iconst 3, 1) := by decide +kernel
theorem d127_34 : decode (mm_cb 127) 34 = .ok (.if_icmp .ge 7, 3) := by decide +kernel
theorem d127_37 : decode (mm_cb 127) 37 = .ok (.iconst 1, 1) := by decide +kernel
theorem d127_38 : decode (mm_cb 127) 38 = .ok (.goto 4, 3) := by decide +kernel
theorem d127_41 : decode (mm_cb 127) 41 = .ok (.iconst 0, 1) := by decide +kernel
theorem d127_42 : decode (mm_cb 127) 42 = .ok (.istore_n 1, 1) := by decide +kernel
theorem d127_43 : decode (mm_cb 127) 43 = .ok (.iload_n 2, 1) := by decide +kernel
theorem d127_44 : decode (mm_cb 127) 44 = .ok (.iconst 1, 1) := by decide +kernel
theorem d127_45 : decode (mm_cb 127) 45 = .ok (.isub, 1) := by decide +kernel
theorem d127_46 : decode (mm_cb 127) 46 = .ok (.iconst 4, 1) := by decide +kernel
theorem d127_47 : decode (mm_cb 127) 47 = .ok (.idiv, 1) := by decide +kernel
theorem d127_48 : decode (mm_cb 127) 48 = .ok (.istore_n 2, 1) := by decide +kernel
theorem d127_49 : decode (mm_cb 127) 49 = .ok (.goto (-29), 3) := by decide +kernel
theorem d127_52 : decode (mm_cb 127) 52 = .ok (.iload_n 1, 1) := by decide +kernel
theorem d127_53 : decode (mm_cb 127) 53 = .ok (.ireturn, 1) := by decide +kernel
theorem d128_0 : decode (mm_cb 128) 0 = .ok (.aload_n 0, 1) := by decide +kernel
theorem d128_1 : decode (mm_cb 128) 1 = .ok (.getfield 44, 3) := by decide +kernel
theorem d128_4 : decode (mm_cb 128) 4 = .ok (.aload_n 0, 1) := by decide +kernel
theorem d128_5 : decode (mm_cb 128) 5 = .ok (.getfield 144, 3) := by decide +kernel
theorem d128_8 : decode (mm_cb 128) 8 = .ok (.iload_n 1, 1) := by decide +kernel
theorem d128_9 : decode (mm_cb 128) 9 = .ok (.iastore, 1) := by decide +kernel
theorem d128_10 : decode (mm_cb 128) 10 = .ok (.aload_n 0, 1) := by decide +kernel
theorem d128_11 : decode (mm_cb 128) 11 = .ok (.getfield 47, 3) := by decide +kernel
theorem d128_14 : decode (mm_cb 128) 14 = .ok (.aload_n 0, 1) := by decide +kernel
theorem d128_15 : decode (mm_cb 128) 15 = .ok (.getfield 144, 3) := by decide +kernel
theorem d128_18 : decode (mm_cb 128) 18 = .ok (.iload_n 2, 1) := by decide +kernel
theorem d128_19 : decode (mm_cb 128) 19 = .ok (.iastore, 1) := by decide +kernel
theorem d128_20 : decode (mm_cb 128) 20 = .ok (.aload_n 0, 1) := by decide +kernel
theorem d128_21 : decode (mm_cb 128) 21 = .ok (.getfield 50, 3) := by decide +kernel
theorem d128_24 : decode (mm_cb 128) 24 = .ok (.aload_n 0, 1) := by decide +kernel
theorem d128_25 : decode (mm_cb 128) 25 = .ok (.getfield 144, 3) := by decide +kernel
theorem d128_28 : decode (mm_cb 128) 28 = .ok (.iload_n 3, 1) := by decide +kernel
theorem d128_29 : decode (mm_cb 128) 29 = .ok (.iastore, 1) := by decide +kernel
theorem d128_30 : decode (mm_cb 128) 30 = .ok (.aload_n 0, 1) := by decide +kernel
theorem d128_31 : decode (mm_cb 128) 31 = .ok (.getfield 56, 3) := by decide +kernel
theorem d128_34 : decode (mm_cb 128) 34 = .ok (.aload_n 0, 1) := by decide +kernel
theorem d128_35 : decode (mm_cb 128) 35 = .ok (.getfield 147, 3) := by decide +kernel
theorem d128_38 : decode (mm_cb 128) 38 = .ok (.aload_n 0, 1) := by decide +kernel
theorem d128_39 : decode (mm_cb 128) 39 = .ok (.getfield 144, 3) := by decide +kernel
theorem d128_42 : decode (mm_cb 128) 42 = .ok (.iastore, 1) := by decide +kernel
theorem d128_43 : decode (mm_cb 128) 43 = .ok (.aload_n 0, 1) := by decide +kernel
theorem d128_44 : decode (mm_cb 128) 44 = .ok (.dup, 1) := by decide +kernel
theorem d128_45 : decode (mm_cb 128) 45 = .ok (.getfield 144, 3) := by decide +kernel
theorem d128_48 : decode (mm_cb 128) 48 = .ok (.iconst 1, 1) := by decide +kernel
theorem d128_49 : decode (mm_cb 128) 49 = .ok (.iadd, 1) := by decide +kernel
theorem d128_50 : decode (mm_cb 128) 50 = .ok (.putfield 144, 3) := by decide +kernel
theorem d128_53 : decode (mm_cb 128) 53 = .ok (.aload_n 0, 1) := by decide +kernel
theorem d128_54 : decode (mm_cb 128) 54 = .ok (.dup, 1) := by decide +kernel
theorem d128_55 : decode (mm_cb 128) 55 = .ok (.getfield 147, 3) := by decide +kernel
theorem d128_58 : decode (mm_cb 128) 58 = .ok (.iconst 1, 1) := by decide +kernel
theorem d128_59 : decode (mm_cb 128) 59 = .ok (.iadd, 1) := by decide +kernel
theorem d128_60 : decode (mm_cb 128) 60 = .ok (.putfield 147, 3) := by decide +kernel
theorem d128_63 : decode (mm_cb 128) 63 = .ok (.aload_n 0, 1) := by decide +kernel
theorem d128_64 : decode (mm_cb 128) 64 = .ok (.getfield 147, 3) := by decide +kernel
theorem d128_67 : decode (mm_cb 128) 67 = .ok (.ireturn, 1) := by decide +kernel
theorem d129_0 : decode (mm_cb 129) 0 = .ok (.aload_n 0, 1) := by decide +kernel
theorem d129_1 : decode (mm_cb 129) 1 = .ok (.iload_n 1, 1) := by decide +kernel
theorem d129_2 : decode (mm_cb 129) 2 = .ok (.invokestatic 150, 3) := by decide +kernel
theorem d129_5 : decode (mm_cb 129) 5 = .ok (.ifCond .eq 10, 3) := by decide +kernel
theorem d129_8 : decode (mm_cb 129) 8 = .ok (.iload_n 2, 1) := by decide +kernel
theorem d129_9 : decode (mm_cb 129) 9 = .ok (.invokestatic 150, 3) := by decide +kernel
theorem d129_12 : decode (mm_cb 129) 12 = .ok (.ifCond .ne 7, 3) := by decide +kernel
theorem d129_15 : decode (mm_cb 129) 15 = .ok (.iconst 1, 1) := by decide +kernel
theorem d129_16 : decode (mm_cb 129) 16 = .ok (.goto 17, 3) := by decide +kernel
theorem d129_19 : decode (mm_cb 129) 19 = .ok (.aload_n 0, 1) := by decide +kernel
theorem d129_20 : decode (mm_cb 129) 20 = .ok (.getfield 144, 3) := by decide +kernel
theorem d129_23 : decode (mm_cb 129) 23 = .ok (.bipush 20, 2) := by decide +kernel
theorem d129_25 : decode (mm_cb 129) 25 = .ok (.if_icmp .ne 7, 3) := by decide +kernel
theorem d129_28 : decode (mm_cb 129) 28 = .ok (.iconst 2, 1) := by decide +kernel
theorem d129_29 : decode (mm_cb 129) 29 = .ok (.goto 4, 3) := by decide +kernel
theorem d129_32 : decode (mm_cb 129) 32 = .ok (.iconst 0, 1) := by decide +kernel
theorem d129_33 : decode (mm_cb 129) 33 = .ok (.putfield 65, 3) := by decide +kernel
theorem d129_36 : decode (mm_cb 129) 36 = .ok (.aload_n 0, 1) := by decide +kernel
theorem d129_37 : decode (mm_cb 129) 37 = .ok (.getfield 65, 3) := by decide +kernel
theorem d129_40 : decode (mm_cb 129) 40 = .ok (.ifCond .le 7, 3) := by decide +kernel
theorem d129_43 : decode (mm_cb 129) 43 = .ok (.iconst 0, 1) := by decide +kernel
theorem d129_44 : decode (mm_cb 129) 44 = .ok (.goto 10, 3) := by decide +kernel
theorem d129_47 : decode (mm_cb 129) 47 = .ok (.aload_n 0, 1) := by decide +kernel
theorem d129_48 : decode (mm_cb 129) 48 = .ok (.iconst 1, 1) := by decide +kernel
theorem d129_49 : decode (mm_cb 129) 49 = .ok (.iload_n 1, 1) := by decide +kernel
theorem d129_50 : decode (mm_cb 129) 50 = .ok (.iload_n 2, 1) := by decide +kernel
theorem d129_51 : decode (mm_cb 129) 51 = .ok (.invokevirtual 153, 3) := by decide +kernel
theorem d129_54 : decode (mm_cb 129) 54 = .ok (.ireturn, 1) := by decide +kernel
theorem d130_0 : decode (mm_cb 130) 0 = .ok (.aload_n 0, 1) := by decide +kernel
theorem d130_1 : decode (mm_cb 130) 1 = .ok (.iload_n 1, 1) := by decide +kernel
theorem d130_2 : decode (mm_cb 130) 2 = .ok (.ifCond .lt 8, 3) := by decide +kernel
theorem d130_5 : decode (mm_cb 130) 5 = .ok (.iload_n 1, 1) := by decide +kernel
theorem d130_6 : decode (mm_cb 130) 6 = .ok (.iconst 2, 1) := by decide +kernel
theorem d130_7 : decode (mm_cb 130) 7 = .ok (.if_icmp .le 7, 3) := by decide +kernel
end
section
/-! ===== decoded ===== -/
theorem d130_10 : decode (mm_cb 130) 10 = .ok (.iconst 1, 1) := by decide +kernel
theorem d130_11 : decode (mm_cb 130) 11 = .ok (.goto 34, 3) := by decide +kernel
theorem d130_14 : decode (mm_cb 130) 14 = .ok (.aload_n 0, 1) := by decide +kernel
theorem d130_15 : decode (mm_cb 130) 15 = .ok (.getfield 147, 3) := by decide +kernel
theorem d130_18 : decode (mm_cb 130) 18 = .ok (.iload_n 1, 1) := by decide +kernel
theorem d130_19 : decode (mm_cb 130) 19 = .ok (.iconst 2, 1) := by decide +kernel
theorem d130_20 : decode (mm_cb 130) 20 = .ok (.if_icmp .ne 7, 3) := by decide +kernel
theorem d130_23 : decode (mm_cb 130) 23 = .ok (.iconst 1, 1) := by decide +kernel
theorem d130_24 : decode (mm_cb 130) 24 = .ok (.goto 4, 3) := by decide +kernel
theorem d130_27 : decode (mm_cb 130) 27 = .ok (.iconst 2, 1) := by decide +kernel
theorem d130_28 : decode (mm_cb 130) 28 = .ok (.if_icmp .lt 12, 3) := by decide +kernel
theorem d130_31 : decode (mm_cb 130) 31 = .ok (.aload_n 0, 1) := by decide +kernel
theorem d130_32 : decode (mm_cb 130) 32 = .ok (.getfield 144, 3) := by decide +kernel
theorem d130_35 : decode (mm_cb 130) 35 = .ok (.bipush 20, 2) := by decide +kernel
theorem d130_37 : decode (mm_cb 130) 37 = .ok (.if_icmp .ne 7, 3) := by decide +kernel
theorem d130_40 : decode (mm_cb 130) 40 = .ok (.iconst 2, 1) := by decide +kernel
theorem d130_41 : decode (mm_cb 130) 41 = .ok (.goto 4, 3) := by decide +kernel
theorem d130_44 : decode (mm_cb 130) 44 = .ok (.iconst 0, 1) := by decide +kernel
theorem d130_45 : decode (mm_cb 130) 45 = .ok (.putfield 65, 3) := by decide +kernel
theorem d130_48 : decode (mm_cb 130) 48 = .ok (.aload_n 0, 1) := by decide +kernel
theorem d130_49 : decode (mm_cb 130) 49 = .ok (.getfield 65, 3) := by decide +kernel
theorem d130_52 : decode (mm_cb 130) 52 = .ok (.ifCond .le 5, 3) := by decide +kernel
theorem d130_55 : decode (mm_cb 130) 55 = .ok (.iconst 0, 1) := by decide +kernel
theorem d130_56 : decode (mm_cb 130) 56 = .ok (.ireturn, 1) := by decide +kernel
theorem d130_57 : decode (mm_cb 130) 57 = .ok (.aload_n 0, 1) := by decide +kernel
theorem d130_58 : decode (mm_cb 130) 58 = .ok (.getfield 56, 3) := by decide +kernel
theorem d130_61 : decode (mm_cb 130) 61 = .ok (.aload_n 0, 1) := by decide +kernel
theorem d130_62 : decode (mm_cb 130) 62 = .ok (.getfield 147, 3) := by decide +kernel
theorem d130_65 : decode (mm_cb 130) 65 = .ok (.iconst 1, 1) := by decide +kernel
theorem d130_66 : decode (mm_cb 130) 66 = .ok (.isub, 1) := by decide +kernel
theorem d130_67 : decode (mm_cb 130) 67 = .ok (.iaload, 1) := by decide +kernel
theorem d130_68 : decode (mm_cb 130) 68 = .ok (.istore_n 2, 1) := by decide +kernel
theorem d130_69 : decode (mm_cb 130) 69 = .ok (.aload_n 0, 1) := by decide +kernel
theorem d130_70 : decode (mm_cb 130) 70 = .ok (.dup, 1) := by decide +kernel
theorem d130_71 : decode (mm_cb 130) 71 = .ok (.getfield 147, 3) := by decide +kernel
theorem d130_74 : decode (mm_cb 130) 74 = .ok (.iconst 1, 1) := by decide +kernel
theorem d130_75 : decode (mm_cb 130) 75 = .ok (.isub, 1) := by decide +kernel
theorem d130_76 : decode (mm_cb 130) 76 = .ok (.putfield 147, 3) := by decide +kernel
theorem d130_79 : decode (mm_cb 130) 79 = .ok (.iload_n 1, 1) := by decide +kernel
theorem d130_80 : decode (mm_cb 130) 80 = .ok (.iconst 2, 1) := by decide +kernel
theorem d130_81 : decode (mm_cb 130) 81 = .ok (.if_icmp .ne 13, 3) := by decide +kernel
theorem d130_84 : decode (mm_cb 130) 84 = .ok (.aload_n 0, 1) := by decide +kernel
theorem d130_85 : decode (mm_cb 130) 85 = .ok (.iconst 2, 1) := by decide +kernel
theorem d130_86 : decode (mm_cb 130) 86 = .ok (.iload_n 1, 1) := by decide +kernel
theorem d130_87 : decode (mm_cb 130) 87 = .ok (.iadd, 1) := by decide +kernel
theorem d130_88 : decode (mm_cb 130) 88 = .ok (.iload_n 2, 1) := by decide +kernel
theorem d130_89 : decode (mm_cb 130) 89 = .ok (.iload_n 2, 1) := by decide +kernel
theorem d130_90 : decode (mm_cb 130) 90 = .ok (.invokevirtual 153, 3) := by decide +kernel
theorem d130_93 : decode (mm_cb 130) 93 = .ok (.ireturn, 1) := by decide +kernel
theorem d130_94 : decode (mm_cb 130) 94 = .ok (.aload_n 0, 1) := by decide +kernel
theorem d130_95 : decode (mm_cb 130) 95 = .ok (.getfield 56, 3) := by decide +kernel
theorem d130_98 : decode (mm_cb 130) 98 = .ok (.aload_n 0, 1) := by decide +kernel
theorem d130_99 : decode (mm_cb 130) 99 = .ok (.getfield 147, 3) := by decide +kernel
theorem d130_102 : decode (mm_cb 130) 102 = .ok (.iconst 1, 1) := by decide +kernel
theorem d130_103 : decode (mm_cb 130) 103 = .ok (.isub, 1) := by decide +kernel
theorem d130_104 : decode (mm_cb 130) 104 = .ok (.iaload, 1) := by decide +kernel
theorem d130_105 : decode (mm_cb 130) 105 = .ok (.istore_n 3, 1) := by decide +kernel
theorem d130_106 : decode (mm_cb 130) 106 = .ok (.aload_n 0, 1) := by decide +kernel
theorem d130_107 : decode (mm_cb 130) 107 = .ok (.dup, 1) := by decide +kernel
theorem d130_108 : decode (mm_cb 130) 108 = .ok (.getfield 147, 3) := by decide +kernel
theorem d130_111 : decode (mm_cb 130) 111 = .ok (.iconst 1, 1) := by decide +kernel
theorem d130_112 : decode (mm_cb 130) 112 = .ok (.isub, 1) := by decide +kernel
theorem d130_113 : decode (mm_cb 130) 113 = .ok (.putfield 147, 3) := by decide +kernel
theorem d130_116 : decode (mm_cb 130) 116 = .ok (.aload_n 0, 1) := by decide +kernel
theorem d130_117 : decode (mm_cb 130) 117 = .ok (.iconst 2, 1) := by decide +kernel
theorem d130_118 : decode (mm_cb 130) 118 = .ok (.iload_n 1, 1) := by decide +kernel
theorem d130_119 : decode (mm_cb 130) 119 = .ok (.iadd, 1) := by decide +kernel
theorem d130_120 : decode (mm_cb 130) 120 = .ok (.iload_n 3, 1) := by decide +kernel
theorem d130_121 : decode (mm_cb 130) 121 = .ok (.iload_n 2, 1) := by decide +kernel
theorem d130_122 : decode (mm_cb 130) 122 = .ok (.invokevirtual 153, 3) := by decide +kernel
theorem d130_125 : decode (mm_cb 130) 125 = .ok (.ireturn, 1) := by decide +kernel
theorem d131_0 : decode (mm_cb 131) 0 = .ok (.aload_n 0, 1) := by decide +kernel
theorem d131_1 : decode (mm_cb 131) 1 = .ok (.iconst 0, 1) := by decide +kernel
theorem d131_2 : decode (mm_cb 131) 2 = .ok (.putfield 65, 3) := by decide +kernel
theorem d131_5 : decode (mm_cb 131) 5 = .ok (.aload_n 0, 1) := by decide +kernel
theorem d131_6 : decode (mm_cb 131) 6 = .ok (.iconst 0, 1) := by decide +kernel
theorem d131_7 : decode (mm_cb 131) 7 = .ok (.putfield 147, 3) := by decide +kernel
theorem d131_10 : decode (mm_cb 131) 10 = .ok (.aload_n 0, 1) := by decide +kernel
theorem d131_11 : decode (mm_cb 131) 11 = .ok (.iconst 0, 1) := by decide +kernel
theorem d131_12 : decode (mm_cb 131) 12 = .ok (.putfield 144, 3) := by decide +kernel
theorem d131_15 : decode (mm_cb 131) 15 = .ok (.return_, 1) := by decide +kernel
theorem d132_0 : decode (mm_cb 132) 0 = .ok (.aload_n 0, 1) := by decide +kernel
theorem d132_1 : decode (mm_cb 132) 1 = .ok (.iload_n 1, 1) := by decide +kernel
theorem d132_2 : decode (mm_cb 132) 2 = .ok (.iload_n 2, 1) := by decide +kernel
theorem d132_3 : decode (mm_cb 132) 3 = .ok (.invokestatic 101, 3) := by decide +kernel
theorem d132_6 : decode (mm_cb 132) 6 = .ok (.putfield 65, 3) := by decide +kernel
theorem d132_9 : decode (mm_cb 132) 9 = .ok (.aload_n 0, 1) := by decide +kernel
theorem d132_10 : decode (mm_cb 132) 10 = .ok (.getfield 65, 3) := by decide +kernel
theorem d132_13 : decode (mm_cb 132) 13 = .ok (.ifCond .le 5, 3) := by decide +kernel
theorem d132_16 : decode (mm_cb 132) 16 = .ok (.iconst 0, 1) := by decide +kernel
theorem d132_17 : decode (mm_cb 132) 17 = .ok (.ireturn, 1) := by decide +kernel
theorem d132_18 : decode (mm_cb 132) 18 = .ok (.aload_n 0, 1) := by decide +kernel
theorem d132_19 : decode (mm_cb 132) 19 = .ok (.invokevirtual 105, 3) := by decide +kernel
theorem d132_22 : decode (mm_cb 132) 22 = .ok (.aload_n 0, 1) := by decide +kernel
theorem d132_23 : decode (mm_cb 132) 23 = .ok (.getfield 19, 3) := by decide +kernel
theorem d132_26 : decode (mm_cb 132) 26 = .ok (.bipush 6, 2) := by decide +kernel
theorem d132_28 : decode (mm_cb 132) 28 = .ok (.iload_n 1, 1) := by decide +kernel
theorem d132_29 : decode (mm_cb 132) 29 = .ok (.imul, 1) := by decide +kernel
theorem d132_30 : decode (mm_cb 132) 30 = .ok (.iload_n 2, 1) := by decide +kernel
theorem d132_31 : decode (mm_cb 132) 31 = .ok (.iadd, 1) := by decide +kernel
theorem d132_32 : decode (mm_cb 132) 32 = .ok (.iconst 1, 1) := by decide +kernel
theorem d132_33 : decode (mm_cb 132) 33 = .ok (.iadd, 1) := by decide +kernel
theorem d132_34 : decode (mm_cb 132) 34 = .ok (.laload, 1) := by decide +kernel
theorem d132_35 : decode (mm_cb 132) 35 = .ok (.lstore_n 3, 1) := by decide +kernel
theorem d132_36 : decode (mm_cb 132) 36 = .ok (.aload_n 0, 1) := by decide +kernel
theorem d132_37 : decode (mm_cb 132) 37 = .ok (.aload_n 0, 1) := by decide +kernel
theorem d132_38 : decode (mm_cb 132) 38 = .ok (.getfield 147, 3) := by decide +kernel
theorem d132_41 : decode (mm_cb 132) 41 = .ok (.ifCond .eq 11, 3) := by decide +kernel
theorem d132_44 : decode (mm_cb 132) 44 = .ok (.lload_n 3, 1) := by decide +kernel
theorem d132_45 : decode (mm_cb 132) 45 = .ok (.ldc2_w 168, 3) := by decide +kernel
theorem d132_48 : decode (mm_cb 132) 48 = .ok (.lcmp, 1) := by decide +kernel
theorem d132_49 : decode (mm_cb 132) 49 = .ok (.ifCond .le 7, 3) := by decide +kernel
theorem d132_52 : decode (mm_cb 132) 52 = .ok (.iconst 3, 1) := by decide +kernel
theorem d132_53 : decode (mm_cb 132) 53 = .ok (.goto 4, 3) := by decide +kernel
theorem d132_56 : decode (mm_cb 132) 56 = .ok (.iconst 0, 1) := by decide +kernel
theorem d132_57 : decode (mm_cb 132) 57 = .ok (.putfield 65, 3) := by decide +kernel
theorem d132_60 : decode (mm_cb 132) 60 = .ok (.aload_n 0, 1) := by decide +kernel
theorem d132_61 : decode (mm_cb 132) 61 = .ok (.getfield 65, 3) := by decide +kernel
theorem d132_64 : decode (mm_cb 132) 64 = .ok (.ifCond .le 5, 3) := by decide +kernel
theorem d132_67 : decode (mm_cb 132) 67 = .ok (.iconst 0, 1) := by decide +kernel
theorem d132_68 : decode (mm_cb 132) 68 = .ok (.ireturn, 1) := by decide +kernel
theorem d132_69 : decode (mm_cb 132) 69 = .ok (.aload_n 0, 1) := by decide +kernel
theorem d132_70 : decode (mm_cb 132) 70 = .ok (.iconst 0, 1) := by decide +kernel
theorem d132_71 : decode (mm_cb 132) 71 = .ok (.putfield 170, 3) := by decide +kernel
theorem d132_74 : decode (mm_cb 132) 74 = .ok (.aload_n 0, 1) := by decide +kernel
theorem d132_75 : decode (mm_cb 132) 75 = .ok (.lconst 0, 1) := by decide +kernel
theorem d132_76 : decode (mm_cb 132) 76 = .ok (.putfield 173, 3) := by decide +kernel
theorem d132_79 : decode (mm_cb 132) 79 = .ok (.iconst 0, 1) := by decide +kernel
theorem d132_80 : decode (mm_cb 132) 80 = .ok (.istore 5, 2) := by decide +kernel
theorem d132_82 : decode (mm_cb 132) 82 = .ok (.iload 5, 2) := by decide +kernel
theorem d132_84 : decode (mm_cb 132) 84 = .ok (.i2l, 1) := by decide +kernel
theorem d132_85 : decode (mm_cb 132) 85 = .ok (.lload_n 3, 1) := by decide +kernel
theorem d132_86 : decode (mm_cb 132) 86 = .ok (.lcmp, 1) := by decide +kernel
theorem d132_87 : decode (mm_cb 132) 87 = .ok (.ifCond .ge 52, 3) := by decide +kernel
theorem d132_90 : decode (mm_cb 132) 90 = .ok (.aload_n 0, 1) := by decide +kernel
theorem d132_91 : decode (mm_cb 132) 91 = .ok (.iload_n 1, 1) := by decide +kernel
theorem d132_92 : decode (mm_cb 132) 92 = .ok (.iload_n 2, 1) := by decide +kernel
theorem d132_93 : decode (mm_cb 132) 93 = .ok (.iload 5, 2) := by decide +kernel
theorem d132_95 : decode (mm_cb 132) 95 = .ok (.i2l, 1) := by decide +kernel
theorem d132_96 : decode (mm_cb 132) 96 = .ok (.invokevirtual 135, 3) := by decide +kernel
theorem d132_99 : decode (mm_cb 132) 99 = .ok (.aload_n 0, 1) := by decide +kernel
theorem d132_100 : decode (mm_cb 132) 100 = .ok (.dup, 1) := by decide +kernel
theorem d132_101 : decode (mm_cb 132) 101 = .ok (.getfield 170, 3) := by decide +kernel
theorem d132_104 : decode (mm_cb 132) 104 = .ok (.iconst 1, 1) := by decide +kernel
theorem d132_105 : decode (mm_cb 132) 105 = .ok (.iadd, 1) := by decide +kernel
theorem d132_106 : decode (mm_cb 132) 106 = .ok (.putfield 170, 3) := by decide +kernel
theorem d132_109 : decode (mm_cb 132) 109 = .ok (.aload_n 0, 1) := by decide +kernel
theorem d132_110 : decode (mm_cb 132) 110 = .ok (.invokevirtual 177, 3) := by decide +kernel
theorem d132_113 : decode (mm_cb 132) 113 = .ok (.ifCond .ne 10, 3) := by decide +kernel
theorem d132_116 : decode (mm_cb 132) 116 = .ok (.aload_n 0, 1) := by decide +kernel
theorem d132_117 : decode (mm_cb 132) 117 = .ok (.invokevirtual 138, 3) := by decide +kernel
theorem d132_120 : decode (mm_cb 132) 120 = .ok (.iload 5, 2) := by decide +kernel
theorem d132_122 : decode (mm_cb 132) 122 = .ok (.ireturn, 1) := by decide +kernel
theorem d132_123 : decode (mm_cb 132) 123 = .ok (.aload_n 0, 1) := by decide +kernel
theorem d132_124 : decode (mm_cb 132) 124 = .ok (.dup, 1) := by decide +kernel
theorem d132_125 : decode (mm_cb 132) 125 = .ok (.getfield 173, 3) := by decide +kernel
theorem d132_128 : decode (mm_cb 132) 128 = .ok (.lconst 1, 1) := by decide +kernel
theorem d132_129 : decode (mm_cb 132) 129 = .ok (.ladd, 1) := by decide +kernel
theorem d132_130 : decode (mm_cb 132) 130 = .ok (.putfield 173, 3) := by decide +kernel
theorem d132_133 : decode (mm_cb 132) 133 = .ok (.iinc 5 1, 3) := by decide +kernel
theorem d132_136 : decode (mm_cb 132) 136 = .ok (.goto (-54), 3) := by decide +kernel
theorem d132_139 : decode (mm_cb 132) 139 = .ok (.iconst (-1), 1) := by decide +kernel
theorem d132_140 : decode (mm_cb 132) 140 = .ok (.ireturn, 1) := by decide +kernel
theorem d133_0 : decode (mm_cb 133) 0 = .ok (.aload_n 0, 1) := by decide +kernel
theorem d133_1 : decode (mm_cb 133) 1 = .ok (.getfield 56, 3) := by decide +kernel
theorem d133_4 : decode (mm_cb 133) 4 = .ok (.aload_n 0, 1) := by decide +kernel
theorem d133_5 : decode (mm_cb 133) 5 = .ok (.getfield 147, 3) := by decide +kernel
theorem d133_8 : decode (mm_cb 133) 8 = .ok (.iconst 1, 1) := by decide +kernel
theorem d133_9 : decode (mm_cb 133) 9 = .ok (.isub, 1) := by decide +kernel
theorem d133_10 : decode (mm_cb 133) 10 = .ok (.iaload, 1) := by decide +kernel
theorem d133_11 : decode (mm_cb 133) 11 = .ok (.istore_n 1, 1) := by decide +kernel
theorem d133_12 : decode (mm_cb 133) 12 = .ok (.iconst 0, 1) := by decide +kernel
theorem d133_13 : decode (mm_cb 133) 13 = .ok (.istore_n 2, 1) := by decide +kernel
theorem d133_14 : decode (mm_cb 133) 14 = .ok (.iload_n 2, 1) := by decide +kernel
theorem d133_15 : decode (mm_cb 133) 15 = .ok (.iload_n 1, 1) := by decide +kernel
theorem d133_16 : decode (mm_cb 133) 16 = .ok (.if_icmp .gt 208, 3) := by decide +kernel
theorem d133_19 : decode (mm_cb 133) 19 = .ok (.aload_n 0, 1) := by decide +kernel
theorem d133_20 : decode (mm_cb 133) 20 = .ok (.getfield 44, 3) := by decide +kernel
theorem d133_23 : decode (mm_cb 133) 23 = .ok (.iload_n 2, 1) := by decide +kernel
theorem d133_24 : decode (mm_cb 133) 24 = .ok (.iaload, 1) := by decide +kernel
theorem d133_25 : decode (mm_cb 133) 25 = .ok (.iconst 2, 1) := by decide +kernel
theorem d133_26 : decode (mm_cb 133) 26 = .ok (.if_icmp .ge 7, 3) := by decide +kernel
theorem d133_29 : decode (mm_cb 133) 29 = .ok (.iconst 0, 1) := by decide +kernel
theorem d133_30 : decode (mm_cb 133) 30 = .ok (.goto 14, 3) := by decide +kernel
theorem d133_33 : decode (mm_cb 133) 33 = .ok (.aload_n 0, 1) := by decide +kernel
theorem d133_34 : decode (mm_cb 133) 34 = .ok (.getfield 53, 3) := by decide +kernel
theorem d133_37 : decode (mm_cb 133) 37 = .ok (.aload_n 0, 1) := by decide +kernel
theorem d133_38 : decode (mm_cb 133) 38 = .ok (.getfield 47, 3) := by decide +kernel
theorem d133_41 : decode (mm_cb 133) 41 = .ok (.iload_n 2, 1) := by decide +kernel
theorem d133_42 : decode (mm_cb 133) 42 = .ok (.iaload, 1) := by decide +kernel
theorem d133_43 : decode (mm_cb 133) 43 = .ok (.iaload, 1) := by decide +kernel
theorem d133_44 : decode (mm_cb 133) 44 = .ok (.istore_n 3, 1) := by decide +kernel
theorem d133_45 : decode (mm_cb 133) 45 = .ok (.aload_n 0, 1) := by decide +kernel
theorem d133_46 : decode (mm_cb 133) 46 = .ok (.getfield 44, 3) := by decide +kernel
theorem d133_49 : decode (mm_cb 133) 49 = .ok (.iload_n 2, 1) := by decide +kernel
theorem d133_50 : decode (mm_cb 133) 50 = .ok (.iaload, 1) := by decide +kernel
theorem d133_51 : decode (mm_cb 133) 51 = .ok (.iconst 2, 1) := by decide +kernel
theorem d133_52 : decode (mm_cb 133) 52 = .ok (.if_icmp .ge 7, 3) := by decide +kernel
theorem d133_55 : decode (mm_cb 133) 55 = .ok (.iconst 0, 1) := by decide +kernel
theorem d133_56 : decode (mm_cb 133) 56 = .ok (.goto 14, 3) := by decide +kernel
theorem d133_59 : decode (mm_cb 133) 59 = .ok (.aload_n 0, 1) := by decide +kernel
theorem d133_60 : decode (mm_cb 133) 60 = .ok (.getfield 53, 3) := by decide +kernel
theorem d133_63 : decode (mm_cb 133) 63 = .ok (.aload_n 0, 1) := by decide +kernel
theorem d133_64 : decode (mm_cb 133) 64 = .ok (.getfield 50, 3) := by decide +kernel
theorem d133_67 : decode (mm_cb 133) 67 = .ok (.iload_n 2, 1) := by decide +kernel
theorem d133_68 : decode (mm_cb 133) 68 = .ok (.iaload, 1) := by decide +kernel
theorem d133_69 : decode (mm_cb 133) 69 = .ok (.iaload, 1) := by decide +kernel
theorem d133_70 : decode (mm_cb 133) 70 = .ok (.istore 4, 2) := by decide +kernel
theorem d133_72 : decode (mm_cb 133) 72 = .ok (.aload_n 0, 1) := by decide +kernel
theorem d133_73 : decode (mm_cb 133) 73 = .ok (.getfield 44, 3) := by decide +kernel
theorem d133_76 : decode (mm_cb 133) 76 = .ok (.iload_n 2, 1) := by decide +kernel
theorem d133_77 : decode (mm_cb 133) 77 = .ok (.iaload, 1) := by decide +kernel
theorem d133_78 : decode (mm_cb 133) 78 = .ok (.ifCond .ne 28, 3) := by decide +kernel
theorem d133_81 : decode (mm_cb 133) 81 = .ok (.aload_n 0, 1) := by decide +kernel
theorem d133_82 : decode (mm_cb 133) 82 = .ok (.getfield 53, 3) := by decide +kernel
theorem d133_85 : decode (mm_cb 133) 85 = .ok (.iload_n 2, 1) := by decide +kernel
theorem d133_86 : decode (mm_cb 133) 86 = .ok (.aload_n 0, 1) := by decide +kernel
theorem d133_87 : decode (mm_cb 133) 87 = .ok (.aload_n 0, 1) := by decide +kernel
theorem d133_88 : decode (mm_cb 133) 88 = .ok (.getfield 47, 3) := by decide +kernel
theorem d133_91 : decode (mm_cb 133) 91 = .ok (.iload_n 2, 1) := by decide +kernel
theorem d133_92 : decode (mm_cb 133) 92 = .ok (.iaload, 1) := by decide +kernel
theorem d133_93 : decode (mm_cb 133) 93 = .ok (.aload_n 0, 1) := by decide +kernel
theorem d133_94 : decode (mm_cb 133) 94 = .ok (.getfield 50, 3) := by decide +kernel
theorem d133_97 : decode (mm_cb 133) 97 = .ok (.iload_n 2, 1) := by decide +kernel
theorem d133_98 : decode (mm_cb 133) 98 = .ok (.iaload, 1) := by decide +kernel
theorem d133_99 : decode (mm_cb 133) 99 = .ok (.invokevirtual 162, 3) := by decide +kernel
theorem d133_102 : decode (mm_cb 133) 102 = .ok (.iastore, 1) := by decide +kernel
theorem d133_103 : decode (mm_cb 133) 103 = .ok (.goto 115, 3) := by decide +kernel
theorem d133_106 : decode (mm_cb 133) 106 = .ok (.aload_n 0, 1) := by decide +kernel
theorem d133_107 : decode (mm_cb 133) 107 = .ok (.getfield 44, 3) := by decide +kernel
theorem d133_110 : decode (mm_cb 133) 110 = .ok (.iload_n 2, 1) := by decide +kernel
theorem d133_111 : decode (mm_cb 133) 111 = .ok (.iaload, 1) := by decide +kernel
theorem d133_112 : decode (mm_cb 133) 112 = .ok (.iconst 1, 1) := by decide +kernel
theorem d133_113 : decode (mm_cb 133) 113 = .ok (.if_icmp .ne 28, 3) := by decide +kernel
theorem d133_116 : decode (mm_cb 133) 116 = .ok (.aload_n 0, 1) := by decide +kernel
theorem d133_117 : decode (mm_cb 133) 117 = .ok (.getfield 53, 3) := by decide +kernel
theorem d133_120 : decode (mm_cb 133) 120 = .ok (.iload_n 2, 1) := by decide +kernel
theorem d133_121 : decode (mm_cb 133) 121 = .ok (.aload_n 0, 1) := by decide +kernel
theorem d133_122 : decode (mm_cb 133) 122 = .ok (.aload_n 0, 1) := by decide +kernel
theorem d133_123 : decode (mm_cb 133) 123 = .ok (.getfield 47, 3) := by decide +kernel
theorem d133_126 : decode (mm_cb 133) 126 = .ok (.iload_n 2, 1) := by decide +kernel
theorem d133_127 : decode (mm_cb 133) 127 = .ok (.iaload, 1) := by decide +kernel
theorem d133_128 : decode (mm_cb 133) 128 = .ok (.aload_n 0, 1) := by decide +kernel
theorem d133_129 : decode (mm_cb 133) 129 = .ok (.getfield 50, 3) := by decide +kernel
theorem d133_132 : decode (mm_cb 133) 132 = .ok (.iload_n 2, 1) := by decide +kernel
theorem d133_133 : decode (mm_cb 133) 133 = .ok (.iaload, 1) := by decide +kernel
theorem d133_134 : decode (mm_cb 133) 134 = .ok (.invokevirtual 165, 3) := by decide +kernel
theorem d133_137 : decode (mm_cb 133) 137 = .ok (.iastore, 1) := by decide +kernel
theorem d133_138 : decode (mm_cb 133) 138 = .ok (.goto 80, 3) := by decide +kernel
theorem d133_141 : decode (mm_cb 133) 141 = .ok (.aload_n 0, 1) := by decide +kernel
theorem d133_142 : decode (mm_cb 133) 142 = .ok (.getfield 44, 3) := by decide +kernel
theorem d133_145 : decode (mm_cb 133) 145 = .ok (.iload_n 2, 1) := by decide +kernel
theorem d133_146 : decode (mm_cb 133) 146 = .ok (.iaload, 1) := by decide +kernel
theorem d133_147 : decode (mm_cb 133) 147 = .ok (.iconst 2, 1) := by decide +kernel
theorem d133_148 : decode (mm_cb 133) 148 = .ok (.if_icmp .ne 23, 3) := by decide +kernel
theorem d133_151 : decode (mm_cb 133) 151 = .ok (.aload_n 0, 1) := by decide +kernel
theorem d133_152 : decode (mm_cb 133) 152 = .ok (.getfield 53, 3) := by decide +kernel
theorem d133_155 : decode (mm_cb 133) 155 = .ok (.iload_n 2, 1) := by decide +kernel
theorem d133_156 : decode (mm_cb 133) 156 = .ok (.iload_n 3, 1) := by decide +kernel
theorem d133_157 : decode (mm_cb 133) 157 = .ok (.iconst 1, 1) := by decide +kernel
theorem d133_158 : decode (mm_cb 133) 158 = .ok (.if_icmp .ne 8, 3) := by decide +kernel
theorem d133_161 : decode (mm_cb 133) 161 = .ok (.iload 4, 2) := by decide +kernel
theorem d133_163 : decode (mm_cb 133) 163 = .ok (.goto 4, 3) := by decide +kernel
theorem d133_166 : decode (mm_cb 133) 166 = .ok (.iload_n 3, 1) := by decide +kernel
theorem d133_167 : decode (mm_cb 133) 167 = .ok (.iastore, 1) := by decide +kernel
theorem d133_168 : decode (mm_cb 133) 168 = .ok (.goto 50, 3) := by decide +kernel
theorem d133_171 : decode (mm_cb 133) 171 = .ok (.aload_n 0, 1) := by decide +kernel
theorem d133_172 : decode (mm_cb 133) 172 = .ok (.getfield 44, 3) := by decide +kernel
theorem d133_175 : decode (mm_cb 133) 175 = .ok (.iload_n 2, 1) := by decide +kernel
theorem d133_176 : decode (mm_cb 133) 176 = .ok (.iaload, 1) := by decide +kernel
theorem d133_177 : decode (mm_cb 133) 177 = .ok (.iconst 3, 1) := by decide +kernel
theorem d133_178 : decode (mm_cb 133) 178 = .ok (.if_icmp .ne 22, 3) := by decide +kernel
theorem d133_181 : decode (mm_cb 133) 181 = .ok (.aload_n 0, 1) := by decide +kernel
theorem d133_182 : decode (mm_cb 133) 182 = .ok (.getfield 53, 3) := by decide +kernel
theorem d133_185 : decode (mm_cb 133) 185 = .ok (.iload_n 2, 1) := by decide +kernel
theorem d133_186 : decode (mm_cb 133) 186 = .ok (.iload_n 3, 1) := by decide +kernel
theorem d133_187 : decode (mm_cb 133) 187 = .ok (.ifCond .ne 8, 3) := by decide +kernel
theorem d133_190 : decode (mm_cb 133) 190 = .ok (.iload 4, 2) := by decide +kernel
theorem d133_192 : decode (mm_cb 133) 192 = .ok (.goto 4, 3) := by decide +kernel
theorem d133_195 : decode (mm_cb 133) 195 = .ok (.iload_n 3, 1) := by decide +kernel
theorem d133_196 : decode (mm_cb 133) 196 = .ok (.iastore, 1) := by decide +kernel
theorem d133_197 : decode (mm_cb 133) 197 = .ok (.goto 21, 3) := by decide +kernel
theorem d133_200 : decode (mm_cb 133) 200 = .ok (.aload_n 0, 1) := by decide +kernel
theorem d133_201 : decode (mm_cb 133) 201 = .ok (.getfield 53, 3) := by decide +kernel
theorem d133_204 : decode (mm_cb 133) 204 = .ok (.iload_n 2, 1) := by decide +kernel
theorem d133_205 : decode (mm_cb 133) 205 = .ok (.iload_n 3, 1) := by decide +kernel
theorem d133_206 : decode (mm_cb 133) 206 = .ok (.iconst 2, 1) := by decide +kernel
theorem d133_207 : decode (mm_cb 133) 207 = .ok (.if_icmp .ge 9, 3) := by decide +kernel
theorem d133_210 : decode (mm_cb 133) 210 = .ok (.iconst 1, 1) := by decide +kernel
theorem d133_211 : decode (mm_cb 133) 211 = .ok (.iload_n 3, 1) := by decide +kernel
theorem d133_212 : decode (mm_cb 133) 212 = .ok (.isub, 1) := by decide +kernel
theorem d133_213 : decode (mm_cb 133) 213 = .ok (.goto 4, 3) := by decide +kernel
theorem d133_216 : decode (mm_cb 133) 216 = .ok (.iload_n 3, 1) := by decide +kernel
theorem d133_217 : decode (mm_cb 133) 217 = .ok (.iastore, 1) := by decide +kernel
theorem d133_218 : decode (mm_cb 133) 218 = .ok (.iinc 2 1, 3) := by decide +kernel
theorem d133_221 : decode (mm_cb 133) 221 = .ok (.goto (-207), 3) := by decide +kernel
theorem d133_224 : decode (mm_cb 133) 224 = .ok (.aload_n 0, 1) := by decide +kernel
theorem d133_225 : decode (mm_cb 133) 225 = .ok (.getfield 53, 3) := by decide +kernel
theorem d133_228 : decode (mm_cb 133) 228 = .ok (.iload_n 1, 1) := by decide +kernel
theorem d133_229 : decode (mm_cb 133) 229 = .ok (.iaload, 1) := by decide +kernel
theorem d133_230 : decode (mm_cb 133) 230 = .ok (.ireturn, 1) := by decide +kernel
theorem d134_0 : decode (mm_cb 134) 0 = .ok (.aload_n 0, 1) := by decide +kernel
theorem d134_1 : decode (mm_cb 134) 1 = .ok (.iload_n 1, 1) := by decide +kernel
theorem d134_2 : decode (mm_cb 134) 2 = .ok (.invokevirtual 159, 3) := by decide +kernel
theorem d134_5 : decode (mm_cb 134) 5 = .ok (.istore_n 3, 1) := by decide +kernel
theorem d134_6 : decode (mm_cb 134) 6 = .ok (.iload_n 3, 1) := by decide +kernel
theorem d134_7 : decode (mm_cb 134) 7 = .ok (.iconst 1, 1) := by decide +kernel
theorem d134_8 : decode (mm_cb 134) 8 = .ok (.if_icmp .eq 5, 3) := by decide +kernel
theorem d134_11 : decode (mm_cb 134) 11 = .ok (.iload_n 3, 1) := by decide +kernel
theorem d134_12 : decode (mm_cb 134) 12 = .ok (.ireturn, 1) := by decide +kernel
theorem d134_13 : decode (mm_cb 134) 13 = .ok (.aload_n 0, 1) := by decide +kernel
theorem d134_14 : decode (mm_cb 134) 14 = .ok (.getfield 26, 3) := by decide +kernel
theorem d134_17 : decode (mm_cb 134) 17 = .ok (.iload_n 1, 1) := by decide +kernel
theorem d134_18 : decode (mm_cb 134) 18 = .ok (.iaload, 1) := by decide +kernel
theorem d134_19 : decode (mm_cb 134) 19 = .ok (.bipush (-2), 2) := by decide +kernel
theorem d134_21 : decode (mm_cb 134) 21 = .ok (.if_icmp .ne 9, 3) := by decide +kernel
theorem d134_24 : decode (mm_cb 134) 24 = .ok (.iconst 2, 1) := by decide +kernel
theorem d134_25 : decode (mm_cb 134) 25 = .ok (.iload_n 1, 1) := by decide +kernel
theorem d134_26 : decode (mm_cb 134) 26 = .ok (.iadd, 1) := by decide +kernel
theorem d134_27 : decode (mm_cb 134) 27 = .ok (.goto 18, 3) := by decide +kernel
theorem d134_30 : decode (mm_cb 134) 30 = .ok (.aload_n 0, 1) := by decide +kernel
theorem d134_31 : decode (mm_cb 134) 31 = .ok (.getfield 26, 3) := by decide +kernel
theorem d134_34 : decode (mm_cb 134) 34 = .ok (.iload_n 1, 1) := by decide +kernel
theorem d134_35 : decode (mm_cb 134) 35 = .ok (.iaload, 1) := by decide +kernel
theorem d134_36 : decode (mm_cb 134) 36 = .ok (.iload_n 2, 1) := by decide +kernel
theorem d134_37 : decode (mm_cb 134) 37 = .ok (.if_icmp .ne 7, 3) := by decide +kernel
theorem d134_40 : decode (mm_cb 134) 40 = .ok (.iconst 1, 1) := by decide +kernel
theorem d134_41 : decode (mm_cb 134) 41 = .ok (.goto 4, 3) := by decide +kernel
theorem d134_44 : decode (mm_cb 134) 44 = .ok (.iconst 0, 1) := by decide +kernel
theorem d134_45 : decode (mm_cb 134) 45 = .ok (.ireturn, 1) := by decide +kernel
theorem d135_0 : decode (mm_cb 135) 0 = .ok (.iconst 0, 1) := by decide +kernel
theorem d135_1 : decode (mm_cb 135) 1 = .ok (.istore_n 2, 1) := by decide +kernel
theorem d135_2 : decode (mm_cb 135) 2 = .ok (.iload_n 1, 1) := by decide +kernel
theorem d135_3 : decode (mm_cb 135) 3 = .ok (.invokestatic 124, 3) := by decide +kernel
theorem d135_6 : decode (mm_cb 135) 6 = .ok (.istore_n 3, 1) := by decide +kernel
theorem d135_7 : decode (mm_cb 135) 7 = .ok (.iconst 0, 1) := by decide +kernel
theorem d135_8 : decode (mm_cb 135) 8 = .ok (.istore 4, 2) := by decide +kernel
theorem d135_10 : decode (mm_cb 135) 10 = .ok (.iload 4, 2) := by decide +kernel
theorem d135_12 : decode (mm_cb 135) 12 = .ok (.iload_n 3, 1) := by decide +kernel
theorem d135_13 : decode (mm_cb 135) 13 = .ok (.if_icmp .ge 68, 3) := by decide +kernel
theorem d135_16 : decode (mm_cb 135) 16 = .ok (.aload_n 0, 1) := by decide +kernel
theorem d135_17 : decode (mm_cb 135) 17 = .ok (.getfield 26, 3) := by decide +kernel
theorem d135_20 : decode (mm_cb 135) 20 = .ok (.iload_n 2, 1) := by decide +kernel
theorem d135_21 : decode (mm_cb 135) 21 = .ok (.iaload, 1) := by decide +kernel
theorem d135_22 : decode (mm_cb 135) 22 = .ok (.bipush (-2), 2) := by decide +kernel
theorem d135_24 : decode (mm_cb 135) 24 = .ok (.if_icmp .ne 7, 3) := by decide +kernel
theorem d135_27 : decode (mm_cb 135) 27 = .ok (.iconst 2, 1) := by decide +kernel
theorem d135_28 : decode (mm_cb 135) 28 = .ok (.iload_n 2, 1) := by decide +kernel
theorem d135_29 : decode (mm_cb 135) 29 = .ok (.iadd, 1) := by decide +kernel
theorem d135_30 : decode (mm_cb 135) 30 = .ok (.ireturn, 1) := by decide +kernel
theorem d135_31 : decode (mm_cb 135) 31 = .ok (.iload_n 1, 1) := by decide +kernel
theorem d135_32 : decode (mm_cb 135) 32 = .ok (.iload 4, 2) := by decide +kernel
theorem d135_34 : decode (mm_cb 135) 34 = .ok (.invokestatic 156, 3) := by decide +kernel
theorem d135_37 : decode (mm_cb 135) 37 = .ok (.istore 5, 2) := by decide +kernel
theorem d135_39 : decode (mm_cb 135) 39 = .ok (.iload 5, 2) := by decide +kernel
theorem d135_41 : decode (mm_cb 135) 41 = .ok (.aload_n 0, 1) := by decide +kernel
theorem d135_42 : decode (mm_cb 135) 42 = .ok (.getfield 13, 3) := by decide +kernel
theorem d135_45 : decode (mm_cb 135) 45 = .ok (.iconst 4, 1) := by decide +kernel
theorem d135_46 : decode (mm_cb 135) 46 = .ok (.aload_n 0, 1) := by decide +kernel
theorem d135_47 : decode (mm_cb 135) 47 = .ok (.getfield 29, 3) := by decide +kernel
theorem d135_50 : decode (mm_cb 135) 50 = .ok (.iload_n 2, 1) := by decide +kernel
theorem d135_51 : decode (mm_cb 135) 51 = .ok (.iaload, 1) := by decide +kernel
theorem d135_52 : decode (mm_cb 135) 52 = .ok (.imul, 1) := by decide +kernel
theorem d135_53 : decode (mm_cb 135) 53 = .ok (.aload_n 0, 1) := by decide +kernel
theorem d135_54 : decode (mm_cb 135) 54 = .ok (.getfield 26, 3) := by decide +kernel
theorem d135_57 : decode (mm_cb 135) 57 = .ok (.iload_n 2, 1) := by decide +kernel
theorem d135_58 : decode (mm_cb 135) 58 = .ok (.iaload, 1) := by decide +kernel
theorem d135_59 : decode (mm_cb 135) 59 = .ok (.iadd, 1) := by decide +kernel
theorem d135_60 : decode (mm_cb 135) 60 = .ok (.iaload, 1) := by decide +kernel
theorem d135_61 : decode (mm_cb 135) 61 = .ok (.if_icmp .lt 5, 3) := by decide +kernel
theorem d135_64 : decode (mm_cb 135) 64 = .ok (.iconst 0, 1) := by decide +kernel
theorem d135_65 : decode (mm_cb 135) 65 = .ok (.ireturn, 1) := by decide +kernel
theorem d135_66 : decode (mm_cb 135) 66 = .ok (.iconst 4, 1) := by decide +kernel
theorem d135_67 : decode (mm_cb 135) 67 = .ok (.iload_n 2, 1) := by decide +kernel
theorem d135_68 : decode (mm_cb 135) 68 = .ok (.imul, 1) := by decide +kernel
theorem d135_69 : decode (mm_cb 135) 69 = .ok (.iload 5, 2) := by decide +kernel
theorem d135_71 : decode (mm_cb 135) 71 = .ok (.iadd, 1) := by decide +kernel
theorem d135_72 : decode (mm_cb 135) 72 = .ok (.iconst 1, 1) := by decide +kernel
theorem d135_73 : decode (mm_cb 135) 73 = .ok (.iadd, 1) := by decide +kernel
theorem d135_74 : decode (mm_cb 135) 74 = .ok (.istore_n 2, 1) := by decide +kernel
theorem d135_75 : decode (mm_cb 135) 75 = .ok (.iinc 4 1, 3) := by decide +kernel
theorem d135_78 : decode (mm_cb 135) 78 = .ok (.goto (-68), 3) := by decide +kernel
theorem d135_81 : decode (mm_cb 135) 81 = .ok (.iconst 1, 1) := by decide +kernel
theorem d135_82 : decode (mm_cb 135) 82 = .ok (.ireturn, 1) := by decide +kernel
theorem d136_0 : decode (mm_cb 136) 0 = .ok (.iload_n 0, 1) := by decide +kernel
theorem d136_1 : decode (mm_cb 136) 1 = .ok (.istore_n 2, 1) := by decide +kernel
theorem d136_2 : decode (mm_cb 136) 2 = .ok (.iload_n 0, 1) := by decide +kernel
theorem d136_3 : decode (mm_cb 136) 3 = .ok (.invokestatic 124, 3) := by decide +kernel
theorem d136_6 : decode (mm_cb 136) 6 = .ok (.istore_n 3, 1) := by decide +kernel
theorem d136_7 : decode (mm_cb 136) 7 = .ok (.iload_n 3, 1) := by decide +kernel
theorem d136_8 : decode (mm_cb 136) 8 = .ok (.iload_n 1, 1) := by decide +kernel
theorem d136_9 : decode (mm_cb 136) 9 = .ok (.iconst 1, 1) := by decide +kernel
theorem d136_10 : decode (mm_cb 136) 10 = .ok (.iadd, 1) := by decide +kernel
theorem d136_11 : decode (mm_cb 136) 11 = .ok (.if_icmp .le 15, 3) := by decide +kernel
theorem d136_14 : decode (mm_cb 136) 14 = .ok (.iload_n 2, 1) := by decide +kernel
theorem d136_15 : decode (mm_cb 136) 15 = .ok (.iconst 1, 1) := by decide +kernel
theorem d136_16 : decode (mm_cb 136) 16 = .ok (.isub, 1) := by decide +kernel
theorem d136_17 : decode (mm_cb 136) 17 = .ok (.iconst 4, 1) := by decide +kernel
theorem d136_18 : decode (mm_cb 136) 18 = .ok (.idiv, 1) := by decide +kernel
theorem d136_19 : decode (mm_cb 136) 19 = .ok (.istore_n 2, 1) := by decide +kernel
theorem d136_20 : decode (mm_cb 136) 20 = .ok (.iinc 3 (-1), 3) := by decide +kernel
theorem d136_23 : decode (mm_cb 136) 23 = .ok (.goto (-16), 3) := by decide +kernel
theorem d136_26 : decode (mm_cb 136) 26 = .ok (.iload_n 2, 1) := by decide +kernel
theorem d136_27 : decode (mm_cb 136) 27 = .ok (.iconst 1, 1) := by decide +kernel
theorem d136_28 : decode (mm_cb 136) 28 = .ok (.isub, 1) := by decide +kernel
theorem d136_29 : decode (mm_cb 136) 29 = .ok (.iconst 4, 1) := by decide +kernel
theorem d136_30 : decode (mm_cb 136) 30 = .ok (.irem, 1) := by decide +kernel
theorem d136_31 : decode (mm_cb 136) 31 = .ok (.ireturn, 1) := by decide +kernel
theorem d137_0 : decode (mm_cb 137) 0 = .ok (.aload_n 0, 1) := by decide +kernel
theorem d137_1 : decode (mm_cb 137) 1 = .ok (.iload_n 1, 1) := by decide +kernel
theorem d137_2 : decode (mm_cb 137) 2 = .ok (.invokevirtual 159, 3) := by decide +kernel
theorem d137_5 : decode (mm_cb 137) 5 = .ok (.istore_n 3, 1) := by decide +kernel
theorem d137_6 : decode (mm_cb 137) 6 = .ok (.iload_n 3, 1) := by decide +kernel
theorem d137_7 : decode (mm_cb 137) 7 = .ok (.iconst 1, 1) := by decide +kernel
theorem d137_8 : decode (mm_cb 137) 8 = .ok (.if_icmp .le 5, 3) := by decide +kernel
theorem d137_11 : decode (mm_cb 137) 11 = .ok (.iload_n 3, 1) := by decide +kernel
theorem d137_12 : decode (mm_cb 137) 12 = .ok (.ireturn, 1) := by decide +kernel
theorem d137_13 : decode (mm_cb 137) 13 = .ok (.aload_n 0, 1) := by decide +kernel
theorem d137_14 : decode (mm_cb 137) 14 = .ok (.iload_n 2, 1) := by decide +kernel
theorem d137_15 : decode (mm_cb 137) 15 = .ok (.invokevirtual 159, 3) := by decide +kernel
theorem d137_18 : decode (mm_cb 137) 18 = .ok (.istore 4, 2) := by decide +kernel
theorem d137_20 : decode (mm_cb 137) 20 = .ok (.iload 4, 2) := by decide +kernel
theorem d137_22 : decode (mm_cb 137) 22 = .ok (.iconst 1, 1) := by decide +kernel
theorem d137_23 : decode (mm_cb 137) 23 = .ok (.if_icmp .le 6, 3) := by decide +kernel
theorem d137_26 : decode (mm_cb 137) 26 = .ok (.iload 4, 2) := by decide +kernel
theorem d137_28 : decode (mm_cb 137) 28 = .ok (.ireturn, 1) := by decide +kernel
theorem d137_29 : decode (mm_cb 137) 29 = .ok (.iload_n 3, 1) := by decide +kernel
theorem d137_30 : decode (mm_cb 137) 30 = .ok (.ifCond .eq 8, 3) := by decide +kernel
theorem d137_33 : decode (mm_cb 137) 33 = .ok (.iload 4, 2) := by decide +kernel
theorem d137_35 : decode (mm_cb 137) 35 = .ok (.ifCond .ne 15, 3) := by decide +kernel
theorem d137_38 : decode (mm_cb 137) 38 = .ok (.iload_n 3, 1) := by decide +kernel
theorem d137_39 : decode (mm_cb 137) 39 = .ok (.iload 4, 2) := by decide +kernel
theorem d137_41 : decode (mm_cb 137) 41 = .ok (.if_icmp .ne 7, 3) := by decide +kernel
theorem d137_44 : decode (mm_cb 137) 44 = .ok (.iconst 1, 1) := by decide +kernel
theorem d137_45 : decode (mm_cb 137) 45 = .ok (.goto 4, 3) := by decide +kernel
theorem d137_48 : decode (mm_cb 137) 48 = .ok (.iconst 0, 1) := by decide +kernel
theorem d137_49 : decode (mm_cb 137) 49 = .ok (.ireturn, 1) := by decide +kernel
theorem d137_50 : decode (mm_cb 137) 50 = .ok (.aload_n 0, 1) := by decide +kernel
theorem d137_51 : decode (mm_cb 137) 51 = .ok (.iconst 0, 1) := by decide +kernel
theorem d137_52 : decode (mm_cb 137) 52 = .ok (.putfield 114, 3) := by decide +kernel
theorem d137_55 : decode (mm_cb 137) 55 = .ok (.aload_n 0, 1) := by decide +kernel
theorem d137_56 : decode (mm_cb 137) 56 = .ok (.iload_n 1, 1) := by decide +kernel
theorem d137_57 : decode (mm_cb 137) 57 = .ok (.iload_n 2, 1) := by decide +kernel
theorem d137_58 : decode (mm_cb 137) 58 = .ok (.lconst 0, 1) := by decide +kernel
theorem d137_59 : decode (mm_cb 137) 59 = .ok (.invokevirtual 117, 3) := by decide +kernel
theorem d137_62 : decode (mm_cb 137) 62 = .ok (.aload_n 0, 1) := by decide +kernel
theorem d137_63 : decode (mm_cb 137) 63 = .ok (.getfield 114, 3) := by decide +kernel
theorem d137_66 : decode (mm_cb 137) 66 = .ok (.ifCond .le 194, 3) := by decide +kernel
theorem d137_69 : decode (mm_cb 137) 69 = .ok (.aload_n 0, 1) := by decide +kernel
theorem d137_70 : decode (mm_cb 137) 70 = .ok (.dup, 1) := by decide +kernel
theorem d137_71 : decode (mm_cb 137) 71 = .ok (.getfield 114, 3) := by decide +kernel
theorem d137_74 : decode (mm_cb 137) 74 = .ok (.iconst 1, 1) := by decide +kernel
theorem d137_75 : decode (mm_cb 137) 75 = .ok (.isub, 1) := by decide +kernel
theorem d137_76 : decode (mm_cb 137) 76 = .ok (.putfield 114, 3) := by decide +kernel
theorem d137_79 : decode (mm_cb 137) 79 = .ok (.aload_n 0, 1) := by decide +kernel
theorem d137_80 : decode (mm_cb 137) 80 = .ok (.getfield 35, 3) := by decide +kernel
theorem d137_83 : decode (mm_cb 137) 83 = .ok (.aload_n 0, 1) := by decide +kernel
theorem d137_84 : decode (mm_cb 137) 84 = .ok (.getfield 114, 3) := by decide +kernel
theorem d137_87 : decode (mm_cb 137) 87 = .ok (.iaload, 1) := by decide +kernel
theorem d137_88 : decode (mm_cb 137) 88 = .ok (.istore 5, 2) := by decide +kernel
theorem d137_90 : decode (mm_cb 137) 90 = .ok (.aload_n 0, 1) := by decide +kernel
theorem d137_91 : decode (mm_cb 137) 91 = .ok (.getfield 38, 3) := by decide +kernel
theorem d137_94 : decode (mm_cb 137) 94 = .ok (.aload_n 0, 1) := by decide +kernel
theorem d137_95 : decode (mm_cb 137) 95 = .ok (.getfield 114, 3) := by decide +kernel
theorem d137_98 : decode (mm_cb 137) 98 = .ok (.iaload, 1) := by decide +kernel
theorem d137_99 : decode (mm_cb 137) 99 = .ok (.istore 6, 2) := by decide +kernel
theorem d137_101 : decode (mm_cb 137) 101 = .ok (.aload_n 0, 1) := by decide +kernel
theorem d137_102 : decode (mm_cb 137) 102 = .ok (.getfield 26, 3) := by decide +kernel
theorem d137_105 : decode (mm_cb 137) 105 = .ok (.iload 5, 2) := by decide +kernel
theorem d137_107 : decode (mm_cb 137) 107 = .ok (.iaload, 1) := by decide +kernel
theorem d137_108 : decode (mm_cb 137) 108 = .ok (.bipush (-2), 2) := by decide +kernel
theorem d137_110 : decode (mm_cb 137) 110 = .ok (.if_icmp .eq 15, 3) := by decide +kernel
theorem d137_113 : decode (mm_cb 137) 113 = .ok (.aload_n 0, 1) := by decide +kernel
theorem d137_114 : decode (mm_cb 137) 114 = .ok (.getfield 26, 3) := by decide +kernel
theorem d137_117 : decode (mm_cb 137) 117 = .ok (.iload 6, 2) := by decide +kernel
theorem d137_119 : decode (mm_cb 137) 119 = .ok (.iaload, 1) := by decide +kernel
theorem d137_120 : decode (mm_cb 137) 120 = .ok (.bipush (-2), 2) := by decide +kernel
theorem d137_122 : decode (mm_cb 137) 122 = .ok (.if_icmp .ne 25, 3) := by decide +kernel
theorem d137_125 : decode (mm_cb 137) 125 = .ok (.iconst 2, 1) := by decide +kernel
theorem d137_126 : decode (mm_cb 137) 126 = .ok (.aload_n 0, 1) := by decide +kernel
theorem d137_127 : decode (mm_cb 137) 127 = .ok (.getfield 26, 3) := by decide +kernel
theorem d137_130 : decode (mm_cb 137) 130 = .ok (.iload 5, 2) := by decide +kernel
theorem d137_132 : decode (mm_cb 137) 132 = .ok (.iaload, 1) := by decide +kernel
theorem d137_133 : decode (mm_cb 137) 133 = .ok (.bipush (-2), 2) := by decide +kernel
theorem d137_135 : decode (mm_cb 137) 135 = .ok (.if_icmp .ne 8, 3) := by decide +kernel
theorem d137_138 : decode (mm_cb 137) 138 = .ok (.iload 5, 2) := by decide +kernel
theorem d137_140 : decode (mm_cb 137) 140 = .ok (.goto 5, 3) := by decide +kernel
theorem d137_143 : decode (mm_cb 137) 143 = .ok (.iload 6, 2) := by decide +kernel
theorem d137_145 : decode (mm_cb 137) 145 = .ok (.iadd, 1) := by decide +kernel
theorem d137_146 : decode (mm_cb 137) 146 = .ok (.ireturn, 1) := by decide +kernel
theorem d137_147 : decode (mm_cb 137) 147 = .ok (.aload_n 0, 1) := by decide +kernel
theorem d137_148 : decode (mm_cb 137) 148 = .ok (.getfield 13, 3) := by decide +kernel
theorem d137_151 : decode (mm_cb 137) 151 = .ok (.iconst 4, 1) := by decide +kernel
theorem d137_152 : decode (mm_cb 137) 152 = .ok (.aload_n 0, 1) := by decide +kernel
theorem d137_153 : decode (mm_cb 137) 153 = .ok (.getfield 29, 3) := by decide +kernel
theorem d137_156 : decode (mm_cb 137) 156 = .ok (.iload 5, 2) := by decide +kernel
theorem d137_158 : decode (mm_cb 137) 158 = .ok (.iaload, 1) := by decide +kernel
theorem d137_159 : decode (mm_cb 137) 159 = .ok (.imul, 1) := by decide +kernel
theorem d137_160 : decode (mm_cb 137) 160 = .ok (.aload_n 0, 1) := by decide +kernel
theorem d137_161 : decode (mm_cb 137) 161 = .ok (.getfield 26, 3) := by decide +kernel
theorem d137_164 : decode (mm_cb 137) 164 = .ok (.iload 5, 2) := by decide +kernel
theorem d137_166 : decode (mm_cb 137) 166 = .ok (.iaload, 1) := by decide +kernel
theorem d137_167 : decode (mm_cb 137) 167 = .ok (.iadd, 1) := by decide +kernel
theorem d137_168 : decode (mm_cb 137) 168 = .ok (.iaload, 1) := by decide +kernel
theorem d137_169 : decode (mm_cb 137) 169 = .ok (.istore 7, 2) := by decide +kernel
theorem d137_171 : decode (mm_cb 137) 171 = .ok (.aload_n 0, 1) := by decide +kernel
theorem d137_172 : decode (mm_cb 137) 172 = .ok (.getfield 26, 3) := by decide +kernel
theorem d137_175 : decode (mm_cb 137) 175 = .ok (.iload 5, 2) := by decide +kernel
theorem d137_177 : decode (mm_cb 137) 177 = .ok (.iaload, 1) := by decide +kernel
theorem d137_178 : decode (mm_cb 137) 178 = .ok (.aload_n 0, 1) := by decide +kernel
theorem d137_179 : decode (mm_cb 137) 179 = .ok (.getfield 26, 3) := by decide +kernel
theorem d137_182 : decode (mm_cb 137) 182 = .ok (.iload 6, 2) := by decide +kernel
theorem d137_184 : decode (mm_cb 137) 184 = .ok (.iaload, 1) := by decide +kernel
theorem d137_185 : decode (mm_cb 137) 185 = .ok (.if_icmp .ne 30, 3) := by decide +kernel
theorem d137_188 : decode (mm_cb 137) 188 = .ok (.iload 7, 2) := by decide +kernel
theorem d137_190 : decode (mm_cb 137) 190 = .ok (.aload_n 0, 1) := by decide +kernel
theorem d137_191 : decode (mm_cb 137) 191 = .ok (.getfield 13, 3) := by decide +kernel
theorem d137_194 : decode (mm_cb 137) 194 = .ok (.iconst 4, 1) := by decide +kernel
theorem d137_195 : decode (mm_cb 137) 195 = .ok (.aload_n 0, 1) := by decide +kernel
theorem d137_196 : decode (mm_cb 137) 196 = .ok (.getfield 29, 3) := by decide +kernel
theorem d137_199 : decode (mm_cb 137) 199 = .ok (.iload 6, 2) := by decide +kernel
theorem d137_201 : decode (mm_cb 137) 201 = .ok (.iaload, 1) := by decide +kernel
theorem d137_202 : decode (mm_cb 137) 202 = .ok (.imul, 1) := by decide +kernel
theorem d137_203 : decode (mm_cb 137) 203 = .ok (.aload_n 0, 1) := by decide +kernel
theorem d137_204 : decode (mm_cb 137) 204 = .ok (.getfield 26, 3) := by decide +kernel
theorem d137_207 : decode (mm_cb 137) 207 = .ok (.iload 6, 2) := by decide +kernel
theorem d137_209 : decode (mm_cb 137) 209 = .ok (.iaload, 1) := by decide +kernel
theorem d137_210 : decode (mm_cb 137) 210 = .ok (.iadd, 1) := by decide +kernel
theorem d137_211 : decode (mm_cb 137) 211 = .ok (.iaload, 1) := by decide +kernel
theorem d137_212 : decode (mm_cb 137) 212 = .ok (.if_icmp .eq 5, 3) := by decide +kernel
theorem d137_215 : decode (mm_cb 137) 215 = .ok (.iconst 0, 1) := by decide +kernel
theorem d137_216 : decode (mm_cb 137) 216 = .ok (.ireturn, 1) := by decide +kernel
theorem d137_217 : decode (mm_cb 137) 217 = .ok (.iload 7, 2) := by decide +kernel
theorem d137_219 : decode (mm_cb 137) 219 = .ok (.iconst 1, 1) := by decide +kernel
theorem d137_220 : decode (mm_cb 137) 220 = .ok (.isub, 1) := by decide +kernel
theorem d137_221 : decode (mm_cb 137) 221 = .ok (.istore 8, 2) := by decide +kernel
theorem d137_223 : decode (mm_cb 137) 223 = .ok (.iload 8, 2) := by decide +kernel
theorem d137_225 : decode (mm_cb 137) 225 = .ok (.ifCond .lt 32, 3) := by decide +kernel
theorem d137_228 : decode (mm_cb 137) 228 = .ok (.aload_n 0, 1) := by decide +kernel
theorem d137_229 : decode (mm_cb 137) 229 = .ok (.iconst 4, 1) := by decide +kernel
theorem d137_230 : decode (mm_cb 137) 230 = .ok (.iload 5, 2) := by decide +kernel
theorem d137_232 : decode (mm_cb 137) 232 = .ok (.imul, 1) := by decide +kernel
theorem d137_233 : decode (mm_cb 137) 233 = .ok (.iload 8, 2) := by decide +kernel
theorem d137_235 : decode (mm_cb 137) 235 = .ok (.iadd, 1) := by decide +kernel
theorem d137_236 : decode (mm_cb 137) 236 = .ok (.iconst 1, 1) := by decide +kernel
theorem d137_237 : decode (mm_cb 137) 237 = .ok (.iadd, 1) := by decide +kernel
theorem d137_238 : decode (mm_cb 137) 238 = .ok (.iconst 4, 1) := by decide +kernel
theorem d137_239 : decode (mm_cb 137) 239 = .ok (.iload 6, 2) := by decide +kernel
theorem d137_241 : decode (mm_cb 137) 241 = .ok (.imul, 1) := by decide +kernel
theorem d137_242 : decode (mm_cb 137) 242 = .ok (.iload 8, 2) := by decide +kernel
theorem d137_244 : decode (mm_cb 137) 244 = .ok (.iadd, 1) := by decide +kernel
theorem d137_245 : decode (mm_cb 137) 245 = .ok (.iconst 1, 1) := by decide +kernel
theorem d137_246 : decode (mm_cb 137) 246 = .ok (.iadd, 1) := by decide +kernel
theorem d137_247 : decode (mm_cb 137) 247 = .ok (.lconst 0, 1) := by decide +kernel
theorem d137_248 : decode (mm_cb 137) 248 = .ok (.invokevirtual 117, 3) := by decide +kernel
theorem d137_251 : decode (mm_cb 137) 251 = .ok (.iinc 8 (-1), 3) := by decide +kernel
theorem d137_254 : decode (mm_cb 137) 254 = .ok (.goto (-31), 3) := by decide +kernel
theorem d137_257 : decode (mm_cb 137) 257 = .ok (.goto (-195), 3) := by decide +kernel
theorem d137_260 : decode (mm_cb 137) 260 = .ok (.iconst 1, 1) := by decide +kernel
theorem d137_261 : decode (mm_cb 137) 261 = .ok (.ireturn, 1) := by decide +kernel
theorem d138_0 : decode (mm_cb 138) 0 = .ok (.aload_n 0, 1) := by decide +kernel
theorem d138_1 : decode (mm_cb 138) 1 = .ok (.iload_n 1, 1) := by decide +kernel
theorem d138_2 : decode (mm_cb 138) 2 = .ok (.iload_n 2, 1) := by decide +kernel
theorem d138_3 : decode (mm_cb 138) 3 = .ok (.invokestatic 101, 3) := by decide +kernel
theorem d138_6 : decode (mm_cb 138) 6 = .ok (.putfield 65, 3) := by decide +kernel
theorem d138_9 : decode (mm_cb 138) 9 = .ok (.aload_n 0, 1) := by decide +kernel
theorem d138_10 : decode (mm_cb 138) 10 = .ok (.getfield 65, 3) := by decide +kernel
theorem d138_13 : decode (mm_cb 138) 13 = .ok (.ifCond .ne 15, 3) := by decide +kernel
theorem d138_16 : decode (mm_cb 138) 16 = .ok (.aload_n 0, 1) := by decide +kernel
theorem d138_17 : decode (mm_cb 138) 17 = .ok (.getfield 147, 3) := by decide +kernel
theorem d138_20 : decode (mm_cb 138) 20 = .ok (.ifCond .ne 8, 3) := by decide +kernel
theorem d138_23 : decode (mm_cb 138) 23 = .ok (.aload_n 0, 1) := by decide +kernel
theorem d138_24 : decode (mm_cb 138) 24 = .ok (.iconst 3, 1) := by decide +kernel
theorem d138_25 : decode (mm_cb 138) 25 = .ok (.putfield 65, 3) := by decide +kernel
theorem d138_28 : decode (mm_cb 138) 28 = .ok (.aload_n 0, 1) := by decide +kernel
theorem d138_29 : decode (mm_cb 138) 29 = .ok (.getfield 65, 3) := by decide +kernel
theorem d138_32 : decode (mm_cb 138) 32 = .ok (.ifCond .le 5, 3) := by decide +kernel
theorem d138_35 : decode (mm_cb 138) 35 = .ok (.iconst 0, 1) := by decide +kernel
theorem d138_36 : decode (mm_cb 138) 36 = .ok (.ireturn, 1) := by decide +kernel
theorem d138_37 : decode (mm_cb 138) 37 = .ok (.aload_n 0, 1) := by decide +kernel
theorem d138_38 : decode (mm_cb 138) 38 = .ok (.invokevirtual 105, 3) := by decide +kernel
theorem d138_41 : decode (mm_cb 138) 41 = .ok (.aload_n 0, 1) := by decide +kernel
theorem d138_42 : decode (mm_cb 138) 42 = .ok (.invokevirtual 121, 3) := by decide +kernel
theorem d138_45 : decode (mm_cb 138) 45 = .ok (.aload_n 0, 1) := by decide +kernel
theorem d138_46 : decode (mm_cb 138) 46 = .ok (.getfield 26, 3) := by decide +kernel
theorem d138_49 : decode (mm_cb 138) 49 = .ok (.iconst 0, 1) := by decide +kernel
theorem d138_50 : decode (mm_cb 138) 50 = .ok (.bipush (-2), 2) := by decide +kernel
theorem d138_52 : decode (mm_cb 138) 52 = .ok (.iastore, 1) := by decide +kernel
theorem d138_53 : decode (mm_cb 138) 53 = .ok (.aload_n 0, 1) := by decide +kernel
theorem d138_54 : decode (mm_cb 138) 54 = .ok (.getfield 29, 3) := by decide +kernel
theorem d138_57 : decode (mm_cb 138) 57 = .ok (.iconst 0, 1) := by decide +kernel
theorem d138_58 : decode (mm_cb 138) 58 = .ok (.iload_n 1, 1) := by decide +kernel
theorem d138_59 : decode (mm_cb 138) 59 = .ok (.iastore, 1) := by decide +kernel
theorem d138_60 : decode (mm_cb 138) 60 = .ok (.aload_n 0, 1) := by decide +kernel
theorem d138_61 : decode (mm_cb 138) 61 = .ok (.iload_n 2, 1) := by decide +kernel
theorem d138_62 : decode (mm_cb 138) 62 = .ok (.putfield 181, 3) := by decide +kernel
theorem d138_65 : decode (mm_cb 138) 65 = .ok (.aload_n 0, 1) := by decide +kernel
theorem d138_66 : decode (mm_cb 138) 66 = .ok (.iconst 0, 1) := by decide +kernel
theorem d138_67 : decode (mm_cb 138) 67 = .ok (.putfield 184, 3) := by decide +kernel
theorem d138_70 : decode (mm_cb 138) 70 = .ok (.aload_n 0, 1) := by decide +kernel
theorem d138_71 : decode (mm_cb 138) 71 = .ok (.iconst 0, 1) := by decide +kernel
theorem d138_72 : decode (mm_cb 138) 72 = .ok (.putfield 170, 3) := by decide +kernel
theorem d138_75 : decode (mm_cb 138) 75 = .ok (.aload_n 0, 1) := by decide +kernel
theorem d138_76 : decode (mm_cb 138) 76 = .ok (.lconst 0, 1) := by decide +kernel
theorem d138_77 : decode (mm_cb 138) 77 = .ok (.putfield 173, 3) := by decide +kernel
theorem d138_80 : decode (mm_cb 138) 80 = .ok (.iconst 0, 1) := by decide +kernel
theorem d138_81 : decode (mm_cb 138) 81 = .ok (.istore_n 3, 1) := by decide +kernel
theorem d138_82 : decode (mm_cb 138) 82 = .ok (.iload_n 3, 1) := by decide +kernel
theorem d138_83 : decode (mm_cb 138) 83 = .ok (.ifCond .ne 28, 3) := by decide +kernel
theorem d138_86 : decode (mm_cb 138) 86 = .ok (.aload_n 0, 1) := by decide +kernel
theorem d138_87 : decode (mm_cb 138) 87 = .ok (.getfield 170, 3) := by decide +kernel
theorem d138_90 : decode (mm_cb 138) 90 = .ok (.sipush 2000, 3) := by decide +kernel
theorem d138_93 : decode (mm_cb 138) 93 = .ok (.if_icmp .ne 10, 3) := by decide +kernel
theorem d138_96 : decode (mm_cb 138) 96 = .ok (.aload_n 0, 1) := by decide +kernel
theorem d138_97 : decode (mm_cb 138) 97 = .ok (.iconst 3, 1) := by decide +kernel
theorem d138_98 : decode (mm_cb 138) 98 = .ok (.putfield 65, 3) := by decide +kernel
theorem d138_101 : decode (mm_cb 138) 101 = .ok (.iconst 0, 1) := by decide +kernel
theorem d138_102 : decode (mm_cb 138) 102 = .ok (.ireturn, 1) := by decide +kernel
theorem d138_103 : decode (mm_cb 138) 103 = .ok (.aload_n 0, 1) := by decide +kernel
theorem d138_104 : decode (mm_cb 138) 104 = .ok (.invokevirtual 198, 3) := by decide +kernel
theorem d138_107 : decode (mm_cb 138) 107 = .ok (.istore_n 3, 1) := by decide +kernel
theorem d138_108 : decode (mm_cb 138) 108 = .ok (.goto (-26), 3) := by decide +kernel
theorem d138_111 : decode (mm_cb 138) 111 = .ok (.iload_n 3, 1) := by decide +kernel
theorem d138_112 : decode (mm_cb 138) 112 = .ok (.iconst 2, 1) := by decide +kernel
theorem d138_113 : decode (mm_cb 138) 113 = .ok (.if_icmp .ne 7, 3) := by decide +kernel
theorem d138_116 : decode (mm_cb 138) 116 = .ok (.aload_n 0, 1) := by decide +kernel
theorem d138_117 : decode (mm_cb 138) 117 = .ok (.invokevirtual 138, 3) := by decide +kernel
theorem d138_120 : decode (mm_cb 138) 120 = .ok (.iload_n 3, 1) := by decide +kernel
theorem d138_121 : decode (mm_cb 138) 121 = .ok (.iconst 1, 1) := by decide +kernel
theorem d138_122 : decode (mm_cb 138) 122 = .ok (.if_icmp .ne 7, 3) := by decide +kernel
theorem d138_125 : decode (mm_cb 138) 125 = .ok (.iconst 1, 1) := by decide +kernel
theorem d138_126 : decode (mm_cb 138) 126 = .ok (.goto 4, 3) := by decide +kernel
theorem d138_129 : decode (mm_cb 138) 129 = .ok (.iconst 0, 1) := by decide +kernel
theorem d138_130 : decode (mm_cb 138) 130 = .ok (.ireturn, 1) := by decide +kernel
theorem d139_0 : decode (mm_cb 139) 0 = .ok (.aload_n 0, 1) := by decide +kernel
theorem d139_1 : decode (mm_cb 139) 1 = .ok (.dup, 1) := by decide +kernel
theorem d139_2 : decode (mm_cb 139) 2 = .ok (.getfield 170, 3) := by decide +kernel
theorem d139_5 : decode (mm_cb 139) 5 = .ok (.iconst 1, 1) := by decide +kernel
theorem d139_6 : decode (mm_cb 139) 6 = .ok (.iadd, 1) := by decide +kernel
theorem d139_7 : decode (mm_cb 139) 7 = .ok (.putfield 170, 3) := by decide +kernel
theorem d139_10 : decode (mm_cb 139) 10 = .ok (.aload_n 0, 1) := by decide +kernel
theorem d139_11 : decode (mm_cb 139) 11 = .ok (.invokevirtual 177, 3) := by decide +kernel
theorem d139_14 : decode (mm_cb 139) 14 = .ok (.istore_n 1, 1) := by decide +kernel
theorem d139_15 : decode (mm_cb 139) 15 = .ok (.iload_n 1, 1) := by decide +kernel
theorem d139_16 : decode (mm_cb 139) 16 = .ok (.ifCond .ne 14, 3) := by decide +kernel
theorem d139_19 : decode (mm_cb 139) 19 = .ok (.aload_n 0, 1) := by decide +kernel
theorem d139_20 : decode (mm_cb 139) 20 = .ok (.invokevirtual 191, 3) := by decide +kernel
theorem d139_23 : decode (mm_cb 139) 23 = .ok (.lconst 0, 1) := by decide +kernel
theorem d139_24 : decode (mm_cb 139) 24 = .ok (.lcmp, 1) := by decide +kernel
theorem d139_25 : decode (mm_cb 139) 25 = .ok (.ifCond .le 5, 3) := by decide +kernel
theorem d139_28 : decode (mm_cb 139) 28 = .ok (.iconst 2, 1) := by decide +kernel
theorem d139_29 : decode (mm_cb 139) 29 = .ok (.ireturn, 1) := by decide +kernel
theorem d139_30 : decode (mm_cb 139) 30 = .ok (.iload_n 1, 1) := by decide +kernel
theorem d139_31 : decode (mm_cb 139) 31 = .ok (.iconst 1, 1) := by decide +kernel
theorem d139_32 : decode (mm_cb 139) 32 = .ok (.if_icmp .ne 18, 3) := by decide +kernel
theorem d139_35 : decode (mm_cb 139) 35 = .ok (.aload_n 0, 1) := by decide +kernel
theorem d139_36 : decode (mm_cb 139) 36 = .ok (.aload_n 0, 1) := by decide +kernel
theorem d139_37 : decode (mm_cb 139) 37 = .ok (.getfield 173, 3) := by decide +kernel
theorem d139_40 : decode (mm_cb 139) 40 = .ok (.aload_n 0, 1) := by decide +kernel
theorem d139_41 : decode (mm_cb 139) 41 = .ok (.invokevirtual 191, 3) := by decide +kernel
theorem d139_44 : decode (mm_cb 139) 44 = .ok (.invokestatic 87, 3) := by decide +kernel
theorem d139_47 : decode (mm_cb 139) 47 = .ok (.putfield 173, 3) := by decide +kernel
theorem d139_50 : decode (mm_cb 139) 50 = .ok (.iload_n 1, 1) := by decide +kernel
theorem d139_51 : decode (mm_cb 139) 51 = .ok (.iconst 1, 1) := by decide +kernel
theorem d139_52 : decode (mm_cb 139) 52 = .ok (.if_icmp .le 35, 3) := by decide +kernel
theorem d139_55 : decode (mm_cb 139) 55 = .ok (.aload_n 0, 1) := by decide +kernel
theorem d139_56 : decode (mm_cb 139) 56 = .ok (.getfield 59, 3) := by decide +kernel
theorem d139_59 : decode (mm_cb 139) 59 = .ok (.aload_n 0, 1) := by decide +kernel
theorem d139_60 : decode (mm_cb 139) 60 = .ok (.getfield 184, 3) := by decide +kernel
theorem d139_63 : decode (mm_cb 139) 63 = .ok (.iload_n 1, 1) := by decide +kernel
theorem d139_64 : decode (mm_cb 139) 64 = .ok (.iconst 2, 1) := by decide +kernel
theorem d139_65 : decode (mm_cb 139) 65 = .ok (.isub, 1) := by decide +kernel
theorem d139_66 : decode (mm_cb 139) 66 = .ok (.iastore, 1) := by decide +kernel
theorem d139_67 : decode (mm_cb 139) 67 = .ok (.aload_n 0, 1) := by decide +kernel
theorem d139_68 : decode (mm_cb 139) 68 = .ok (.getfield 62, 3) := by decide +kernel
theorem d139_71 : decode (mm_cb 139) 71 = .ok (.aload_n 0, 1) := by decide +kernel
theorem d139_72 : decode (mm_cb 139) 72 = .ok (.getfield 184, 3) := by decide +kernel
theorem d139_75 : decode (mm_cb 139) 75 = .ok (.iconst (-1), 1) := by decide +kernel
theorem d139_76 : decode (mm_cb 139) 76 = .ok (.iastore, 1) := by decide +kernel
theorem d139_77 : decode (mm_cb 139) 77 = .ok (.aload_n 0, 1) := by decide +kernel
theorem d139_78 : decode (mm_cb 139) 78 = .ok (.dup, 1) := by decide +kernel
theorem d139_79 : decode (mm_cb 139) 79 = .ok (.getfield 184, 3) := by decide +kernel
theorem d139_82 : decode (mm_cb 139) 82 = .ok (.iconst 1, 1) := by decide +kernel
theorem d139_83 : decode (mm_cb 139) 83 = .ok (.iadd, 1) := by decide +kernel
theorem d139_84 : decode (mm_cb 139) 84 = .ok (.putfield 184, 3) := by decide +kernel
theorem d139_87 : decode (mm_cb 139) 87 = .ok (.aload_n 0, 1) := by decide +kernel
theorem d139_88 : decode (mm_cb 139) 88 = .ok (.invokevirtual 195, 3) := by decide +kernel
theorem d139_91 : decode (mm_cb 139) 91 = .ok (.ifCond .eq 7, 3) := by decide +kernel
theorem d139_94 : decode (mm_cb 139) 94 = .ok (.iconst 0, 1) := by decide +kernel
theorem d139_95 : decode (mm_cb 139) 95 = .ok (.goto 4, 3) := by decide +kernel
theorem d139_98 : decode (mm_cb 139) 98 = .ok (.iconst 1, 1) := by decide +kernel
theorem d139_99 : decode (mm_cb 139) 99 = .ok (.ireturn, 1) := by decide +kernel
theorem d140_0 : decode (mm_cb 140) 0 = .ok (.lconst 1, 1) := by decide +kernel
theorem d140_1 : decode (mm_cb 140) 1 = .ok (.lstore_n 1, 1) := by decide +kernel
theorem d140_2 : decode (mm_cb 140) 2 = .ok (.iconst 0, 1) := by decide +kernel
theorem d140_3 : decode (mm_cb 140) 3 = .ok (.istore_n 3, 1) := by decide +kernel
theorem d140_4 : decode (mm_cb 140) 4 = .ok (.iload_n 3, 1) := by decide +kernel
theorem d140_5 : decode (mm_cb 140) 5 = .ok (.sipush 256, 3) := by decide +kernel
theorem d140_8 : decode (mm_cb 140) 8 = .ok (.if_icmp .ge 55, 3) := by decide +kernel
theorem d140_11 : decode (mm_cb 140) 11 = .ok (.aload_n 0, 1) := by decide +kernel
theorem d140_12 : decode (mm_cb 140) 12 = .ok (.getfield 26, 3) := by decide +kernel
theorem d140_15 : decode (mm_cb 140) 15 = .ok (.iload_n 3, 1) := by decide +kernel
theorem d140_16 : decode (mm_cb 140) 16 = .ok (.iaload, 1) := by decide +kernel
theorem d140_17 : decode (mm_cb 140) 17 = .ok (.bipush (-2), 2) := by decide +kernel
theorem d140_19 : decode (mm_cb 140) 19 = .ok (.if_icmp .ne 36, 3) := by decide +kernel
theorem d140_22 : decode (mm_cb 140) 22 = .ok (.lload_n 1, 1) := by decide +kernel
theorem d140_23 : decode (mm_cb 140) 23 = .ok (.aload_n 0, 1) := by decide +kernel
theorem d140_24 : decode (mm_cb 140) 24 = .ok (.getfield 19, 3) := by decide +kernel
theorem d140_27 : decode (mm_cb 140) 27 = .ok (.bipush 6, 2) := by decide +kernel
theorem d140_29 : decode (mm_cb 140) 29 = .ok (.aload_n 0, 1) := by decide +kernel
theorem d140_30 : decode (mm_cb 140) 30 = .ok (.getfield 29, 3) := by decide +kernel
theorem d140_33 : decode (mm_cb 140) 33 = .ok (.iload_n 3, 1) := by decide +kernel
theorem d140_34 : decode (mm_cb 140) 34 = .ok (.iaload, 1) := by decide +kernel
theorem d140_35 : decode (mm_cb 140) 35 = .ok (.imul, 1) := by decide +kernel
theorem d140_36 : decode (mm_cb 140) 36 = .ok (.aload_n 0, 1) := by decide +kernel
theorem d140_37 : decode (mm_cb 140) 37 = .ok (.getfield 181, 3) := by decide +kernel
theorem d140_40 : decode (mm_cb 140) 40 = .ok (.iadd, 1) := by decide +kernel
theorem d140_41 : decode (mm_cb 140) 41 = .ok (.iload_n 3, 1) := by decide +kernel
theorem d140_42 : decode (mm_cb 140) 42 = .ok (.invokestatic 124, 3) := by decide +kernel
theorem d140_45 : decode (mm_cb 140) 45 = .ok (.isub, 1) := by decide +kernel
theorem d140_46 : decode (mm_cb 140) 46 = .ok (.iconst 1, 1) := by decide +kernel
theorem d140_47 : decode (mm_cb 140) 47 = .ok (.iadd, 1) := by decide +kernel
theorem d140_48 : decode (mm_cb 140) 48 = .ok (.laload, 1) := by decide +kernel
theorem d140_49 : decode (mm_cb 140) 49 = .ok (.invokestatic 79, 3) := by decide +kernel
theorem d140_52 : decode (mm_cb 140) 52 = .ok (.goto 4, 3) := by decide +kernel
theorem d140_55 : decode (mm_cb 140) 55 = .ok (.lload_n 1, 1) := by decide +kernel
theorem d140_56 : decode (mm_cb 140) 56 = .ok (.lstore_n 1, 1) := by decide +kernel
theorem d140_57 : decode (mm_cb 140) 57 = .ok (.iinc 3 1, 3) := by decide +kernel
theorem d140_60 : decode (mm_cb 140) 60 = .ok (.goto (-56), 3) := by decide +kernel
theorem d140_63 : decode (mm_cb 140) 63 = .ok (.lload_n 1, 1) := by decide +kernel
theorem d140_64 : decode (mm_cb 140) 64 = .ok (.lreturn, 1) := by decide +kernel
theorem d141_0 : decode (mm_cb 141) 0 = .ok (.aload_n 0, 1) := by decide +kernel
theorem d141_1 : decode (mm_cb 141) 1 = .ok (.getfield 184, 3) := by decide +kernel
theorem d141_4 : decode (mm_cb 141) 4 = .ok (.ifCond .le 12, 3) := by decide +kernel
theorem d141_7 : decode (mm_cb 141) 7 = .ok (.aload_n 0, 1) := by decide +kernel
theorem d141_8 : decode (mm_cb 141) 8 = .ok (.invokevirtual 187, 3) := by decide +kernel
theorem d141_11 : decode (mm_cb 141) 11 = .ok (.ifCond .eq (-11), 3) := by decide +kernel
theorem d141_14 : decode (mm_cb 141) 14 = .ok (.iconst 1, 1) := by decide +kernel
theorem d141_15 : decode (mm_cb 141) 15 = .ok (.ireturn, 1) := by decide +kernel
theorem d141_16 : decode (mm_cb 141) 16 = .ok (.iconst 0, 1) := by decide +kernel
theorem d141_17 : decode (mm_cb 141) 17 = .ok (.ireturn, 1) := by decide +kernel
theorem d142_0 : decode (mm_cb 142) 0 = .ok (.aload_n 0, 1) := by decide +kernel
theorem d142_1 : decode (mm_cb 142) 1 = .ok (.getfield 59, 3) := by decide +kernel
theorem d142_4 : decode (mm_cb 142) 4 = .ok (.aload_n 0, 1) := by decide +kernel
theorem d142_5 : decode (mm_cb 142) 5 = .ok (.getfield 184, 3) := by decide +kernel
theorem d142_8 : decode (mm_cb 142) 8 = .ok (.iconst 1, 1) := by decide +kernel
theorem d142_9 : decode (mm_cb 142) 9 = .ok (.isub, 1) := by decide +kernel
theorem d142_10 : decode (mm_cb 142) 10 = .ok (.iaload, 1) := by decide +kernel
theorem d142_11 : decode (mm_cb 142) 11 = .ok (.istore_n 1, 1) := by decide +kernel
theorem d142_12 : decode (mm_cb 142) 12 = .ok (.aload_n 0, 1) := by decide +kernel
theorem d142_13 : decode (mm_cb 142) 13 = .ok (.getfield 29, 3) := by decide +kernel
theorem d142_16 : decode (mm_cb 142) 16 = .ok (.iload_n 1, 1) := by decide +kernel
theorem d142_17 : decode (mm_cb 142) 17 = .ok (.iaload, 1) := by decide +kernel
theorem d142_18 : decode (mm_cb 142) 18 = .ok (.istore_n 2, 1) := by decide +kernel
theorem d142_19 : decode (mm_cb 142) 19 = .ok (.aload_n 0, 1) := by decide +kernel
theorem d142_20 : decode (mm_cb 142) 20 = .ok (.getfield 62, 3) := by decide +kernel
theorem d142_23 : decode (mm_cb 142) 23 = .ok (.aload_n 0, 1) := by decide +kernel
theorem d142_24 : decode (mm_cb 142) 24 = .ok (.getfield 184, 3) := by decide +kernel
theorem d142_27 : decode (mm_cb 142) 27 = .ok (.iconst 1, 1) := by decide +kernel
theorem d142_28 : decode (mm_cb 142) 28 = .ok (.isub, 1) := by decide +kernel
theorem d142_29 : decode (mm_cb 142) 29 = .ok (.iaload, 1) := by decide +kernel
theorem d142_30 : decode (mm_cb 142) 30 = .ok (.istore_n 3, 1) := by decide +kernel
theorem d142_31 : decode (mm_cb 142) 31 = .ok (.iconst 0, 1) := by decide +kernel
theorem d142_32 : decode (mm_cb 142) 32 = .ok (.istore 4, 2) := by decide +kernel
theorem d142_34 : decode (mm_cb 142) 34 = .ok (.iload_n 3, 1) := by decide +kernel
theorem d142_35 : decode (mm_cb 142) 35 = .ok (.ifCond .lt 38, 3) := by decide +kernel
theorem d142_38 : decode (mm_cb 142) 38 = .ok (.iload 4, 2) := by decide +kernel
theorem d142_40 : decode (mm_cb 142) 40 = .ok (.aload_n 0, 1) := by decide +kernel
theorem d142_41 : decode (mm_cb 142) 41 = .ok (.getfield 13, 3) := by decide +kernel
theorem d142_44 : decode (mm_cb 142) 44 = .ok (.iconst 4, 1) := by decide +kernel
theorem d142_45 : decode (mm_cb 142) 45 = .ok (.iload_n 2, 1) := by decide +kernel
theorem d142_46 : decode (mm_cb 142) 46 = .ok (.imul, 1) := by decide +kernel
theorem d142_47 : decode (mm_cb 142) 47 = .ok (.iload_n 3, 1) := by decide +kernel
theorem d142_48 : decode (mm_cb 142) 48 = .ok (.iadd, 1) := by decide +kernel
theorem d142_49 : decode (mm_cb 142) 49 = .ok (.iaload, 1) := by decide +kernel
theorem d142_50 : decode (mm_cb 142) 50 = .ok (.if_icmp .ge 23, 3) := by decide +kernel
theorem d142_53 : decode (mm_cb 142) 53 = .ok (.aload_n 0, 1) := by decide +kernel
theorem d142_54 : decode (mm_cb 142) 54 = .ok (.getfield 26, 3) := by decide +kernel
theorem d142_57 : decode (mm_cb 142) 57 = .ok (.iconst 4, 1) := by decide +kernel
theorem d142_58 : decode (mm_cb 142) 58 = .ok (.iload_n 1, 1) := by decide +kernel
theorem d142_59 : decode (mm_cb 142) 59 = .ok (.imul, 1) := by decide +kernel
theorem d142_60 : decode (mm_cb 142) 60 = .ok (.iload 4, 2) := by decide +kernel
theorem d142_62 : decode (mm_cb 142) 62 = .ok (.iadd, 1) := by decide +kernel
theorem d142_63 : decode (mm_cb 142) 63 = .ok (.iconst 1, 1) := by decide +kernel
theorem d142_64 : decode (mm_cb 142) 64 = .ok (.iadd, 1) := by decide +kernel
theorem d142_65 : decode (mm_cb 142) 65 = .ok (.iconst (-1), 1) := by decide +kernel
theorem d142_66 : decode (mm_cb 142) 66 = .ok (.iastore, 1) := by decide +kernel
theorem d142_67 : decode (mm_cb 142) 67 = .ok (.iinc 4 1, 3) := by decide +kernel
theorem d142_70 : decode (mm_cb 142) 70 = .ok (.goto (-36), 3) := by decide +kernel
theorem d142_73 : decode (mm_cb 142) 73 = .ok (.aload_n 0, 1) := by decide +kernel
theorem d142_74 : decode (mm_cb 142) 74 = .ok (.getfield 26, 3) := by decide +kernel
theorem d142_77 : decode (mm_cb 142) 77 = .ok (.iload_n 1, 1) := by decide +kernel
theorem d142_78 : decode (mm_cb 142) 78 = .ok (.bipush (-2), 2) := by decide +kernel
theorem d142_80 : decode (mm_cb 142) 80 = .ok (.iastore, 1) := by decide +kernel
theorem d142_81 : decode (mm_cb 142) 81 = .ok (.iinc 3 1, 3) := by decide +kernel
theorem d142_84 : decode (mm_cb 142) 84 = .ok (.iload_n 3, 1) := by decide +kernel
theorem d142_85 : decode (mm_cb 142) 85 = .ok (.aload_n 0, 1) := by decide +kernel
theorem d142_86 : decode (mm_cb 142) 86 = .ok (.getfield 7, 3) := by decide +kernel
theorem d142_89 : decode (mm_cb 142) 89 = .ok (.iload_n 2, 1) := by decide +kernel
theorem d142_90 : decode (mm_cb 142) 90 = .ok (.iaload, 1) := by decide +kernel
theorem d142_91 : decode (mm_cb 142) 91 = .ok (.if_icmp .ge 33, 3) := by decide +kernel
theorem d142_94 : decode (mm_cb 142) 94 = .ok (.aload_n 0, 1) := by decide +kernel
theorem d142_95 : decode (mm_cb 142) 95 = .ok (.getfield 13, 3) := by decide +kernel
theorem d142_98 : decode (mm_cb 142) 98 = .ok (.iconst 4, 1) := by decide +kernel
theorem d142_99 : decode (mm_cb 142) 99 = .ok (.iload_n 2, 1) := by decide +kernel
theorem d142_100 : decode (mm_cb 142) 100 = .ok (.imul, 1) := by decide +kernel
theorem d142_101 : decode (mm_cb 142) 101 = .ok (.iload_n 3, 1) := by decide +kernel
theorem d142_102 : decode (mm_cb 142) 102 = .ok (.iadd, 1) := by decide +kernel
theorem d142_103 : decode (mm_cb 142) 103 = .ok (.iaload, 1) := by decide +kernel
theorem d142_104 : decode (mm_cb 142) 104 = .ok (.ifCond .le 20, 3) := by decide +kernel
theorem d142_107 : decode (mm_cb 142) 107 = .ok (.iload_n 1, 1) := by decide +kernel
theorem d142_108 : decode (mm_cb 142) 108 = .ok (.invokestatic 124, 3) := by decide +kernel
theorem d142_111 : decode (mm_cb 142) 111 = .ok (.aload_n 0, 1) := by decide +kernel
theorem d142_112 : decode (mm_cb 142) 112 = .ok (.getfield 181, 3) := by decide +kernel
theorem d142_115 : decode (mm_cb 142) 115 = .ok (.if_icmp .lt 9, 3) := by decide +kernel
theorem d142_118 : decode (mm_cb 142) 118 = .ok (.iinc 3 1, 3) := by decide +kernel
theorem d142_121 : decode (mm_cb 142) 121 = .ok (.goto (-37), 3) := by decide +kernel
theorem d142_124 : decode (mm_cb 142) 124 = .ok (.iload_n 3, 1) := by decide +kernel
theorem d142_125 : decode (mm_cb 142) 125 = .ok (.aload_n 0, 1) := by decide +kernel
theorem d142_126 : decode (mm_cb 142) 126 = .ok (.getfield 7, 3) := by decide +kernel
theorem d142_129 : decode (mm_cb 142) 129 = .ok (.iload_n 2, 1) := by decide +kernel
theorem d142_130 : decode (mm_cb 142) 130 = .ok (.iaload, 1) := by decide +kernel
theorem d142_131 : decode (mm_cb 142) 131 = .ok (.if_icmp .lt 15, 3) := by decide +kernel
theorem d142_134 : decode (mm_cb 142) 134 = .ok (.aload_n 0, 1) := by decide +kernel
theorem d142_135 : decode (mm_cb 142) 135 = .ok (.dup, 1) := by decide +kernel
theorem d142_136 : decode (mm_cb 142) 136 = .ok (.getfield 184, 3) := by decide +kernel
theorem d142_139 : decode (mm_cb 142) 139 = .ok (.iconst 1, 1) := by decide +kernel
theorem d142_140 : decode (mm_cb 142) 140 = .ok (.isub, 1) := by decide +kernel
theorem d142_141 : decode (mm_cb 142) 141 = .ok (.putfield 184, 3) := by decide +kernel
theorem d142_144 : decode (mm_cb 142) 144 = .ok (.iconst 0, 1) := by decide +kernel
theorem d142_145 : decode (mm_cb 142) 145 = .ok (.ireturn, 1) := by decide +kernel
theorem d142_146 : decode (mm_cb 142) 146 = .ok (.aload_n 0, 1) := by decide +kernel
theorem d142_147 : decode (mm_cb 142) 147 = .ok (.getfield 62, 3) := by decide +kernel
theorem d142_150 : decode (mm_cb 142) 150 = .ok (.aload_n 0, 1) := by decide +kernel
theorem d142_151 : decode (mm_cb 142) 151 = .ok (.getfield 184, 3) := by decide +kernel
theorem d142_154 : decode (mm_cb 142) 154 = .ok (.iconst 1, 1) := by decide +kernel
theorem d142_155 : decode (mm_cb 142) 155 = .ok (.isub, 1) := by decide +kernel
theorem d142_156 : decode (mm_cb 142) 156 = .ok (.iload_n 3, 1) := by decide +kernel
theorem d142_157 : decode (mm_cb 142) 157 = .ok (.iastore, 1) := by decide +kernel
theorem d142_158 : decode (mm_cb 142) 158 = .ok (.aload_n 0, 1) := by decide +kernel
theorem d142_159 : decode (mm_cb 142) 159 = .ok (.getfield 26, 3) := by decide +kernel
theorem d142_162 : decode (mm_cb 142) 162 = .ok (.iload_n 1, 1) := by decide +kernel
theorem d142_163 : decode (mm_cb 142) 163 = .ok (.iload_n 3, 1) := by decide +kernel
theorem d142_164 : decode (mm_cb 142) 164 = .ok (.iastore, 1) := by decide +kernel
theorem d142_165 : decode (mm_cb 142) 165 = .ok (.iconst 0, 1) := by decide +kernel
theorem d142_166 : decode (mm_cb 142) 166 = .ok (.istore 4, 2) := by decide +kernel
theorem d142_168 : decode (mm_cb 142) 168 = .ok (.iload 4, 2) := by decide +kernel
theorem d142_170 : decode (mm_cb 142) 170 = .ok (.aload_n 0, 1) := by decide +kernel
theorem d142_171 : decode (mm_cb 142) 171 = .ok (.getfield 13, 3) := by decide +kernel
theorem d142_174 : decode (mm_cb 142) 174 = .ok (.iconst 4, 1) := by decide +kernel
theorem d142_175 : decode (mm_cb 142) 175 = .ok (.iload_n 2, 1) := by decide +kernel
theorem d142_176 : decode (mm_cb 142) 176 = .ok (.imul, 1) := by decide +kernel
theorem d142_177 : decode (mm_cb 142) 177 = .ok (.iload_n 3, 1) := by decide +kernel
theorem d142_178 : decode (mm_cb 142) 178 = .ok (.iadd, 1) := by decide +kernel
theorem d142_179 : decode (mm_cb 142) 179 = .ok (.iaload, 1) := by decide +kernel
theorem d142_180 : decode (mm_cb 142) 180 = .ok (.if_icmp .ge 45, 3) := by decide +kernel
theorem d142_183 : decode (mm_cb 142) 183 = .ok (.aload_n 0, 1) := by decide +kernel
theorem d142_184 : decode (mm_cb 142) 184 = .ok (.getfield 26, 3) := by decide +kernel
theorem d142_187 : decode (mm_cb 142) 187 = .ok (.iconst 4, 1) := by decide +kernel
theorem d142_188 : decode (mm_cb 142) 188 = .ok (.iload_n 1, 1) := by decide +kernel
theorem d142_189 : decode (mm_cb 142) 189 = .ok (.imul, 1) := by decide +kernel
theorem d142_190 : decode (mm_cb 142) 190 = .ok (.iload 4, 2) := by decide +kernel
theorem d142_192 : decode (mm_cb 142) 192 = .ok (.iadd, 1) := by decide +kernel
theorem d142_193 : decode (mm_cb 142) 193 = .ok (.iconst 1, 1) := by decide +kernel
theorem d142_194 : decode (mm_cb 142) 194 = .ok (.iadd, 1) := by decide +kernel
theorem d142_195 : decode (mm_cb 142) 195 = .ok (.bipush (-2), 2) := by decide +kernel
theorem d142_197 : decode (mm_cb 142) 197 = .ok (.iastore, 1) := by decide +kernel
theorem d142_198 : decode (mm_cb 142) 198 = .ok (.aload_n 0, 1) := by decide +kernel
theorem d142_199 : decode (mm_cb 142) 199 = .ok (.getfield 29, 3) := by decide +kernel
theorem d142_202 : decode (mm_cb 142) 202 = .ok (.iconst 4, 1) := by decide +kernel
theorem d142_203 : decode (mm_cb 142) 203 = .ok (.iload_n 1, 1) := by decide +kernel
theorem d142_204 : decode (mm_cb 142) 204 = .ok (.imul, 1) := by decide +kernel
theorem d142_205 : decode (mm_cb 142) 205 = .ok (.iload 4, 2) := by decide +kernel
theorem d142_207 : decode (mm_cb 142) 207 = .ok (.iadd, 1) := by decide +kernel
theorem d142_208 : decode (mm_cb 142) 208 = .ok (.iconst 1, 1) := by decide +kernel
theorem d142_209 : decode (mm_cb 142) 209 = .ok (.iadd, 1) := by decide +kernel
theorem d142_210 : decode (mm_cb 142) 210 = .ok (.aload_n 0, 1) := by decide +kernel
theorem d142_211 : decode (mm_cb 142) 211 = .ok (.iload_n 2, 1) := by decide +kernel
theorem d142_212 : decode (mm_cb 142) 212 = .ok (.iload_n 3, 1) := by decide +kernel
theorem d142_213 : decode (mm_cb 142) 213 = .ok (.iload 4, 2) := by decide +kernel
theorem d142_215 : decode (mm_cb 142) 215 = .ok (.invokevirtual 75, 3) := by decide +kernel
theorem d142_218 : decode (mm_cb 142) 218 = .ok (.iastore, 1) := by decide +kernel
theorem d142_219 : decode (mm_cb 142) 219 = .ok (.iinc 4 1, 3) := by decide +kernel
theorem d142_222 : decode (mm_cb 142) 222 = .ok (.goto (-54), 3) := by decide +kernel
theorem d142_225 : decode (mm_cb 142) 225 = .ok (.iconst 1, 1) := by decide +kernel
theorem d142_226 : decode (mm_cb 142) 226 = .ok (.ireturn, 1) := by decide +kernel
theorem d143_0 : decode (mm_cb 143) 0 = .ok (.aload_n 0, 1) := by decide +kernel
theorem d143_1 : decode (mm_cb 143) 1 = .ok (.iconst 0, 1) := by decide +kernel
theorem d143_2 : decode (mm_cb 143) 2 = .ok (.putfield 65, 3) := by decide +kernel
theorem d143_5 : decode (mm_cb 143) 5 = .ok (.aload_n 0, 1) := by decide +kernel
theorem d143_6 : decode (mm_cb 143) 6 = .ok (.getfield 170, 3) := by decide +kernel
theorem d143_9 : decode (mm_cb 143) 9 = .ok (.ireturn, 1) := by decide +kernel
theorem d144_0 : decode (mm_cb 144) 0 = .ok (.aload_n 0, 1) := by decide +kernel
theorem d144_1 : decode (mm_cb 144) 1 = .ok (.iconst 0, 1) := by decide +kernel
theorem d144_2 : decode (mm_cb 144) 2 = .ok (.putfield 65, 3) := by decide +kernel
theorem d144_5 : decode (mm_cb 144) 5 = .ok (.aload_n 0, 1) := by decide +kernel
theorem d144_6 : decode (mm_cb 144) 6 = .ok (.getfield 173, 3) := by decide +kernel
theorem d144_9 : decode (mm_cb 144) 9 = .ok (.lreturn, 1) := by decide +kernel
theorem d145_0 : decode (mm_cb 145) 0 = .ok (.new 8, 3) := by decide +kernel
theorem d145_3 : decode (mm_cb 145) 3 = .ok (.dup, 1) := by decide +kernel
end
section
/-! ===== decoded ===== -/
theorem d145_4 : decode (mm_cb 145) 4 = .ok (.invokespecial 51, 3) := by decide +kernel
theorem d145_7 : decode (mm_cb 145) 7 = .ok (.astore_n 1, 1) := by decide +kernel
theorem d145_8 : decode (mm_cb 145) 8 = .ok (.new 52, 3) := by decide +kernel
theorem d145_11 : decode (mm_cb 145) 11 = .ok (.dup, 1) := by decide +kernel
theorem d145_12 : decode (mm_cb 145) 12 = .ok (.invokespecial 54, 3) := by decide +kernel
theorem d145_15 : decode (mm_cb 145) 15 = .ok (.astore_n 2, 1) := by decide +kernel
theorem d145_16 : decode (mm_cb 145) 16 = .ok (.iconst 1, 1) := by decide +kernel
theorem d145_17 : decode (mm_cb 145) 17 = .ok (.newarray .long, 2) := by decide +kernel
theorem d145_19 : decode (mm_cb 145) 19 = .ok (.astore_n 3, 1) := by decide +kernel
theorem d145_20 : decode (mm_cb 145) 20 = .ok (.iconst 0, 1) := by decide +kernel
theorem d145_21 : decode (mm_cb 145) 21 = .ok (.istore 4, 2) := by decide +kernel
theorem d145_23 : decode (mm_cb 145) 23 = .ok (.iload 4, 2) := by decide +kernel
theorem d145_25 : decode (mm_cb 145) 25 = .ok (.aload_n 0, 1) := by decide +kernel
theorem d145_26 : decode (mm_cb 145) 26 = .ok (.arraylength, 1) := by decide +kernel
theorem d145_27 : decode (mm_cb 145) 27 = .ok (.bipush 6, 2) := by decide +kernel
theorem d145_29 : decode (mm_cb 145) 29 = .ok (.isub, 1) := by decide +kernel
theorem d145_30 : decode (mm_cb 145) 30 = .ok (.if_icmp .gt 948, 3) := by decide +kernel
theorem d145_33 : decode (mm_cb 145) 33 = .ok (.aload_n 0, 1) := by decide +kernel
theorem d145_34 : decode (mm_cb 145) 34 = .ok (.iload 4, 2) := by decide +kernel
theorem d145_36 : decode (mm_cb 145) 36 = .ok (.iaload, 1) := by decide +kernel
theorem d145_37 : decode (mm_cb 145) 37 = .ok (.bipush 15, 2) := by decide +kernel
theorem d145_39 : decode (mm_cb 145) 39 = .ok (.iand, 1) := by decide +kernel
theorem d145_40 : decode (mm_cb 145) 40 = .ok (.tableswitch 932 0 13 #[72, 176, 243, 355, 422, 534, 559, 627, 695, 751, 762, 830, 905, 918], 72) := by decide +kernel
theorem d145_112 : decode (mm_cb 145) 112 = .ok (.aload_n 1, 1) := by decide +kernel
theorem d145_113 : decode (mm_cb 145) 113 = .ok (.aload_n 0, 1) := by decide +kernel
theorem d145_114 : decode (mm_cb 145) 114 = .ok (.iload 4, 2) := by decide +kernel
theorem d145_116 : decode (mm_cb 145) 116 = .ok (.iconst 1, 1) := by decide +kernel
theorem d145_117 : decode (mm_cb 145) 117 = .ok (.iadd, 1) := by decide +kernel
theorem d145_118 : decode (mm_cb 145) 118 = .ok (.iaload, 1) := by decide +kernel
theorem d145_119 : decode (mm_cb 145) 119 = .ok (.aload_n 0, 1) := by decide +kernel
theorem d145_120 : decode (mm_cb 145) 120 = .ok (.iload 4, 2) := by decide +kernel
theorem d145_122 : decode (mm_cb 145) 122 = .ok (.iconst 2, 1) := by decide +kernel
theorem d145_123 : decode (mm_cb 145) 123 = .ok (.iadd, 1) := by decide +kernel
theorem d145_124 : decode (mm_cb 145) 124 = .ok (.iaload, 1) := by decide +kernel
theorem d145_125 : decode (mm_cb 145) 125 = .ok (.aload_n 0, 1) := by decide +kernel
theorem d145_126 : decode (mm_cb 145) 126 = .ok (.iload 4, 2) := by decide +kernel
theorem d145_128 : decode (mm_cb 145) 128 = .ok (.iconst 3, 1) := by decide +kernel
theorem d145_129 : decode (mm_cb 145) 129 = .ok (.iadd, 1) := by decide +kernel
theorem d145_130 : decode (mm_cb 145) 130 = .ok (.iaload, 1) := by decide +kernel
theorem d145_131 : decode (mm_cb 145) 131 = .ok (.aload_n 0, 1) := by decide +kernel
theorem d145_132 : decode (mm_cb 145) 132 = .ok (.iload 4, 2) := by decide +kernel
theorem d145_134 : decode (mm_cb 145) 134 = .ok (.iconst 4, 1) := by decide +kernel
theorem d145_135 : decode (mm_cb 145) 135 = .ok (.iadd, 1) := by decide +kernel
theorem d145_136 : decode (mm_cb 145) 136 = .ok (.iaload, 1) := by decide +kernel
theorem d145_137 : decode (mm_cb 145) 137 = .ok (.aload_n 0, 1) := by decide +kernel
theorem d145_138 : decode (mm_cb 145) 138 = .ok (.iload 4, 2) := by decide +kernel
theorem d145_140 : decode (mm_cb 145) 140 = .ok (.iconst 5, 1) := by decide +kernel
theorem d145_141 : decode (mm_cb 145) 141 = .ok (.iadd, 1) := by decide +kernel
theorem d145_142 : decode (mm_cb 145) 142 = .ok (.iaload, 1) := by decide +kernel
theorem d145_143 : decode (mm_cb 145) 143 = .ok (.aload_n 3, 1) := by decide +kernel
theorem d145_144 : decode (mm_cb 145) 144 = .ok (.invokestatic 55, 3) := by decide +kernel
theorem d145_147 : decode (mm_cb 145) 147 = .ok (.istore 5, 2) := by decide +kernel
theorem d145_149 : decode (mm_cb 145) 149 = .ok (.aload_n 2, 1) := by decide +kernel
theorem d145_150 : decode (mm_cb 145) 150 = .ok (.aload_n 0, 1) := by decide +kernel
theorem d145_151 : decode (mm_cb 145) 151 = .ok (.iload 4, 2) := by decide +kernel
theorem d145_153 : decode (mm_cb 145) 153 = .ok (.iconst 1, 1) := by decide +kernel
theorem d145_154 : decode (mm_cb 145) 154 = .ok (.iadd, 1) := by decide +kernel
theorem d145_155 : decode (mm_cb 145) 155 = .ok (.iaload, 1) := by decide +kernel
theorem d145_156 : decode (mm_cb 145) 156 = .ok (.aload_n 0, 1) := by decide +kernel
theorem d145_157 : decode (mm_cb 145) 157 = .ok (.iload 4, 2) := by decide +kernel
theorem d145_159 : decode (mm_cb 145) 159 = .ok (.iconst 2, 1) := by decide +kernel
theorem d145_160 : decode (mm_cb 145) 160 = .ok (.iadd, 1) := by decide +kernel
theorem d145_161 : decode (mm_cb 145) 161 = .ok (.iaload, 1) := by decide +kernel
theorem d145_162 : decode (mm_cb 145) 162 = .ok (.aload_n 0, 1) := by decide +kernel
theorem d145_163 : decode (mm_cb 145) 163 = .ok (.iload 4, 2) := by decide +kernel
theorem d145_165 : decode (mm_cb 145) 165 = .ok (.iconst 3, 1) := by decide +kernel
theorem d145_166 : decode (mm_cb 145) 166 = .ok (.iadd, 1) := by decide +kernel
theorem d145_167 : decode (mm_cb 145) 167 = .ok (.iaload, 1) := by decide +kernel
theorem d145_168 : decode (mm_cb 145) 168 = .ok (.aload_n 0, 1) := by decide +kernel
theorem d145_169 : decode (mm_cb 145) 169 = .ok (.iload 4, 2) := by decide +kernel
theorem d145_171 : decode (mm_cb 145) 171 = .ok (.iconst 4, 1) := by decide +kernel
theorem d145_172 : decode (mm_cb 145) 172 = .ok (.iadd, 1) := by decide +kernel
theorem d145_173 : decode (mm_cb 145) 173 = .ok (.iaload, 1) := by decide +kernel
theorem d145_174 : decode (mm_cb 145) 174 = .ok (.aload_n 0, 1) := by decide +kernel
theorem d145_175 : decode (mm_cb 145) 175 = .ok (.iload 4, 2) := by decide +kernel
theorem d145_177 : decode (mm_cb 145) 177 = .ok (.iconst 5, 1) := by decide +kernel
theorem d145_178 : decode (mm_cb 145) 178 = .ok (.iadd, 1) := by decide +kernel
theorem d145_179 : decode (mm_cb 145) 179 = .ok (.iaload, 1) := by decide +kernel
theorem d145_180 : decode (mm_cb 145) 180 = .ok (.invokevirtual 60, 3) := by decide +kernel
theorem d145_183 : decode (mm_cb 145) 183 = .ok (.istore 6, 2) := by decide +kernel
theorem d145_185 : decode (mm_cb 145) 185 = .ok (.aload_n 2, 1) := by decide +kernel
theorem d145_186 : decode (mm_cb 145) 186 = .ok (.invokevirtual 61, 3) := by decide +kernel
theorem d145_189 : decode (mm_cb 145) 189 = .ok (.iload 5, 2) := by decide +kernel
theorem d145_191 : decode (mm_cb 145) 191 = .ok (.if_icmp .eq 5, 3) := by decide +kernel
theorem d145_194 : decode (mm_cb 145) 194 = .ok (.iconst 0, 1) := by decide +kernel
theorem d145_195 : decode (mm_cb 145) 195 = .ok (.ireturn, 1) := by decide +kernel
theorem d145_196 : decode (mm_cb 145) 196 = .ok (.iload 5, 2) := by decide +kernel
theorem d145_198 : decode (mm_cb 145) 198 = .ok (.ifCond .ne 15, 3) := by decide +kernel
theorem d145_201 : decode (mm_cb 145) 201 = .ok (.aload_n 3, 1) := by decide +kernel
theorem d145_202 : decode (mm_cb 145) 202 = .ok (.iconst 0, 1) := by decide +kernel
theorem d145_203 : decode (mm_cb 145) 203 = .ok (.laload, 1) := by decide +kernel
theorem d145_204 : decode (mm_cb 145) 204 = .ok (.iload 6, 2) := by decide +kernel
theorem d145_206 : decode (mm_cb 145) 206 = .ok (.i2l, 1) := by decide +kernel
theorem d145_207 : decode (mm_cb 145) 207 = .ok (.lcmp, 1) := by decide +kernel
theorem d145_208 : decode (mm_cb 145) 208 = .ok (.ifCond .eq 5, 3) := by decide +kernel
theorem d145_211 : decode (mm_cb 145) 211 = .ok (.iconst 0, 1) := by decide +kernel
theorem d145_212 : decode (mm_cb 145) 212 = .ok (.ireturn, 1) := by decide +kernel
theorem d145_213 : decode (mm_cb 145) 213 = .ok (.goto 759, 3) := by decide +kernel
theorem d145_216 : decode (mm_cb 145) 216 = .ok (.aload_n 1, 1) := by decide +kernel
theorem d145_217 : decode (mm_cb 145) 217 = .ok (.aload_n 0, 1) := by decide +kernel
theorem d145_218 : decode (mm_cb 145) 218 = .ok (.iload 4, 2) := by decide +kernel
theorem d145_220 : decode (mm_cb 145) 220 = .ok (.iconst 1, 1) := by decide +kernel
theorem d145_221 : decode (mm_cb 145) 221 = .ok (.iadd, 1) := by decide +kernel
theorem d145_222 : decode (mm_cb 145) 222 = .ok (.iaload, 1) := by decide +kernel
theorem d145_223 : decode (mm_cb 145) 223 = .ok (.aload_n 0, 1) := by decide +kernel
theorem d145_224 : decode (mm_cb 145) 224 = .ok (.iload 4, 2) := by decide +kernel
theorem d145_226 : decode (mm_cb 145) 226 = .ok (.iconst 2, 1) := by decide +kernel
theorem d145_227 : decode (mm_cb 145) 227 = .ok (.iadd, 1) := by decide +kernel
theorem d145_228 : decode (mm_cb 145) 228 = .ok (.iaload, 1) := by decide +kernel
theorem d145_229 : decode (mm_cb 145) 229 = .ok (.aload_n 3, 1) := by decide +kernel
theorem d145_230 : decode (mm_cb 145) 230 = .ok (.invokestatic 65, 3) := by decide +kernel
theorem d145_233 : decode (mm_cb 145) 233 = .ok (.istore 5, 2) := by decide +kernel
theorem d145_235 : decode (mm_cb 145) 235 = .ok (.aload_n 2, 1) := by decide +kernel
theorem d145_236 : decode (mm_cb 145) 236 = .ok (.aload_n 0, 1) := by decide +kernel
theorem d145_237 : decode (mm_cb 145) 237 = .ok (.iload 4, 2) := by decide +kernel
theorem d145_239 : decode (mm_cb 145) 239 = .ok (.iconst 1, 1) := by decide +kernel
theorem d145_240 : decode (mm_cb 145) 240 = .ok (.iadd, 1) := by decide +kernel
theorem d145_241 : decode (mm_cb 145) 241 = .ok (.iaload, 1) := by decide +kernel
theorem d145_242 : decode (mm_cb 145) 242 = .ok (.aload_n 0, 1) := by decide +kernel
theorem d145_243 : decode (mm_cb 145) 243 = .ok (.iload 4, 2) := by decide +kernel
theorem d145_245 : decode (mm_cb 145) 245 = .ok (.iconst 2, 1) := by decide +kernel
theorem d145_246 : decode (mm_cb 145) 246 = .ok (.iadd, 1) := by decide +kernel
theorem d145_247 : decode (mm_cb 145) 247 = .ok (.iaload, 1) := by decide +kernel
theorem d145_248 : decode (mm_cb 145) 248 = .ok (.invokevirtual 68, 3) := by decide +kernel
theorem d145_251 : decode (mm_cb 145) 251 = .ok (.lstore 6, 2) := by decide +kernel
theorem d145_253 : decode (mm_cb 145) 253 = .ok (.aload_n 2, 1) := by decide +kernel
theorem d145_254 : decode (mm_cb 145) 254 = .ok (.invokevirtual 61, 3) := by decide +kernel
theorem d145_257 : decode (mm_cb 145) 257 = .ok (.iload 5, 2) := by decide +kernel
theorem d145_259 : decode (mm_cb 145) 259 = .ok (.if_icmp .eq 5, 3) := by decide +kernel
theorem d145_262 : decode (mm_cb 145) 262 = .ok (.iconst 0, 1) := by decide +kernel
theorem d145_263 : decode (mm_cb 145) 263 = .ok (.ireturn, 1) := by decide +kernel
theorem d145_264 : decode (mm_cb 145) 264 = .ok (.iload 5, 2) := by decide +kernel
theorem d145_266 : decode (mm_cb 145) 266 = .ok (.ifCond .ne 14, 3) := by decide +kernel
theorem d145_269 : decode (mm_cb 145) 269 = .ok (.aload_n 3, 1) := by decide +kernel
theorem d145_270 : decode (mm_cb 145) 270 = .ok (.iconst 0, 1) := by decide +kernel
theorem d145_271 : decode (mm_cb 145) 271 = .ok (.laload, 1) := by decide +kernel
theorem d145_272 : decode (mm_cb 145) 272 = .ok (.lload 6, 2) := by decide +kernel
theorem d145_274 : decode (mm_cb 145) 274 = .ok (.lcmp, 1) := by decide +kernel
theorem d145_275 : decode (mm_cb 145) 275 = .ok (.ifCond .eq 5, 3) := by decide +kernel
theorem d145_278 : decode (mm_cb 145) 278 = .ok (.iconst 0, 1) := by decide +kernel
theorem d145_279 : decode (mm_cb 145) 279 = .ok (.ireturn, 1) := by decide +kernel
theorem d145_280 : decode (mm_cb 145) 280 = .ok (.goto 692, 3) := by decide +kernel
theorem d145_283 : decode (mm_cb 145) 283 = .ok (.aload_n 1, 1) := by decide +kernel
theorem d145_284 : decode (mm_cb 145) 284 = .ok (.aload_n 0, 1) := by decide +kernel
theorem d145_285 : decode (mm_cb 145) 285 = .ok (.iload 4, 2) := by decide +kernel
theorem d145_287 : decode (mm_cb 145) 287 = .ok (.iconst 1, 1) := by decide +kernel
theorem d145_288 : decode (mm_cb 145) 288 = .ok (.iadd, 1) := by decide +kernel
theorem d145_289 : decode (mm_cb 145) 289 = .ok (.iaload, 1) := by decide +kernel
theorem d145_290 : decode (mm_cb 145) 290 = .ok (.aload_n 0, 1) := by decide +kernel
theorem d145_291 : decode (mm_cb 145) 291 = .ok (.iload 4, 2) := by decide +kernel
theorem d145_293 : decode (mm_cb 145) 293 = .ok (.iconst 2, 1) := by decide +kernel
theorem d145_294 : decode (mm_cb 145) 294 = .ok (.iadd, 1) := by decide +kernel
theorem d145_295 : decode (mm_cb 145) 295 = .ok (.iaload, 1) := by decide +kernel
theorem d145_296 : decode (mm_cb 145) 296 = .ok (.aload_n 0, 1) := by decide +kernel
theorem d145_297 : decode (mm_cb 145) 297 = .ok (.iload 4, 2) := by decide +kernel
theorem d145_299 : decode (mm_cb 145) 299 = .ok (.iconst 3, 1) := by decide +kernel
theorem d145_300 : decode (mm_cb 145) 300 = .ok (.iadd, 1) := by decide +kernel
theorem d145_301 : decode (mm_cb 145) 301 = .ok (.iaload, 1) := by decide +kernel
theorem d145_302 : decode (mm_cb 145) 302 = .ok (.i2l, 1) := by decide +kernel
theorem d145_303 : decode (mm_cb 145) 303 = .ok (.bipush 32, 2) := by decide +kernel
theorem d145_305 : decode (mm_cb 145) 305 = .ok (.lshl, 1) := by decide +kernel
theorem d145_306 : decode (mm_cb 145) 306 = .ok (.aload_n 0, 1) := by decide +kernel
theorem d145_307 : decode (mm_cb 145) 307 = .ok (.iload 4, 2) := by decide +kernel
theorem d145_309 : decode (mm_cb 145) 309 = .ok (.iconst 4, 1) := by decide +kernel
theorem d145_310 : decode (mm_cb 145) 310 = .ok (.iadd, 1) := by decide +kernel
theorem d145_311 : decode (mm_cb 145) 311 = .ok (.iaload, 1) := by decide +kernel
theorem d145_312 : decode (mm_cb 145) 312 = .ok (.i2l, 1) := by decide +kernel
theorem d145_313 : decode (mm_cb 145) 313 = .ok (.ldc2_w 69, 3) := by decide +kernel
theorem d145_316 : decode (mm_cb 145) 316 = .ok (.land, 1) := by decide +kernel
theorem d145_317 : decode (mm_cb 145) 317 = .ok (.lor, 1) := by decide +kernel
theorem d145_318 : decode (mm_cb 145) 318 = .ok (.aload_n 3, 1) := by decide +kernel
theorem d145_319 : decode (mm_cb 145) 319 = .ok (.invokestatic 71, 3) := by decide +kernel
theorem d145_322 : decode (mm_cb 145) 322 = .ok (.istore 5, 2) := by decide +kernel
theorem d145_324 : decode (mm_cb 145) 324 = .ok (.aload_n 2, 1) := by decide +kernel
theorem d145_325 : decode (mm_cb 145) 325 = .ok (.aload_n 0, 1) := by decide +kernel
theorem d145_326 : decode (mm_cb 145) 326 = .ok (.iload 4, 2) := by decide +kernel
theorem d145_328 : decode (mm_cb 145) 328 = .ok (.iconst 1, 1) := by decide +kernel
theorem d145_329 : decode (mm_cb 145) 329 = .ok (.iadd, 1) := by decide +kernel
theorem d145_330 : decode (mm_cb 145) 330 = .ok (.iaload, 1) := by decide +kernel
theorem d145_331 : decode (mm_cb 145) 331 = .ok (.aload_n 0, 1) := by decide +kernel
theorem d145_332 : decode (mm_cb 145) 332 = .ok (.iload 4, 2) := by decide +kernel
theorem d145_334 : decode (mm_cb 145) 334 = .ok (.iconst 2, 1) := by decide +kernel
theorem d145_335 : decode (mm_cb 145) 335 = .ok (.iadd, 1) := by decide +kernel
theorem d145_336 : decode (mm_cb 145) 336 = .ok (.iaload, 1) := by decide +kernel
theorem d145_337 : decode (mm_cb 145) 337 = .ok (.aload_n 0, 1) := by decide +kernel
theorem d145_338 : decode (mm_cb 145) 338 = .ok (.iload 4, 2) := by decide +kernel
theorem d145_340 : decode (mm_cb 145) 340 = .ok (.iconst 3, 1) := by decide +kernel
theorem d145_341 : decode (mm_cb 145) 341 = .ok (.iadd, 1) := by decide +kernel
theorem d145_342 : decode (mm_cb 145) 342 = .ok (.iaload, 1) := by decide +kernel
theorem d145_343 : decode (mm_cb 145) 343 = .ok (.i2l, 1) := by decide +kernel
theorem d145_344 : decode (mm_cb 145) 344 = .ok (.bipush 32, 2) := by decide +kernel
theorem d145_346 : decode (mm_cb 145) 346 = .ok (.lshl, 1) := by decide +kernel
theorem d145_347 : decode (mm_cb 145) 347 = .ok (.aload_n 0, 1) := by decide +kernel
theorem d145_348 : decode (mm_cb 145) 348 = .ok (.iload 4, 2) := by decide +kernel
theorem d145_350 : decode (mm_cb 145) 350 = .ok (.iconst 4, 1) := by decide +kernel
theorem d145_351 : decode (mm_cb 145) 351 = .ok (.iadd, 1) := by decide +kernel
theorem d145_352 : decode (mm_cb 145) 352 = .ok (.iaload, 1) := by decide +kernel
theorem d145_353 : decode (mm_cb 145) 353 = .ok (.i2l, 1) := by decide +kernel
theorem d145_354 : decode (mm_cb 145) 354 = .ok (.ldc2_w 69, 3) := by decide +kernel
theorem d145_357 : decode (mm_cb 145) 357 = .ok (.land, 1) := by decide +kernel
theorem d145_358 : decode (mm_cb 145) 358 = .ok (.lor, 1) := by decide +kernel
theorem d145_359 : decode (mm_cb 145) 359 = .ok (.invokevirtual 74, 3) := by decide +kernel
theorem d145_362 : decode (mm_cb 145) 362 = .ok (.istore 6, 2) := by decide +kernel
theorem d145_364 : decode (mm_cb 145) 364 = .ok (.aload_n 2, 1) := by decide +kernel
theorem d145_365 : decode (mm_cb 145) 365 = .ok (.invokevirtual 61, 3) := by decide +kernel
theorem d145_368 : decode (mm_cb 145) 368 = .ok (.iload 5, 2) := by decide +kernel
theorem d145_370 : decode (mm_cb 145) 370 = .ok (.if_icmp .eq 5, 3) := by decide +kernel
theorem d145_373 : decode (mm_cb 145) 373 = .ok (.iconst 0, 1) := by decide +kernel
theorem d145_374 : decode (mm_cb 145) 374 = .ok (.ireturn, 1) := by decide +kernel
theorem d145_375 : decode (mm_cb 145) 375 = .ok (.iload 5, 2) := by decide +kernel
theorem d145_377 : decode (mm_cb 145) 377 = .ok (.ifCond .ne 15, 3) := by decide +kernel
theorem d145_380 : decode (mm_cb 145) 380 = .ok (.aload_n 3, 1) := by decide +kernel
theorem d145_381 : decode (mm_cb 145) 381 = .ok (.iconst 0, 1) := by decide +kernel
theorem d145_382 : decode (mm_cb 145) 382 = .ok (.laload, 1) := by decide +kernel
theorem d145_383 : decode (mm_cb 145) 383 = .ok (.iload 6, 2) := by decide +kernel
theorem d145_385 : decode (mm_cb 145) 385 = .ok (.i2l, 1) := by decide +kernel
theorem d145_386 : decode (mm_cb 145) 386 = .ok (.lcmp, 1) := by decide +kernel
theorem d145_387 : decode (mm_cb 145) 387 = .ok (.ifCond .eq 5, 3) := by decide +kernel
theorem d145_390 : decode (mm_cb 145) 390 = .ok (.iconst 0, 1) := by decide +kernel
theorem d145_391 : decode (mm_cb 145) 391 = .ok (.ireturn, 1) := by decide +kernel
theorem d145_392 : decode (mm_cb 145) 392 = .ok (.goto 580, 3) := by decide +kernel
theorem d145_395 : decode (mm_cb 145) 395 = .ok (.aload_n 1, 1) := by decide +kernel
theorem d145_396 : decode (mm_cb 145) 396 = .ok (.aload_n 0, 1) := by decide +kernel
theorem d145_397 : decode (mm_cb 145) 397 = .ok (.iload 4, 2) := by decide +kernel
theorem d145_399 : decode (mm_cb 145) 399 = .ok (.iconst 1, 1) := by decide +kernel
theorem d145_400 : decode (mm_cb 145) 400 = .ok (.iadd, 1) := by decide +kernel
theorem d145_401 : decode (mm_cb 145) 401 = .ok (.iaload, 1) := by decide +kernel
theorem d145_402 : decode (mm_cb 145) 402 = .ok (.aload_n 0, 1) := by decide +kernel
theorem d145_403 : decode (mm_cb 145) 403 = .ok (.iload 4, 2) := by decide +kernel
theorem d145_405 : decode (mm_cb 145) 405 = .ok (.iconst 2, 1) := by decide +kernel
theorem d145_406 : decode (mm_cb 145) 406 = .ok (.iadd, 1) := by decide +kernel
theorem d145_407 : decode (mm_cb 145) 407 = .ok (.iaload, 1) := by decide +kernel
theorem d145_408 : decode (mm_cb 145) 408 = .ok (.aload_n 3, 1) := by decide +kernel
theorem d145_409 : decode (mm_cb 145) 409 = .ok (.invokestatic 75, 3) := by decide +kernel
theorem d145_412 : decode (mm_cb 145) 412 = .ok (.istore 5, 2) := by decide +kernel
theorem d145_414 : decode (mm_cb 145) 414 = .ok (.aload_n 2, 1) := by decide +kernel
theorem d145_415 : decode (mm_cb 145) 415 = .ok (.aload_n 0, 1) := by decide +kernel
theorem d145_416 : decode (mm_cb 145) 416 = .ok (.iload 4, 2) := by decide +kernel
theorem d145_418 : decode (mm_cb 145) 418 = .ok (.iconst 1, 1) := by decide +kernel
theorem d145_419 : decode (mm_cb 145) 419 = .ok (.iadd, 1) := by decide +kernel
theorem d145_420 : decode (mm_cb 145) 420 = .ok (.iaload, 1) := by decide +kernel
theorem d145_421 : decode (mm_cb 145) 421 = .ok (.aload_n 0, 1) := by decide +kernel
theorem d145_422 : decode (mm_cb 145) 422 = .ok (.iload 4, 2) := by decide +kernel
theorem d145_424 : decode (mm_cb 145) 424 = .ok (.iconst 2, 1) := by decide +kernel
theorem d145_425 : decode (mm_cb 145) 425 = .ok (.iadd, 1) := by decide +kernel
theorem d145_426 : decode (mm_cb 145) 426 = .ok (.iaload, 1) := by decide +kernel
theorem d145_427 : decode (mm_cb 145) 427 = .ok (.invokevirtual 77, 3) := by decide +kernel
theorem d145_430 : decode (mm_cb 145) 430 = .ok (.lstore 6, 2) := by decide +kernel
theorem d145_432 : decode (mm_cb 145) 432 = .ok (.aload_n 2, 1) := by decide +kernel
theorem d145_433 : decode (mm_cb 145) 433 = .ok (.invokevirtual 61, 3) := by decide +kernel
theorem d145_436 : decode (mm_cb 145) 436 = .ok (.iload 5, 2) := by decide +kernel
theorem d145_438 : decode (mm_cb 145) 438 = .ok (.if_icmp .eq 5, 3) := by decide +kernel
theorem d145_441 : decode (mm_cb 145) 441 = .ok (.iconst 0, 1) := by decide +kernel
theorem d145_442 : decode (mm_cb 145) 442 = .ok (.ireturn, 1) := by decide +kernel
theorem d145_443 : decode (mm_cb 145) 443 = .ok (.iload 5, 2) := by decide +kernel
theorem d145_445 : decode (mm_cb 145) 445 = .ok (.ifCond .ne 14, 3) := by decide +kernel
theorem d145_448 : decode (mm_cb 145) 448 = .ok (.aload_n 3, 1) := by decide +kernel
theorem d145_449 : decode (mm_cb 145) 449 = .ok (.iconst 0, 1) := by decide +kernel
theorem d145_450 : decode (mm_cb 145) 450 = .ok (.laload, 1) := by decide +kernel
theorem d145_451 : decode (mm_cb 145) 451 = .ok (.lload 6, 2) := by decide +kernel
theorem d145_453 : decode (mm_cb 145) 453 = .ok (.lcmp, 1) := by decide +kernel
theorem d145_454 : decode (mm_cb 145) 454 = .ok (.ifCond .eq 5, 3) := by decide +kernel
theorem d145_457 : decode (mm_cb 145) 457 = .ok (.iconst 0, 1) := by decide +kernel
theorem d145_458 : decode (mm_cb 145) 458 = .ok (.ireturn, 1) := by decide +kernel
theorem d145_459 : decode (mm_cb 145) 459 = .ok (.goto 513, 3) := by decide +kernel
theorem d145_462 : decode (mm_cb 145) 462 = .ok (.aload_n 1, 1) := by decide +kernel
theorem d145_463 : decode (mm_cb 145) 463 = .ok (.aload_n 0, 1) := by decide +kernel
theorem d145_464 : decode (mm_cb 145) 464 = .ok (.iload 4, 2) := by decide +kernel
theorem d145_466 : decode (mm_cb 145) 466 = .ok (.iconst 1, 1) := by decide +kernel
theorem d145_467 : decode (mm_cb 145) 467 = .ok (.iadd, 1) := by decide +kernel
theorem d145_468 : decode (mm_cb 145) 468 = .ok (.iaload, 1) := by decide +kernel
theorem d145_469 : decode (mm_cb 145) 469 = .ok (.aload_n 0, 1) := by decide +kernel
theorem d145_470 : decode (mm_cb 145) 470 = .ok (.iload 4, 2) := by decide +kernel
theorem d145_472 : decode (mm_cb 145) 472 = .ok (.iconst 2, 1) := by decide +kernel
theorem d145_473 : decode (mm_cb 145) 473 = .ok (.iadd, 1) := by decide +kernel
theorem d145_474 : decode (mm_cb 145) 474 = .ok (.iaload, 1) := by decide +kernel
theorem d145_475 : decode (mm_cb 145) 475 = .ok (.aload_n 0, 1) := by decide +kernel
theorem d145_476 : decode (mm_cb 145) 476 = .ok (.iload 4, 2) := by decide +kernel
theorem d145_478 : decode (mm_cb 145) 478 = .ok (.iconst 3, 1) := by decide +kernel
theorem d145_479 : decode (mm_cb 145) 479 = .ok (.iadd, 1) := by decide +kernel
theorem d145_480 : decode (mm_cb 145) 480 = .ok (.iaload, 1) := by decide +kernel
theorem d145_481 : decode (mm_cb 145) 481 = .ok (.i2l, 1) := by decide +kernel
theorem d145_482 : decode (mm_cb 145) 482 = .ok (.bipush 32, 2) := by decide +kernel
theorem d145_484 : decode (mm_cb 145) 484 = .ok (.lshl, 1) := by decide +kernel
theorem d145_485 : decode (mm_cb 145) 485 = .ok (.aload_n 0, 1) := by decide +kernel
theorem d145_486 : decode (mm_cb 145) 486 = .ok (.iload 4, 2) := by decide +kernel
theorem d145_488 : decode (mm_cb 145) 488 = .ok (.iconst 4, 1) := by decide +kernel
theorem d145_489 : decode (mm_cb 145) 489 = .ok (.iadd, 1) := by decide +kernel
theorem d145_490 : decode (mm_cb 145) 490 = .ok (.iaload, 1) := by decide +kernel
theorem d145_491 : decode (mm_cb 145) 491 = .ok (.i2l, 1) := by decide +kernel
theorem d145_492 : decode (mm_cb 145) 492 = .ok (.ldc2_w 69, 3) := by decide +kernel
theorem d145_495 : decode (mm_cb 145) 495 = .ok (.land, 1) := by decide +kernel
theorem d145_496 : decode (mm_cb 145) 496 = .ok (.lor, 1) := by decide +kernel
theorem d145_497 : decode (mm_cb 145) 497 = .ok (.aload_n 3, 1) := by decide +kernel
theorem d145_498 : decode (mm_cb 145) 498 = .ok (.invokestatic 78, 3) := by decide +kernel
theorem d145_501 : decode (mm_cb 145) 501 = .ok (.istore 5, 2) := by decide +kernel
theorem d145_503 : decode (mm_cb 145) 503 = .ok (.aload_n 2, 1) := by decide +kernel
theorem d145_504 : decode (mm_cb 145) 504 = .ok (.aload_n 0, 1) := by decide +kernel
theorem d145_505 : decode (mm_cb 145) 505 = .ok (.iload 4, 2) := by decide +kernel
theorem d145_507 : decode (mm_cb 145) 507 = .ok (.iconst 1, 1) := by decide +kernel
theorem d145_508 : decode (mm_cb 145) 508 = .ok (.iadd, 1) := by decide +kernel
theorem d145_509 : decode (mm_cb 145) 509 = .ok (.iaload, 1) := by decide +kernel
theorem d145_510 : decode (mm_cb 145) 510 = .ok (.aload_n 0, 1) := by decide +kernel
theorem d145_511 : decode (mm_cb 145) 511 = .ok (.iload 4, 2) := by decide +kernel
theorem d145_513 : decode (mm_cb 145) 513 = .ok (.iconst 2, 1) := by decide +kernel
theorem d145_514 : decode (mm_cb 145) 514 = .ok (.iadd, 1) := by decide +kernel
theorem d145_515 : decode (mm_cb 145) 515 = .ok (.iaload, 1) := by decide +kernel
theorem d145_516 : decode (mm_cb 145) 516 = .ok (.aload_n 0, 1) := by decide +kernel
theorem d145_517 : decode (mm_cb 145) 517 = .ok (.iload 4, 2) := by decide +kernel
theorem d145_519 : decode (mm_cb 145) 519 = .ok (.iconst 3, 1) := by decide +kernel
theorem d145_520 : decode (mm_cb 145) 520 = .ok (.iadd, 1) := by decide +kernel
theorem d145_521 : decode (mm_cb 145) 521 = .ok (.iaload, 1) := by decide +kernel
theorem d145_522 : decode (mm_cb 145) 522 = .ok (.i2l, 1) := by decide +kernel
theorem d145_523 : decode (mm_cb 145) 523 = .ok (.bipush 32, 2) := by decide +kernel
theorem d145_525 : decode (mm_cb 145) 525 = .ok (.lshl, 1) := by decide +kernel
theorem d145_526 : decode (mm_cb 145) 526 = .ok (.aload_n 0, 1) := by decide +kernel
theorem d145_527 : decode (mm_cb 145) 527 = .ok (.iload 4, 2) := by decide +kernel
theorem d145_529 : decode (mm_cb 145) 529 = .ok (.iconst 4, 1) := by decide +kernel
theorem d145_530 : decode (mm_cb 145) 530 = .ok (.iadd, 1) := by decide +kernel
theorem d145_531 : decode (mm_cb 145) 531 = .ok (.iaload, 1) := by decide +kernel
theorem d145_532 : decode (mm_cb 145) 532 = .ok (.i2l, 1) := by decide +kernel
theorem d145_533 : decode (mm_cb 145) 533 = .ok (.ldc2_w 69, 3) := by decide +kernel
theorem d145_536 : decode (mm_cb 145) 536 = .ok (.land, 1) := by decide +kernel
theorem d145_537 : decode (mm_cb 145) 537 = .ok (.lor, 1) := by decide +kernel
theorem d145_538 : decode (mm_cb 145) 538 = .ok (.invokevirtual 80, 3) := by decide +kernel
theorem d145_541 : decode (mm_cb 145) 541 = .ok (.istore 6, 2) := by decide +kernel
theorem d145_543 : decode (mm_cb 145) 543 = .ok (.aload_n 2, 1) := by decide +kernel
theorem d145_544 : decode (mm_cb 145) 544 = .ok (.invokevirtual 61, 3) := by decide +kernel
theorem d145_547 : decode (mm_cb 145) 547 = .ok (.iload 5, 2) := by decide +kernel
theorem d145_549 : decode (mm_cb 145) 549 = .ok (.if_icmp .eq 5, 3) := by decide +kernel
theorem d145_552 : decode (mm_cb 145) 552 = .ok (.iconst 0, 1) := by decide +kernel
theorem d145_553 : decode (mm_cb 145) 553 = .ok (.ireturn, 1) := by decide +kernel
theorem d145_554 : decode (mm_cb 145) 554 = .ok (.iload 5, 2) := by decide +kernel
theorem d145_556 : decode (mm_cb 145) 556 = .ok (.ifCond .ne 15, 3) := by decide +kernel
theorem d145_559 : decode (mm_cb 145) 559 = .ok (.aload_n 3, 1) := by decide +kernel
theorem d145_560 : decode (mm_cb 145) 560 = .ok (.iconst 0, 1) := by decide +kernel
theorem d145_561 : decode (mm_cb 145) 561 = .ok (.laload, 1) := by decide +kernel
theorem d145_562 : decode (mm_cb 145) 562 = .ok (.iload 6, 2) := by decide +kernel
theorem d145_564 : decode (mm_cb 145) 564 = .ok (.i2l, 1) := by decide +kernel
theorem d145_565 : decode (mm_cb 145) 565 = .ok (.lcmp, 1) := by decide +kernel
theorem d145_566 : decode (mm_cb 145) 566 = .ok (.ifCond .eq 5, 3) := by decide +kernel
theorem d145_569 : decode (mm_cb 145) 569 = .ok (.iconst 0, 1) := by decide +kernel
theorem d145_570 : decode (mm_cb 145) 570 = .ok (.ireturn, 1) := by decide +kernel
theorem d145_571 : decode (mm_cb 145) 571 = .ok (.goto 401, 3) := by decide +kernel
theorem d145_574 : decode (mm_cb 145) 574 = .ok (.aload_n 1, 1) := by decide +kernel
theorem d145_575 : decode (mm_cb 145) 575 = .ok (.aload_n 0, 1) := by decide +kernel
theorem d145_576 : decode (mm_cb 145) 576 = .ok (.iload 4, 2) := by decide +kernel
theorem d145_578 : decode (mm_cb 145) 578 = .ok (.iconst 1, 1) := by decide +kernel
theorem d145_579 : decode (mm_cb 145) 579 = .ok (.iadd, 1) := by decide +kernel
theorem d145_580 : decode (mm_cb 145) 580 = .ok (.iaload, 1) := by decide +kernel
theorem d145_581 : decode (mm_cb 145) 581 = .ok (.invokevirtual 81, 3) := by decide +kernel
theorem d145_584 : decode (mm_cb 145) 584 = .ok (.aload_n 2, 1) := by decide +kernel
theorem d145_585 : decode (mm_cb 145) 585 = .ok (.aload_n 0, 1) := by decide +kernel
theorem d145_586 : decode (mm_cb 145) 586 = .ok (.iload 4, 2) := by decide +kernel
theorem d145_588 : decode (mm_cb 145) 588 = .ok (.iconst 1, 1) := by decide +kernel
theorem d145_589 : decode (mm_cb 145) 589 = .ok (.iadd, 1) := by decide +kernel
theorem d145_590 : decode (mm_cb 145) 590 = .ok (.iaload, 1) := by decide +kernel
theorem d145_591 : decode (mm_cb 145) 591 = .ok (.invokevirtual 84, 3) := by decide +kernel
theorem d145_594 : decode (mm_cb 145) 594 = .ok (.if_icmp .eq 378, 3) := by decide +kernel
theorem d145_597 : decode (mm_cb 145) 597 = .ok (.iconst 0, 1) := by decide +kernel
theorem d145_598 : decode (mm_cb 145) 598 = .ok (.ireturn, 1) := by decide +kernel
theorem d145_599 : decode (mm_cb 145) 599 = .ok (.aload_n 1, 1) := by decide +kernel
theorem d145_600 : decode (mm_cb 145) 600 = .ok (.aload_n 0, 1) := by decide +kernel
theorem d145_601 : decode (mm_cb 145) 601 = .ok (.iload 4, 2) := by decide +kernel
theorem d145_603 : decode (mm_cb 145) 603 = .ok (.iconst 1, 1) := by decide +kernel
theorem d145_604 : decode (mm_cb 145) 604 = .ok (.iadd, 1) := by decide +kernel
theorem d145_605 : decode (mm_cb 145) 605 = .ok (.iaload, 1) := by decide +kernel
theorem d145_606 : decode (mm_cb 145) 606 = .ok (.aload_n 0, 1) := by decide +kernel
theorem d145_607 : decode (mm_cb 145) 607 = .ok (.iload 4, 2) := by decide +kernel
theorem d145_609 : decode (mm_cb 145) 609 = .ok (.iconst 2, 1) := by decide +kernel
theorem d145_610 : decode (mm_cb 145) 610 = .ok (.iadd, 1) := by decide +kernel
theorem d145_611 : decode (mm_cb 145) 611 = .ok (.iaload, 1) := by decide +kernel
theorem d145_612 : decode (mm_cb 145) 612 = .ok (.aload_n 3, 1) := by decide +kernel
theorem d145_613 : decode (mm_cb 145) 613 = .ok (.invokestatic 85, 3) := by decide +kernel
theorem d145_616 : decode (mm_cb 145) 616 = .ok (.istore 5, 2) := by decide +kernel
theorem d145_618 : decode (mm_cb 145) 618 = .ok (.aload_n 2, 1) := by decide +kernel
theorem d145_619 : decode (mm_cb 145) 619 = .ok (.aload_n 0, 1) := by decide +kernel
theorem d145_620 : decode (mm_cb 145) 620 = .ok (.iload 4, 2) := by decide +kernel
theorem d145_622 : decode (mm_cb 145) 622 = .ok (.iconst 1, 1) := by decide +kernel
theorem d145_623 : decode (mm_cb 145) 623 = .ok (.iadd, 1) := by decide +kernel
theorem d145_624 : decode (mm_cb 145) 624 = .ok (.iaload, 1) := by decide +kernel
theorem d145_625 : decode (mm_cb 145) 625 = .ok (.aload_n 0, 1) := by decide +kernel
theorem d145_626 : decode (mm_cb 145) 626 = .ok (.iload 4, 2) := by decide +kernel
theorem d145_628 : decode (mm_cb 145) 628 = .ok (.iconst 2, 1) := by decide +kernel
theorem d145_629 : decode (mm_cb 145) 629 = .ok (.iadd, 1) := by decide +kernel
theorem d145_630 : decode (mm_cb 145) 630 = .ok (.iaload, 1) := by decide +kernel
theorem d145_631 : decode (mm_cb 145) 631 = .ok (.invokevirtual 87, 3) := by decide +kernel
theorem d145_634 : decode (mm_cb 145) 634 = .ok (.istore 6, 2) := by decide +kernel
theorem d145_636 : decode (mm_cb 145) 636 = .ok (.aload_n 2, 1) := by decide +kernel
theorem d145_637 : decode (mm_cb 145) 637 = .ok (.invokevirtual 61, 3) := by decide +kernel
theorem d145_640 : decode (mm_cb 145) 640 = .ok (.iload 5, 2) := by decide +kernel
theorem d145_642 : decode (mm_cb 145) 642 = .ok (.if_icmp .eq 5, 3) := by decide +kernel
theorem d145_645 : decode (mm_cb 145) 645 = .ok (.iconst 0, 1) := by decide +kernel
theorem d145_646 : decode (mm_cb 145) 646 = .ok (.ireturn, 1) := by decide +kernel
theorem d145_647 : decode (mm_cb 145) 647 = .ok (.iload 5, 2) := by decide +kernel
theorem d145_649 : decode (mm_cb 145) 649 = .ok (.ifCond .ne 15, 3) := by decide +kernel
theorem d145_652 : decode (mm_cb 145) 652 = .ok (.aload_n 3, 1) := by decide +kernel
theorem d145_653 : decode (mm_cb 145) 653 = .ok (.iconst 0, 1) := by decide +kernel
theorem d145_654 : decode (mm_cb 145) 654 = .ok (.laload, 1) := by decide +kernel
theorem d145_655 : decode (mm_cb 145) 655 = .ok (.iload 6, 2) := by decide +kernel
theorem d145_657 : decode (mm_cb 145) 657 = .ok (.i2l, 1) := by decide +kernel
theorem d145_658 : decode (mm_cb 145) 658 = .ok (.lcmp, 1) := by decide +kernel
theorem d145_659 : decode (mm_cb 145) 659 = .ok (.ifCond .eq 5, 3) := by decide +kernel
theorem d145_662 : decode (mm_cb 145) 662 = .ok (.iconst 0, 1) := by decide +kernel
theorem d145_663 : decode (mm_cb 145) 663 = .ok (.ireturn, 1) := by decide +kernel
theorem d145_664 : decode (mm_cb 145) 664 = .ok (.goto 308, 3) := by decide +kernel
theorem d145_667 : decode (mm_cb 145) 667 = .ok (.aload_n 1, 1) := by decide +kernel
theorem d145_668 : decode (mm_cb 145) 668 = .ok (.aload_n 0, 1) := by decide +kernel
theorem d145_669 : decode (mm_cb 145) 669 = .ok (.iload 4, 2) := by decide +kernel
theorem d145_671 : decode (mm_cb 145) 671 = .ok (.iconst 1, 1) := by decide +kernel
theorem d145_672 : decode (mm_cb 145) 672 = .ok (.iadd, 1) := by decide +kernel
theorem d145_673 : decode (mm_cb 145) 673 = .ok (.iaload, 1) := by decide +kernel
theorem d145_674 : decode (mm_cb 145) 674 = .ok (.aload_n 0, 1) := by decide +kernel
theorem d145_675 : decode (mm_cb 145) 675 = .ok (.iload 4, 2) := by decide +kernel
theorem d145_677 : decode (mm_cb 145) 677 = .ok (.iconst 2, 1) := by decide +kernel
theorem d145_678 : decode (mm_cb 145) 678 = .ok (.iadd, 1) := by decide +kernel
theorem d145_679 : decode (mm_cb 145) 679 = .ok (.iaload, 1) := by decide +kernel
theorem d145_680 : decode (mm_cb 145) 680 = .ok (.aload_n 3, 1) := by decide +kernel
theorem d145_681 : decode (mm_cb 145) 681 = .ok (.invokestatic 88, 3) := by decide +kernel
theorem d145_684 : decode (mm_cb 145) 684 = .ok (.istore 5, 2) := by decide +kernel
theorem d145_686 : decode (mm_cb 145) 686 = .ok (.aload_n 2, 1) := by decide +kernel
theorem d145_687 : decode (mm_cb 145) 687 = .ok (.aload_n 0, 1) := by decide +kernel
theorem d145_688 : decode (mm_cb 145) 688 = .ok (.iload 4, 2) := by decide +kernel
theorem d145_690 : decode (mm_cb 145) 690 = .ok (.iconst 1, 1) := by decide +kernel
theorem d145_691 : decode (mm_cb 145) 691 = .ok (.iadd, 1) := by decide +kernel
theorem d145_692 : decode (mm_cb 145) 692 = .ok (.iaload, 1) := by decide +kernel
theorem d145_693 : decode (mm_cb 145) 693 = .ok (.aload_n 0, 1) := by decide +kernel
theorem d145_694 : decode (mm_cb 145) 694 = .ok (.iload 4, 2) := by decide +kernel
theorem d145_696 : decode (mm_cb 145) 696 = .ok (.iconst 2, 1) := by decide +kernel
theorem d145_697 : decode (mm_cb 145) 697 = .ok (.iadd, 1) := by decide +kernel
theorem d145_698 : decode (mm_cb 145) 698 = .ok (.iaload, 1) := by decide +kernel
theorem d145_699 : decode (mm_cb 145) 699 = .ok (.invokevirtual 90, 3) := by decide +kernel
theorem d145_702 : decode (mm_cb 145) 702 = .ok (.istore 6, 2) := by decide +kernel
theorem d145_704 : decode (mm_cb 145) 704 = .ok (.aload_n 2, 1) := by decide +kernel
theorem d145_705 : decode (mm_cb 145) 705 = .ok (.invokevirtual 61, 3) := by decide +kernel
theorem d145_708 : decode (mm_cb 145) 708 = .ok (.iload 5, 2) := by decide +kernel
theorem d145_710 : decode (mm_cb 145) 710 = .ok (.if_icmp .eq 5, 3) := by decide +kernel
theorem d145_713 : decode (mm_cb 145) 713 = .ok (.iconst 0, 1) := by decide +kernel
theorem d145_714 : decode (mm_cb 145) 714 = .ok (.ireturn, 1) := by decide +kernel
theorem d145_715 : decode (mm_cb 145) 715 = .ok (.iload 5, 2) := by decide +kernel
theorem d145_717 : decode (mm_cb 145) 717 = .ok (.ifCond .ne 15, 3) := by decide +kernel
theorem d145_720 : decode (mm_cb 145) 720 = .ok (.aload_n 3, 1) := by decide +kernel
theorem d145_721 : decode (mm_cb 145) 721 = .ok (.iconst 0, 1) := by decide +kernel
theorem d145_722 : decode (mm_cb 145) 722 = .ok (.laload, 1) := by decide +kernel
theorem d145_723 : decode (mm_cb 145) 723 = .ok (.iload 6, 2) := by decide +kernel
theorem d145_725 : decode (mm_cb 145) 725 = .ok (.i2l, 1) := by decide +kernel
theorem d145_726 : decode (mm_cb 145) 726 = .ok (.lcmp, 1) := by decide +kernel
theorem d145_727 : decode (mm_cb 145) 727 = .ok (.ifCond .eq 5, 3) := by decide +kernel
theorem d145_730 : decode (mm_cb 145) 730 = .ok (.iconst 0, 1) := by decide +kernel
theorem d145_731 : decode (mm_cb 145) 731 = .ok (.ireturn, 1) := by decide +kernel
theorem d145_732 : decode (mm_cb 145) 732 = .ok (.goto 240, 3) := by decide +kernel
theorem d145_735 : decode (mm_cb 145) 735 = .ok (.aload_n 1, 1) := by decide +kernel
theorem d145_736 : decode (mm_cb 145) 736 = .ok (.aload_n 0, 1) := by decide +kernel
theorem d145_737 : decode (mm_cb 145) 737 = .ok (.iload 4, 2) := by decide +kernel
theorem d145_739 : decode (mm_cb 145) 739 = .ok (.iconst 1, 1) := by decide +kernel
theorem d145_740 : decode (mm_cb 145) 740 = .ok (.iadd, 1) := by decide +kernel
theorem d145_741 : decode (mm_cb 145) 741 = .ok (.iaload, 1) := by decide +kernel
theorem d145_742 : decode (mm_cb 145) 742 = .ok (.aload_n 3, 1) := by decide +kernel
theorem d145_743 : decode (mm_cb 145) 743 = .ok (.invokestatic 91, 3) := by decide +kernel
theorem d145_746 : decode (mm_cb 145) 746 = .ok (.istore 5, 2) := by decide +kernel
theorem d145_748 : decode (mm_cb 145) 748 = .ok (.aload_n 2, 1) := by decide +kernel
theorem d145_749 : decode (mm_cb 145) 749 = .ok (.aload_n 0, 1) := by decide +kernel
theorem d145_750 : decode (mm_cb 145) 750 = .ok (.iload 4, 2) := by decide +kernel
theorem d145_752 : decode (mm_cb 145) 752 = .ok (.iconst 1, 1) := by decide +kernel
theorem d145_753 : decode (mm_cb 145) 753 = .ok (.iadd, 1) := by decide +kernel
theorem d145_754 : decode (mm_cb 145) 754 = .ok (.iaload, 1) := by decide +kernel
theorem d145_755 : decode (mm_cb 145) 755 = .ok (.invokevirtual 94, 3) := by decide +kernel
theorem d145_758 : decode (mm_cb 145) 758 = .ok (.istore 6, 2) := by decide +kernel
theorem d145_760 : decode (mm_cb 145) 760 = .ok (.aload_n 2, 1) := by decide +kernel
theorem d145_761 : decode (mm_cb 145) 761 = .ok (.invokevirtual 61, 3) := by decide +kernel
theorem d145_764 : decode (mm_cb 145) 764 = .ok (.iload 5, 2) := by decide +kernel
theorem d145_766 : decode (mm_cb 145) 766 = .ok (.if_icmp .eq 5, 3) := by decide +kernel
theorem d145_769 : decode (mm_cb 145) 769 = .ok (.iconst 0, 1) := by decide +kernel
theorem d145_770 : decode (mm_cb 145) 770 = .ok (.ireturn, 1) := by decide +kernel
theorem d145_771 : decode (mm_cb 145) 771 = .ok (.iload 5, 2) := by decide +kernel
theorem d145_773 : decode (mm_cb 145) 773 = .ok (.ifCond .ne 15, 3) := by decide +kernel
theorem d145_776 : decode (mm_cb 145) 776 = .ok (.aload_n 3, 1) := by decide +kernel
theorem d145_777 : decode (mm_cb 145) 777 = .ok (.iconst 0, 1) := by decide +kernel
theorem d145_778 : decode (mm_cb 145) 778 = .ok (.laload, 1) := by decide +kernel
theorem d145_779 : decode (mm_cb 145) 779 = .ok (.iload 6, 2) := by decide +kernel
theorem d145_781 : decode (mm_cb 145) 781 = .ok (.i2l, 1) := by decide +kernel
theorem d145_782 : decode (mm_cb 145) 782 = .ok (.lcmp, 1) := by decide +kernel
theorem d145_783 : decode (mm_cb 145) 783 = .ok (.ifCond .eq 5, 3) := by decide +kernel
theorem d145_786 : decode (mm_cb 145) 786 = .ok (.iconst 0, 1) := by decide +kernel
theorem d145_787 : decode (mm_cb 145) 787 = .ok (.ireturn, 1) := by decide +kernel
theorem d145_788 : decode (mm_cb 145) 788 = .ok (.goto 184, 3) := by decide +kernel
theorem d145_791 : decode (mm_cb 145) 791 = .ok (.aload_n 1, 1) := by decide +kernel
theorem d145_792 : decode (mm_cb 145) 792 = .ok (.invokevirtual 95, 3) := by decide +kernel
theorem d145_795 : decode (mm_cb 145) 795 = .ok (.aload_n 2, 1) := by decide +kernel
theorem d145_796 : decode (mm_cb 145) 796 = .ok (.invokevirtual 98, 3) := by decide +kernel
theorem d145_799 : decode (mm_cb 145) 799 = .ok (.goto 173, 3) := by decide +kernel
theorem d145_802 : decode (mm_cb 145) 802 = .ok (.aload_n 1, 1) := by decide +kernel
theorem d145_803 : decode (mm_cb 145) 803 = .ok (.aload_n 0, 1) := by decide +kernel
theorem d145_804 : decode (mm_cb 145) 804 = .ok (.iload 4, 2) := by decide +kernel
theorem d145_806 : decode (mm_cb 145) 806 = .ok (.iconst 1, 1) := by decide +kernel
theorem d145_807 : decode (mm_cb 145) 807 = .ok (.iadd, 1) := by decide +kernel
theorem d145_808 : decode (mm_cb 145) 808 = .ok (.iaload, 1) := by decide +kernel
theorem d145_809 : decode (mm_cb 145) 809 = .ok (.aload_n 0, 1) := by decide +kernel
theorem d145_810 : decode (mm_cb 145) 810 = .ok (.iload 4, 2) := by decide +kernel
theorem d145_812 : decode (mm_cb 145) 812 = .ok (.iconst 2, 1) := by decide +kernel
theorem d145_813 : decode (mm_cb 145) 813 = .ok (.iadd, 1) := by decide +kernel
theorem d145_814 : decode (mm_cb 145) 814 = .ok (.iaload, 1) := by decide +kernel
theorem d145_815 : decode (mm_cb 145) 815 = .ok (.aload_n 3, 1) := by decide +kernel
theorem d145_816 : decode (mm_cb 145) 816 = .ok (.invokestatic 99, 3) := by decide +kernel
theorem d145_819 : decode (mm_cb 145) 819 = .ok (.istore 5, 2) := by decide +kernel
theorem d145_821 : decode (mm_cb 145) 821 = .ok (.aload_n 2, 1) := by decide +kernel
theorem d145_822 : decode (mm_cb 145) 822 = .ok (.aload_n 0, 1) := by decide +kernel
theorem d145_823 : decode (mm_cb 145) 823 = .ok (.iload 4, 2) := by decide +kernel
theorem d145_825 : decode (mm_cb 145) 825 = .ok (.iconst 1, 1) := by decide +kernel
theorem d145_826 : decode (mm_cb 145) 826 = .ok (.iadd, 1) := by decide +kernel
theorem d145_827 : decode (mm_cb 145) 827 = .ok (.iaload, 1) := by decide +kernel
theorem d145_828 : decode (mm_cb 145) 828 = .ok (.aload_n 0, 1) := by decide +kernel
theorem d145_829 : decode (mm_cb 145) 829 = .ok (.iload 4, 2) := by decide +kernel
theorem d145_831 : decode (mm_cb 145) 831 = .ok (.iconst 2, 1) := by decide +kernel
theorem d145_832 : decode (mm_cb 145) 832 = .ok (.iadd, 1) := by decide +kernel
theorem d145_833 : decode (mm_cb 145) 833 = .ok (.iaload, 1) := by decide +kernel
theorem d145_834 : decode (mm_cb 145) 834 = .ok (.invokevirtual 101, 3) := by decide +kernel
theorem d145_837 : decode (mm_cb 145) 837 = .ok (.istore 6, 2) := by decide +kernel
theorem d145_839 : decode (mm_cb 145) 839 = .ok (.aload_n 2, 1) := by decide +kernel
theorem d145_840 : decode (mm_cb 145) 840 = .ok (.invokevirtual 61, 3) := by decide +kernel
theorem d145_843 : decode (mm_cb 145) 843 = .ok (.iload 5, 2) := by decide +kernel
theorem d145_845 : decode (mm_cb 145) 845 = .ok (.if_icmp .eq 5, 3) := by decide +kernel
theorem d145_848 : decode (mm_cb 145) 848 = .ok (.iconst 0, 1) := by decide +kernel
theorem d145_849 : decode (mm_cb 145) 849 = .ok (.ireturn, 1) := by decide +kernel
theorem d145_850 : decode (mm_cb 145) 850 = .ok (.iload 5, 2) := by decide +kernel
theorem d145_852 : decode (mm_cb 145) 852 = .ok (.ifCond .ne 15, 3) := by decide +kernel
theorem d145_855 : decode (mm_cb 145) 855 = .ok (.aload_n 3, 1) := by decide +kernel
theorem d145_856 : decode (mm_cb 145) 856 = .ok (.iconst 0, 1) := by decide +kernel
theorem d145_857 : decode (mm_cb 145) 857 = .ok (.laload, 1) := by decide +kernel
theorem d145_858 : decode (mm_cb 145) 858 = .ok (.iload 6, 2) := by decide +kernel
theorem d145_860 : decode (mm_cb 145) 860 = .ok (.i2l, 1) := by decide +kernel
theorem d145_861 : decode (mm_cb 145) 861 = .ok (.lcmp, 1) := by decide +kernel
theorem d145_862 : decode (mm_cb 145) 862 = .ok (.ifCond .eq 5, 3) := by decide +kernel
theorem d145_865 : decode (mm_cb 145) 865 = .ok (.iconst 0, 1) := by decide +kernel
theorem d145_866 : decode (mm_cb 145) 866 = .ok (.ireturn, 1) := by decide +kernel
theorem d145_867 : decode (mm_cb 145) 867 = .ok (.goto 105, 3) := by decide +kernel
theorem d145_870 : decode (mm_cb 145) 870 = .ok (.aload_n 1, 1) := by decide +kernel
theorem d145_871 : decode (mm_cb 145) 871 = .ok (.aload_n 0, 1) := by decide +kernel
theorem d145_872 : decode (mm_cb 145) 872 = .ok (.iload 4, 2) := by decide +kernel
theorem d145_874 : decode (mm_cb 145) 874 = .ok (.iconst 1, 1) := by decide +kernel
theorem d145_875 : decode (mm_cb 145) 875 = .ok (.iadd, 1) := by decide +kernel
theorem d145_876 : decode (mm_cb 145) 876 = .ok (.iaload, 1) := by decide +kernel
theorem d145_877 : decode (mm_cb 145) 877 = .ok (.aload_n 0, 1) := by decide +kernel
theorem d145_878 : decode (mm_cb 145) 878 = .ok (.iload 4, 2) := by decide +kernel
theorem d145_880 : decode (mm_cb 145) 880 = .ok (.iconst 2, 1) := by decide +kernel
theorem d145_881 : decode (mm_cb 145) 881 = .ok (.iadd, 1) := by decide +kernel
theorem d145_882 : decode (mm_cb 145) 882 = .ok (.iaload, 1) := by decide +kernel
theorem d145_883 : decode (mm_cb 145) 883 = .ok (.aload_n 3, 1) := by decide +kernel
theorem d145_884 : decode (mm_cb 145) 884 = .ok (.invokestatic 102, 3) := by decide +kernel
theorem d145_887 : decode (mm_cb 145) 887 = .ok (.istore 5, 2) := by decide +kernel
theorem d145_889 : decode (mm_cb 145) 889 = .ok (.aload_n 2, 1) := by decide +kernel
theorem d145_890 : decode (mm_cb 145) 890 = .ok (.aload_n 0, 1) := by decide +kernel
theorem d145_891 : decode (mm_cb 145) 891 = .ok (.iload 4, 2) := by decide +kernel
theorem d145_893 : decode (mm_cb 145) 893 = .ok (.iconst 1, 1) := by decide +kernel
theorem d145_894 : decode (mm_cb 145) 894 = .ok (.iadd, 1) := by decide +kernel
theorem d145_895 : decode (mm_cb 145) 895 = .ok (.iaload, 1) := by decide +kernel
theorem d145_896 : decode (mm_cb 145) 896 = .ok (.aload_n 0, 1) := by decide +kernel
theorem d145_897 : decode (mm_cb 145) 897 = .ok (.iload 4, 2) := by decide +kernel
theorem d145_899 : decode (mm_cb 145) 899 = .ok (.iconst 2, 1) := by decide +kernel
theorem d145_900 : decode (mm_cb 145) 900 = .ok (.iadd, 1) := by decide +kernel
theorem d145_901 : decode (mm_cb 145) 901 = .ok (.iaload, 1) := by decide +kernel
theorem d145_902 : decode (mm_cb 145) 902 = .ok (.invokevirtual 104, 3) := by decide +kernel
theorem d145_905 : decode (mm_cb 145) 905 = .ok (.istore 6, 2) := by decide +kernel
theorem d145_907 : decode (mm_cb 145) 907 = .ok (.aload_n 2, 1) := by decide +kernel
theorem d145_908 : decode (mm_cb 145) 908 = .ok (.invokevirtual 61, 3) := by decide +kernel
theorem d145_911 : decode (mm_cb 145) 911 = .ok (.iload 5, 2) := by decide +kernel
theorem d145_913 : decode (mm_cb 145) 913 = .ok (.if_icmp .eq 5, 3) := by decide +kernel
theorem d145_916 : decode (mm_cb 145) 916 = .ok (.iconst 0, 1) := by decide +kernel
theorem d145_917 : decode (mm_cb 145) 917 = .ok (.ireturn, 1) := by decide +kernel
theorem d145_918 : decode (mm_cb 145) 918 = .ok (.iload 5, 2) := by decide +kernel
theorem d145_920 : decode (mm_cb 145) 920 = .ok (.ifCond .ne 22, 3) := by decide +kernel
theorem d145_923 : decode (mm_cb 145) 923 = .ok (.aload_n 3, 1) := by decide +kernel
theorem d145_924 : decode (mm_cb 145) 924 = .ok (.iconst 0, 1) := by decide +kernel
theorem d145_925 : decode (mm_cb 145) 925 = .ok (.laload, 1) := by decide +kernel
theorem d145_926 : decode (mm_cb 145) 926 = .ok (.iload 6, 2) := by decide +kernel
theorem d145_928 : decode (mm_cb 145) 928 = .ok (.ifCond .eq 7, 3) := by decide +kernel
theorem d145_931 : decode (mm_cb 145) 931 = .ok (.lconst 1, 1) := by decide +kernel
theorem d145_932 : decode (mm_cb 145) 932 = .ok (.goto 4, 3) := by decide +kernel
theorem d145_935 : decode (mm_cb 145) 935 = .ok (.lconst 0, 1) := by decide +kernel
theorem d145_936 : decode (mm_cb 145) 936 = .ok (.lcmp, 1) := by decide +kernel
theorem d145_937 : decode (mm_cb 145) 937 = .ok (.ifCond .eq 5, 3) := by decide +kernel
theorem d145_940 : decode (mm_cb 145) 940 = .ok (.iconst 0, 1) := by decide +kernel
theorem d145_941 : decode (mm_cb 145) 941 = .ok (.ireturn, 1) := by decide +kernel
theorem d145_942 : decode (mm_cb 145) 942 = .ok (.goto 30, 3) := by decide +kernel
theorem d145_945 : decode (mm_cb 145) 945 = .ok (.aload_n 1, 1) := by decide +kernel
theorem d145_946 : decode (mm_cb 145) 946 = .ok (.invokevirtual 105, 3) := by decide +kernel
theorem d145_949 : decode (mm_cb 145) 949 = .ok (.aload_n 2, 1) := by decide +kernel
theorem d145_950 : decode (mm_cb 145) 950 = .ok (.invokevirtual 108, 3) := by decide +kernel
theorem d145_953 : decode (mm_cb 145) 953 = .ok (.if_icmp .eq 19, 3) := by decide +kernel
theorem d145_956 : decode (mm_cb 145) 956 = .ok (.iconst 0, 1) := by decide +kernel
theorem d145_957 : decode (mm_cb 145) 957 = .ok (.ireturn, 1) := by decide +kernel
theorem d145_958 : decode (mm_cb 145) 958 = .ok (.aload_n 1, 1) := by decide +kernel
theorem d145_959 : decode (mm_cb 145) 959 = .ok (.invokevirtual 109, 3) := by decide +kernel
theorem d145_962 : decode (mm_cb 145) 962 = .ok (.aload_n 2, 1) := by decide +kernel
theorem d145_963 : decode (mm_cb 145) 963 = .ok (.invokevirtual 113, 3) := by decide +kernel
theorem d145_966 : decode (mm_cb 145) 966 = .ok (.lcmp, 1) := by decide +kernel
theorem d145_967 : decode (mm_cb 145) 967 = .ok (.ifCond .eq 5, 3) := by decide +kernel
theorem d145_970 : decode (mm_cb 145) 970 = .ok (.iconst 0, 1) := by decide +kernel
theorem d145_971 : decode (mm_cb 145) 971 = .ok (.ireturn, 1) := by decide +kernel
theorem d145_972 : decode (mm_cb 145) 972 = .ok (.iinc 4 6, 3) := by decide +kernel
theorem d145_975 : decode (mm_cb 145) 975 = .ok (.goto (-952), 3) := by decide +kernel
theorem d145_978 : decode (mm_cb 145) 978 = .ok (.iconst 1, 1) := by decide +kernel
theorem d145_979 : decode (mm_cb 145) 979 = .ok (.ireturn, 1) := by decide +kernel
end
